theorem dX7_statement_58 : decode cX7_statement 58 = .ok (.iconst 5, 1) := by decide +kernel
theorem dX7_statement_59 : decode cX7_statement 59 = .ok (.aload_n 0, 1) := by decide +kernel
theorem dX7_statement_60 : decode cX7_statement 60 = .ok (.getfield 106, 3) := by decide +kernel
theorem dX7_statement_63 : decode cX7_statement 63 = .ok (.imul, 1) := by decide +kernel
theorem dX7_statement_64 : decode cX7_statement 64 = .ok (.istore_n 2, 1) := by decide +kernel
theorem dX7_statement_65 : decode cX7_statement 65 = .ok (.iload_n 1, 1) := by decide +kernel
theorem dX7_statement_66 : decode cX7_statement 66 = .ok (.bipush 115, 2) := by decide +kernel
theorem dX7_statement_68 : decode cX7_statement 68 = .ok (.if_icmp .ne 11, 3) := by decide +kernel
theorem dX7_statement_71 : decode cX7_statement 71 = .ok (.aload_n 0, 1) := by decide +kernel
theorem dX7_statement_72 : decode cX7_statement 72 = .ok (.iload_n 2, 1) := by decide +kernel
theorem dX7_statement_73 : decode cX7_statement 73 = .ok (.invokevirtual 109, 3) := by decide +kernel
theorem dX7_statement_76 : decode cX7_statement 76 = .ok (.goto 56, 3) := by decide +kernel
theorem dX7_statement_79 : decode cX7_statement 79 = .ok (.iload_n 1, 1) := by decide +kernel
theorem dX7_statement_80 : decode cX7_statement 80 = .ok (.bipush 99, 2) := by decide +kernel
theorem dX7_statement_82 : decode cX7_statement 82 = .ok (.if_icmp .ne 11, 3) := by decide +kernel
theorem dX7_statement_85 : decode cX7_statement 85 = .ok (.aload_n 0, 1) := by decide +kernel
theorem dX7_statement_86 : decode cX7_statement 86 = .ok (.iload_n 2, 1) := by decide +kernel
theorem dX7_statement_87 : decode cX7_statement 87 = .ok (.invokevirtual 113, 3) := by decide +kernel
theorem dX7_statement_90 : decode cX7_statement 90 = .ok (.goto 42, 3) := by decide +kernel
theorem dX7_statement_93 : decode cX7_statement 93 = .ok (.aload_n 0, 1) := by decide +kernel
theorem dX7_statement_94 : decode cX7_statement 94 = .ok (.iload_n 2, 1) := by decide +kernel
theorem dX7_statement_95 : decode cX7_statement 95 = .ok (.iconst 1, 1) := by decide +kernel
theorem dX7_statement_96 : decode cX7_statement 96 = .ok (.iconst 1, 1) := by decide +kernel
theorem dX7_statement_97 : decode cX7_statement 97 = .ok (.invokevirtual 103, 3) := by decide +kernel
theorem dX7_statement_100 : decode cX7_statement 100 = .ok (.ifCond .eq 31, 3) := by decide +kernel
theorem dX7_statement_103 : decode cX7_statement 103 = .ok (.aload_n 0, 1) := by decide +kernel
theorem dX7_statement_104 : decode cX7_statement 104 = .ok (.iload_n 2, 1) := by decide +kernel
theorem dX7_statement_105 : decode cX7_statement 105 = .ok (.iconst 1, 1) := by decide +kernel
theorem dX7_statement_106 : decode cX7_statement 106 = .ok (.iadd, 1) := by decide +kernel
theorem dX7_statement_107 : decode cX7_statement 107 = .ok (.iconst 1, 1) := by decide +kernel
theorem dX7_statement_108 : decode cX7_statement 108 = .ok (.iconst 1, 1) := by decide +kernel
theorem dX7_statement_109 : decode cX7_statement 109 = .ok (.invokevirtual 103, 3) := by decide +kernel
theorem dX7_statement_112 : decode cX7_statement 112 = .ok (.ifCond .eq 19, 3) := by decide +kernel
theorem dX7_statement_115 : decode cX7_statement 115 = .ok (.aload_n 0, 1) := by decide +kernel
theorem dX7_statement_116 : decode cX7_statement 116 = .ok (.iload_n 2, 1) := by decide +kernel
theorem dX7_statement_117 : decode cX7_statement 117 = .ok (.iconst 2, 1) := by decide +kernel
theorem dX7_statement_118 : decode cX7_statement 118 = .ok (.iadd, 1) := by decide +kernel
theorem dX7_statement_119 : decode cX7_statement 119 = .ok (.iconst 1, 1) := by decide +kernel
theorem dX7_statement_120 : decode cX7_statement 120 = .ok (.iconst 1, 1) := by decide +kernel
theorem dX7_statement_121 : decode cX7_statement 121 = .ok (.invokevirtual 103, 3) := by decide +kernel
theorem dX7_statement_124 : decode cX7_statement 124 = .ok (.ifCond .eq 7, 3) := by decide +kernel
theorem dX7_statement_127 : decode cX7_statement 127 = .ok (.iconst 1, 1) := by decide +kernel
theorem dX7_statement_128 : decode cX7_statement 128 = .ok (.goto 4, 3) := by decide +kernel
theorem dX7_statement_131 : decode cX7_statement 131 = .ok (.iconst 0, 1) := by decide +kernel
theorem dX7_statement_132 : decode cX7_statement 132 = .ok (.istore_n 3, 1) := by decide +kernel
theorem dX7_statement_133 : decode cX7_statement 133 = .ok (.iload_n 3, 1) := by decide +kernel
theorem dX7_statement_134 : decode cX7_statement 134 = .ok (.ifCond .eq 12, 3) := by decide +kernel
theorem dX7_statement_137 : decode cX7_statement 137 = .ok (.aload_n 0, 1) := by decide +kernel
theorem dX7_statement_138 : decode cX7_statement 138 = .ok (.invokevirtual 95, 3) := by decide +kernel
theorem dX7_statement_141 : decode cX7_statement 141 = .ok (.bipush 59, 2) := by decide +kernel
theorem dX7_statement_143 : decode cX7_statement 143 = .ok (.if_icmp .eq 5, 3) := by decide +kernel
theorem dX7_statement_146 : decode cX7_statement 146 = .ok (.iconst 0, 1) := by decide +kernel
theorem dX7_statement_147 : decode cX7_statement 147 = .ok (.ireturn, 1) := by decide +kernel
theorem dX7_statement_148 : decode cX7_statement 148 = .ok (.aload_n 0, 1) := by decide +kernel
theorem dX7_statement_149 : decode cX7_statement 149 = .ok (.dup, 1) := by decide +kernel
theorem dX7_statement_150 : decode cX7_statement 150 = .ok (.getfield 92, 3) := by decide +kernel
theorem dX7_statement_153 : decode cX7_statement 153 = .ok (.iconst 1, 1) := by decide +kernel
theorem dX7_statement_154 : decode cX7_statement 154 = .ok (.iadd, 1) := by decide +kernel
theorem dX7_statement_155 : decode cX7_statement 155 = .ok (.putfield 92, 3) := by decide +kernel
theorem dX7_statement_158 : decode cX7_statement 158 = .ok (.iconst 1, 1) := by decide +kernel
theorem dX7_statement_159 : decode cX7_statement 159 = .ok (.ireturn, 1) := by decide +kernel
theorem dX7_notSet_0 : decode cX7_notSet 0 = .ok (.iload_n 1, 1) := by decide +kernel
theorem dX7_notSet_1 : decode cX7_notSet 1 = .ok (.iconst 0, 1) := by decide +kernel
theorem dX7_notSet_2 : decode cX7_notSet 2 = .ok (.bipush 7, 2) := by decide +kernel
theorem dX7_notSet_4 : decode cX7_notSet 4 = .ok (.invokestatic 99, 3) := by decide +kernel
theorem dX7_notSet_7 : decode cX7_notSet 7 = .ok (.ifCond .ne 5, 3) := by decide +kernel
theorem dX7_notSet_10 : decode cX7_notSet 10 = .ok (.iconst (-1), 1) := by decide +kernel
theorem dX7_notSet_11 : decode cX7_notSet 11 = .ok (.ireturn, 1) := by decide +kernel
theorem dX7_notSet_12 : decode cX7_notSet 12 = .ok (.iload_n 2, 1) := by decide +kernel
theorem dX7_notSet_13 : decode cX7_notSet 13 = .ok (.iload_n 1, 1) := by decide +kernel
theorem dX7_notSet_14 : decode cX7_notSet 14 = .ok (.invokestatic 116, 3) := by decide +kernel
theorem dX7_notSet_17 : decode cX7_notSet 17 = .ok (.iload_n 1, 1) := by decide +kernel
theorem dX7_notSet_18 : decode cX7_notSet 18 = .ok (.invokestatic 119, 3) := by decide +kernel
theorem dX7_notSet_21 : decode cX7_notSet 21 = .ok (.invokestatic 81, 3) := by decide +kernel
theorem dX7_notSet_24 : decode cX7_notSet 24 = .ok (.istore_n 3, 1) := by decide +kernel
theorem dX7_notSet_25 : decode cX7_notSet 25 = .ok (.iload_n 3, 1) := by decide +kernel
theorem dX7_notSet_26 : decode cX7_notSet 26 = .ok (.ifCond .eq 5, 3) := by decide +kernel
theorem dX7_notSet_29 : decode cX7_notSet 29 = .ok (.iload_n 3, 1) := by decide +kernel
theorem dX7_notSet_30 : decode cX7_notSet 30 = .ok (.ireturn, 1) := by decide +kernel
theorem dX7_notSet_31 : decode cX7_notSet 31 = .ok (.iload_n 1, 1) := by decide +kernel
theorem dX7_notSet_32 : decode cX7_notSet 32 = .ok (.ifCond .ne 23, 3) := by decide +kernel
theorem dX7_notSet_35 : decode cX7_notSet 35 = .ok (.iload_n 2, 1) := by decide +kernel
theorem dX7_notSet_36 : decode cX7_notSet 36 = .ok (.aload_n 0, 1) := by decide +kernel
theorem dX7_notSet_37 : decode cX7_notSet 37 = .ok (.getfield 40, 3) := by decide +kernel
theorem dX7_notSet_40 : decode cX7_notSet 40 = .ok (.iconst 0, 1) := by decide +kernel
theorem dX7_notSet_41 : decode cX7_notSet 41 = .ok (.iaload, 1) := by decide +kernel
theorem dX7_notSet_42 : decode cX7_notSet 42 = .ok (.if_icmp .lt 37, 3) := by decide +kernel
theorem dX7_notSet_45 : decode cX7_notSet 45 = .ok (.iload_n 2, 1) := by decide +kernel
theorem dX7_notSet_46 : decode cX7_notSet 46 = .ok (.aload_n 0, 1) := by decide +kernel
theorem dX7_notSet_47 : decode cX7_notSet 47 = .ok (.getfield 40, 3) := by decide +kernel
theorem dX7_notSet_50 : decode cX7_notSet 50 = .ok (.iconst 1, 1) := by decide +kernel
theorem dX7_notSet_51 : decode cX7_notSet 51 = .ok (.iaload, 1) := by decide +kernel
theorem dX7_notSet_52 : decode cX7_notSet 52 = .ok (.if_icmp .lt 27, 3) := by decide +kernel
theorem dX7_notSet_55 : decode cX7_notSet 55 = .ok (.iload_n 1, 1) := by decide +kernel
theorem dX7_notSet_56 : decode cX7_notSet 56 = .ok (.bipush 7, 2) := by decide +kernel
theorem dX7_notSet_58 : decode cX7_notSet 58 = .ok (.if_icmp .ne 25, 3) := by decide +kernel
theorem dX7_notSet_61 : decode cX7_notSet 61 = .ok (.iload_n 2, 1) := by decide +kernel
theorem dX7_notSet_62 : decode cX7_notSet 62 = .ok (.aload_n 0, 1) := by decide +kernel
theorem dX7_notSet_63 : decode cX7_notSet 63 = .ok (.getfield 13, 3) := by decide +kernel
theorem dX7_notSet_66 : decode cX7_notSet 66 = .ok (.bipush 7, 2) := by decide +kernel
theorem dX7_notSet_68 : decode cX7_notSet 68 = .ok (.iaload, 1) := by decide +kernel
theorem dX7_notSet_69 : decode cX7_notSet 69 = .ok (.if_icmp .eq 14, 3) := by decide +kernel
theorem dX7_notSet_72 : decode cX7_notSet 72 = .ok (.aload_n 0, 1) := by decide +kernel
theorem dX7_notSet_73 : decode cX7_notSet 73 = .ok (.getfield 122, 3) := by decide +kernel
theorem dX7_notSet_76 : decode cX7_notSet 76 = .ok (.ifCond .le 7, 3) := by decide +kernel
theorem dX7_notSet_79 : decode cX7_notSet 79 = .ok (.iconst 1, 1) := by decide +kernel
theorem dX7_notSet_80 : decode cX7_notSet 80 = .ok (.goto 4, 3) := by decide +kernel
theorem dX7_notSet_83 : decode cX7_notSet 83 = .ok (.iconst 0, 1) := by decide +kernel
theorem dX7_notSet_84 : decode cX7_notSet 84 = .ok (.istore 4, 2) := by decide +kernel
theorem dX7_notSet_86 : decode cX7_notSet 86 = .ok (.iload 4, 2) := by decide +kernel
theorem dX7_notSet_88 : decode cX7_notSet 88 = .ok (.ifCond .eq 8, 3) := by decide +kernel
theorem dX7_notSet_91 : decode cX7_notSet 91 = .ok (.bipush (-3), 2) := by decide +kernel
theorem dX7_notSet_93 : decode cX7_notSet 93 = .ok (.goto 4, 3) := by decide +kernel
theorem dX7_notSet_96 : decode cX7_notSet 96 = .ok (.iconst 0, 1) := by decide +kernel
theorem dX7_notSet_97 : decode cX7_notSet 97 = .ok (.ireturn, 1) := by decide +kernel
theorem dX7_comesOne_0 : decode cX7_comesOne 0 = .ok (.aload_n 0, 1) := by decide +kernel
theorem dX7_comesOne_1 : decode cX7_comesOne 1 = .ok (.getfield 64, 3) := by decide +kernel
theorem dX7_comesOne_4 : decode cX7_comesOne 4 = .ok (.iload_n 1, 1) := by decide +kernel
theorem dX7_comesOne_5 : decode cX7_comesOne 5 = .ok (.iaload, 1) := by decide +kernel
theorem dX7_comesOne_6 : decode cX7_comesOne 6 = .ok (.bipush 6, 2) := by decide +kernel
theorem dX7_comesOne_8 : decode cX7_comesOne 8 = .ok (.if_icmp .gt 69, 3) := by decide +kernel
theorem dX7_comesOne_11 : decode cX7_comesOne 11 = .ok (.aload_n 0, 1) := by decide +kernel
theorem dX7_comesOne_12 : decode cX7_comesOne 12 = .ok (.getfield 64, 3) := by decide +kernel
theorem dX7_comesOne_15 : decode cX7_comesOne 15 = .ok (.iload_n 1, 1) := by decide +kernel
theorem dX7_comesOne_16 : decode cX7_comesOne 16 = .ok (.iconst 2, 1) := by decide +kernel
theorem dX7_comesOne_17 : decode cX7_comesOne 17 = .ok (.iadd, 1) := by decide +kernel
theorem dX7_comesOne_18 : decode cX7_comesOne 18 = .ok (.iaload, 1) := by decide +kernel
theorem dX7_comesOne_19 : decode cX7_comesOne 19 = .ok (.bipush 119, 2) := by decide +kernel
theorem dX7_comesOne_21 : decode cX7_comesOne 21 = .ok (.if_icmp .gt 56, 3) := by decide +kernel
theorem dX7_comesOne_24 : decode cX7_comesOne 24 = .ok (.aload_n 0, 1) := by decide +kernel
theorem dX7_comesOne_25 : decode cX7_comesOne 25 = .ok (.getfield 64, 3) := by decide +kernel
theorem dX7_comesOne_28 : decode cX7_comesOne 28 = .ok (.iload_n 1, 1) := by decide +kernel
theorem dX7_comesOne_29 : decode cX7_comesOne 29 = .ok (.iconst 2, 1) := by decide +kernel
theorem dX7_comesOne_30 : decode cX7_comesOne 30 = .ok (.iadd, 1) := by decide +kernel
theorem dX7_comesOne_31 : decode cX7_comesOne 31 = .ok (.iaload, 1) := by decide +kernel
theorem dX7_comesOne_32 : decode cX7_comesOne 32 = .ok (.aload_n 0, 1) := by decide +kernel
theorem dX7_comesOne_33 : decode cX7_comesOne 33 = .ok (.getfield 122, 3) := by decide +kernel
theorem dX7_comesOne_36 : decode cX7_comesOne 36 = .ok (.if_icmp .lt 41, 3) := by decide +kernel
theorem dX7_comesOne_39 : decode cX7_comesOne 39 = .ok (.aload_n 0, 1) := by decide +kernel
theorem dX7_comesOne_40 : decode cX7_comesOne 40 = .ok (.getfield 64, 3) := by decide +kernel
theorem dX7_comesOne_43 : decode cX7_comesOne 43 = .ok (.iload_n 1, 1) := by decide +kernel
theorem dX7_comesOne_44 : decode cX7_comesOne 44 = .ok (.iconst 3, 1) := by decide +kernel
theorem dX7_comesOne_45 : decode cX7_comesOne 45 = .ok (.iadd, 1) := by decide +kernel
theorem dX7_comesOne_46 : decode cX7_comesOne 46 = .ok (.iaload, 1) := by decide +kernel
theorem dX7_comesOne_47 : decode cX7_comesOne 47 = .ok (.iconst 1, 1) := by decide +kernel
theorem dX7_comesOne_48 : decode cX7_comesOne 48 = .ok (.iconst 3, 1) := by decide +kernel
theorem dX7_comesOne_49 : decode cX7_comesOne 49 = .ok (.invokestatic 99, 3) := by decide +kernel
theorem dX7_comesOne_52 : decode cX7_comesOne 52 = .ok (.ifCond .eq 25, 3) := by decide +kernel
theorem dX7_comesOne_55 : decode cX7_comesOne 55 = .ok (.aload_n 0, 1) := by decide +kernel
theorem dX7_comesOne_56 : decode cX7_comesOne 56 = .ok (.getfield 64, 3) := by decide +kernel
theorem dX7_comesOne_59 : decode cX7_comesOne 59 = .ok (.iload_n 1, 1) := by decide +kernel
theorem dX7_comesOne_60 : decode cX7_comesOne 60 = .ok (.iconst 4, 1) := by decide +kernel
theorem dX7_comesOne_61 : decode cX7_comesOne 61 = .ok (.iadd, 1) := by decide +kernel
theorem dX7_comesOne_62 : decode cX7_comesOne 62 = .ok (.iaload, 1) := by decide +kernel
theorem dX7_comesOne_63 : decode cX7_comesOne 63 = .ok (.bipush 30, 2) := by decide +kernel
theorem dX7_comesOne_65 : decode cX7_comesOne 65 = .ok (.if_icmp .gt 12, 3) := by decide +kernel
theorem dX7_comesOne_68 : decode cX7_comesOne 68 = .ok (.aload_n 0, 1) := by decide +kernel
theorem dX7_comesOne_69 : decode cX7_comesOne 69 = .ok (.getfield 77, 3) := by decide +kernel
theorem dX7_comesOne_72 : decode cX7_comesOne 72 = .ok (.bipush 8, 2) := by decide +kernel
theorem dX7_comesOne_74 : decode cX7_comesOne 74 = .ok (.if_icmp .ne 5, 3) := by decide +kernel
theorem dX7_comesOne_77 : decode cX7_comesOne 77 = .ok (.iconst 0, 1) := by decide +kernel
theorem dX7_comesOne_78 : decode cX7_comesOne 78 = .ok (.ireturn, 1) := by decide +kernel
theorem dX7_comesOne_79 : decode cX7_comesOne 79 = .ok (.aload_n 0, 1) := by decide +kernel
theorem dX7_comesOne_80 : decode cX7_comesOne 80 = .ok (.getfield 16, 3) := by decide +kernel
theorem dX7_comesOne_83 : decode cX7_comesOne 83 = .ok (.aload_n 0, 1) := by decide +kernel
theorem dX7_comesOne_84 : decode cX7_comesOne 84 = .ok (.getfield 77, 3) := by decide +kernel
theorem dX7_comesOne_87 : decode cX7_comesOne 87 = .ok (.aload_n 0, 1) := by decide +kernel
theorem dX7_comesOne_88 : decode cX7_comesOne 88 = .ok (.getfield 64, 3) := by decide +kernel
theorem dX7_comesOne_91 : decode cX7_comesOne 91 = .ok (.iload_n 1, 1) := by decide +kernel
theorem dX7_comesOne_92 : decode cX7_comesOne 92 = .ok (.iaload, 1) := by decide +kernel
theorem dX7_comesOne_93 : decode cX7_comesOne 93 = .ok (.iastore, 1) := by decide +kernel
theorem dX7_comesOne_94 : decode cX7_comesOne 94 = .ok (.aload_n 0, 1) := by decide +kernel
theorem dX7_comesOne_95 : decode cX7_comesOne 95 = .ok (.getfield 19, 3) := by decide +kernel
theorem dX7_comesOne_98 : decode cX7_comesOne 98 = .ok (.aload_n 0, 1) := by decide +kernel
theorem dX7_comesOne_99 : decode cX7_comesOne 99 = .ok (.getfield 77, 3) := by decide +kernel
theorem dX7_comesOne_102 : decode cX7_comesOne 102 = .ok (.aload_n 0, 1) := by decide +kernel
theorem dX7_comesOne_103 : decode cX7_comesOne 103 = .ok (.getfield 64, 3) := by decide +kernel
theorem dX7_comesOne_106 : decode cX7_comesOne 106 = .ok (.iload_n 1, 1) := by decide +kernel
theorem dX7_comesOne_107 : decode cX7_comesOne 107 = .ok (.iconst 1, 1) := by decide +kernel
theorem dX7_comesOne_108 : decode cX7_comesOne 108 = .ok (.iadd, 1) := by decide +kernel
theorem dX7_comesOne_109 : decode cX7_comesOne 109 = .ok (.iaload, 1) := by decide +kernel
theorem dX7_comesOne_110 : decode cX7_comesOne 110 = .ok (.iastore, 1) := by decide +kernel
theorem dX7_comesOne_111 : decode cX7_comesOne 111 = .ok (.aload_n 0, 1) := by decide +kernel
theorem dX7_comesOne_112 : decode cX7_comesOne 112 = .ok (.getfield 22, 3) := by decide +kernel
theorem dX7_comesOne_115 : decode cX7_comesOne 115 = .ok (.aload_n 0, 1) := by decide +kernel
theorem dX7_comesOne_116 : decode cX7_comesOne 116 = .ok (.getfield 77, 3) := by decide +kernel
theorem dX7_comesOne_119 : decode cX7_comesOne 119 = .ok (.aload_n 0, 1) := by decide +kernel
theorem dX7_comesOne_120 : decode cX7_comesOne 120 = .ok (.getfield 64, 3) := by decide +kernel
theorem dX7_comesOne_123 : decode cX7_comesOne 123 = .ok (.iload_n 1, 1) := by decide +kernel
theorem dX7_comesOne_124 : decode cX7_comesOne 124 = .ok (.iconst 2, 1) := by decide +kernel
theorem dX7_comesOne_125 : decode cX7_comesOne 125 = .ok (.iadd, 1) := by decide +kernel
theorem dX7_comesOne_126 : decode cX7_comesOne 126 = .ok (.iaload, 1) := by decide +kernel
theorem dX7_comesOne_127 : decode cX7_comesOne 127 = .ok (.iastore, 1) := by decide +kernel
theorem dX7_comesOne_128 : decode cX7_comesOne 128 = .ok (.aload_n 0, 1) := by decide +kernel
theorem dX7_comesOne_129 : decode cX7_comesOne 129 = .ok (.getfield 25, 3) := by decide +kernel
theorem dX7_comesOne_132 : decode cX7_comesOne 132 = .ok (.aload_n 0, 1) := by decide +kernel
theorem dX7_comesOne_133 : decode cX7_comesOne 133 = .ok (.getfield 77, 3) := by decide +kernel
theorem dX7_comesOne_136 : decode cX7_comesOne 136 = .ok (.aload_n 0, 1) := by decide +kernel
theorem dX7_comesOne_137 : decode cX7_comesOne 137 = .ok (.getfield 64, 3) := by decide +kernel
theorem dX7_comesOne_140 : decode cX7_comesOne 140 = .ok (.iload_n 1, 1) := by decide +kernel
theorem dX7_comesOne_141 : decode cX7_comesOne 141 = .ok (.iconst 3, 1) := by decide +kernel
theorem dX7_comesOne_142 : decode cX7_comesOne 142 = .ok (.iadd, 1) := by decide +kernel
theorem dX7_comesOne_143 : decode cX7_comesOne 143 = .ok (.iaload, 1) := by decide +kernel
theorem dX7_comesOne_144 : decode cX7_comesOne 144 = .ok (.iastore, 1) := by decide +kernel
theorem dX7_comesOne_145 : decode cX7_comesOne 145 = .ok (.aload_n 0, 1) := by decide +kernel
theorem dX7_comesOne_146 : decode cX7_comesOne 146 = .ok (.getfield 28, 3) := by decide +kernel
theorem dX7_comesOne_149 : decode cX7_comesOne 149 = .ok (.aload_n 0, 1) := by decide +kernel
theorem dX7_comesOne_150 : decode cX7_comesOne 150 = .ok (.getfield 77, 3) := by decide +kernel
theorem dX7_comesOne_153 : decode cX7_comesOne 153 = .ok (.aload_n 0, 1) := by decide +kernel
theorem dX7_comesOne_154 : decode cX7_comesOne 154 = .ok (.getfield 64, 3) := by decide +kernel
theorem dX7_comesOne_157 : decode cX7_comesOne 157 = .ok (.iload_n 1, 1) := by decide +kernel
theorem dX7_comesOne_158 : decode cX7_comesOne 158 = .ok (.iconst 4, 1) := by decide +kernel
theorem dX7_comesOne_159 : decode cX7_comesOne 159 = .ok (.iadd, 1) := by decide +kernel
theorem dX7_comesOne_160 : decode cX7_comesOne 160 = .ok (.iaload, 1) := by decide +kernel
theorem dX7_comesOne_161 : decode cX7_comesOne 161 = .ok (.iastore, 1) := by decide +kernel
theorem dX7_comesOne_162 : decode cX7_comesOne 162 = .ok (.aload_n 0, 1) := by decide +kernel
theorem dX7_comesOne_163 : decode cX7_comesOne 163 = .ok (.getfield 31, 3) := by decide +kernel
theorem dX7_comesOne_166 : decode cX7_comesOne 166 = .ok (.aload_n 0, 1) := by decide +kernel
theorem dX7_comesOne_167 : decode cX7_comesOne 167 = .ok (.getfield 77, 3) := by decide +kernel
theorem dX7_comesOne_170 : decode cX7_comesOne 170 = .ok (.iconst 0, 1) := by decide +kernel
theorem dX7_comesOne_171 : decode cX7_comesOne 171 = .ok (.iastore, 1) := by decide +kernel
theorem dX7_comesOne_172 : decode cX7_comesOne 172 = .ok (.aload_n 0, 1) := by decide +kernel
theorem dX7_comesOne_173 : decode cX7_comesOne 173 = .ok (.getfield 34, 3) := by decide +kernel
theorem dX7_comesOne_176 : decode cX7_comesOne 176 = .ok (.aload_n 0, 1) := by decide +kernel
theorem dX7_comesOne_177 : decode cX7_comesOne 177 = .ok (.getfield 77, 3) := by decide +kernel
theorem dX7_comesOne_180 : decode cX7_comesOne 180 = .ok (.iconst 0, 1) := by decide +kernel
theorem dX7_comesOne_181 : decode cX7_comesOne 181 = .ok (.iastore, 1) := by decide +kernel
theorem dX7_comesOne_182 : decode cX7_comesOne 182 = .ok (.aload_n 0, 1) := by decide +kernel
theorem dX7_comesOne_183 : decode cX7_comesOne 183 = .ok (.dup, 1) := by decide +kernel
theorem dX7_comesOne_184 : decode cX7_comesOne 184 = .ok (.getfield 77, 3) := by decide +kernel
theorem dX7_comesOne_187 : decode cX7_comesOne 187 = .ok (.iconst 1, 1) := by decide +kernel
theorem dX7_comesOne_188 : decode cX7_comesOne 188 = .ok (.iadd, 1) := by decide +kernel
theorem dX7_comesOne_189 : decode cX7_comesOne 189 = .ok (.putfield 77, 3) := by decide +kernel
theorem dX7_comesOne_192 : decode cX7_comesOne 192 = .ok (.iconst 1, 1) := by decide +kernel
theorem dX7_comesOne_193 : decode cX7_comesOne 193 = .ok (.ireturn, 1) := by decide +kernel
theorem dX7_comesAs_0 : decode cX7_comesAs 0 = .ok (.iconst 5, 1) := by decide +kernel
theorem dX7_comesAs_1 : decode cX7_comesAs 1 = .ok (.iload_n 1, 1) := by decide +kernel
theorem dX7_comesAs_2 : decode cX7_comesAs 2 = .ok (.imul, 1) := by decide +kernel
theorem dX7_comesAs_3 : decode cX7_comesAs 3 = .ok (.istore_n 2, 1) := by decide +kernel
theorem dX7_comesAs_4 : decode cX7_comesAs 4 = .ok (.aload_n 0, 1) := by decide +kernel
theorem dX7_comesAs_5 : decode cX7_comesAs 5 = .ok (.getfield 58, 3) := by decide +kernel
theorem dX7_comesAs_8 : decode cX7_comesAs 8 = .ok (.iload_n 1, 1) := by decide +kernel
theorem dX7_comesAs_9 : decode cX7_comesAs 9 = .ok (.iaload, 1) := by decide +kernel
theorem dX7_comesAs_10 : decode cX7_comesAs 10 = .ok (.lookupswitch 76 #[(99, 70), (115, 26)], 26) := by decide +kernel
theorem dX7_comesAs_36 : decode cX7_comesAs 36 = .ok (.aload_n 0, 1) := by decide +kernel
theorem dX7_comesAs_37 : decode cX7_comesAs 37 = .ok (.aload_n 0, 1) := by decide +kernel
theorem dX7_comesAs_38 : decode cX7_comesAs 38 = .ok (.getfield 64, 3) := by decide +kernel
theorem dX7_comesAs_41 : decode cX7_comesAs 41 = .ok (.iload_n 2, 1) := by decide +kernel
theorem dX7_comesAs_42 : decode cX7_comesAs 42 = .ok (.iaload, 1) := by decide +kernel
theorem dX7_comesAs_43 : decode cX7_comesAs 43 = .ok (.aload_n 0, 1) := by decide +kernel
theorem dX7_comesAs_44 : decode cX7_comesAs 44 = .ok (.getfield 64, 3) := by decide +kernel
theorem dX7_comesAs_47 : decode cX7_comesAs 47 = .ok (.iload_n 2, 1) := by decide +kernel
theorem dX7_comesAs_48 : decode cX7_comesAs 48 = .ok (.iconst 1, 1) := by decide +kernel
theorem dX7_comesAs_49 : decode cX7_comesAs 49 = .ok (.iadd, 1) := by decide +kernel
theorem dX7_comesAs_50 : decode cX7_comesAs 50 = .ok (.iaload, 1) := by decide +kernel
theorem dX7_comesAs_51 : decode cX7_comesAs 51 = .ok (.invokevirtual 125, 3) := by decide +kernel
theorem dX7_comesAs_54 : decode cX7_comesAs 54 = .ok (.ifCond .eq 5, 3) := by decide +kernel
theorem dX7_comesAs_57 : decode cX7_comesAs 57 = .ok (.iconst 0, 1) := by decide +kernel
theorem dX7_comesAs_58 : decode cX7_comesAs 58 = .ok (.ireturn, 1) := by decide +kernel
theorem dX7_comesAs_59 : decode cX7_comesAs 59 = .ok (.aload_n 0, 1) := by decide +kernel
theorem dX7_comesAs_60 : decode cX7_comesAs 60 = .ok (.getfield 13, 3) := by decide +kernel
theorem dX7_comesAs_63 : decode cX7_comesAs 63 = .ok (.aload_n 0, 1) := by decide +kernel
theorem dX7_comesAs_64 : decode cX7_comesAs 64 = .ok (.getfield 64, 3) := by decide +kernel
theorem dX7_comesAs_67 : decode cX7_comesAs 67 = .ok (.iload_n 2, 1) := by decide +kernel
theorem dX7_comesAs_68 : decode cX7_comesAs 68 = .ok (.iaload, 1) := by decide +kernel
theorem dX7_comesAs_69 : decode cX7_comesAs 69 = .ok (.aload_n 0, 1) := by decide +kernel
theorem dX7_comesAs_70 : decode cX7_comesAs 70 = .ok (.getfield 64, 3) := by decide +kernel
theorem dX7_comesAs_73 : decode cX7_comesAs 73 = .ok (.iload_n 2, 1) := by decide +kernel
theorem dX7_comesAs_74 : decode cX7_comesAs 74 = .ok (.iconst 1, 1) := by decide +kernel
theorem dX7_comesAs_75 : decode cX7_comesAs 75 = .ok (.iadd, 1) := by decide +kernel
theorem dX7_comesAs_76 : decode cX7_comesAs 76 = .ok (.iaload, 1) := by decide +kernel
theorem dX7_comesAs_77 : decode cX7_comesAs 77 = .ok (.iastore, 1) := by decide +kernel
theorem dX7_comesAs_78 : decode cX7_comesAs 78 = .ok (.iconst 1, 1) := by decide +kernel
theorem dX7_comesAs_79 : decode cX7_comesAs 79 = .ok (.ireturn, 1) := by decide +kernel
theorem dX7_comesAs_80 : decode cX7_comesAs 80 = .ok (.aload_n 0, 1) := by decide +kernel
theorem dX7_comesAs_81 : decode cX7_comesAs 81 = .ok (.iload_n 2, 1) := by decide +kernel
theorem dX7_comesAs_82 : decode cX7_comesAs 82 = .ok (.invokevirtual 129, 3) := by decide +kernel
theorem dX7_comesAs_85 : decode cX7_comesAs 85 = .ok (.ireturn, 1) := by decide +kernel
theorem dX7_comesAs_86 : decode cX7_comesAs 86 = .ok (.aload_n 0, 1) := by decide +kernel
theorem dX7_comesAs_87 : decode cX7_comesAs 87 = .ok (.aload_n 0, 1) := by decide +kernel
theorem dX7_comesAs_88 : decode cX7_comesAs 88 = .ok (.getfield 64, 3) := by decide +kernel
theorem dX7_comesAs_91 : decode cX7_comesAs 91 = .ok (.iload_n 2, 1) := by decide +kernel
theorem dX7_comesAs_92 : decode cX7_comesAs 92 = .ok (.iaload, 1) := by decide +kernel
theorem dX7_comesAs_93 : decode cX7_comesAs 93 = .ok (.invokevirtual 132, 3) := by decide +kernel
theorem dX7_comesAs_96 : decode cX7_comesAs 96 = .ok (.ifCond .eq 16, 3) := by decide +kernel
theorem dX7_comesAs_99 : decode cX7_comesAs 99 = .ok (.aload_n 0, 1) := by decide +kernel
theorem dX7_comesAs_100 : decode cX7_comesAs 100 = .ok (.getfield 64, 3) := by decide +kernel
theorem dX7_comesAs_103 : decode cX7_comesAs 103 = .ok (.iload_n 2, 1) := by decide +kernel
theorem dX7_comesAs_104 : decode cX7_comesAs 104 = .ok (.iconst 1, 1) := by decide +kernel
theorem dX7_comesAs_105 : decode cX7_comesAs 105 = .ok (.iadd, 1) := by decide +kernel
theorem dX7_comesAs_106 : decode cX7_comesAs 106 = .ok (.iaload, 1) := by decide +kernel
theorem dX7_comesAs_107 : decode cX7_comesAs 107 = .ok (.bipush 6, 2) := by decide +kernel
theorem dX7_comesAs_109 : decode cX7_comesAs 109 = .ok (.if_icmp .le 5, 3) := by decide +kernel
theorem dX7_comesAs_112 : decode cX7_comesAs 112 = .ok (.iconst 0, 1) := by decide +kernel
theorem dX7_comesAs_113 : decode cX7_comesAs 113 = .ok (.ireturn, 1) := by decide +kernel
theorem dX7_comesAs_114 : decode cX7_comesAs 114 = .ok (.aload_n 0, 1) := by decide +kernel
theorem dX7_comesAs_115 : decode cX7_comesAs 115 = .ok (.getfield 16, 3) := by decide +kernel
theorem dX7_comesAs_118 : decode cX7_comesAs 118 = .ok (.aload_n 0, 1) := by decide +kernel
theorem dX7_comesAs_119 : decode cX7_comesAs 119 = .ok (.getfield 64, 3) := by decide +kernel
theorem dX7_comesAs_122 : decode cX7_comesAs 122 = .ok (.iload_n 2, 1) := by decide +kernel
theorem dX7_comesAs_123 : decode cX7_comesAs 123 = .ok (.iaload, 1) := by decide +kernel
theorem dX7_comesAs_124 : decode cX7_comesAs 124 = .ok (.aload_n 0, 1) := by decide +kernel
theorem dX7_comesAs_125 : decode cX7_comesAs 125 = .ok (.getfield 64, 3) := by decide +kernel
theorem dX7_comesAs_128 : decode cX7_comesAs 128 = .ok (.iload_n 2, 1) := by decide +kernel
theorem dX7_comesAs_129 : decode cX7_comesAs 129 = .ok (.iconst 1, 1) := by decide +kernel
theorem dX7_comesAs_130 : decode cX7_comesAs 130 = .ok (.iadd, 1) := by decide +kernel
theorem dX7_comesAs_131 : decode cX7_comesAs 131 = .ok (.iaload, 1) := by decide +kernel
theorem dX7_comesAs_132 : decode cX7_comesAs 132 = .ok (.iastore, 1) := by decide +kernel
theorem dX7_comesAs_133 : decode cX7_comesAs 133 = .ok (.aload_n 0, 1) := by decide +kernel
theorem dX7_comesAs_134 : decode cX7_comesAs 134 = .ok (.getfield 19, 3) := by decide +kernel
theorem dX7_comesAs_137 : decode cX7_comesAs 137 = .ok (.aload_n 0, 1) := by decide +kernel
theorem dX7_comesAs_138 : decode cX7_comesAs 138 = .ok (.getfield 64, 3) := by decide +kernel
theorem dX7_comesAs_141 : decode cX7_comesAs 141 = .ok (.iload_n 2, 1) := by decide +kernel
theorem dX7_comesAs_142 : decode cX7_comesAs 142 = .ok (.iaload, 1) := by decide +kernel
theorem dX7_comesAs_143 : decode cX7_comesAs 143 = .ok (.aload_n 0, 1) := by decide +kernel
theorem dX7_comesAs_144 : decode cX7_comesAs 144 = .ok (.getfield 64, 3) := by decide +kernel
theorem dX7_comesAs_147 : decode cX7_comesAs 147 = .ok (.iload_n 2, 1) := by decide +kernel
theorem dX7_comesAs_148 : decode cX7_comesAs 148 = .ok (.iconst 2, 1) := by decide +kernel
theorem dX7_comesAs_149 : decode cX7_comesAs 149 = .ok (.iadd, 1) := by decide +kernel
theorem dX7_comesAs_150 : decode cX7_comesAs 150 = .ok (.iaload, 1) := by decide +kernel
theorem dX7_comesAs_151 : decode cX7_comesAs 151 = .ok (.iastore, 1) := by decide +kernel
theorem dX7_comesAs_152 : decode cX7_comesAs 152 = .ok (.iconst 1, 1) := by decide +kernel
theorem dX7_comesAs_153 : decode cX7_comesAs 153 = .ok (.ireturn, 1) := by decide +kernel
theorem dX7_office_0 : decode cX7_office 0 = .ok (.aload_n 0, 1) := by decide +kernel
theorem dX7_office_1 : decode cX7_office 1 = .ok (.iconst 0, 1) := by decide +kernel
theorem dX7_office_2 : decode cX7_office 2 = .ok (.putfield 92, 3) := by decide +kernel
theorem dX7_office_5 : decode cX7_office 5 = .ok (.aload_n 0, 1) := by decide +kernel
theorem dX7_office_6 : decode cX7_office 6 = .ok (.iconst 0, 1) := by decide +kernel
theorem dX7_office_7 : decode cX7_office 7 = .ok (.putfield 106, 3) := by decide +kernel
theorem dX7_office_10 : decode cX7_office 10 = .ok (.iconst 1, 1) := by decide +kernel
theorem dX7_office_11 : decode cX7_office 11 = .ok (.istore_n 1, 1) := by decide +kernel
theorem dX7_office_12 : decode cX7_office 12 = .ok (.iload_n 1, 1) := by decide +kernel
theorem dX7_office_13 : decode cX7_office 13 = .ok (.ifCond .eq 47, 3) := by decide +kernel
theorem dX7_office_16 : decode cX7_office 16 = .ok (.aload_n 0, 1) := by decide +kernel
theorem dX7_office_17 : decode cX7_office 17 = .ok (.getfield 92, 3) := by decide +kernel
theorem dX7_office_20 : decode cX7_office 20 = .ok (.aload_n 0, 1) := by decide +kernel
theorem dX7_office_21 : decode cX7_office 21 = .ok (.getfield 85, 3) := by decide +kernel
theorem dX7_office_24 : decode cX7_office 24 = .ok (.if_icmp .lt 10, 3) := by decide +kernel
theorem dX7_office_27 : decode cX7_office 27 = .ok (.aload_n 0, 1) := by decide +kernel
theorem dX7_office_28 : decode cX7_office 28 = .ok (.getfield 106, 3) := by decide +kernel
theorem dX7_office_31 : decode cX7_office 31 = .ok (.ifCond .ne 29, 3) := by decide +kernel
theorem dX7_office_34 : decode cX7_office 34 = .ok (.aload_n 0, 1) := by decide +kernel
theorem dX7_office_35 : decode cX7_office 35 = .ok (.invokevirtual 135, 3) := by decide +kernel
theorem dX7_office_38 : decode cX7_office 38 = .ok (.istore_n 1, 1) := by decide +kernel
theorem dX7_office_39 : decode cX7_office 39 = .ok (.aload_n 0, 1) := by decide +kernel
theorem dX7_office_40 : decode cX7_office 40 = .ok (.dup, 1) := by decide +kernel
theorem dX7_office_41 : decode cX7_office 41 = .ok (.getfield 106, 3) := by decide +kernel
theorem dX7_office_44 : decode cX7_office 44 = .ok (.iload_n 1, 1) := by decide +kernel
theorem dX7_office_45 : decode cX7_office 45 = .ok (.ifCond .eq 7, 3) := by decide +kernel
theorem dX7_office_48 : decode cX7_office 48 = .ok (.iconst 1, 1) := by decide +kernel
theorem dX7_office_49 : decode cX7_office 49 = .ok (.goto 4, 3) := by decide +kernel
theorem dX7_office_52 : decode cX7_office 52 = .ok (.iconst 0, 1) := by decide +kernel
theorem dX7_office_53 : decode cX7_office 53 = .ok (.iadd, 1) := by decide +kernel
theorem dX7_office_54 : decode cX7_office 54 = .ok (.putfield 106, 3) := by decide +kernel
theorem dX7_office_57 : decode cX7_office 57 = .ok (.goto (-45), 3) := by decide +kernel
theorem dX7_office_60 : decode cX7_office 60 = .ok (.aload_n 0, 1) := by decide +kernel
theorem dX7_office_61 : decode cX7_office 61 = .ok (.iconst 0, 1) := by decide +kernel
theorem dX7_office_62 : decode cX7_office 62 = .ok (.putfield 85, 3) := by decide +kernel
theorem dX7_office_65 : decode cX7_office 65 = .ok (.iload_n 1, 1) := by decide +kernel
theorem dX7_office_66 : decode cX7_office 66 = .ok (.ifCond .ne 12, 3) := by decide +kernel
theorem dX7_office_69 : decode cX7_office 69 = .ok (.sipush (-1000), 3) := by decide +kernel
theorem dX7_office_72 : decode cX7_office 72 = .ok (.aload_n 0, 1) := by decide +kernel
theorem dX7_office_73 : decode cX7_office 73 = .ok (.getfield 92, 3) := by decide +kernel
theorem dX7_office_76 : decode cX7_office 76 = .ok (.isub, 1) := by decide +kernel
theorem dX7_office_77 : decode cX7_office 77 = .ok (.ireturn, 1) := by decide +kernel
theorem dX7_office_78 : decode cX7_office 78 = .ok (.aload_n 0, 1) := by decide +kernel
theorem dX7_office_79 : decode cX7_office 79 = .ok (.iconst 1, 1) := by decide +kernel
theorem dX7_office_80 : decode cX7_office 80 = .ok (.iconst 1, 1) := by decide +kernel
theorem dX7_office_81 : decode cX7_office 81 = .ok (.invokevirtual 139, 3) := by decide +kernel
theorem dX7_office_84 : decode cX7_office 84 = .ok (.iconst 0, 1) := by decide +kernel
theorem dX7_office_85 : decode cX7_office 85 = .ok (.istore_n 2, 1) := by decide +kernel
theorem dX7_office_86 : decode cX7_office 86 = .ok (.iload_n 2, 1) := by decide +kernel
theorem dX7_office_87 : decode cX7_office 87 = .ok (.aload_n 0, 1) := by decide +kernel
theorem dX7_office_88 : decode cX7_office 88 = .ok (.getfield 106, 3) := by decide +kernel
theorem dX7_office_91 : decode cX7_office 91 = .ok (.if_icmp .ge 37, 3) := by decide +kernel
theorem dX7_office_94 : decode cX7_office 94 = .ok (.aload_n 0, 1) := by decide +kernel
theorem dX7_office_95 : decode cX7_office 95 = .ok (.iload_n 2, 1) := by decide +kernel
theorem dX7_office_96 : decode cX7_office 96 = .ok (.invokevirtual 143, 3) := by decide +kernel
theorem dX7_office_99 : decode cX7_office 99 = .ok (.ifCond .eq 6, 3) := by decide +kernel
theorem dX7_office_102 : decode cX7_office 102 = .ok (.goto 20, 3) := by decide +kernel
theorem dX7_office_105 : decode cX7_office 105 = .ok (.aload_n 0, 1) := by decide +kernel
theorem dX7_office_106 : decode cX7_office 106 = .ok (.iconst 1, 1) := by decide +kernel
theorem dX7_office_107 : decode cX7_office 107 = .ok (.iconst 0, 1) := by decide +kernel
theorem dX7_office_108 : decode cX7_office 108 = .ok (.invokevirtual 139, 3) := by decide +kernel
theorem dX7_office_111 : decode cX7_office 111 = .ok (.sipush (-2000), 3) := by decide +kernel
theorem dX7_office_114 : decode cX7_office 114 = .ok (.aload_n 0, 1) := by decide +kernel
theorem dX7_office_115 : decode cX7_office 115 = .ok (.getfield 61, 3) := by decide +kernel
theorem dX7_office_118 : decode cX7_office 118 = .ok (.iload_n 2, 1) := by decide +kernel
theorem dX7_office_119 : decode cX7_office 119 = .ok (.iaload, 1) := by decide +kernel
theorem dX7_office_120 : decode cX7_office 120 = .ok (.isub, 1) := by decide +kernel
theorem dX7_office_121 : decode cX7_office 121 = .ok (.ireturn, 1) := by decide +kernel
theorem dX7_office_122 : decode cX7_office 122 = .ok (.iinc 2 1, 3) := by decide +kernel
theorem dX7_office_125 : decode cX7_office 125 = .ok (.goto (-39), 3) := by decide +kernel
theorem dX7_office_128 : decode cX7_office 128 = .ok (.aload_n 0, 1) := by decide +kernel
theorem dX7_office_129 : decode cX7_office 129 = .ok (.getfield 106, 3) := by decide +kernel
theorem dX7_office_132 : decode cX7_office 132 = .ok (.ireturn, 1) := by decide +kernel
theorem dX7_passes_0 : decode cX7_passes 0 = .ok (.iconst 0, 1) := by decide +kernel
theorem dX7_passes_1 : decode cX7_passes 1 = .ok (.istore_n 2, 1) := by decide +kernel
theorem dX7_passes_2 : decode cX7_passes 2 = .ok (.iload_n 2, 1) := by decide +kernel
theorem dX7_passes_3 : decode cX7_passes 3 = .ok (.aload_n 1, 1) := by decide +kernel
theorem dX7_passes_4 : decode cX7_passes 4 = .ok (.arraylength, 1) := by decide +kernel
theorem dX7_passes_5 : decode cX7_passes 5 = .ok (.if_icmp .ge 53, 3) := by decide +kernel
theorem dX7_passes_8 : decode cX7_passes 8 = .ok (.aload_n 0, 1) := by decide +kernel
theorem dX7_passes_9 : decode cX7_passes 9 = .ok (.getfield 146, 3) := by decide +kernel
theorem dX7_passes_12 : decode cX7_passes 12 = .ok (.ifCond .eq 18, 3) := by decide +kernel
theorem dX7_passes_15 : decode cX7_passes 15 = .ok (.aload_n 0, 1) := by decide +kernel
theorem dX7_passes_16 : decode cX7_passes 16 = .ok (.getfield 67, 3) := by decide +kernel
theorem dX7_passes_19 : decode cX7_passes 19 = .ok (.aload_n 0, 1) := by decide +kernel
theorem dX7_passes_20 : decode cX7_passes 20 = .ok (.getfield 150, 3) := by decide +kernel
theorem dX7_passes_23 : decode cX7_passes 23 = .ok (.aload_n 1, 1) := by decide +kernel
theorem dX7_passes_24 : decode cX7_passes 24 = .ok (.iload_n 2, 1) := by decide +kernel
theorem dX7_passes_25 : decode cX7_passes 25 = .ok (.iaload, 1) := by decide +kernel
theorem dX7_passes_26 : decode cX7_passes 26 = .ok (.iastore, 1) := by decide +kernel
theorem dX7_passes_27 : decode cX7_passes 27 = .ok (.goto 15, 3) := by decide +kernel
theorem dX7_passes_30 : decode cX7_passes 30 = .ok (.aload_n 1, 1) := by decide +kernel
theorem dX7_passes_31 : decode cX7_passes 31 = .ok (.iload_n 2, 1) := by decide +kernel
theorem dX7_passes_32 : decode cX7_passes 32 = .ok (.aload_n 0, 1) := by decide +kernel
theorem dX7_passes_33 : decode cX7_passes 33 = .ok (.getfield 67, 3) := by decide +kernel
theorem dX7_passes_36 : decode cX7_passes 36 = .ok (.aload_n 0, 1) := by decide +kernel
theorem dX7_passes_37 : decode cX7_passes 37 = .ok (.getfield 150, 3) := by decide +kernel
theorem dX7_passes_40 : decode cX7_passes 40 = .ok (.iaload, 1) := by decide +kernel
theorem dX7_passes_41 : decode cX7_passes 41 = .ok (.iastore, 1) := by decide +kernel
theorem dX7_passes_42 : decode cX7_passes 42 = .ok (.aload_n 0, 1) := by decide +kernel
theorem dX7_passes_43 : decode cX7_passes 43 = .ok (.dup, 1) := by decide +kernel
theorem dX7_passes_44 : decode cX7_passes 44 = .ok (.getfield 150, 3) := by decide +kernel
theorem dX7_passes_47 : decode cX7_passes 47 = .ok (.iconst 1, 1) := by decide +kernel
theorem dX7_passes_48 : decode cX7_passes 48 = .ok (.iadd, 1) := by decide +kernel
theorem dX7_passes_49 : decode cX7_passes 49 = .ok (.putfield 150, 3) := by decide +kernel
theorem dX7_passes_52 : decode cX7_passes 52 = .ok (.iinc 2 1, 3) := by decide +kernel
theorem dX7_passes_55 : decode cX7_passes 55 = .ok (.goto (-53), 3) := by decide +kernel
theorem dX7_passes_58 : decode cX7_passes 58 = .ok (.return_, 1) := by decide +kernel
theorem dX7_passOne_0 : decode cX7_passOne 0 = .ok (.aload_n 0, 1) := by decide +kernel
theorem dX7_passOne_1 : decode cX7_passOne 1 = .ok (.getfield 146, 3) := by decide +kernel
theorem dX7_passOne_4 : decode cX7_passOne 4 = .ok (.ifCond .eq 7, 3) := by decide +kernel
theorem dX7_passOne_7 : decode cX7_passOne 7 = .ok (.iload_n 1, 1) := by decide +kernel
theorem dX7_passOne_8 : decode cX7_passOne 8 = .ok (.goto 12, 3) := by decide +kernel
theorem dX7_passOne_11 : decode cX7_passOne 11 = .ok (.aload_n 0, 1) := by decide +kernel
theorem dX7_passOne_12 : decode cX7_passOne 12 = .ok (.getfield 67, 3) := by decide +kernel
theorem dX7_passOne_15 : decode cX7_passOne 15 = .ok (.aload_n 0, 1) := by decide +kernel
theorem dX7_passOne_16 : decode cX7_passOne 16 = .ok (.getfield 150, 3) := by decide +kernel
theorem dX7_passOne_19 : decode cX7_passOne 19 = .ok (.iaload, 1) := by decide +kernel
theorem dX7_passOne_20 : decode cX7_passOne 20 = .ok (.istore_n 2, 1) := by decide +kernel
theorem dX7_passOne_21 : decode cX7_passOne 21 = .ok (.aload_n 0, 1) := by decide +kernel
theorem dX7_passOne_22 : decode cX7_passOne 22 = .ok (.getfield 146, 3) := by decide +kernel
theorem dX7_passOne_25 : decode cX7_passOne 25 = .ok (.ifCond .eq 13, 3) := by decide +kernel
theorem dX7_passOne_28 : decode cX7_passOne 28 = .ok (.aload_n 0, 1) := by decide +kernel
theorem dX7_passOne_29 : decode cX7_passOne 29 = .ok (.getfield 67, 3) := by decide +kernel
theorem dX7_passOne_32 : decode cX7_passOne 32 = .ok (.aload_n 0, 1) := by decide +kernel
theorem dX7_passOne_33 : decode cX7_passOne 33 = .ok (.getfield 150, 3) := by decide +kernel
theorem dX7_passOne_36 : decode cX7_passOne 36 = .ok (.iload_n 1, 1) := by decide +kernel
theorem dX7_passOne_37 : decode cX7_passOne 37 = .ok (.iastore, 1) := by decide +kernel
theorem dX7_passOne_38 : decode cX7_passOne 38 = .ok (.aload_n 0, 1) := by decide +kernel
theorem dX7_passOne_39 : decode cX7_passOne 39 = .ok (.dup, 1) := by decide +kernel
theorem dX7_passOne_40 : decode cX7_passOne 40 = .ok (.getfield 150, 3) := by decide +kernel
theorem dX7_passOne_43 : decode cX7_passOne 43 = .ok (.iconst 1, 1) := by decide +kernel
theorem dX7_passOne_44 : decode cX7_passOne 44 = .ok (.iadd, 1) := by decide +kernel
theorem dX7_passOne_45 : decode cX7_passOne 45 = .ok (.putfield 150, 3) := by decide +kernel
theorem dX7_passOne_48 : decode cX7_passOne 48 = .ok (.iload_n 2, 1) := by decide +kernel
theorem dX7_passOne_49 : decode cX7_passOne 49 = .ok (.ireturn, 1) := by decide +kernel
theorem dX7_passesAll_0 : decode cX7_passesAll 0 = .ok (.aload_n 0, 1) := by decide +kernel
theorem dX7_passesAll_1 : decode cX7_passesAll 1 = .ok (.bipush 100, 2) := by decide +kernel
theorem dX7_passesAll_3 : decode cX7_passesAll 3 = .ok (.iload_n 1, 1) := by decide +kernel
theorem dX7_passesAll_4 : decode cX7_passesAll 4 = .ok (.imul, 1) := by decide +kernel
theorem dX7_passesAll_5 : decode cX7_passesAll 5 = .ok (.putfield 150, 3) := by decide +kernel
theorem dX7_passesAll_8 : decode cX7_passesAll 8 = .ok (.aload_n 0, 1) := by decide +kernel
theorem dX7_passesAll_9 : decode cX7_passesAll 9 = .ok (.iload_n 2, 1) := by decide +kernel
theorem dX7_passesAll_10 : decode cX7_passesAll 10 = .ok (.putfield 146, 3) := by decide +kernel
theorem dX7_passesAll_13 : decode cX7_passesAll 13 = .ok (.aload_n 0, 1) := by decide +kernel
theorem dX7_passesAll_14 : decode cX7_passesAll 14 = .ok (.aload_n 0, 1) := by decide +kernel
theorem dX7_passesAll_15 : decode cX7_passesAll 15 = .ok (.getfield 13, 3) := by decide +kernel
theorem dX7_passesAll_18 : decode cX7_passesAll 18 = .ok (.invokevirtual 153, 3) := by decide +kernel
theorem dX7_passesAll_21 : decode cX7_passesAll 21 = .ok (.aload_n 0, 1) := by decide +kernel
theorem dX7_passesAll_22 : decode cX7_passesAll 22 = .ok (.aload_n 0, 1) := by decide +kernel
theorem dX7_passesAll_23 : decode cX7_passesAll 23 = .ok (.getfield 16, 3) := by decide +kernel
theorem dX7_passesAll_26 : decode cX7_passesAll 26 = .ok (.invokevirtual 153, 3) := by decide +kernel
theorem dX7_passesAll_29 : decode cX7_passesAll 29 = .ok (.aload_n 0, 1) := by decide +kernel
theorem dX7_passesAll_30 : decode cX7_passesAll 30 = .ok (.aload_n 0, 1) := by decide +kernel
theorem dX7_passesAll_31 : decode cX7_passesAll 31 = .ok (.getfield 19, 3) := by decide +kernel
theorem dX7_passesAll_34 : decode cX7_passesAll 34 = .ok (.invokevirtual 153, 3) := by decide +kernel
theorem dX7_passesAll_37 : decode cX7_passesAll 37 = .ok (.aload_n 0, 1) := by decide +kernel
theorem dX7_passesAll_38 : decode cX7_passesAll 38 = .ok (.aload_n 0, 1) := by decide +kernel
theorem dX7_passesAll_39 : decode cX7_passesAll 39 = .ok (.getfield 22, 3) := by decide +kernel
theorem dX7_passesAll_42 : decode cX7_passesAll 42 = .ok (.invokevirtual 153, 3) := by decide +kernel
theorem dX7_passesAll_45 : decode cX7_passesAll 45 = .ok (.aload_n 0, 1) := by decide +kernel
theorem dX7_passesAll_46 : decode cX7_passesAll 46 = .ok (.aload_n 0, 1) := by decide +kernel
theorem dX7_passesAll_47 : decode cX7_passesAll 47 = .ok (.getfield 25, 3) := by decide +kernel
theorem dX7_passesAll_50 : decode cX7_passesAll 50 = .ok (.invokevirtual 153, 3) := by decide +kernel
theorem dX7_passesAll_53 : decode cX7_passesAll 53 = .ok (.aload_n 0, 1) := by decide +kernel
theorem dX7_passesAll_54 : decode cX7_passesAll 54 = .ok (.aload_n 0, 1) := by decide +kernel
theorem dX7_passesAll_55 : decode cX7_passesAll 55 = .ok (.getfield 28, 3) := by decide +kernel
theorem dX7_passesAll_58 : decode cX7_passesAll 58 = .ok (.invokevirtual 153, 3) := by decide +kernel
theorem dX7_passesAll_61 : decode cX7_passesAll 61 = .ok (.aload_n 0, 1) := by decide +kernel
theorem dX7_passesAll_62 : decode cX7_passesAll 62 = .ok (.aload_n 0, 1) := by decide +kernel
theorem dX7_passesAll_63 : decode cX7_passesAll 63 = .ok (.getfield 31, 3) := by decide +kernel
theorem dX7_passesAll_66 : decode cX7_passesAll 66 = .ok (.invokevirtual 153, 3) := by decide +kernel
theorem dX7_passesAll_69 : decode cX7_passesAll 69 = .ok (.aload_n 0, 1) := by decide +kernel
theorem dX7_passesAll_70 : decode cX7_passesAll 70 = .ok (.aload_n 0, 1) := by decide +kernel
theorem dX7_passesAll_71 : decode cX7_passesAll 71 = .ok (.getfield 34, 3) := by decide +kernel
theorem dX7_passesAll_74 : decode cX7_passesAll 74 = .ok (.invokevirtual 153, 3) := by decide +kernel
theorem dX7_passesAll_77 : decode cX7_passesAll 77 = .ok (.aload_n 0, 1) := by decide +kernel
theorem dX7_passesAll_78 : decode cX7_passesAll 78 = .ok (.aload_n 0, 1) := by decide +kernel
theorem dX7_passesAll_79 : decode cX7_passesAll 79 = .ok (.getfield 37, 3) := by decide +kernel
theorem dX7_passesAll_82 : decode cX7_passesAll 82 = .ok (.invokevirtual 153, 3) := by decide +kernel
theorem dX7_passesAll_85 : decode cX7_passesAll 85 = .ok (.aload_n 0, 1) := by decide +kernel
theorem dX7_passesAll_86 : decode cX7_passesAll 86 = .ok (.aload_n 0, 1) := by decide +kernel
theorem dX7_passesAll_87 : decode cX7_passesAll 87 = .ok (.getfield 40, 3) := by decide +kernel
theorem dX7_passesAll_90 : decode cX7_passesAll 90 = .ok (.invokevirtual 153, 3) := by decide +kernel
theorem dX7_passesAll_93 : decode cX7_passesAll 93 = .ok (.aload_n 0, 1) := by decide +kernel
theorem dX7_passesAll_94 : decode cX7_passesAll 94 = .ok (.aload_n 0, 1) := by decide +kernel
theorem dX7_passesAll_95 : decode cX7_passesAll 95 = .ok (.getfield 43, 3) := by decide +kernel
theorem dX7_passesAll_98 : decode cX7_passesAll 98 = .ok (.invokevirtual 153, 3) := by decide +kernel
theorem dX7_passesAll_101 : decode cX7_passesAll 101 = .ok (.aload_n 0, 1) := by decide +kernel
theorem dX7_passesAll_102 : decode cX7_passesAll 102 = .ok (.aload_n 0, 1) := by decide +kernel
theorem dX7_passesAll_103 : decode cX7_passesAll 103 = .ok (.getfield 46, 3) := by decide +kernel
theorem dX7_passesAll_106 : decode cX7_passesAll 106 = .ok (.invokevirtual 153, 3) := by decide +kernel
theorem dX7_passesAll_109 : decode cX7_passesAll 109 = .ok (.aload_n 0, 1) := by decide +kernel
theorem dX7_passesAll_110 : decode cX7_passesAll 110 = .ok (.aload_n 0, 1) := by decide +kernel
theorem dX7_passesAll_111 : decode cX7_passesAll 111 = .ok (.getfield 49, 3) := by decide +kernel
theorem dX7_passesAll_114 : decode cX7_passesAll 114 = .ok (.invokevirtual 153, 3) := by decide +kernel
theorem dX7_passesAll_117 : decode cX7_passesAll 117 = .ok (.aload_n 0, 1) := by decide +kernel
theorem dX7_passesAll_118 : decode cX7_passesAll 118 = .ok (.aload_n 0, 1) := by decide +kernel
theorem dX7_passesAll_119 : decode cX7_passesAll 119 = .ok (.getfield 52, 3) := by decide +kernel
theorem dX7_passesAll_122 : decode cX7_passesAll 122 = .ok (.invokevirtual 153, 3) := by decide +kernel
theorem dX7_passesAll_125 : decode cX7_passesAll 125 = .ok (.aload_n 0, 1) := by decide +kernel
theorem dX7_passesAll_126 : decode cX7_passesAll 126 = .ok (.aload_n 0, 1) := by decide +kernel
theorem dX7_passesAll_127 : decode cX7_passesAll 127 = .ok (.aload_n 0, 1) := by decide +kernel
theorem dX7_passesAll_128 : decode cX7_passesAll 128 = .ok (.getfield 77, 3) := by decide +kernel
theorem dX7_passesAll_131 : decode cX7_passesAll 131 = .ok (.invokevirtual 157, 3) := by decide +kernel
theorem dX7_passesAll_134 : decode cX7_passesAll 134 = .ok (.putfield 77, 3) := by decide +kernel
theorem dX7_passesAll_137 : decode cX7_passesAll 137 = .ok (.aload_n 0, 1) := by decide +kernel
theorem dX7_passesAll_138 : decode cX7_passesAll 138 = .ok (.aload_n 0, 1) := by decide +kernel
theorem dX7_passesAll_139 : decode cX7_passesAll 139 = .ok (.aload_n 0, 1) := by decide +kernel
theorem dX7_passesAll_140 : decode cX7_passesAll 140 = .ok (.getfield 122, 3) := by decide +kernel
theorem dX7_passesAll_143 : decode cX7_passesAll 143 = .ok (.invokevirtual 157, 3) := by decide +kernel
theorem dX7_passesAll_146 : decode cX7_passesAll 146 = .ok (.putfield 122, 3) := by decide +kernel
theorem dX7_passesAll_149 : decode cX7_passesAll 149 = .ok (.aload_n 0, 1) := by decide +kernel
theorem dX7_passesAll_150 : decode cX7_passesAll 150 = .ok (.aload_n 0, 1) := by decide +kernel
theorem dX7_passesAll_151 : decode cX7_passesAll 151 = .ok (.aload_n 0, 1) := by decide +kernel
theorem dX7_passesAll_152 : decode cX7_passesAll 152 = .ok (.getfield 160, 3) := by decide +kernel
theorem dX7_passesAll_155 : decode cX7_passesAll 155 = .ok (.invokevirtual 157, 3) := by decide +kernel
theorem dX7_passesAll_158 : decode cX7_passesAll 158 = .ok (.putfield 160, 3) := by decide +kernel
theorem dX7_passesAll_161 : decode cX7_passesAll 161 = .ok (.return_, 1) := by decide +kernel
theorem dX7_image_0 : decode cX7_image 0 = .ok (.aload_n 0, 1) := by decide +kernel
theorem dX7_image_1 : decode cX7_image 1 = .ok (.iconst 1, 1) := by decide +kernel
theorem dX7_image_2 : decode cX7_image 2 = .ok (.putfield 163, 3) := by decide +kernel
theorem dX7_image_5 : decode cX7_image 5 = .ok (.aload_n 0, 1) := by decide +kernel
theorem dX7_image_6 : decode cX7_image 6 = .ok (.iconst 0, 1) := by decide +kernel
theorem dX7_image_7 : decode cX7_image 7 = .ok (.iconst 1, 1) := by decide +kernel
theorem dX7_image_8 : decode cX7_image 8 = .ok (.invokevirtual 139, 3) := by decide +kernel
theorem dX7_image_11 : decode cX7_image 11 = .ok (.aload_n 0, 1) := by decide +kernel
theorem dX7_image_12 : decode cX7_image 12 = .ok (.getfield 122, 3) := by decide +kernel
theorem dX7_image_15 : decode cX7_image 15 = .ok (.ireturn, 1) := by decide +kernel
theorem dX7_restore_0 : decode cX7_restore 0 = .ok (.aload_n 0, 1) := by decide +kernel
theorem dX7_restore_1 : decode cX7_restore 1 = .ok (.getfield 163, 3) := by decide +kernel
theorem dX7_restore_4 : decode cX7_restore 4 = .ok (.ifCond .ne 10, 3) := by decide +kernel
theorem dX7_restore_7 : decode cX7_restore 7 = .ok (.aload_n 0, 1) := by decide +kernel
theorem dX7_restore_8 : decode cX7_restore 8 = .ok (.bipush (-3), 2) := by decide +kernel
theorem dX7_restore_10 : decode cX7_restore 10 = .ok (.invokevirtual 88, 3) := by decide +kernel
theorem dX7_restore_13 : decode cX7_restore 13 = .ok (.ireturn, 1) := by decide +kernel
theorem dX7_restore_14 : decode cX7_restore 14 = .ok (.aload_n 0, 1) := by decide +kernel
theorem dX7_restore_15 : decode cX7_restore 15 = .ok (.iconst 0, 1) := by decide +kernel
theorem dX7_restore_16 : decode cX7_restore 16 = .ok (.iconst 0, 1) := by decide +kernel
theorem dX7_restore_17 : decode cX7_restore 17 = .ok (.invokevirtual 139, 3) := by decide +kernel
theorem dX7_restore_20 : decode cX7_restore 20 = .ok (.aload_n 0, 1) := by decide +kernel
theorem dX7_restore_21 : decode cX7_restore 21 = .ok (.getfield 122, 3) := by decide +kernel
theorem dX7_restore_24 : decode cX7_restore 24 = .ok (.ireturn, 1) := by decide +kernel
theorem dX7_wantsInLine_0 : decode cX7_wantsInLine 0 = .ok (.iconst 0, 1) := by decide +kernel
theorem dX7_wantsInLine_1 : decode cX7_wantsInLine 1 = .ok (.istore_n 1, 1) := by decide +kernel
theorem dX7_wantsInLine_2 : decode cX7_wantsInLine 2 = .ok (.iconst 0, 1) := by decide +kernel
theorem dX7_wantsInLine_3 : decode cX7_wantsInLine 3 = .ok (.istore_n 2, 1) := by decide +kernel
theorem dX7_wantsInLine_4 : decode cX7_wantsInLine 4 = .ok (.iload_n 2, 1) := by decide +kernel
theorem dX7_wantsInLine_5 : decode cX7_wantsInLine 5 = .ok (.aload_n 0, 1) := by decide +kernel
theorem dX7_wantsInLine_6 : decode cX7_wantsInLine 6 = .ok (.getfield 160, 3) := by decide +kernel
theorem dX7_wantsInLine_9 : decode cX7_wantsInLine 9 = .ok (.if_icmp .ge 23, 3) := by decide +kernel
theorem dX7_wantsInLine_12 : decode cX7_wantsInLine 12 = .ok (.iload_n 1, 1) := by decide +kernel
theorem dX7_wantsInLine_13 : decode cX7_wantsInLine 13 = .ok (.aload_n 0, 1) := by decide +kernel
theorem dX7_wantsInLine_14 : decode cX7_wantsInLine 14 = .ok (.getfield 25, 3) := by decide +kernel
theorem dX7_wantsInLine_17 : decode cX7_wantsInLine 17 = .ok (.aload_n 0, 1) := by decide +kernel
theorem dX7_wantsInLine_18 : decode cX7_wantsInLine 18 = .ok (.getfield 37, 3) := by decide +kernel
theorem dX7_wantsInLine_21 : decode cX7_wantsInLine 21 = .ok (.iload_n 2, 1) := by decide +kernel
theorem dX7_wantsInLine_22 : decode cX7_wantsInLine 22 = .ok (.iaload, 1) := by decide +kernel
theorem dX7_wantsInLine_23 : decode cX7_wantsInLine 23 = .ok (.iaload, 1) := by decide +kernel
theorem dX7_wantsInLine_24 : decode cX7_wantsInLine 24 = .ok (.iadd, 1) := by decide +kernel
theorem dX7_wantsInLine_25 : decode cX7_wantsInLine 25 = .ok (.istore_n 1, 1) := by decide +kernel
theorem dX7_wantsInLine_26 : decode cX7_wantsInLine 26 = .ok (.iinc 2 1, 3) := by decide +kernel
theorem dX7_wantsInLine_29 : decode cX7_wantsInLine 29 = .ok (.goto (-25), 3) := by decide +kernel
theorem dX7_wantsInLine_32 : decode cX7_wantsInLine 32 = .ok (.iload_n 1, 1) := by decide +kernel
theorem dX7_wantsInLine_33 : decode cX7_wantsInLine 33 = .ok (.ireturn, 1) := by decide +kernel
theorem dX7_wantsSoon_0 : decode cX7_wantsSoon 0 = .ok (.iconst 0, 1) := by decide +kernel
theorem dX7_wantsSoon_1 : decode cX7_wantsSoon 1 = .ok (.istore_n 2, 1) := by decide +kernel
theorem dX7_wantsSoon_2 : decode cX7_wantsSoon 2 = .ok (.iconst 0, 1) := by decide +kernel
theorem dX7_wantsSoon_3 : decode cX7_wantsSoon 3 = .ok (.istore_n 3, 1) := by decide +kernel
theorem dX7_wantsSoon_4 : decode cX7_wantsSoon 4 = .ok (.iload_n 3, 1) := by decide +kernel
theorem dX7_wantsSoon_5 : decode cX7_wantsSoon 5 = .ok (.aload_n 0, 1) := by decide +kernel
theorem dX7_wantsSoon_6 : decode cX7_wantsSoon 6 = .ok (.getfield 77, 3) := by decide +kernel
theorem dX7_wantsSoon_9 : decode cX7_wantsSoon 9 = .ok (.if_icmp .ge 46, 3) := by decide +kernel
theorem dX7_wantsSoon_12 : decode cX7_wantsSoon 12 = .ok (.iload_n 2, 1) := by decide +kernel
theorem dX7_wantsSoon_13 : decode cX7_wantsSoon 13 = .ok (.aload_n 0, 1) := by decide +kernel
theorem dX7_wantsSoon_14 : decode cX7_wantsSoon 14 = .ok (.getfield 31, 3) := by decide +kernel
theorem dX7_wantsSoon_17 : decode cX7_wantsSoon 17 = .ok (.iload_n 3, 1) := by decide +kernel
theorem dX7_wantsSoon_18 : decode cX7_wantsSoon 18 = .ok (.iaload, 1) := by decide +kernel
theorem dX7_wantsSoon_19 : decode cX7_wantsSoon 19 = .ok (.ifCond .ne 27, 3) := by decide +kernel
theorem dX7_wantsSoon_22 : decode cX7_wantsSoon 22 = .ok (.aload_n 0, 1) := by decide +kernel
theorem dX7_wantsSoon_23 : decode cX7_wantsSoon 23 = .ok (.getfield 22, 3) := by decide +kernel
theorem dX7_wantsSoon_26 : decode cX7_wantsSoon 26 = .ok (.iload_n 3, 1) := by decide +kernel
theorem dX7_wantsSoon_27 : decode cX7_wantsSoon 27 = .ok (.iaload, 1) := by decide +kernel
theorem dX7_wantsSoon_28 : decode cX7_wantsSoon 28 = .ok (.aload_n 0, 1) := by decide +kernel
theorem dX7_wantsSoon_29 : decode cX7_wantsSoon 29 = .ok (.getfield 122, 3) := by decide +kernel
theorem dX7_wantsSoon_32 : decode cX7_wantsSoon 32 = .ok (.iload_n 1, 1) := by decide +kernel
theorem dX7_wantsSoon_33 : decode cX7_wantsSoon 33 = .ok (.iadd, 1) := by decide +kernel
theorem dX7_wantsSoon_34 : decode cX7_wantsSoon 34 = .ok (.if_icmp .gt 12, 3) := by decide +kernel
theorem dX7_wantsSoon_37 : decode cX7_wantsSoon 37 = .ok (.aload_n 0, 1) := by decide +kernel
theorem dX7_wantsSoon_38 : decode cX7_wantsSoon 38 = .ok (.getfield 25, 3) := by decide +kernel
theorem dX7_wantsSoon_41 : decode cX7_wantsSoon 41 = .ok (.iload_n 3, 1) := by decide +kernel
theorem dX7_wantsSoon_42 : decode cX7_wantsSoon 42 = .ok (.iaload, 1) := by decide +kernel
theorem dX7_wantsSoon_43 : decode cX7_wantsSoon 43 = .ok (.goto 4, 3) := by decide +kernel
theorem dX7_wantsSoon_46 : decode cX7_wantsSoon 46 = .ok (.iconst 0, 1) := by decide +kernel
theorem dX7_wantsSoon_47 : decode cX7_wantsSoon 47 = .ok (.iadd, 1) := by decide +kernel
theorem dX7_wantsSoon_48 : decode cX7_wantsSoon 48 = .ok (.istore_n 2, 1) := by decide +kernel
theorem dX7_wantsSoon_49 : decode cX7_wantsSoon 49 = .ok (.iinc 3 1, 3) := by decide +kernel
theorem dX7_wantsSoon_52 : decode cX7_wantsSoon 52 = .ok (.goto (-48), 3) := by decide +kernel
theorem dX7_wantsSoon_55 : decode cX7_wantsSoon 55 = .ok (.iload_n 2, 1) := by decide +kernel
theorem dX7_wantsSoon_56 : decode cX7_wantsSoon 56 = .ok (.ireturn, 1) := by decide +kernel
theorem dX7_cupsBy_0 : decode cX7_cupsBy 0 = .ok (.iload_n 2, 1) := by decide +kernel
theorem dX7_cupsBy_1 : decode cX7_cupsBy 1 = .ok (.tableswitch 95 0 6 #[43, 95, 52, 59, 64, 80, 88], 43) := by decide +kernel
theorem dX7_cupsBy_44 : decode cX7_cupsBy 44 = .ok (.aload_n 0, 1) := by decide +kernel
theorem dX7_cupsBy_45 : decode cX7_cupsBy 45 = .ok (.getfield 25, 3) := by decide +kernel
theorem dX7_cupsBy_48 : decode cX7_cupsBy 48 = .ok (.iload_n 1, 1) := by decide +kernel
theorem dX7_cupsBy_49 : decode cX7_cupsBy 49 = .ok (.iaload, 1) := by decide +kernel
theorem dX7_cupsBy_50 : decode cX7_cupsBy 50 = .ok (.iconst 1, 1) := by decide +kernel
theorem dX7_cupsBy_51 : decode cX7_cupsBy 51 = .ok (.iadd, 1) := by decide +kernel
theorem dX7_cupsBy_52 : decode cX7_cupsBy 52 = .ok (.ireturn, 1) := by decide +kernel
theorem dX7_cupsBy_53 : decode cX7_cupsBy 53 = .ok (.aload_n 0, 1) := by decide +kernel
theorem dX7_cupsBy_54 : decode cX7_cupsBy 54 = .ok (.getfield 13, 3) := by decide +kernel
theorem dX7_cupsBy_57 : decode cX7_cupsBy 57 = .ok (.iconst 0, 1) := by decide +kernel
theorem dX7_cupsBy_58 : decode cX7_cupsBy 58 = .ok (.iaload, 1) := by decide +kernel
theorem dX7_cupsBy_59 : decode cX7_cupsBy 59 = .ok (.ireturn, 1) := by decide +kernel
theorem dX7_cupsBy_60 : decode cX7_cupsBy 60 = .ok (.aload_n 0, 1) := by decide +kernel
theorem dX7_cupsBy_61 : decode cX7_cupsBy 61 = .ok (.invokevirtual 166, 3) := by decide +kernel
theorem dX7_cupsBy_64 : decode cX7_cupsBy 64 = .ok (.ireturn, 1) := by decide +kernel
theorem dX7_cupsBy_65 : decode cX7_cupsBy 65 = .ok (.aload_n 0, 1) := by decide +kernel
theorem dX7_cupsBy_66 : decode cX7_cupsBy 66 = .ok (.invokevirtual 166, 3) := by decide +kernel
theorem dX7_cupsBy_69 : decode cX7_cupsBy 69 = .ok (.aload_n 0, 1) := by decide +kernel
theorem dX7_cupsBy_70 : decode cX7_cupsBy 70 = .ok (.aload_n 0, 1) := by decide +kernel
theorem dX7_cupsBy_71 : decode cX7_cupsBy 71 = .ok (.getfield 19, 3) := by decide +kernel
theorem dX7_cupsBy_74 : decode cX7_cupsBy 74 = .ok (.iload_n 1, 1) := by decide +kernel
theorem dX7_cupsBy_75 : decode cX7_cupsBy 75 = .ok (.iaload, 1) := by decide +kernel
theorem dX7_cupsBy_76 : decode cX7_cupsBy 76 = .ok (.invokevirtual 169, 3) := by decide +kernel
theorem dX7_cupsBy_79 : decode cX7_cupsBy 79 = .ok (.iadd, 1) := by decide +kernel
theorem dX7_cupsBy_80 : decode cX7_cupsBy 80 = .ok (.ireturn, 1) := by decide +kernel
theorem dX7_cupsBy_81 : decode cX7_cupsBy 81 = .ok (.aload_n 0, 1) := by decide +kernel
theorem dX7_cupsBy_82 : decode cX7_cupsBy 82 = .ok (.getfield 13, 3) := by decide +kernel
theorem dX7_cupsBy_85 : decode cX7_cupsBy 85 = .ok (.bipush 6, 2) := by decide +kernel
theorem dX7_cupsBy_87 : decode cX7_cupsBy 87 = .ok (.iaload, 1) := by decide +kernel
theorem dX7_cupsBy_88 : decode cX7_cupsBy 88 = .ok (.ireturn, 1) := by decide +kernel
theorem dX7_cupsBy_89 : decode cX7_cupsBy 89 = .ok (.aload_n 0, 1) := by decide +kernel
theorem dX7_cupsBy_90 : decode cX7_cupsBy 90 = .ok (.getfield 19, 3) := by decide +kernel
theorem dX7_cupsBy_93 : decode cX7_cupsBy 93 = .ok (.iload_n 1, 1) := by decide +kernel
theorem dX7_cupsBy_94 : decode cX7_cupsBy 94 = .ok (.iaload, 1) := by decide +kernel
theorem dX7_cupsBy_95 : decode cX7_cupsBy 95 = .ok (.ireturn, 1) := by decide +kernel
theorem dX7_cupsBy_96 : decode cX7_cupsBy 96 = .ok (.aload_n 0, 1) := by decide +kernel
theorem dX7_cupsBy_97 : decode cX7_cupsBy 97 = .ok (.getfield 25, 3) := by decide +kernel
theorem dX7_cupsBy_100 : decode cX7_cupsBy 100 = .ok (.iload_n 1, 1) := by decide +kernel
theorem dX7_cupsBy_101 : decode cX7_cupsBy 101 = .ok (.iaload, 1) := by decide +kernel
theorem dX7_cupsBy_102 : decode cX7_cupsBy 102 = .ok (.ireturn, 1) := by decide +kernel
theorem dX7_upTo_0 : decode cX7_upTo 0 = .ok (.aload_n 0, 1) := by decide +kernel
theorem dX7_upTo_1 : decode cX7_upTo 1 = .ok (.iload_n 1, 1) := by decide +kernel
theorem dX7_upTo_2 : decode cX7_upTo 2 = .ok (.iload_n 2, 1) := by decide +kernel
theorem dX7_upTo_3 : decode cX7_upTo 3 = .ok (.invokevirtual 172, 3) := by decide +kernel
theorem dX7_upTo_6 : decode cX7_upTo 6 = .ok (.istore_n 3, 1) := by decide +kernel
theorem dX7_upTo_7 : decode cX7_upTo 7 = .ok (.iload_n 3, 1) := by decide +kernel
theorem dX7_upTo_8 : decode cX7_upTo 8 = .ok (.aload_n 0, 1) := by decide +kernel
theorem dX7_upTo_9 : decode cX7_upTo 9 = .ok (.getfield 25, 3) := by decide +kernel
theorem dX7_upTo_12 : decode cX7_upTo 12 = .ok (.iload_n 1, 1) := by decide +kernel
theorem dX7_upTo_13 : decode cX7_upTo 13 = .ok (.iaload, 1) := by decide +kernel
theorem dX7_upTo_14 : decode cX7_upTo 14 = .ok (.if_icmp .ge 12, 3) := by decide +kernel
theorem dX7_upTo_17 : decode cX7_upTo 17 = .ok (.aload_n 0, 1) := by decide +kernel
theorem dX7_upTo_18 : decode cX7_upTo 18 = .ok (.getfield 25, 3) := by decide +kernel
theorem dX7_upTo_21 : decode cX7_upTo 21 = .ok (.iload_n 1, 1) := by decide +kernel
theorem dX7_upTo_22 : decode cX7_upTo 22 = .ok (.iaload, 1) := by decide +kernel
theorem dX7_upTo_23 : decode cX7_upTo 23 = .ok (.goto 4, 3) := by decide +kernel
theorem dX7_upTo_26 : decode cX7_upTo 26 = .ok (.iload_n 3, 1) := by decide +kernel
theorem dX7_upTo_27 : decode cX7_upTo 27 = .ok (.istore_n 3, 1) := by decide +kernel
theorem dX7_upTo_28 : decode cX7_upTo 28 = .ok (.iload_n 3, 1) := by decide +kernel
theorem dX7_upTo_29 : decode cX7_upTo 29 = .ok (.aload_n 0, 1) := by decide +kernel
theorem dX7_upTo_30 : decode cX7_upTo 30 = .ok (.getfield 13, 3) := by decide +kernel
theorem dX7_upTo_33 : decode cX7_upTo 33 = .ok (.iconst 0, 1) := by decide +kernel
theorem dX7_upTo_34 : decode cX7_upTo 34 = .ok (.iaload, 1) := by decide +kernel
theorem dX7_upTo_35 : decode cX7_upTo 35 = .ok (.if_icmp .le 12, 3) := by decide +kernel
theorem dX7_upTo_38 : decode cX7_upTo 38 = .ok (.aload_n 0, 1) := by decide +kernel
theorem dX7_upTo_39 : decode cX7_upTo 39 = .ok (.getfield 13, 3) := by decide +kernel
theorem dX7_upTo_42 : decode cX7_upTo 42 = .ok (.iconst 0, 1) := by decide +kernel
theorem dX7_upTo_43 : decode cX7_upTo 43 = .ok (.iaload, 1) := by decide +kernel
theorem dX7_upTo_44 : decode cX7_upTo 44 = .ok (.goto 4, 3) := by decide +kernel
theorem dX7_upTo_47 : decode cX7_upTo 47 = .ok (.iload_n 3, 1) := by decide +kernel
theorem dX7_upTo_48 : decode cX7_upTo 48 = .ok (.ireturn, 1) := by decide +kernel
theorem dX7_isFree_0 : decode cX7_isFree 0 = .ok (.aload_n 0, 1) := by decide +kernel
theorem dX7_isFree_1 : decode cX7_isFree 1 = .ok (.getfield 49, 3) := by decide +kernel
theorem dX7_isFree_4 : decode cX7_isFree 4 = .ok (.iload_n 1, 1) := by decide +kernel
theorem dX7_isFree_5 : decode cX7_isFree 5 = .ok (.iaload, 1) := by decide +kernel
theorem dX7_isFree_6 : decode cX7_isFree 6 = .ok (.aload_n 0, 1) := by decide +kernel
theorem dX7_isFree_7 : decode cX7_isFree 7 = .ok (.getfield 122, 3) := by decide +kernel
theorem dX7_isFree_10 : decode cX7_isFree 10 = .ok (.if_icmp .gt 7, 3) := by decide +kernel
theorem dX7_isFree_13 : decode cX7_isFree 13 = .ok (.iconst 1, 1) := by decide +kernel
theorem dX7_isFree_14 : decode cX7_isFree 14 = .ok (.goto 4, 3) := by decide +kernel
theorem dX7_isFree_17 : decode cX7_isFree 17 = .ok (.iconst 0, 1) := by decide +kernel
theorem dX7_isFree_18 : decode cX7_isFree 18 = .ok (.ireturn, 1) := by decide +kernel
theorem dX7_boilTime_0 : decode cX7_boilTime 0 = .ok (.iload_n 1, 1) := by decide +kernel
theorem dX7_boilTime_1 : decode cX7_boilTime 1 = .ok (.iload_n 2, 1) := by decide +kernel
theorem dX7_boilTime_2 : decode cX7_boilTime 2 = .ok (.imul, 1) := by decide +kernel
theorem dX7_boilTime_3 : decode cX7_boilTime 3 = .ok (.aload_n 0, 1) := by decide +kernel
theorem dX7_boilTime_4 : decode cX7_boilTime 4 = .ok (.getfield 13, 3) := by decide +kernel
theorem dX7_boilTime_7 : decode cX7_boilTime 7 = .ok (.iconst 2, 1) := by decide +kernel
theorem dX7_boilTime_8 : decode cX7_boilTime 8 = .ok (.iaload, 1) := by decide +kernel
theorem dX7_boilTime_9 : decode cX7_boilTime 9 = .ok (.imul, 1) := by decide +kernel
theorem dX7_boilTime_10 : decode cX7_boilTime 10 = .ok (.bipush 99, 2) := by decide +kernel
theorem dX7_boilTime_12 : decode cX7_boilTime 12 = .ok (.iadd, 1) := by decide +kernel
theorem dX7_boilTime_13 : decode cX7_boilTime 13 = .ok (.bipush 100, 2) := by decide +kernel
theorem dX7_boilTime_15 : decode cX7_boilTime 15 = .ok (.idiv, 1) := by decide +kernel
theorem dX7_boilTime_16 : decode cX7_boilTime 16 = .ok (.istore_n 3, 1) := by decide +kernel
theorem dX7_boilTime_17 : decode cX7_boilTime 17 = .ok (.iload_n 3, 1) := by decide +kernel
theorem dX7_boilTime_18 : decode cX7_boilTime 18 = .ok (.iconst 1, 1) := by decide +kernel
theorem dX7_boilTime_19 : decode cX7_boilTime 19 = .ok (.if_icmp .ge 7, 3) := by decide +kernel
theorem dX7_boilTime_22 : decode cX7_boilTime 22 = .ok (.iconst 1, 1) := by decide +kernel
theorem dX7_boilTime_23 : decode cX7_boilTime 23 = .ok (.goto 4, 3) := by decide +kernel
theorem dX7_boilTime_26 : decode cX7_boilTime 26 = .ok (.iload_n 3, 1) := by decide +kernel
theorem dX7_boilTime_27 : decode cX7_boilTime 27 = .ok (.ireturn, 1) := by decide +kernel
theorem dX7_putsOn_0 : decode cX7_putsOn 0 = .ok (.aload_n 0, 1) := by decide +kernel
theorem dX7_putsOn_1 : decode cX7_putsOn 1 = .ok (.iload_n 1, 1) := by decide +kernel
theorem dX7_putsOn_2 : decode cX7_putsOn 2 = .ok (.aload_n 0, 1) := by decide +kernel
theorem dX7_putsOn_3 : decode cX7_putsOn 3 = .ok (.getfield 16, 3) := by decide +kernel
theorem dX7_putsOn_6 : decode cX7_putsOn 6 = .ok (.iload_n 1, 1) := by decide +kernel
theorem dX7_putsOn_7 : decode cX7_putsOn 7 = .ok (.iaload, 1) := by decide +kernel
theorem dX7_putsOn_8 : decode cX7_putsOn 8 = .ok (.invokevirtual 175, 3) := by decide +kernel
theorem dX7_putsOn_11 : decode cX7_putsOn 11 = .ok (.istore_n 3, 1) := by decide +kernel
theorem dX7_putsOn_12 : decode cX7_putsOn 12 = .ok (.iconst 0, 1) := by decide +kernel
theorem dX7_putsOn_13 : decode cX7_putsOn 13 = .ok (.istore 4, 2) := by decide +kernel
theorem dX7_putsOn_15 : decode cX7_putsOn 15 = .ok (.aload_n 0, 1) := by decide +kernel
theorem dX7_putsOn_16 : decode cX7_putsOn 16 = .ok (.getfield 40, 3) := by decide +kernel
theorem dX7_putsOn_19 : decode cX7_putsOn 19 = .ok (.iload_n 2, 1) := by decide +kernel
theorem dX7_putsOn_20 : decode cX7_putsOn 20 = .ok (.iaload, 1) := by decide +kernel
theorem dX7_putsOn_21 : decode cX7_putsOn 21 = .ok (.iload_n 3, 1) := by decide +kernel
theorem dX7_putsOn_22 : decode cX7_putsOn 22 = .ok (.if_icmp .ge 39, 3) := by decide +kernel
theorem dX7_putsOn_25 : decode cX7_putsOn 25 = .ok (.aload_n 0, 1) := by decide +kernel
theorem dX7_putsOn_26 : decode cX7_putsOn 26 = .ok (.getfield 43, 3) := by decide +kernel
theorem dX7_putsOn_29 : decode cX7_putsOn 29 = .ok (.iload_n 2, 1) := by decide +kernel
theorem dX7_putsOn_30 : decode cX7_putsOn 30 = .ok (.aload_n 0, 1) := by decide +kernel
theorem dX7_putsOn_31 : decode cX7_putsOn 31 = .ok (.getfield 40, 3) := by decide +kernel
theorem dX7_putsOn_34 : decode cX7_putsOn 34 = .ok (.iload_n 2, 1) := by decide +kernel
theorem dX7_putsOn_35 : decode cX7_putsOn 35 = .ok (.iaload, 1) := by decide +kernel
theorem dX7_putsOn_36 : decode cX7_putsOn 36 = .ok (.aload_n 0, 1) := by decide +kernel
theorem dX7_putsOn_37 : decode cX7_putsOn 37 = .ok (.getfield 43, 3) := by decide +kernel
theorem dX7_putsOn_40 : decode cX7_putsOn 40 = .ok (.iload_n 2, 1) := by decide +kernel
theorem dX7_putsOn_41 : decode cX7_putsOn 41 = .ok (.iaload, 1) := by decide +kernel
theorem dX7_putsOn_42 : decode cX7_putsOn 42 = .ok (.imul, 1) := by decide +kernel
theorem dX7_putsOn_43 : decode cX7_putsOn 43 = .ok (.iload_n 3, 1) := by decide +kernel
theorem dX7_putsOn_44 : decode cX7_putsOn 44 = .ok (.idiv, 1) := by decide +kernel
theorem dX7_putsOn_45 : decode cX7_putsOn 45 = .ok (.iastore, 1) := by decide +kernel
theorem dX7_putsOn_46 : decode cX7_putsOn 46 = .ok (.aload_n 0, 1) := by decide +kernel
theorem dX7_putsOn_47 : decode cX7_putsOn 47 = .ok (.getfield 40, 3) := by decide +kernel
theorem dX7_putsOn_50 : decode cX7_putsOn 50 = .ok (.iload_n 2, 1) := by decide +kernel
theorem dX7_putsOn_51 : decode cX7_putsOn 51 = .ok (.iload_n 3, 1) := by decide +kernel
theorem dX7_putsOn_52 : decode cX7_putsOn 52 = .ok (.iastore, 1) := by decide +kernel
theorem dX7_putsOn_53 : decode cX7_putsOn 53 = .ok (.aload_n 0, 1) := by decide +kernel
theorem dX7_putsOn_54 : decode cX7_putsOn 54 = .ok (.getfield 13, 3) := by decide +kernel
theorem dX7_putsOn_57 : decode cX7_putsOn 57 = .ok (.iconst 1, 1) := by decide +kernel
theorem dX7_putsOn_58 : decode cX7_putsOn 58 = .ok (.iaload, 1) := by decide +kernel
theorem dX7_putsOn_59 : decode cX7_putsOn 59 = .ok (.istore 4, 2) := by decide +kernel
theorem dX7_putsOn_61 : decode cX7_putsOn 61 = .ok (.aload_n 0, 1) := by decide +kernel
theorem dX7_putsOn_62 : decode cX7_putsOn 62 = .ok (.getfield 49, 3) := by decide +kernel
theorem dX7_putsOn_65 : decode cX7_putsOn 65 = .ok (.iload_n 2, 1) := by decide +kernel
theorem dX7_putsOn_66 : decode cX7_putsOn 66 = .ok (.aload_n 0, 1) := by decide +kernel
theorem dX7_putsOn_67 : decode cX7_putsOn 67 = .ok (.getfield 122, 3) := by decide +kernel
theorem dX7_putsOn_70 : decode cX7_putsOn 70 = .ok (.iload 4, 2) := by decide +kernel
theorem dX7_putsOn_72 : decode cX7_putsOn 72 = .ok (.iadd, 1) := by decide +kernel
theorem dX7_putsOn_73 : decode cX7_putsOn 73 = .ok (.aload_n 0, 1) := by decide +kernel
theorem dX7_putsOn_74 : decode cX7_putsOn 74 = .ok (.aload_n 0, 1) := by decide +kernel
theorem dX7_putsOn_75 : decode cX7_putsOn 75 = .ok (.getfield 40, 3) := by decide +kernel
theorem dX7_putsOn_78 : decode cX7_putsOn 78 = .ok (.iload_n 2, 1) := by decide +kernel
theorem dX7_putsOn_79 : decode cX7_putsOn 79 = .ok (.iaload, 1) := by decide +kernel
theorem dX7_putsOn_80 : decode cX7_putsOn 80 = .ok (.bipush 10, 2) := by decide +kernel
theorem dX7_putsOn_82 : decode cX7_putsOn 82 = .ok (.aload_n 0, 1) := by decide +kernel
theorem dX7_putsOn_83 : decode cX7_putsOn 83 = .ok (.getfield 43, 3) := by decide +kernel
theorem dX7_putsOn_86 : decode cX7_putsOn 86 = .ok (.iload_n 2, 1) := by decide +kernel
theorem dX7_putsOn_87 : decode cX7_putsOn 87 = .ok (.iaload, 1) := by decide +kernel
theorem dX7_putsOn_88 : decode cX7_putsOn 88 = .ok (.isub, 1) := by decide +kernel
theorem dX7_putsOn_89 : decode cX7_putsOn 89 = .ok (.invokevirtual 178, 3) := by decide +kernel
theorem dX7_putsOn_92 : decode cX7_putsOn 92 = .ok (.iadd, 1) := by decide +kernel
theorem dX7_putsOn_93 : decode cX7_putsOn 93 = .ok (.iastore, 1) := by decide +kernel
theorem dX7_putsOn_94 : decode cX7_putsOn 94 = .ok (.aload_n 0, 1) := by decide +kernel
theorem dX7_putsOn_95 : decode cX7_putsOn 95 = .ok (.getfield 43, 3) := by decide +kernel
theorem dX7_putsOn_98 : decode cX7_putsOn 98 = .ok (.iload_n 2, 1) := by decide +kernel
theorem dX7_putsOn_99 : decode cX7_putsOn 99 = .ok (.bipush 10, 2) := by decide +kernel
theorem dX7_putsOn_101 : decode cX7_putsOn 101 = .ok (.iastore, 1) := by decide +kernel
theorem dX7_putsOn_102 : decode cX7_putsOn 102 = .ok (.aload_n 0, 1) := by decide +kernel
theorem dX7_putsOn_103 : decode cX7_putsOn 103 = .ok (.getfield 46, 3) := by decide +kernel
theorem dX7_putsOn_106 : decode cX7_putsOn 106 = .ok (.iload_n 2, 1) := by decide +kernel
theorem dX7_putsOn_107 : decode cX7_putsOn 107 = .ok (.iconst 0, 1) := by decide +kernel
theorem dX7_putsOn_108 : decode cX7_putsOn 108 = .ok (.iastore, 1) := by decide +kernel
theorem dX7_putsOn_109 : decode cX7_putsOn 109 = .ok (.aload_n 0, 1) := by decide +kernel
theorem dX7_putsOn_110 : decode cX7_putsOn 110 = .ok (.getfield 52, 3) := by decide +kernel
theorem dX7_putsOn_113 : decode cX7_putsOn 113 = .ok (.iload_n 2, 1) := by decide +kernel
theorem dX7_putsOn_114 : decode cX7_putsOn 114 = .ok (.iload_n 1, 1) := by decide +kernel
theorem dX7_putsOn_115 : decode cX7_putsOn 115 = .ok (.iastore, 1) := by decide +kernel
theorem dX7_putsOn_116 : decode cX7_putsOn 116 = .ok (.aload_n 0, 1) := by decide +kernel
theorem dX7_putsOn_117 : decode cX7_putsOn 117 = .ok (.dup, 1) := by decide +kernel
theorem dX7_putsOn_118 : decode cX7_putsOn 118 = .ok (.getfield 181, 3) := by decide +kernel
theorem dX7_putsOn_121 : decode cX7_putsOn 121 = .ok (.iconst 1, 1) := by decide +kernel
theorem dX7_putsOn_122 : decode cX7_putsOn 122 = .ok (.iadd, 1) := by decide +kernel
theorem dX7_putsOn_123 : decode cX7_putsOn 123 = .ok (.putfield 181, 3) := by decide +kernel
theorem dX7_putsOn_126 : decode cX7_putsOn 126 = .ok (.return_, 1) := by decide +kernel
theorem dX7_hotFor_0 : decode cX7_hotFor 0 = .ok (.iconst 0, 1) := by decide +kernel
theorem dX7_hotFor_1 : decode cX7_hotFor 1 = .ok (.istore_n 2, 1) := by decide +kernel
theorem dX7_hotFor_2 : decode cX7_hotFor 2 = .ok (.iload_n 2, 1) := by decide +kernel
theorem dX7_hotFor_3 : decode cX7_hotFor 3 = .ok (.aload_n 0, 1) := by decide +kernel
theorem dX7_hotFor_4 : decode cX7_hotFor 4 = .ok (.getfield 13, 3) := by decide +kernel
theorem dX7_hotFor_7 : decode cX7_hotFor 7 = .ok (.bipush 7, 2) := by decide +kernel
theorem dX7_hotFor_9 : decode cX7_hotFor 9 = .ok (.iaload, 1) := by decide +kernel
theorem dX7_hotFor_10 : decode cX7_hotFor 10 = .ok (.if_icmp .ge 45, 3) := by decide +kernel
theorem dX7_hotFor_13 : decode cX7_hotFor 13 = .ok (.aload_n 0, 1) := by decide +kernel
theorem dX7_hotFor_14 : decode cX7_hotFor 14 = .ok (.iload_n 2, 1) := by decide +kernel
theorem dX7_hotFor_15 : decode cX7_hotFor 15 = .ok (.invokevirtual 184, 3) := by decide +kernel
theorem dX7_hotFor_18 : decode cX7_hotFor 18 = .ok (.ifCond .eq 31, 3) := by decide +kernel
theorem dX7_hotFor_21 : decode cX7_hotFor 21 = .ok (.aload_n 0, 1) := by decide +kernel
theorem dX7_hotFor_22 : decode cX7_hotFor 22 = .ok (.getfield 43, 3) := by decide +kernel
theorem dX7_hotFor_25 : decode cX7_hotFor 25 = .ok (.iload_n 2, 1) := by decide +kernel
theorem dX7_hotFor_26 : decode cX7_hotFor 26 = .ok (.iaload, 1) := by decide +kernel
theorem dX7_hotFor_27 : decode cX7_hotFor 27 = .ok (.bipush 8, 2) := by decide +kernel
theorem dX7_hotFor_29 : decode cX7_hotFor 29 = .ok (.if_icmp .lt 20, 3) := by decide +kernel
theorem dX7_hotFor_32 : decode cX7_hotFor 32 = .ok (.aload_n 0, 1) := by decide +kernel
theorem dX7_hotFor_33 : decode cX7_hotFor 33 = .ok (.getfield 40, 3) := by decide +kernel
theorem dX7_hotFor_36 : decode cX7_hotFor 36 = .ok (.iload_n 2, 1) := by decide +kernel
theorem dX7_hotFor_37 : decode cX7_hotFor 37 = .ok (.iaload, 1) := by decide +kernel
theorem dX7_hotFor_38 : decode cX7_hotFor 38 = .ok (.aload_n 0, 1) := by decide +kernel
theorem dX7_hotFor_39 : decode cX7_hotFor 39 = .ok (.getfield 25, 3) := by decide +kernel
theorem dX7_hotFor_42 : decode cX7_hotFor 42 = .ok (.iload_n 1, 1) := by decide +kernel
theorem dX7_hotFor_43 : decode cX7_hotFor 43 = .ok (.iaload, 1) := by decide +kernel
theorem dX7_hotFor_44 : decode cX7_hotFor 44 = .ok (.if_icmp .lt 5, 3) := by decide +kernel
theorem dX7_hotFor_47 : decode cX7_hotFor 47 = .ok (.iload_n 2, 1) := by decide +kernel
theorem dX7_hotFor_48 : decode cX7_hotFor 48 = .ok (.ireturn, 1) := by decide +kernel
theorem dX7_hotFor_49 : decode cX7_hotFor 49 = .ok (.iinc 2 1, 3) := by decide +kernel
theorem dX7_hotFor_52 : decode cX7_hotFor 52 = .ok (.goto (-50), 3) := by decide +kernel
theorem dX7_hotFor_55 : decode cX7_hotFor 55 = .ok (.bipush (-9), 2) := by decide +kernel
theorem dX7_hotFor_57 : decode cX7_hotFor 57 = .ok (.ireturn, 1) := by decide +kernel
theorem dX7_freeFor_0 : decode cX7_freeFor 0 = .ok (.bipush (-9), 2) := by decide +kernel
theorem dX7_freeFor_2 : decode cX7_freeFor 2 = .ok (.istore_n 2, 1) := by decide +kernel
theorem dX7_freeFor_3 : decode cX7_freeFor 3 = .ok (.iconst 0, 1) := by decide +kernel
theorem dX7_freeFor_4 : decode cX7_freeFor 4 = .ok (.istore_n 3, 1) := by decide +kernel
theorem dX7_freeFor_5 : decode cX7_freeFor 5 = .ok (.iload_n 3, 1) := by decide +kernel
theorem dX7_freeFor_6 : decode cX7_freeFor 6 = .ok (.aload_n 0, 1) := by decide +kernel
theorem dX7_freeFor_7 : decode cX7_freeFor 7 = .ok (.getfield 13, 3) := by decide +kernel
theorem dX7_freeFor_10 : decode cX7_freeFor 10 = .ok (.bipush 7, 2) := by decide +kernel
theorem dX7_freeFor_12 : decode cX7_freeFor 12 = .ok (.iaload, 1) := by decide +kernel
theorem dX7_freeFor_13 : decode cX7_freeFor 13 = .ok (.if_icmp .ge 44, 3) := by decide +kernel
theorem dX7_freeFor_16 : decode cX7_freeFor 16 = .ok (.aload_n 0, 1) := by decide +kernel
theorem dX7_freeFor_17 : decode cX7_freeFor 17 = .ok (.iload_n 3, 1) := by decide +kernel
theorem dX7_freeFor_18 : decode cX7_freeFor 18 = .ok (.invokevirtual 184, 3) := by decide +kernel
theorem dX7_freeFor_21 : decode cX7_freeFor 21 = .ok (.ifCond .ne 16, 3) := by decide +kernel
theorem dX7_freeFor_24 : decode cX7_freeFor 24 = .ok (.aload_n 0, 1) := by decide +kernel
theorem dX7_freeFor_25 : decode cX7_freeFor 25 = .ok (.getfield 52, 3) := by decide +kernel
theorem dX7_freeFor_28 : decode cX7_freeFor 28 = .ok (.iload_n 3, 1) := by decide +kernel
theorem dX7_freeFor_29 : decode cX7_freeFor 29 = .ok (.iaload, 1) := by decide +kernel
theorem dX7_freeFor_30 : decode cX7_freeFor 30 = .ok (.iload_n 1, 1) := by decide +kernel
theorem dX7_freeFor_31 : decode cX7_freeFor 31 = .ok (.if_icmp .ne 6, 3) := by decide +kernel
theorem dX7_freeFor_34 : decode cX7_freeFor 34 = .ok (.bipush (-9), 2) := by decide +kernel
theorem dX7_freeFor_36 : decode cX7_freeFor 36 = .ok (.ireturn, 1) := by decide +kernel
theorem dX7_freeFor_37 : decode cX7_freeFor 37 = .ok (.aload_n 0, 1) := by decide +kernel
theorem dX7_freeFor_38 : decode cX7_freeFor 38 = .ok (.iload_n 3, 1) := by decide +kernel
theorem dX7_freeFor_39 : decode cX7_freeFor 39 = .ok (.invokevirtual 184, 3) := by decide +kernel
theorem dX7_freeFor_42 : decode cX7_freeFor 42 = .ok (.ifCond .eq 9, 3) := by decide +kernel
theorem dX7_freeFor_45 : decode cX7_freeFor 45 = .ok (.iload_n 2, 1) := by decide +kernel
theorem dX7_freeFor_46 : decode cX7_freeFor 46 = .ok (.ifCond .ge 5, 3) := by decide +kernel
theorem dX7_freeFor_49 : decode cX7_freeFor 49 = .ok (.iload_n 3, 1) := by decide +kernel
theorem dX7_freeFor_50 : decode cX7_freeFor 50 = .ok (.istore_n 2, 1) := by decide +kernel
theorem dX7_freeFor_51 : decode cX7_freeFor 51 = .ok (.iinc 3 1, 3) := by decide +kernel
theorem dX7_freeFor_54 : decode cX7_freeFor 54 = .ok (.goto (-49), 3) := by decide +kernel
theorem dX7_freeFor_57 : decode cX7_freeFor 57 = .ok (.iload_n 2, 1) := by decide +kernel
theorem dX7_freeFor_58 : decode cX7_freeFor 58 = .ok (.ireturn, 1) := by decide +kernel
theorem dX7_isServed_0 : decode cX7_isServed 0 = .ok (.aload_n 0, 1) := by decide +kernel
theorem dX7_isServed_1 : decode cX7_isServed 1 = .ok (.iload_n 1, 1) := by decide +kernel
theorem dX7_isServed_2 : decode cX7_isServed 2 = .ok (.invokevirtual 187, 3) := by decide +kernel
theorem dX7_isServed_5 : decode cX7_isServed 5 = .ok (.istore_n 2, 1) := by decide +kernel
theorem dX7_isServed_6 : decode cX7_isServed 6 = .ok (.iload_n 2, 1) := by decide +kernel
theorem dX7_isServed_7 : decode cX7_isServed 7 = .ok (.ifCond .lt 44, 3) := by decide +kernel
theorem dX7_isServed_10 : decode cX7_isServed 10 = .ok (.aload_n 0, 1) := by decide +kernel
theorem dX7_isServed_11 : decode cX7_isServed 11 = .ok (.getfield 40, 3) := by decide +kernel
theorem dX7_isServed_14 : decode cX7_isServed 14 = .ok (.iload_n 2, 1) := by decide +kernel
theorem dX7_isServed_15 : decode cX7_isServed 15 = .ok (.dup2, 1) := by decide +kernel
theorem dX7_isServed_16 : decode cX7_isServed 16 = .ok (.iaload, 1) := by decide +kernel
theorem dX7_isServed_17 : decode cX7_isServed 17 = .ok (.aload_n 0, 1) := by decide +kernel
theorem dX7_isServed_18 : decode cX7_isServed 18 = .ok (.getfield 25, 3) := by decide +kernel
theorem dX7_isServed_21 : decode cX7_isServed 21 = .ok (.iload_n 1, 1) := by decide +kernel
theorem dX7_isServed_22 : decode cX7_isServed 22 = .ok (.iaload, 1) := by decide +kernel
theorem dX7_isServed_23 : decode cX7_isServed 23 = .ok (.isub, 1) := by decide +kernel
theorem dX7_isServed_24 : decode cX7_isServed 24 = .ok (.iastore, 1) := by decide +kernel
theorem dX7_isServed_25 : decode cX7_isServed 25 = .ok (.aload_n 0, 1) := by decide +kernel
theorem dX7_isServed_26 : decode cX7_isServed 26 = .ok (.getfield 31, 3) := by decide +kernel
theorem dX7_isServed_29 : decode cX7_isServed 29 = .ok (.iload_n 1, 1) := by decide +kernel
theorem dX7_isServed_30 : decode cX7_isServed 30 = .ok (.iconst 2, 1) := by decide +kernel
theorem dX7_isServed_31 : decode cX7_isServed 31 = .ok (.iastore, 1) := by decide +kernel
theorem dX7_isServed_32 : decode cX7_isServed 32 = .ok (.aload_n 0, 1) := by decide +kernel
theorem dX7_isServed_33 : decode cX7_isServed 33 = .ok (.getfield 34, 3) := by decide +kernel
theorem dX7_isServed_36 : decode cX7_isServed 36 = .ok (.iload_n 1, 1) := by decide +kernel
theorem dX7_isServed_37 : decode cX7_isServed 37 = .ok (.aload_n 0, 1) := by decide +kernel
theorem dX7_isServed_38 : decode cX7_isServed 38 = .ok (.getfield 122, 3) := by decide +kernel
theorem dX7_isServed_41 : decode cX7_isServed 41 = .ok (.aload_n 0, 1) := by decide +kernel
theorem dX7_isServed_42 : decode cX7_isServed 42 = .ok (.getfield 22, 3) := by decide +kernel
theorem dX7_isServed_45 : decode cX7_isServed 45 = .ok (.iload_n 1, 1) := by decide +kernel
theorem dX7_isServed_46 : decode cX7_isServed 46 = .ok (.iaload, 1) := by decide +kernel
theorem dX7_isServed_47 : decode cX7_isServed 47 = .ok (.isub, 1) := by decide +kernel
theorem dX7_isServed_48 : decode cX7_isServed 48 = .ok (.iastore, 1) := by decide +kernel
theorem dX7_isServed_49 : decode cX7_isServed 49 = .ok (.iconst 1, 1) := by decide +kernel
theorem dX7_isServed_50 : decode cX7_isServed 50 = .ok (.ireturn, 1) := by decide +kernel
theorem dX7_isServed_51 : decode cX7_isServed 51 = .ok (.aload_n 0, 1) := by decide +kernel
theorem dX7_isServed_52 : decode cX7_isServed 52 = .ok (.iload_n 1, 1) := by decide +kernel
theorem dX7_isServed_53 : decode cX7_isServed 53 = .ok (.invokevirtual 190, 3) := by decide +kernel
theorem dX7_isServed_56 : decode cX7_isServed 56 = .ok (.istore_n 2, 1) := by decide +kernel
theorem dX7_isServed_57 : decode cX7_isServed 57 = .ok (.iload_n 2, 1) := by decide +kernel
theorem dX7_isServed_58 : decode cX7_isServed 58 = .ok (.ifCond .lt 9, 3) := by decide +kernel
theorem dX7_isServed_61 : decode cX7_isServed 61 = .ok (.aload_n 0, 1) := by decide +kernel
theorem dX7_isServed_62 : decode cX7_isServed 62 = .ok (.iload_n 1, 1) := by decide +kernel
theorem dX7_isServed_63 : decode cX7_isServed 63 = .ok (.iload_n 2, 1) := by decide +kernel
theorem dX7_isServed_64 : decode cX7_isServed 64 = .ok (.invokevirtual 193, 3) := by decide +kernel
theorem dX7_isServed_67 : decode cX7_isServed 67 = .ok (.iconst 0, 1) := by decide +kernel
theorem dX7_isServed_68 : decode cX7_isServed 68 = .ok (.ireturn, 1) := by decide +kernel
theorem dX7_leaves_0 : decode cX7_leaves 0 = .ok (.aload_n 0, 1) := by decide +kernel
theorem dX7_leaves_1 : decode cX7_leaves 1 = .ok (.dup, 1) := by decide +kernel
theorem dX7_leaves_2 : decode cX7_leaves 2 = .ok (.getfield 160, 3) := by decide +kernel
theorem dX7_leaves_5 : decode cX7_leaves 5 = .ok (.iconst 1, 1) := by decide +kernel
theorem dX7_leaves_6 : decode cX7_leaves 6 = .ok (.isub, 1) := by decide +kernel
theorem dX7_leaves_7 : decode cX7_leaves 7 = .ok (.putfield 160, 3) := by decide +kernel
theorem dX7_leaves_10 : decode cX7_leaves 10 = .ok (.iload_n 1, 1) := by decide +kernel
theorem dX7_leaves_11 : decode cX7_leaves 11 = .ok (.istore_n 2, 1) := by decide +kernel
theorem dX7_leaves_12 : decode cX7_leaves 12 = .ok (.iload_n 2, 1) := by decide +kernel
theorem dX7_leaves_13 : decode cX7_leaves 13 = .ok (.aload_n 0, 1) := by decide +kernel
theorem dX7_leaves_14 : decode cX7_leaves 14 = .ok (.getfield 160, 3) := by decide +kernel
theorem dX7_leaves_17 : decode cX7_leaves 17 = .ok (.if_icmp .ge 23, 3) := by decide +kernel
theorem dX7_leaves_20 : decode cX7_leaves 20 = .ok (.aload_n 0, 1) := by decide +kernel
theorem dX7_leaves_21 : decode cX7_leaves 21 = .ok (.getfield 37, 3) := by decide +kernel
theorem dX7_leaves_24 : decode cX7_leaves 24 = .ok (.iload_n 2, 1) := by decide +kernel
theorem dX7_leaves_25 : decode cX7_leaves 25 = .ok (.aload_n 0, 1) := by decide +kernel
theorem dX7_leaves_26 : decode cX7_leaves 26 = .ok (.getfield 37, 3) := by decide +kernel
theorem dX7_leaves_29 : decode cX7_leaves 29 = .ok (.iload_n 2, 1) := by decide +kernel
theorem dX7_leaves_30 : decode cX7_leaves 30 = .ok (.iconst 1, 1) := by decide +kernel
theorem dX7_leaves_31 : decode cX7_leaves 31 = .ok (.iadd, 1) := by decide +kernel
theorem dX7_leaves_32 : decode cX7_leaves 32 = .ok (.iaload, 1) := by decide +kernel
theorem dX7_leaves_33 : decode cX7_leaves 33 = .ok (.iastore, 1) := by decide +kernel
theorem dX7_leaves_34 : decode cX7_leaves 34 = .ok (.iinc 2 1, 3) := by decide +kernel
theorem dX7_leaves_37 : decode cX7_leaves 37 = .ok (.goto (-25), 3) := by decide +kernel
theorem dX7_leaves_40 : decode cX7_leaves 40 = .ok (.return_, 1) := by decide +kernel
theorem dX7_cools_0 : decode cX7_cools 0 = .ok (.iconst 0, 1) := by decide +kernel
theorem dX7_cools_1 : decode cX7_cools 1 = .ok (.istore_n 1, 1) := by decide +kernel
theorem dX7_cools_2 : decode cX7_cools 2 = .ok (.iload_n 1, 1) := by decide +kernel
theorem dX7_cools_3 : decode cX7_cools 3 = .ok (.aload_n 0, 1) := by decide +kernel
theorem dX7_cools_4 : decode cX7_cools 4 = .ok (.getfield 13, 3) := by decide +kernel
theorem dX7_cools_7 : decode cX7_cools 7 = .ok (.bipush 7, 2) := by decide +kernel
theorem dX7_cools_9 : decode cX7_cools 9 = .ok (.iaload, 1) := by decide +kernel
theorem dX7_cools_10 : decode cX7_cools 10 = .ok (.if_icmp .ge 91, 3) := by decide +kernel
theorem dX7_cools_13 : decode cX7_cools 13 = .ok (.aload_n 0, 1) := by decide +kernel
theorem dX7_cools_14 : decode cX7_cools 14 = .ok (.iload_n 1, 1) := by decide +kernel
theorem dX7_cools_15 : decode cX7_cools 15 = .ok (.invokevirtual 184, 3) := by decide +kernel
theorem dX7_cools_18 : decode cX7_cools 18 = .ok (.ifCond .eq 77, 3) := by decide +kernel
theorem dX7_cools_21 : decode cX7_cools 21 = .ok (.aload_n 0, 1) := by decide +kernel
theorem dX7_cools_22 : decode cX7_cools 22 = .ok (.getfield 40, 3) := by decide +kernel
theorem dX7_cools_25 : decode cX7_cools 25 = .ok (.iload_n 1, 1) := by decide +kernel
theorem dX7_cools_26 : decode cX7_cools 26 = .ok (.iaload, 1) := by decide +kernel
theorem dX7_cools_27 : decode cX7_cools 27 = .ok (.ifCond .ne 6, 3) := by decide +kernel
theorem dX7_cools_30 : decode cX7_cools 30 = .ok (.goto 65, 3) := by decide +kernel
theorem dX7_cools_33 : decode cX7_cools 33 = .ok (.aload_n 0, 1) := by decide +kernel
theorem dX7_cools_34 : decode cX7_cools 34 = .ok (.getfield 46, 3) := by decide +kernel
theorem dX7_cools_37 : decode cX7_cools 37 = .ok (.iload_n 1, 1) := by decide +kernel
theorem dX7_cools_38 : decode cX7_cools 38 = .ok (.dup2, 1) := by decide +kernel
theorem dX7_cools_39 : decode cX7_cools 39 = .ok (.iaload, 1) := by decide +kernel
theorem dX7_cools_40 : decode cX7_cools 40 = .ok (.iconst 1, 1) := by decide +kernel
theorem dX7_cools_41 : decode cX7_cools 41 = .ok (.iadd, 1) := by decide +kernel
theorem dX7_cools_42 : decode cX7_cools 42 = .ok (.iastore, 1) := by decide +kernel
theorem dX7_cools_43 : decode cX7_cools 43 = .ok (.aload_n 0, 1) := by decide +kernel
theorem dX7_cools_44 : decode cX7_cools 44 = .ok (.getfield 46, 3) := by decide +kernel
theorem dX7_cools_47 : decode cX7_cools 47 = .ok (.iload_n 1, 1) := by decide +kernel
theorem dX7_cools_48 : decode cX7_cools 48 = .ok (.iaload, 1) := by decide +kernel
theorem dX7_cools_49 : decode cX7_cools 49 = .ok (.aload_n 0, 1) := by decide +kernel
theorem dX7_cools_50 : decode cX7_cools 50 = .ok (.getfield 13, 3) := by decide +kernel
theorem dX7_cools_53 : decode cX7_cools 53 = .ok (.iconst 3, 1) := by decide +kernel
theorem dX7_cools_54 : decode cX7_cools 54 = .ok (.iaload, 1) := by decide +kernel
theorem dX7_cools_55 : decode cX7_cools 55 = .ok (.if_icmp .ge 6, 3) := by decide +kernel
theorem dX7_cools_58 : decode cX7_cools 58 = .ok (.goto 37, 3) := by decide +kernel
theorem dX7_cools_61 : decode cX7_cools 61 = .ok (.aload_n 0, 1) := by decide +kernel
theorem dX7_cools_62 : decode cX7_cools 62 = .ok (.getfield 43, 3) := by decide +kernel
theorem dX7_cools_65 : decode cX7_cools 65 = .ok (.iload_n 1, 1) := by decide +kernel
theorem dX7_cools_66 : decode cX7_cools 66 = .ok (.aload_n 0, 1) := by decide +kernel
theorem dX7_cools_67 : decode cX7_cools 67 = .ok (.getfield 43, 3) := by decide +kernel
theorem dX7_cools_70 : decode cX7_cools 70 = .ok (.iload_n 1, 1) := by decide +kernel
theorem dX7_cools_71 : decode cX7_cools 71 = .ok (.iaload, 1) := by decide +kernel
theorem dX7_cools_72 : decode cX7_cools 72 = .ok (.ifCond .le 14, 3) := by decide +kernel
theorem dX7_cools_75 : decode cX7_cools 75 = .ok (.aload_n 0, 1) := by decide +kernel
theorem dX7_cools_76 : decode cX7_cools 76 = .ok (.getfield 43, 3) := by decide +kernel
theorem dX7_cools_79 : decode cX7_cools 79 = .ok (.iload_n 1, 1) := by decide +kernel
theorem dX7_cools_80 : decode cX7_cools 80 = .ok (.iaload, 1) := by decide +kernel
theorem dX7_cools_81 : decode cX7_cools 81 = .ok (.iconst 1, 1) := by decide +kernel
theorem dX7_cools_82 : decode cX7_cools 82 = .ok (.isub, 1) := by decide +kernel
theorem dX7_cools_83 : decode cX7_cools 83 = .ok (.goto 4, 3) := by decide +kernel
theorem dX7_cools_86 : decode cX7_cools 86 = .ok (.iconst 0, 1) := by decide +kernel
theorem dX7_cools_87 : decode cX7_cools 87 = .ok (.iastore, 1) := by decide +kernel
theorem dX7_cools_88 : decode cX7_cools 88 = .ok (.aload_n 0, 1) := by decide +kernel
theorem dX7_cools_89 : decode cX7_cools 89 = .ok (.getfield 46, 3) := by decide +kernel
theorem dX7_cools_92 : decode cX7_cools 92 = .ok (.iload_n 1, 1) := by decide +kernel
theorem dX7_cools_93 : decode cX7_cools 93 = .ok (.iconst 0, 1) := by decide +kernel
theorem dX7_cools_94 : decode cX7_cools 94 = .ok (.iastore, 1) := by decide +kernel
theorem dX7_cools_95 : decode cX7_cools 95 = .ok (.iinc 1 1, 3) := by decide +kernel
theorem dX7_cools_98 : decode cX7_cools 98 = .ok (.goto (-96), 3) := by decide +kernel
theorem dX7_cools_101 : decode cX7_cools 101 = .ok (.return_, 1) := by decide +kernel
theorem dX7_goesMinute_0 : decode cX7_goesMinute 0 = .ok (.iconst 0, 1) := by decide +kernel
theorem dX7_goesMinute_1 : decode cX7_goesMinute 1 = .ok (.istore_n 1, 1) := by decide +kernel
theorem dX7_goesMinute_2 : decode cX7_goesMinute 2 = .ok (.iload_n 1, 1) := by decide +kernel
theorem dX7_goesMinute_3 : decode cX7_goesMinute 3 = .ok (.aload_n 0, 1) := by decide +kernel
theorem dX7_goesMinute_4 : decode cX7_goesMinute 4 = .ok (.getfield 77, 3) := by decide +kernel
theorem dX7_goesMinute_7 : decode cX7_goesMinute 7 = .ok (.if_icmp .ge 61, 3) := by decide +kernel
theorem dX7_goesMinute_10 : decode cX7_goesMinute 10 = .ok (.aload_n 0, 1) := by decide +kernel
theorem dX7_goesMinute_11 : decode cX7_goesMinute 11 = .ok (.getfield 31, 3) := by decide +kernel
theorem dX7_goesMinute_14 : decode cX7_goesMinute 14 = .ok (.iload_n 1, 1) := by decide +kernel
theorem dX7_goesMinute_15 : decode cX7_goesMinute 15 = .ok (.iaload, 1) := by decide +kernel
theorem dX7_goesMinute_16 : decode cX7_goesMinute 16 = .ok (.ifCond .ne 46, 3) := by decide +kernel
theorem dX7_goesMinute_19 : decode cX7_goesMinute 19 = .ok (.aload_n 0, 1) := by decide +kernel
theorem dX7_goesMinute_20 : decode cX7_goesMinute 20 = .ok (.getfield 22, 3) := by decide +kernel
theorem dX7_goesMinute_23 : decode cX7_goesMinute 23 = .ok (.iload_n 1, 1) := by decide +kernel
theorem dX7_goesMinute_24 : decode cX7_goesMinute 24 = .ok (.iaload, 1) := by decide +kernel
theorem dX7_goesMinute_25 : decode cX7_goesMinute 25 = .ok (.aload_n 0, 1) := by decide +kernel
theorem dX7_goesMinute_26 : decode cX7_goesMinute 26 = .ok (.getfield 122, 3) := by decide +kernel
theorem dX7_goesMinute_29 : decode cX7_goesMinute 29 = .ok (.if_icmp .eq 6, 3) := by decide +kernel
theorem dX7_goesMinute_32 : decode cX7_goesMinute 32 = .ok (.goto 30, 3) := by decide +kernel
theorem dX7_goesMinute_35 : decode cX7_goesMinute 35 = .ok (.aload_n 0, 1) := by decide +kernel
theorem dX7_goesMinute_36 : decode cX7_goesMinute 36 = .ok (.getfield 31, 3) := by decide +kernel
theorem dX7_goesMinute_39 : decode cX7_goesMinute 39 = .ok (.iload_n 1, 1) := by decide +kernel
theorem dX7_goesMinute_40 : decode cX7_goesMinute 40 = .ok (.iconst 1, 1) := by decide +kernel
theorem dX7_goesMinute_41 : decode cX7_goesMinute 41 = .ok (.iastore, 1) := by decide +kernel
theorem dX7_goesMinute_42 : decode cX7_goesMinute 42 = .ok (.aload_n 0, 1) := by decide +kernel
theorem dX7_goesMinute_43 : decode cX7_goesMinute 43 = .ok (.getfield 37, 3) := by decide +kernel
theorem dX7_goesMinute_46 : decode cX7_goesMinute 46 = .ok (.aload_n 0, 1) := by decide +kernel
theorem dX7_goesMinute_47 : decode cX7_goesMinute 47 = .ok (.getfield 160, 3) := by decide +kernel
theorem dX7_goesMinute_50 : decode cX7_goesMinute 50 = .ok (.iload_n 1, 1) := by decide +kernel
theorem dX7_goesMinute_51 : decode cX7_goesMinute 51 = .ok (.iastore, 1) := by decide +kernel
theorem dX7_goesMinute_52 : decode cX7_goesMinute 52 = .ok (.aload_n 0, 1) := by decide +kernel
theorem dX7_goesMinute_53 : decode cX7_goesMinute 53 = .ok (.dup, 1) := by decide +kernel
theorem dX7_goesMinute_54 : decode cX7_goesMinute 54 = .ok (.getfield 160, 3) := by decide +kernel
theorem dX7_goesMinute_57 : decode cX7_goesMinute 57 = .ok (.iconst 1, 1) := by decide +kernel
theorem dX7_goesMinute_58 : decode cX7_goesMinute 58 = .ok (.iadd, 1) := by decide +kernel
theorem dX7_goesMinute_59 : decode cX7_goesMinute 59 = .ok (.putfield 160, 3) := by decide +kernel
theorem dX7_goesMinute_62 : decode cX7_goesMinute 62 = .ok (.iinc 1 1, 3) := by decide +kernel
theorem dX7_goesMinute_65 : decode cX7_goesMinute 65 = .ok (.goto (-63), 3) := by decide +kernel
theorem dX7_goesMinute_68 : decode cX7_goesMinute 68 = .ok (.aload_n 0, 1) := by decide +kernel
theorem dX7_goesMinute_69 : decode cX7_goesMinute 69 = .ok (.getfield 160, 3) := by decide +kernel
theorem dX7_goesMinute_72 : decode cX7_goesMinute 72 = .ok (.iconst 1, 1) := by decide +kernel
theorem dX7_goesMinute_73 : decode cX7_goesMinute 73 = .ok (.isub, 1) := by decide +kernel
theorem dX7_goesMinute_74 : decode cX7_goesMinute 74 = .ok (.istore_n 1, 1) := by decide +kernel
theorem dX7_goesMinute_75 : decode cX7_goesMinute 75 = .ok (.iload_n 1, 1) := by decide +kernel
theorem dX7_goesMinute_76 : decode cX7_goesMinute 76 = .ok (.ifCond .lt 63, 3) := by decide +kernel
theorem dX7_goesMinute_79 : decode cX7_goesMinute 79 = .ok (.aload_n 0, 1) := by decide +kernel
theorem dX7_goesMinute_80 : decode cX7_goesMinute 80 = .ok (.getfield 37, 3) := by decide +kernel
theorem dX7_goesMinute_83 : decode cX7_goesMinute 83 = .ok (.iload_n 1, 1) := by decide +kernel
theorem dX7_goesMinute_84 : decode cX7_goesMinute 84 = .ok (.iaload, 1) := by decide +kernel
theorem dX7_goesMinute_85 : decode cX7_goesMinute 85 = .ok (.istore_n 2, 1) := by decide +kernel
theorem dX7_goesMinute_86 : decode cX7_goesMinute 86 = .ok (.aload_n 0, 1) := by decide +kernel
theorem dX7_goesMinute_87 : decode cX7_goesMinute 87 = .ok (.getfield 122, 3) := by decide +kernel
theorem dX7_goesMinute_90 : decode cX7_goesMinute 90 = .ok (.aload_n 0, 1) := by decide +kernel
theorem dX7_goesMinute_91 : decode cX7_goesMinute 91 = .ok (.getfield 22, 3) := by decide +kernel
theorem dX7_goesMinute_94 : decode cX7_goesMinute 94 = .ok (.iload_n 2, 1) := by decide +kernel
theorem dX7_goesMinute_95 : decode cX7_goesMinute 95 = .ok (.iaload, 1) := by decide +kernel
theorem dX7_goesMinute_96 : decode cX7_goesMinute 96 = .ok (.isub, 1) := by decide +kernel
theorem dX7_goesMinute_97 : decode cX7_goesMinute 97 = .ok (.aload_n 0, 1) := by decide +kernel
theorem dX7_goesMinute_98 : decode cX7_goesMinute 98 = .ok (.getfield 28, 3) := by decide +kernel
theorem dX7_goesMinute_101 : decode cX7_goesMinute 101 = .ok (.iload_n 2, 1) := by decide +kernel
theorem dX7_goesMinute_102 : decode cX7_goesMinute 102 = .ok (.iaload, 1) := by decide +kernel
theorem dX7_goesMinute_103 : decode cX7_goesMinute 103 = .ok (.if_icmp .gt 6, 3) := by decide +kernel
theorem dX7_goesMinute_106 : decode cX7_goesMinute 106 = .ok (.goto 27, 3) := by decide +kernel
theorem dX7_goesMinute_109 : decode cX7_goesMinute 109 = .ok (.aload_n 0, 1) := by decide +kernel
theorem dX7_goesMinute_110 : decode cX7_goesMinute 110 = .ok (.getfield 31, 3) := by decide +kernel
theorem dX7_goesMinute_113 : decode cX7_goesMinute 113 = .ok (.iload_n 2, 1) := by decide +kernel
theorem dX7_goesMinute_114 : decode cX7_goesMinute 114 = .ok (.iconst 3, 1) := by decide +kernel
theorem dX7_goesMinute_115 : decode cX7_goesMinute 115 = .ok (.iastore, 1) := by decide +kernel
theorem dX7_goesMinute_116 : decode cX7_goesMinute 116 = .ok (.aload_n 0, 1) := by decide +kernel
theorem dX7_goesMinute_117 : decode cX7_goesMinute 117 = .ok (.getfield 34, 3) := by decide +kernel
theorem dX7_goesMinute_120 : decode cX7_goesMinute 120 = .ok (.iload_n 2, 1) := by decide +kernel
theorem dX7_goesMinute_121 : decode cX7_goesMinute 121 = .ok (.aload_n 0, 1) := by decide +kernel
theorem dX7_goesMinute_122 : decode cX7_goesMinute 122 = .ok (.getfield 28, 3) := by decide +kernel
theorem dX7_goesMinute_125 : decode cX7_goesMinute 125 = .ok (.iload_n 2, 1) := by decide +kernel
theorem dX7_goesMinute_126 : decode cX7_goesMinute 126 = .ok (.iaload, 1) := by decide +kernel
theorem dX7_goesMinute_127 : decode cX7_goesMinute 127 = .ok (.iastore, 1) := by decide +kernel
theorem dX7_goesMinute_128 : decode cX7_goesMinute 128 = .ok (.aload_n 0, 1) := by decide +kernel
theorem dX7_goesMinute_129 : decode cX7_goesMinute 129 = .ok (.iload_n 1, 1) := by decide +kernel
theorem dX7_goesMinute_130 : decode cX7_goesMinute 130 = .ok (.invokevirtual 197, 3) := by decide +kernel
theorem dX7_goesMinute_133 : decode cX7_goesMinute 133 = .ok (.iinc 1 (-1), 3) := by decide +kernel
theorem dX7_goesMinute_136 : decode cX7_goesMinute 136 = .ok (.goto (-61), 3) := by decide +kernel
theorem dX7_goesMinute_139 : decode cX7_goesMinute 139 = .ok (.iconst 0, 1) := by decide +kernel
theorem dX7_goesMinute_140 : decode cX7_goesMinute 140 = .ok (.istore_n 1, 1) := by decide +kernel
theorem dX7_goesMinute_141 : decode cX7_goesMinute 141 = .ok (.iload_n 1, 1) := by decide +kernel
theorem dX7_goesMinute_142 : decode cX7_goesMinute 142 = .ok (.aload_n 0, 1) := by decide +kernel
theorem dX7_goesMinute_143 : decode cX7_goesMinute 143 = .ok (.getfield 160, 3) := by decide +kernel
theorem dX7_goesMinute_146 : decode cX7_goesMinute 146 = .ok (.if_icmp .ge 30, 3) := by decide +kernel
theorem dX7_goesMinute_149 : decode cX7_goesMinute 149 = .ok (.aload_n 0, 1) := by decide +kernel
theorem dX7_goesMinute_150 : decode cX7_goesMinute 150 = .ok (.aload_n 0, 1) := by decide +kernel
theorem dX7_goesMinute_151 : decode cX7_goesMinute 151 = .ok (.getfield 37, 3) := by decide +kernel
theorem dX7_goesMinute_154 : decode cX7_goesMinute 154 = .ok (.iload_n 1, 1) := by decide +kernel
theorem dX7_goesMinute_155 : decode cX7_goesMinute 155 = .ok (.iaload, 1) := by decide +kernel
theorem dX7_goesMinute_156 : decode cX7_goesMinute 156 = .ok (.invokevirtual 201, 3) := by decide +kernel
theorem dX7_goesMinute_159 : decode cX7_goesMinute 159 = .ok (.ifCond .eq 11, 3) := by decide +kernel
theorem dX7_goesMinute_162 : decode cX7_goesMinute 162 = .ok (.aload_n 0, 1) := by decide +kernel
theorem dX7_goesMinute_163 : decode cX7_goesMinute 163 = .ok (.iload_n 1, 1) := by decide +kernel
theorem dX7_goesMinute_164 : decode cX7_goesMinute 164 = .ok (.invokevirtual 197, 3) := by decide +kernel
theorem dX7_goesMinute_167 : decode cX7_goesMinute 167 = .ok (.goto (-26), 3) := by decide +kernel
theorem dX7_goesMinute_170 : decode cX7_goesMinute 170 = .ok (.iinc 1 1, 3) := by decide +kernel
theorem dX7_goesMinute_173 : decode cX7_goesMinute 173 = .ok (.goto (-32), 3) := by decide +kernel
theorem dX7_goesMinute_176 : decode cX7_goesMinute 176 = .ok (.aload_n 0, 1) := by decide +kernel
theorem dX7_goesMinute_177 : decode cX7_goesMinute 177 = .ok (.invokevirtual 204, 3) := by decide +kernel
theorem dX7_goesMinute_180 : decode cX7_goesMinute 180 = .ok (.aload_n 0, 1) := by decide +kernel
theorem dX7_goesMinute_181 : decode cX7_goesMinute 181 = .ok (.dup, 1) := by decide +kernel
theorem dX7_goesMinute_182 : decode cX7_goesMinute 182 = .ok (.getfield 122, 3) := by decide +kernel
theorem dX7_goesMinute_185 : decode cX7_goesMinute 185 = .ok (.iconst 1, 1) := by decide +kernel
theorem dX7_goesMinute_186 : decode cX7_goesMinute 186 = .ok (.iadd, 1) := by decide +kernel
theorem dX7_goesMinute_187 : decode cX7_goesMinute 187 = .ok (.putfield 122, 3) := by decide +kernel
theorem dX7_goesMinute_190 : decode cX7_goesMinute 190 = .ok (.return_, 1) := by decide +kernel
theorem dX7_isOver_0 : decode cX7_isOver 0 = .ok (.aload_n 0, 1) := by decide +kernel
theorem dX7_isOver_1 : decode cX7_isOver 1 = .ok (.getfield 122, 3) := by decide +kernel
theorem dX7_isOver_4 : decode cX7_isOver 4 = .ok (.sipush 180, 3) := by decide +kernel
theorem dX7_isOver_7 : decode cX7_isOver 7 = .ok (.if_icmp .lt 5, 3) := by decide +kernel
theorem dX7_isOver_10 : decode cX7_isOver 10 = .ok (.iconst 1, 1) := by decide +kernel
theorem dX7_isOver_11 : decode cX7_isOver 11 = .ok (.ireturn, 1) := by decide +kernel
theorem dX7_isOver_12 : decode cX7_isOver 12 = .ok (.iconst 0, 1) := by decide +kernel
theorem dX7_isOver_13 : decode cX7_isOver 13 = .ok (.istore_n 1, 1) := by decide +kernel
theorem dX7_isOver_14 : decode cX7_isOver 14 = .ok (.iload_n 1, 1) := by decide +kernel
theorem dX7_isOver_15 : decode cX7_isOver 15 = .ok (.aload_n 0, 1) := by decide +kernel
theorem dX7_isOver_16 : decode cX7_isOver 16 = .ok (.getfield 77, 3) := by decide +kernel
theorem dX7_isOver_19 : decode cX7_isOver 19 = .ok (.if_icmp .ge 30, 3) := by decide +kernel
theorem dX7_isOver_22 : decode cX7_isOver 22 = .ok (.aload_n 0, 1) := by decide +kernel
theorem dX7_isOver_23 : decode cX7_isOver 23 = .ok (.getfield 31, 3) := by decide +kernel
theorem dX7_isOver_26 : decode cX7_isOver 26 = .ok (.iload_n 1, 1) := by decide +kernel
theorem dX7_isOver_27 : decode cX7_isOver 27 = .ok (.iaload, 1) := by decide +kernel
theorem dX7_isOver_28 : decode cX7_isOver 28 = .ok (.ifCond .eq 13, 3) := by decide +kernel
theorem dX7_isOver_31 : decode cX7_isOver 31 = .ok (.aload_n 0, 1) := by decide +kernel
theorem dX7_isOver_32 : decode cX7_isOver 32 = .ok (.getfield 31, 3) := by decide +kernel
theorem dX7_isOver_35 : decode cX7_isOver 35 = .ok (.iload_n 1, 1) := by decide +kernel
theorem dX7_isOver_36 : decode cX7_isOver 36 = .ok (.iaload, 1) := by decide +kernel
theorem dX7_isOver_37 : decode cX7_isOver 37 = .ok (.iconst 1, 1) := by decide +kernel
theorem dX7_isOver_38 : decode cX7_isOver 38 = .ok (.if_icmp .ne 5, 3) := by decide +kernel
theorem dX7_isOver_41 : decode cX7_isOver 41 = .ok (.iconst 0, 1) := by decide +kernel
theorem dX7_isOver_42 : decode cX7_isOver 42 = .ok (.ireturn, 1) := by decide +kernel
theorem dX7_isOver_43 : decode cX7_isOver 43 = .ok (.iinc 1 1, 3) := by decide +kernel
theorem dX7_isOver_46 : decode cX7_isOver 46 = .ok (.goto (-32), 3) := by decide +kernel
theorem dX7_isOver_49 : decode cX7_isOver 49 = .ok (.aload_n 0, 1) := by decide +kernel
theorem dX7_isOver_50 : decode cX7_isOver 50 = .ok (.iconst 0, 1) := by decide +kernel
theorem dX7_isOver_51 : decode cX7_isOver 51 = .ok (.invokevirtual 184, 3) := by decide +kernel
theorem dX7_isOver_54 : decode cX7_isOver 54 = .ok (.ifCond .eq 15, 3) := by decide +kernel
theorem dX7_isOver_57 : decode cX7_isOver 57 = .ok (.aload_n 0, 1) := by decide +kernel
theorem dX7_isOver_58 : decode cX7_isOver 58 = .ok (.iconst 1, 1) := by decide +kernel
theorem dX7_isOver_59 : decode cX7_isOver 59 = .ok (.invokevirtual 184, 3) := by decide +kernel
theorem dX7_isOver_62 : decode cX7_isOver 62 = .ok (.ifCond .eq 7, 3) := by decide +kernel
theorem dX7_isOver_65 : decode cX7_isOver 65 = .ok (.iconst 1, 1) := by decide +kernel
theorem dX7_isOver_66 : decode cX7_isOver 66 = .ok (.goto 4, 3) := by decide +kernel
theorem dX7_isOver_69 : decode cX7_isOver 69 = .ok (.iconst 0, 1) := by decide +kernel
theorem dX7_isOver_70 : decode cX7_isOver 70 = .ok (.ireturn, 1) := by decide +kernel
theorem dX7_goesToEnd_0 : decode cX7_goesToEnd 0 = .ok (.aload_n 0, 1) := by decide +kernel
theorem dX7_goesToEnd_1 : decode cX7_goesToEnd 1 = .ok (.iconst 0, 1) := by decide +kernel
theorem dX7_goesToEnd_2 : decode cX7_goesToEnd 2 = .ok (.putfield 181, 3) := by decide +kernel
theorem dX7_goesToEnd_5 : decode cX7_goesToEnd 5 = .ok (.aload_n 0, 1) := by decide +kernel
theorem dX7_goesToEnd_6 : decode cX7_goesToEnd 6 = .ok (.invokevirtual 207, 3) := by decide +kernel
theorem dX7_goesToEnd_9 : decode cX7_goesToEnd 9 = .ok (.ifCond .ne 10, 3) := by decide +kernel
theorem dX7_goesToEnd_12 : decode cX7_goesToEnd 12 = .ok (.aload_n 0, 1) := by decide +kernel
theorem dX7_goesToEnd_13 : decode cX7_goesToEnd 13 = .ok (.invokevirtual 210, 3) := by decide +kernel
theorem dX7_goesToEnd_16 : decode cX7_goesToEnd 16 = .ok (.goto (-11), 3) := by decide +kernel
theorem dX7_goesToEnd_19 : decode cX7_goesToEnd 19 = .ok (.return_, 1) := by decide +kernel
theorem dX7_begins_0 : decode cX7_begins 0 = .ok (.aload_n 0, 1) := by decide +kernel
theorem dX7_begins_1 : decode cX7_begins 1 = .ok (.iconst 0, 1) := by decide +kernel
theorem dX7_begins_2 : decode cX7_begins 2 = .ok (.putfield 122, 3) := by decide +kernel
theorem dX7_begins_5 : decode cX7_begins 5 = .ok (.aload_n 0, 1) := by decide +kernel
theorem dX7_begins_6 : decode cX7_begins 6 = .ok (.iconst 0, 1) := by decide +kernel
theorem dX7_begins_7 : decode cX7_begins 7 = .ok (.putfield 160, 3) := by decide +kernel
theorem dX7_begins_10 : decode cX7_begins 10 = .ok (.iconst 0, 1) := by decide +kernel
theorem dX7_begins_11 : decode cX7_begins 11 = .ok (.istore_n 1, 1) := by decide +kernel
theorem dX7_begins_12 : decode cX7_begins 12 = .ok (.iload_n 1, 1) := by decide +kernel
theorem dX7_begins_13 : decode cX7_begins 13 = .ok (.bipush 8, 2) := by decide +kernel
theorem dX7_begins_15 : decode cX7_begins 15 = .ok (.if_icmp .ge 23, 3) := by decide +kernel
theorem dX7_begins_18 : decode cX7_begins 18 = .ok (.aload_n 0, 1) := by decide +kernel
theorem dX7_begins_19 : decode cX7_begins 19 = .ok (.getfield 31, 3) := by decide +kernel
theorem dX7_begins_22 : decode cX7_begins 22 = .ok (.iload_n 1, 1) := by decide +kernel
theorem dX7_begins_23 : decode cX7_begins 23 = .ok (.iconst 0, 1) := by decide +kernel
theorem dX7_begins_24 : decode cX7_begins 24 = .ok (.iastore, 1) := by decide +kernel
theorem dX7_begins_25 : decode cX7_begins 25 = .ok (.aload_n 0, 1) := by decide +kernel
theorem dX7_begins_26 : decode cX7_begins 26 = .ok (.getfield 34, 3) := by decide +kernel
theorem dX7_begins_29 : decode cX7_begins 29 = .ok (.iload_n 1, 1) := by decide +kernel
theorem dX7_begins_30 : decode cX7_begins 30 = .ok (.iconst 0, 1) := by decide +kernel
theorem dX7_begins_31 : decode cX7_begins 31 = .ok (.iastore, 1) := by decide +kernel
theorem dX7_begins_32 : decode cX7_begins 32 = .ok (.iinc 1 1, 3) := by decide +kernel
theorem dX7_begins_35 : decode cX7_begins 35 = .ok (.goto (-23), 3) := by decide +kernel
theorem dX7_begins_38 : decode cX7_begins 38 = .ok (.iconst 0, 1) := by decide +kernel
theorem dX7_begins_39 : decode cX7_begins 39 = .ok (.istore_n 1, 1) := by decide +kernel
theorem dX7_begins_40 : decode cX7_begins 40 = .ok (.iload_n 1, 1) := by decide +kernel
theorem dX7_begins_41 : decode cX7_begins 41 = .ok (.iconst 2, 1) := by decide +kernel
theorem dX7_begins_42 : decode cX7_begins 42 = .ok (.if_icmp .ge 45, 3) := by decide +kernel
theorem dX7_begins_45 : decode cX7_begins 45 = .ok (.aload_n 0, 1) := by decide +kernel
theorem dX7_begins_46 : decode cX7_begins 46 = .ok (.getfield 40, 3) := by decide +kernel
theorem dX7_begins_49 : decode cX7_begins 49 = .ok (.iload_n 1, 1) := by decide +kernel
theorem dX7_begins_50 : decode cX7_begins 50 = .ok (.iconst 0, 1) := by decide +kernel
theorem dX7_begins_51 : decode cX7_begins 51 = .ok (.iastore, 1) := by decide +kernel
theorem dX7_begins_52 : decode cX7_begins 52 = .ok (.aload_n 0, 1) := by decide +kernel
theorem dX7_begins_53 : decode cX7_begins 53 = .ok (.getfield 43, 3) := by decide +kernel
theorem dX7_begins_56 : decode cX7_begins 56 = .ok (.iload_n 1, 1) := by decide +kernel
theorem dX7_begins_57 : decode cX7_begins 57 = .ok (.iconst 0, 1) := by decide +kernel
theorem dX7_begins_58 : decode cX7_begins 58 = .ok (.iastore, 1) := by decide +kernel
theorem dX7_begins_59 : decode cX7_begins 59 = .ok (.aload_n 0, 1) := by decide +kernel
theorem dX7_begins_60 : decode cX7_begins 60 = .ok (.getfield 46, 3) := by decide +kernel
theorem dX7_begins_63 : decode cX7_begins 63 = .ok (.iload_n 1, 1) := by decide +kernel
theorem dX7_begins_64 : decode cX7_begins 64 = .ok (.iconst 0, 1) := by decide +kernel
theorem dX7_begins_65 : decode cX7_begins 65 = .ok (.iastore, 1) := by decide +kernel
theorem dX7_begins_66 : decode cX7_begins 66 = .ok (.aload_n 0, 1) := by decide +kernel
theorem dX7_begins_67 : decode cX7_begins 67 = .ok (.getfield 49, 3) := by decide +kernel
theorem dX7_begins_70 : decode cX7_begins 70 = .ok (.iload_n 1, 1) := by decide +kernel
theorem dX7_begins_71 : decode cX7_begins 71 = .ok (.iconst 0, 1) := by decide +kernel
theorem dX7_begins_72 : decode cX7_begins 72 = .ok (.iastore, 1) := by decide +kernel
theorem dX7_begins_73 : decode cX7_begins 73 = .ok (.aload_n 0, 1) := by decide +kernel
theorem dX7_begins_74 : decode cX7_begins 74 = .ok (.getfield 52, 3) := by decide +kernel
theorem dX7_begins_77 : decode cX7_begins 77 = .ok (.iload_n 1, 1) := by decide +kernel
theorem dX7_begins_78 : decode cX7_begins 78 = .ok (.bipush (-9), 2) := by decide +kernel
theorem dX7_begins_80 : decode cX7_begins 80 = .ok (.iastore, 1) := by decide +kernel
theorem dX7_begins_81 : decode cX7_begins 81 = .ok (.iinc 1 1, 3) := by decide +kernel
theorem dX7_begins_84 : decode cX7_begins 84 = .ok (.goto (-44), 3) := by decide +kernel
theorem dX7_begins_87 : decode cX7_begins 87 = .ok (.return_, 1) := by decide +kernel
theorem dX7_stateMany_0 : decode cX7_stateMany 0 = .ok (.iconst 0, 1) := by decide +kernel
theorem dX7_stateMany_1 : decode cX7_stateMany 1 = .ok (.istore_n 2, 1) := by decide +kernel
theorem dX7_stateMany_2 : decode cX7_stateMany 2 = .ok (.iconst 0, 1) := by decide +kernel
theorem dX7_stateMany_3 : decode cX7_stateMany 3 = .ok (.istore_n 3, 1) := by decide +kernel
theorem dX7_stateMany_4 : decode cX7_stateMany 4 = .ok (.iload_n 3, 1) := by decide +kernel
theorem dX7_stateMany_5 : decode cX7_stateMany 5 = .ok (.aload_n 0, 1) := by decide +kernel
theorem dX7_stateMany_6 : decode cX7_stateMany 6 = .ok (.getfield 77, 3) := by decide +kernel
theorem dX7_stateMany_9 : decode cX7_stateMany 9 = .ok (.if_icmp .ge 27, 3) := by decide +kernel
theorem dX7_stateMany_12 : decode cX7_stateMany 12 = .ok (.iload_n 2, 1) := by decide +kernel
theorem dX7_stateMany_13 : decode cX7_stateMany 13 = .ok (.aload_n 0, 1) := by decide +kernel
theorem dX7_stateMany_14 : decode cX7_stateMany 14 = .ok (.getfield 31, 3) := by decide +kernel
theorem dX7_stateMany_17 : decode cX7_stateMany 17 = .ok (.iload_n 3, 1) := by decide +kernel
theorem dX7_stateMany_18 : decode cX7_stateMany 18 = .ok (.iaload, 1) := by decide +kernel
theorem dX7_stateMany_19 : decode cX7_stateMany 19 = .ok (.iload_n 1, 1) := by decide +kernel
theorem dX7_stateMany_20 : decode cX7_stateMany 20 = .ok (.if_icmp .ne 7, 3) := by decide +kernel
theorem dX7_stateMany_23 : decode cX7_stateMany 23 = .ok (.iconst 1, 1) := by decide +kernel
theorem dX7_stateMany_24 : decode cX7_stateMany 24 = .ok (.goto 4, 3) := by decide +kernel
theorem dX7_stateMany_27 : decode cX7_stateMany 27 = .ok (.iconst 0, 1) := by decide +kernel
theorem dX7_stateMany_28 : decode cX7_stateMany 28 = .ok (.iadd, 1) := by decide +kernel
theorem dX7_stateMany_29 : decode cX7_stateMany 29 = .ok (.istore_n 2, 1) := by decide +kernel
theorem dX7_stateMany_30 : decode cX7_stateMany 30 = .ok (.iinc 3 1, 3) := by decide +kernel
theorem dX7_stateMany_33 : decode cX7_stateMany 33 = .ok (.goto (-29), 3) := by decide +kernel
theorem dX7_stateMany_36 : decode cX7_stateMany 36 = .ok (.iload_n 2, 1) := by decide +kernel
theorem dX7_stateMany_37 : decode cX7_stateMany 37 = .ok (.ireturn, 1) := by decide +kernel
theorem dX7_waitedAll_0 : decode cX7_waitedAll 0 = .ok (.iconst 0, 1) := by decide +kernel
theorem dX7_waitedAll_1 : decode cX7_waitedAll 1 = .ok (.istore_n 1, 1) := by decide +kernel
theorem dX7_waitedAll_2 : decode cX7_waitedAll 2 = .ok (.iconst 0, 1) := by decide +kernel
theorem dX7_waitedAll_3 : decode cX7_waitedAll 3 = .ok (.istore_n 2, 1) := by decide +kernel
theorem dX7_waitedAll_4 : decode cX7_waitedAll 4 = .ok (.iload_n 2, 1) := by decide +kernel
theorem dX7_waitedAll_5 : decode cX7_waitedAll 5 = .ok (.aload_n 0, 1) := by decide +kernel
theorem dX7_waitedAll_6 : decode cX7_waitedAll 6 = .ok (.getfield 77, 3) := by decide +kernel
theorem dX7_waitedAll_9 : decode cX7_waitedAll 9 = .ok (.if_icmp .ge 18, 3) := by decide +kernel
theorem dX7_waitedAll_12 : decode cX7_waitedAll 12 = .ok (.iload_n 1, 1) := by decide +kernel
theorem dX7_waitedAll_13 : decode cX7_waitedAll 13 = .ok (.aload_n 0, 1) := by decide +kernel
theorem dX7_waitedAll_14 : decode cX7_waitedAll 14 = .ok (.getfield 34, 3) := by decide +kernel
theorem dX7_waitedAll_17 : decode cX7_waitedAll 17 = .ok (.iload_n 2, 1) := by decide +kernel
theorem dX7_waitedAll_18 : decode cX7_waitedAll 18 = .ok (.iaload, 1) := by decide +kernel
theorem dX7_waitedAll_19 : decode cX7_waitedAll 19 = .ok (.iadd, 1) := by decide +kernel
theorem dX7_waitedAll_20 : decode cX7_waitedAll 20 = .ok (.istore_n 1, 1) := by decide +kernel
theorem dX7_waitedAll_21 : decode cX7_waitedAll 21 = .ok (.iinc 2 1, 3) := by decide +kernel
theorem dX7_waitedAll_24 : decode cX7_waitedAll 24 = .ok (.goto (-20), 3) := by decide +kernel
theorem dX7_waitedAll_27 : decode cX7_waitedAll 27 = .ok (.iload_n 1, 1) := by decide +kernel
theorem dX7_waitedAll_28 : decode cX7_waitedAll 28 = .ok (.ireturn, 1) := by decide +kernel
theorem dX7_costNow_0 : decode cX7_costNow 0 = .ok (.aload_n 0, 1) := by decide +kernel
theorem dX7_costNow_1 : decode cX7_costNow 1 = .ok (.invokevirtual 213, 3) := by decide +kernel
theorem dX7_costNow_4 : decode cX7_costNow 4 = .ok (.aload_n 0, 1) := by decide +kernel
theorem dX7_costNow_5 : decode cX7_costNow 5 = .ok (.getfield 13, 3) := by decide +kernel
theorem dX7_costNow_8 : decode cX7_costNow 8 = .ok (.iconst 4, 1) := by decide +kernel
theorem dX7_costNow_9 : decode cX7_costNow 9 = .ok (.iaload, 1) := by decide +kernel
theorem dX7_costNow_10 : decode cX7_costNow 10 = .ok (.imul, 1) := by decide +kernel
theorem dX7_costNow_11 : decode cX7_costNow 11 = .ok (.aload_n 0, 1) := by decide +kernel
theorem dX7_costNow_12 : decode cX7_costNow 12 = .ok (.getfield 40, 3) := by decide +kernel
theorem dX7_costNow_15 : decode cX7_costNow 15 = .ok (.iconst 0, 1) := by decide +kernel
theorem dX7_costNow_16 : decode cX7_costNow 16 = .ok (.iaload, 1) := by decide +kernel
theorem dX7_costNow_17 : decode cX7_costNow 17 = .ok (.aload_n 0, 1) := by decide +kernel
theorem dX7_costNow_18 : decode cX7_costNow 18 = .ok (.getfield 40, 3) := by decide +kernel
theorem dX7_costNow_21 : decode cX7_costNow 21 = .ok (.iconst 1, 1) := by decide +kernel
theorem dX7_costNow_22 : decode cX7_costNow 22 = .ok (.iaload, 1) := by decide +kernel
theorem dX7_costNow_23 : decode cX7_costNow 23 = .ok (.iadd, 1) := by decide +kernel
theorem dX7_costNow_24 : decode cX7_costNow 24 = .ok (.aload_n 0, 1) := by decide +kernel
theorem dX7_costNow_25 : decode cX7_costNow 25 = .ok (.getfield 13, 3) := by decide +kernel
theorem dX7_costNow_28 : decode cX7_costNow 28 = .ok (.iconst 5, 1) := by decide +kernel
theorem dX7_costNow_29 : decode cX7_costNow 29 = .ok (.iaload, 1) := by decide +kernel
theorem dX7_costNow_30 : decode cX7_costNow 30 = .ok (.imul, 1) := by decide +kernel
theorem dX7_costNow_31 : decode cX7_costNow 31 = .ok (.iadd, 1) := by decide +kernel
theorem dX7_costNow_32 : decode cX7_costNow 32 = .ok (.bipush 9, 2) := by decide +kernel
theorem dX7_costNow_34 : decode cX7_costNow 34 = .ok (.aload_n 0, 1) := by decide +kernel
theorem dX7_costNow_35 : decode cX7_costNow 35 = .ok (.iconst 3, 1) := by decide +kernel
theorem dX7_costNow_36 : decode cX7_costNow 36 = .ok (.invokevirtual 216, 3) := by decide +kernel
theorem dX7_costNow_39 : decode cX7_costNow 39 = .ok (.imul, 1) := by decide +kernel
theorem dX7_costNow_40 : decode cX7_costNow 40 = .ok (.iadd, 1) := by decide +kernel
theorem dX7_costNow_41 : decode cX7_costNow 41 = .ok (.ireturn, 1) := by decide +kernel
theorem dX7_costAnew_0 : decode cX7_costAnew 0 = .ok (.aload_n 0, 1) := by decide +kernel
theorem dX7_costAnew_1 : decode cX7_costAnew 1 = .ok (.invokevirtual 219, 3) := by decide +kernel
theorem dX7_costAnew_4 : decode cX7_costAnew 4 = .ok (.aload_n 0, 1) := by decide +kernel
theorem dX7_costAnew_5 : decode cX7_costAnew 5 = .ok (.invokevirtual 222, 3) := by decide +kernel
theorem dX7_costAnew_8 : decode cX7_costAnew 8 = .ok (.aload_n 0, 1) := by decide +kernel
theorem dX7_costAnew_9 : decode cX7_costAnew 9 = .ok (.invokevirtual 225, 3) := by decide +kernel
theorem dX7_costAnew_12 : decode cX7_costAnew 12 = .ok (.ireturn, 1) := by decide +kernel
theorem dX7_comer_0 : decode cX7_comer 0 = .ok (.aload_n 0, 1) := by decide +kernel
theorem dX7_comer_1 : decode cX7_comer 1 = .ok (.iload_n 1, 1) := by decide +kernel
theorem dX7_comer_2 : decode cX7_comer 2 = .ok (.invokevirtual 132, 3) := by decide +kernel
theorem dX7_comer_5 : decode cX7_comer 5 = .ok (.ifCond .ne 9, 3) := by decide +kernel
theorem dX7_comer_8 : decode cX7_comer 8 = .ok (.aload_n 0, 1) := by decide +kernel
theorem dX7_comer_9 : decode cX7_comer 9 = .ok (.iconst (-1), 1) := by decide +kernel
theorem dX7_comer_10 : decode cX7_comer 10 = .ok (.invokevirtual 88, 3) := by decide +kernel
theorem dX7_comer_13 : decode cX7_comer 13 = .ok (.ireturn, 1) := by decide +kernel
theorem dX7_comer_14 : decode cX7_comer 14 = .ok (.iload_n 2, 1) := by decide +kernel
theorem dX7_comer_15 : decode cX7_comer 15 = .ok (.tableswitch 106 0 7 #[45, 52, 59, 66, 73, 80, 87, 94], 45) := by decide +kernel
theorem dX7_comer_60 : decode cX7_comer 60 = .ok (.aload_n 0, 1) := by decide +kernel
theorem dX7_comer_61 : decode cX7_comer 61 = .ok (.getfield 16, 3) := by decide +kernel
theorem dX7_comer_64 : decode cX7_comer 64 = .ok (.iload_n 1, 1) := by decide +kernel
theorem dX7_comer_65 : decode cX7_comer 65 = .ok (.iaload, 1) := by decide +kernel
theorem dX7_comer_66 : decode cX7_comer 66 = .ok (.ireturn, 1) := by decide +kernel
theorem dX7_comer_67 : decode cX7_comer 67 = .ok (.aload_n 0, 1) := by decide +kernel
theorem dX7_comer_68 : decode cX7_comer 68 = .ok (.getfield 19, 3) := by decide +kernel
theorem dX7_comer_71 : decode cX7_comer 71 = .ok (.iload_n 1, 1) := by decide +kernel
theorem dX7_comer_72 : decode cX7_comer 72 = .ok (.iaload, 1) := by decide +kernel
theorem dX7_comer_73 : decode cX7_comer 73 = .ok (.ireturn, 1) := by decide +kernel
theorem dX7_comer_74 : decode cX7_comer 74 = .ok (.aload_n 0, 1) := by decide +kernel
theorem dX7_comer_75 : decode cX7_comer 75 = .ok (.getfield 22, 3) := by decide +kernel
theorem dX7_comer_78 : decode cX7_comer 78 = .ok (.iload_n 1, 1) := by decide +kernel
theorem dX7_comer_79 : decode cX7_comer 79 = .ok (.iaload, 1) := by decide +kernel
theorem dX7_comer_80 : decode cX7_comer 80 = .ok (.ireturn, 1) := by decide +kernel
theorem dX7_comer_81 : decode cX7_comer 81 = .ok (.aload_n 0, 1) := by decide +kernel
theorem dX7_comer_82 : decode cX7_comer 82 = .ok (.getfield 25, 3) := by decide +kernel
theorem dX7_comer_85 : decode cX7_comer 85 = .ok (.iload_n 1, 1) := by decide +kernel
theorem dX7_comer_86 : decode cX7_comer 86 = .ok (.iaload, 1) := by decide +kernel
theorem dX7_comer_87 : decode cX7_comer 87 = .ok (.ireturn, 1) := by decide +kernel
theorem dX7_comer_88 : decode cX7_comer 88 = .ok (.aload_n 0, 1) := by decide +kernel
theorem dX7_comer_89 : decode cX7_comer 89 = .ok (.getfield 28, 3) := by decide +kernel
theorem dX7_comer_92 : decode cX7_comer 92 = .ok (.iload_n 1, 1) := by decide +kernel
theorem dX7_comer_93 : decode cX7_comer 93 = .ok (.iaload, 1) := by decide +kernel
theorem dX7_comer_94 : decode cX7_comer 94 = .ok (.ireturn, 1) := by decide +kernel
theorem dX7_comer_95 : decode cX7_comer 95 = .ok (.aload_n 0, 1) := by decide +kernel
theorem dX7_comer_96 : decode cX7_comer 96 = .ok (.getfield 31, 3) := by decide +kernel
theorem dX7_comer_99 : decode cX7_comer 99 = .ok (.iload_n 1, 1) := by decide +kernel
theorem dX7_comer_100 : decode cX7_comer 100 = .ok (.iaload, 1) := by decide +kernel
theorem dX7_comer_101 : decode cX7_comer 101 = .ok (.ireturn, 1) := by decide +kernel
theorem dX7_comer_102 : decode cX7_comer 102 = .ok (.aload_n 0, 1) := by decide +kernel
theorem dX7_comer_103 : decode cX7_comer 103 = .ok (.getfield 34, 3) := by decide +kernel
theorem dX7_comer_106 : decode cX7_comer 106 = .ok (.iload_n 1, 1) := by decide +kernel
theorem dX7_comer_107 : decode cX7_comer 107 = .ok (.iaload, 1) := by decide +kernel
theorem dX7_comer_108 : decode cX7_comer 108 = .ok (.ireturn, 1) := by decide +kernel
theorem dX7_comer_109 : decode cX7_comer 109 = .ok (.aload_n 0, 1) := by decide +kernel
theorem dX7_comer_110 : decode cX7_comer 110 = .ok (.iload_n 1, 1) := by decide +kernel
theorem dX7_comer_111 : decode cX7_comer 111 = .ok (.aload_n 0, 1) := by decide +kernel
theorem dX7_comer_112 : decode cX7_comer 112 = .ok (.getfield 16, 3) := by decide +kernel
theorem dX7_comer_115 : decode cX7_comer 115 = .ok (.iload_n 1, 1) := by decide +kernel
theorem dX7_comer_116 : decode cX7_comer 116 = .ok (.iaload, 1) := by decide +kernel
theorem dX7_comer_117 : decode cX7_comer 117 = .ok (.invokevirtual 175, 3) := by decide +kernel
theorem dX7_comer_120 : decode cX7_comer 120 = .ok (.ireturn, 1) := by decide +kernel
theorem dX7_comer_121 : decode cX7_comer 121 = .ok (.aload_n 0, 1) := by decide +kernel
theorem dX7_comer_122 : decode cX7_comer 122 = .ok (.bipush (-2), 2) := by decide +kernel
theorem dX7_comer_124 : decode cX7_comer 124 = .ok (.invokevirtual 88, 3) := by decide +kernel
theorem dX7_comer_127 : decode cX7_comer 127 = .ok (.ireturn, 1) := by decide +kernel
theorem dX7_kind_0 : decode cX7_kind 0 = .ok (.aload_n 0, 1) := by decide +kernel
theorem dX7_kind_1 : decode cX7_kind 1 = .ok (.iload_n 1, 1) := by decide +kernel
theorem dX7_kind_2 : decode cX7_kind 2 = .ok (.invokevirtual 132, 3) := by decide +kernel
theorem dX7_kind_5 : decode cX7_kind 5 = .ok (.ifCond .ne 7, 3) := by decide +kernel
theorem dX7_kind_8 : decode cX7_kind 8 = .ok (.iconst (-1), 1) := by decide +kernel
theorem dX7_kind_9 : decode cX7_kind 9 = .ok (.goto 25, 3) := by decide +kernel
theorem dX7_kind_12 : decode cX7_kind 12 = .ok (.iload_n 2, 1) := by decide +kernel
theorem dX7_kind_13 : decode cX7_kind 13 = .ok (.iconst 0, 1) := by decide +kernel
theorem dX7_kind_14 : decode cX7_kind 14 = .ok (.bipush 6, 2) := by decide +kernel
theorem dX7_kind_16 : decode cX7_kind 16 = .ok (.invokestatic 99, 3) := by decide +kernel
theorem dX7_kind_19 : decode cX7_kind 19 = .ok (.ifCond .ne 8, 3) := by decide +kernel
theorem dX7_kind_22 : decode cX7_kind 22 = .ok (.bipush (-2), 2) := by decide +kernel
theorem dX7_kind_24 : decode cX7_kind 24 = .ok (.goto 10, 3) := by decide +kernel
theorem dX7_kind_27 : decode cX7_kind 27 = .ok (.iload_n 3, 1) := by decide +kernel
theorem dX7_kind_28 : decode cX7_kind 28 = .ok (.iconst 0, 1) := by decide +kernel
theorem dX7_kind_29 : decode cX7_kind 29 = .ok (.bipush 9, 2) := by decide +kernel
theorem dX7_kind_31 : decode cX7_kind 31 = .ok (.invokestatic 81, 3) := by decide +kernel
theorem dX7_kind_34 : decode cX7_kind 34 = .ok (.istore 4, 2) := by decide +kernel
theorem dX7_kind_36 : decode cX7_kind 36 = .ok (.iload 4, 2) := by decide +kernel
theorem dX7_kind_38 : decode cX7_kind 38 = .ok (.ifCond .eq 10, 3) := by decide +kernel
theorem dX7_kind_41 : decode cX7_kind 41 = .ok (.aload_n 0, 1) := by decide +kernel
theorem dX7_kind_42 : decode cX7_kind 42 = .ok (.iload 4, 2) := by decide +kernel
theorem dX7_kind_44 : decode cX7_kind 44 = .ok (.invokevirtual 88, 3) := by decide +kernel
theorem dX7_kind_47 : decode cX7_kind 47 = .ok (.ireturn, 1) := by decide +kernel
theorem dX7_kind_48 : decode cX7_kind 48 = .ok (.bipush 10, 2) := by decide +kernel
theorem dX7_kind_50 : decode cX7_kind 50 = .ok (.aload_n 0, 1) := by decide +kernel
theorem dX7_kind_51 : decode cX7_kind 51 = .ok (.getfield 16, 3) := by decide +kernel
theorem dX7_kind_54 : decode cX7_kind 54 = .ok (.iload_n 1, 1) := by decide +kernel
theorem dX7_kind_55 : decode cX7_kind 55 = .ok (.iaload, 1) := by decide +kernel
theorem dX7_kind_56 : decode cX7_kind 56 = .ok (.imul, 1) := by decide +kernel
theorem dX7_kind_57 : decode cX7_kind 57 = .ok (.aload_n 0, 1) := by decide +kernel
theorem dX7_kind_58 : decode cX7_kind 58 = .ok (.getfield 19, 3) := by decide +kernel
theorem dX7_kind_61 : decode cX7_kind 61 = .ok (.iload_n 1, 1) := by decide +kernel
theorem dX7_kind_62 : decode cX7_kind 62 = .ok (.iaload, 1) := by decide +kernel
theorem dX7_kind_63 : decode cX7_kind 63 = .ok (.iadd, 1) := by decide +kernel
theorem dX7_kind_64 : decode cX7_kind 64 = .ok (.istore 5, 2) := by decide +kernel
theorem dX7_kind_66 : decode cX7_kind 66 = .ok (.aload_n 0, 1) := by decide +kernel
theorem dX7_kind_67 : decode cX7_kind 67 = .ok (.getfield 16, 3) := by decide +kernel
theorem dX7_kind_70 : decode cX7_kind 70 = .ok (.iload_n 1, 1) := by decide +kernel
theorem dX7_kind_71 : decode cX7_kind 71 = .ok (.iload_n 2, 1) := by decide +kernel
theorem dX7_kind_72 : decode cX7_kind 72 = .ok (.iastore, 1) := by decide +kernel
theorem dX7_kind_73 : decode cX7_kind 73 = .ok (.aload_n 0, 1) := by decide +kernel
theorem dX7_kind_74 : decode cX7_kind 74 = .ok (.getfield 19, 3) := by decide +kernel
theorem dX7_kind_77 : decode cX7_kind 77 = .ok (.iload_n 1, 1) := by decide +kernel
theorem dX7_kind_78 : decode cX7_kind 78 = .ok (.iload_n 3, 1) := by decide +kernel
theorem dX7_kind_79 : decode cX7_kind 79 = .ok (.iastore, 1) := by decide +kernel
theorem dX7_kind_80 : decode cX7_kind 80 = .ok (.iload 5, 2) := by decide +kernel
theorem dX7_kind_82 : decode cX7_kind 82 = .ok (.ireturn, 1) := by decide +kernel
theorem dX7_kettle_0 : decode cX7_kettle 0 = .ok (.iload_n 1, 1) := by decide +kernel
theorem dX7_kettle_1 : decode cX7_kettle 1 = .ok (.iconst 0, 1) := by decide +kernel
theorem dX7_kettle_2 : decode cX7_kettle 2 = .ok (.aload_n 0, 1) := by decide +kernel
theorem dX7_kettle_3 : decode cX7_kettle 3 = .ok (.getfield 13, 3) := by decide +kernel
theorem dX7_kettle_6 : decode cX7_kettle 6 = .ok (.bipush 7, 2) := by decide +kernel
theorem dX7_kettle_8 : decode cX7_kettle 8 = .ok (.iaload, 1) := by decide +kernel
theorem dX7_kettle_9 : decode cX7_kettle 9 = .ok (.iconst 1, 1) := by decide +kernel
theorem dX7_kettle_10 : decode cX7_kettle 10 = .ok (.isub, 1) := by decide +kernel
theorem dX7_kettle_11 : decode cX7_kettle 11 = .ok (.invokestatic 99, 3) := by decide +kernel
theorem dX7_kettle_14 : decode cX7_kettle 14 = .ok (.ifCond .ne 9, 3) := by decide +kernel
theorem dX7_kettle_17 : decode cX7_kettle 17 = .ok (.aload_n 0, 1) := by decide +kernel
theorem dX7_kettle_18 : decode cX7_kettle 18 = .ok (.iconst (-1), 1) := by decide +kernel
theorem dX7_kettle_19 : decode cX7_kettle 19 = .ok (.invokevirtual 88, 3) := by decide +kernel
theorem dX7_kettle_22 : decode cX7_kettle 22 = .ok (.ireturn, 1) := by decide +kernel
theorem dX7_kettle_23 : decode cX7_kettle 23 = .ok (.iload_n 2, 1) := by decide +kernel
theorem dX7_kettle_24 : decode cX7_kettle 24 = .ok (.tableswitch 77 0 3 #[32, 39, 46, 53], 32) := by decide +kernel
theorem dX7_kettle_56 : decode cX7_kettle 56 = .ok (.aload_n 0, 1) := by decide +kernel
theorem dX7_kettle_57 : decode cX7_kettle 57 = .ok (.getfield 40, 3) := by decide +kernel
theorem dX7_kettle_60 : decode cX7_kettle 60 = .ok (.iload_n 1, 1) := by decide +kernel
theorem dX7_kettle_61 : decode cX7_kettle 61 = .ok (.iaload, 1) := by decide +kernel
theorem dX7_kettle_62 : decode cX7_kettle 62 = .ok (.ireturn, 1) := by decide +kernel
theorem dX7_kettle_63 : decode cX7_kettle 63 = .ok (.aload_n 0, 1) := by decide +kernel
theorem dX7_kettle_64 : decode cX7_kettle 64 = .ok (.getfield 43, 3) := by decide +kernel
theorem dX7_kettle_67 : decode cX7_kettle 67 = .ok (.iload_n 1, 1) := by decide +kernel
theorem dX7_kettle_68 : decode cX7_kettle 68 = .ok (.iaload, 1) := by decide +kernel
theorem dX7_kettle_69 : decode cX7_kettle 69 = .ok (.ireturn, 1) := by decide +kernel
theorem dX7_kettle_70 : decode cX7_kettle 70 = .ok (.aload_n 0, 1) := by decide +kernel
theorem dX7_kettle_71 : decode cX7_kettle 71 = .ok (.getfield 46, 3) := by decide +kernel
theorem dX7_kettle_74 : decode cX7_kettle 74 = .ok (.iload_n 1, 1) := by decide +kernel
theorem dX7_kettle_75 : decode cX7_kettle 75 = .ok (.iaload, 1) := by decide +kernel
theorem dX7_kettle_76 : decode cX7_kettle 76 = .ok (.ireturn, 1) := by decide +kernel
theorem dX7_kettle_77 : decode cX7_kettle 77 = .ok (.aload_n 0, 1) := by decide +kernel
theorem dX7_kettle_78 : decode cX7_kettle 78 = .ok (.iload_n 1, 1) := by decide +kernel
theorem dX7_kettle_79 : decode cX7_kettle 79 = .ok (.invokevirtual 184, 3) := by decide +kernel
theorem dX7_kettle_82 : decode cX7_kettle 82 = .ok (.ifCond .eq 7, 3) := by decide +kernel
theorem dX7_kettle_85 : decode cX7_kettle 85 = .ok (.iconst 0, 1) := by decide +kernel
theorem dX7_kettle_86 : decode cX7_kettle 86 = .ok (.goto 14, 3) := by decide +kernel
theorem dX7_kettle_89 : decode cX7_kettle 89 = .ok (.aload_n 0, 1) := by decide +kernel
theorem dX7_kettle_90 : decode cX7_kettle 90 = .ok (.getfield 49, 3) := by decide +kernel
theorem dX7_kettle_93 : decode cX7_kettle 93 = .ok (.iload_n 1, 1) := by decide +kernel
theorem dX7_kettle_94 : decode cX7_kettle 94 = .ok (.iaload, 1) := by decide +kernel
theorem dX7_kettle_95 : decode cX7_kettle 95 = .ok (.aload_n 0, 1) := by decide +kernel
theorem dX7_kettle_96 : decode cX7_kettle 96 = .ok (.getfield 122, 3) := by decide +kernel
theorem dX7_kettle_99 : decode cX7_kettle 99 = .ok (.isub, 1) := by decide +kernel
theorem dX7_kettle_100 : decode cX7_kettle 100 = .ok (.ireturn, 1) := by decide +kernel
theorem dX7_kettle_101 : decode cX7_kettle 101 = .ok (.aload_n 0, 1) := by decide +kernel
theorem dX7_kettle_102 : decode cX7_kettle 102 = .ok (.bipush (-2), 2) := by decide +kernel
theorem dX7_kettle_104 : decode cX7_kettle 104 = .ok (.invokevirtual 88, 3) := by decide +kernel
theorem dX7_kettle_107 : decode cX7_kettle 107 = .ok (.ireturn, 1) := by decide +kernel
theorem dX7_set_0 : decode cX7_set 0 = .ok (.aload_n 0, 1) := by decide +kernel
theorem dX7_set_1 : decode cX7_set 1 = .ok (.iload_n 1, 1) := by decide +kernel
theorem dX7_set_2 : decode cX7_set 2 = .ok (.iload_n 2, 1) := by decide +kernel
theorem dX7_set_3 : decode cX7_set 3 = .ok (.invokevirtual 125, 3) := by decide +kernel
theorem dX7_set_6 : decode cX7_set 6 = .ok (.istore_n 3, 1) := by decide +kernel
theorem dX7_set_7 : decode cX7_set 7 = .ok (.iload_n 3, 1) := by decide +kernel
theorem dX7_set_8 : decode cX7_set 8 = .ok (.ifCond .eq 9, 3) := by decide +kernel
theorem dX7_set_11 : decode cX7_set 11 = .ok (.aload_n 0, 1) := by decide +kernel
theorem dX7_set_12 : decode cX7_set 12 = .ok (.iload_n 3, 1) := by decide +kernel
theorem dX7_set_13 : decode cX7_set 13 = .ok (.invokevirtual 88, 3) := by decide +kernel
theorem dX7_set_16 : decode cX7_set 16 = .ok (.ireturn, 1) := by decide +kernel
theorem dX7_set_17 : decode cX7_set 17 = .ok (.aload_n 0, 1) := by decide +kernel
theorem dX7_set_18 : decode cX7_set 18 = .ok (.getfield 13, 3) := by decide +kernel
theorem dX7_set_21 : decode cX7_set 21 = .ok (.iload_n 1, 1) := by decide +kernel
theorem dX7_set_22 : decode cX7_set 22 = .ok (.iaload, 1) := by decide +kernel
theorem dX7_set_23 : decode cX7_set 23 = .ok (.istore 4, 2) := by decide +kernel
theorem dX7_set_25 : decode cX7_set 25 = .ok (.aload_n 0, 1) := by decide +kernel
theorem dX7_set_26 : decode cX7_set 26 = .ok (.getfield 13, 3) := by decide +kernel
theorem dX7_set_29 : decode cX7_set 29 = .ok (.iload_n 1, 1) := by decide +kernel
theorem dX7_set_30 : decode cX7_set 30 = .ok (.iload_n 2, 1) := by decide +kernel
theorem dX7_set_31 : decode cX7_set 31 = .ok (.iastore, 1) := by decide +kernel
theorem dX7_set_32 : decode cX7_set 32 = .ok (.iload 4, 2) := by decide +kernel
theorem dX7_set_34 : decode cX7_set 34 = .ok (.ireturn, 1) := by decide +kernel
theorem dX7_go_0 : decode cX7_go 0 = .ok (.iload_n 1, 1) := by decide +kernel
theorem dX7_go_1 : decode cX7_go 1 = .ok (.iconst 1, 1) := by decide +kernel
theorem dX7_go_2 : decode cX7_go 2 = .ok (.bipush 60, 2) := by decide +kernel
theorem dX7_go_4 : decode cX7_go 4 = .ok (.invokestatic 81, 3) := by decide +kernel
theorem dX7_go_7 : decode cX7_go 7 = .ok (.istore_n 2, 1) := by decide +kernel
theorem dX7_go_8 : decode cX7_go 8 = .ok (.iload_n 2, 1) := by decide +kernel
theorem dX7_go_9 : decode cX7_go 9 = .ok (.ifCond .ne 13, 3) := by decide +kernel
theorem dX7_go_12 : decode cX7_go 12 = .ok (.aload_n 0, 1) := by decide +kernel
theorem dX7_go_13 : decode cX7_go 13 = .ok (.invokevirtual 207, 3) := by decide +kernel
theorem dX7_go_16 : decode cX7_go 16 = .ok (.ifCond .eq 6, 3) := by decide +kernel
theorem dX7_go_19 : decode cX7_go 19 = .ok (.bipush (-3), 2) := by decide +kernel
theorem dX7_go_21 : decode cX7_go 21 = .ok (.istore_n 2, 1) := by decide +kernel
theorem dX7_go_22 : decode cX7_go 22 = .ok (.iload_n 2, 1) := by decide +kernel
theorem dX7_go_23 : decode cX7_go 23 = .ok (.ifCond .eq 9, 3) := by decide +kernel
theorem dX7_go_26 : decode cX7_go 26 = .ok (.aload_n 0, 1) := by decide +kernel
theorem dX7_go_27 : decode cX7_go 27 = .ok (.iload_n 2, 1) := by decide +kernel
theorem dX7_go_28 : decode cX7_go 28 = .ok (.invokevirtual 88, 3) := by decide +kernel
theorem dX7_go_31 : decode cX7_go 31 = .ok (.ireturn, 1) := by decide +kernel
theorem dX7_go_32 : decode cX7_go 32 = .ok (.iconst 0, 1) := by decide +kernel
theorem dX7_go_33 : decode cX7_go 33 = .ok (.istore_n 3, 1) := by decide +kernel
theorem dX7_go_34 : decode cX7_go 34 = .ok (.iload_n 3, 1) := by decide +kernel
theorem dX7_go_35 : decode cX7_go 35 = .ok (.iload_n 1, 1) := by decide +kernel
theorem dX7_go_36 : decode cX7_go 36 = .ok (.if_icmp .ge 20, 3) := by decide +kernel
theorem dX7_go_39 : decode cX7_go 39 = .ok (.aload_n 0, 1) := by decide +kernel
theorem dX7_go_40 : decode cX7_go 40 = .ok (.invokevirtual 207, 3) := by decide +kernel
theorem dX7_go_43 : decode cX7_go 43 = .ok (.ifCond .ne 13, 3) := by decide +kernel
theorem dX7_go_46 : decode cX7_go 46 = .ok (.aload_n 0, 1) := by decide +kernel
theorem dX7_go_47 : decode cX7_go 47 = .ok (.invokevirtual 210, 3) := by decide +kernel
theorem dX7_go_50 : decode cX7_go 50 = .ok (.iinc 3 1, 3) := by decide +kernel
theorem dX7_go_53 : decode cX7_go 53 = .ok (.goto (-19), 3) := by decide +kernel
theorem dX7_go_56 : decode cX7_go 56 = .ok (.aload_n 0, 1) := by decide +kernel
theorem dX7_go_57 : decode cX7_go 57 = .ok (.getfield 122, 3) := by decide +kernel
theorem dX7_go_60 : decode cX7_go 60 = .ok (.ireturn, 1) := by decide +kernel
theorem dX7_anew_0 : decode cX7_anew 0 = .ok (.aload_n 0, 1) := by decide +kernel
theorem dX7_anew_1 : decode cX7_anew 1 = .ok (.getfield 122, 3) := by decide +kernel
theorem dX7_anew_4 : decode cX7_anew 4 = .ok (.istore_n 1, 1) := by decide +kernel
theorem dX7_anew_5 : decode cX7_anew 5 = .ok (.aload_n 0, 1) := by decide +kernel
theorem dX7_anew_6 : decode cX7_anew 6 = .ok (.invokevirtual 219, 3) := by decide +kernel
theorem dX7_anew_9 : decode cX7_anew 9 = .ok (.iload_n 1, 1) := by decide +kernel
theorem dX7_anew_10 : decode cX7_anew 10 = .ok (.ireturn, 1) := by decide +kernel
theorem dX7_line_0 : decode cX7_line 0 = .ok (.iload_n 1, 1) := by decide +kernel
theorem dX7_line_1 : decode cX7_line 1 = .ok (.ifCond .ge 10, 3) := by decide +kernel
theorem dX7_line_4 : decode cX7_line 4 = .ok (.aload_n 0, 1) := by decide +kernel
theorem dX7_line_5 : decode cX7_line 5 = .ok (.bipush (-4), 2) := by decide +kernel
theorem dX7_line_7 : decode cX7_line 7 = .ok (.invokevirtual 88, 3) := by decide +kernel
theorem dX7_line_10 : decode cX7_line 10 = .ok (.ireturn, 1) := by decide +kernel
theorem dX7_line_11 : decode cX7_line 11 = .ok (.iload_n 1, 1) := by decide +kernel
theorem dX7_line_12 : decode cX7_line 12 = .ok (.aload_n 0, 1) := by decide +kernel
theorem dX7_line_13 : decode cX7_line 13 = .ok (.getfield 160, 3) := by decide +kernel
theorem dX7_line_16 : decode cX7_line 16 = .ok (.if_icmp .ge 12, 3) := by decide +kernel
theorem dX7_line_19 : decode cX7_line 19 = .ok (.aload_n 0, 1) := by decide +kernel
theorem dX7_line_20 : decode cX7_line 20 = .ok (.getfield 37, 3) := by decide +kernel
theorem dX7_line_23 : decode cX7_line 23 = .ok (.iload_n 1, 1) := by decide +kernel
theorem dX7_line_24 : decode cX7_line 24 = .ok (.iaload, 1) := by decide +kernel
theorem dX7_line_25 : decode cX7_line 25 = .ok (.goto 5, 3) := by decide +kernel
theorem dX7_line_28 : decode cX7_line 28 = .ok (.bipush (-9), 2) := by decide +kernel
theorem dX7_line_30 : decode cX7_line 30 = .ok (.ireturn, 1) := by decide +kernel
theorem dX7_rest_0 : decode cX7_rest 0 = .ok (.iload_n 1, 1) := by decide +kernel
theorem dX7_rest_1 : decode cX7_rest 1 = .ok (.iconst 0, 1) := by decide +kernel
theorem dX7_rest_2 : decode cX7_rest 2 = .ok (.iconst 4, 1) := by decide +kernel
theorem dX7_rest_3 : decode cX7_rest 3 = .ok (.invokestatic 99, 3) := by decide +kernel
theorem dX7_rest_6 : decode cX7_rest 6 = .ok (.ifCond .ne 10, 3) := by decide +kernel
theorem dX7_rest_9 : decode cX7_rest 9 = .ok (.aload_n 0, 1) := by decide +kernel
theorem dX7_rest_10 : decode cX7_rest 10 = .ok (.bipush (-2), 2) := by decide +kernel
theorem dX7_rest_12 : decode cX7_rest 12 = .ok (.invokevirtual 88, 3) := by decide +kernel
theorem dX7_rest_15 : decode cX7_rest 15 = .ok (.ireturn, 1) := by decide +kernel
theorem dX7_rest_16 : decode cX7_rest 16 = .ok (.aload_n 0, 1) := by decide +kernel
theorem dX7_rest_17 : decode cX7_rest 17 = .ok (.iconst 1, 1) := by decide +kernel
theorem dX7_rest_18 : decode cX7_rest 18 = .ok (.iconst 1, 1) := by decide +kernel
theorem dX7_rest_19 : decode cX7_rest 19 = .ok (.invokevirtual 139, 3) := by decide +kernel
theorem dX7_rest_22 : decode cX7_rest 22 = .ok (.aload_n 0, 1) := by decide +kernel
theorem dX7_rest_23 : decode cX7_rest 23 = .ok (.invokevirtual 222, 3) := by decide +kernel
theorem dX7_rest_26 : decode cX7_rest 26 = .ok (.iload_n 1, 1) := by decide +kernel
theorem dX7_rest_27 : decode cX7_rest 27 = .ok (.ifCond .ne 10, 3) := by decide +kernel
theorem dX7_rest_30 : decode cX7_rest 30 = .ok (.aload_n 0, 1) := by decide +kernel
theorem dX7_rest_31 : decode cX7_rest 31 = .ok (.invokevirtual 213, 3) := by decide +kernel
theorem dX7_rest_34 : decode cX7_rest 34 = .ok (.goto 53, 3) := by decide +kernel
theorem dX7_rest_37 : decode cX7_rest 37 = .ok (.iload_n 1, 1) := by decide +kernel
theorem dX7_rest_38 : decode cX7_rest 38 = .ok (.iconst 1, 1) := by decide +kernel
theorem dX7_rest_39 : decode cX7_rest 39 = .ok (.if_icmp .ne 11, 3) := by decide +kernel
theorem dX7_rest_42 : decode cX7_rest 42 = .ok (.aload_n 0, 1) := by decide +kernel
theorem dX7_rest_43 : decode cX7_rest 43 = .ok (.iconst 3, 1) := by decide +kernel
theorem dX7_rest_44 : decode cX7_rest 44 = .ok (.invokevirtual 216, 3) := by decide +kernel
theorem dX7_rest_47 : decode cX7_rest 47 = .ok (.goto 40, 3) := by decide +kernel
theorem dX7_rest_50 : decode cX7_rest 50 = .ok (.iload_n 1, 1) := by decide +kernel
theorem dX7_rest_51 : decode cX7_rest 51 = .ok (.iconst 2, 1) := by decide +kernel
theorem dX7_rest_52 : decode cX7_rest 52 = .ok (.if_icmp .ne 10, 3) := by decide +kernel
theorem dX7_rest_55 : decode cX7_rest 55 = .ok (.aload_n 0, 1) := by decide +kernel
theorem dX7_rest_56 : decode cX7_rest 56 = .ok (.getfield 181, 3) := by decide +kernel
theorem dX7_rest_59 : decode cX7_rest 59 = .ok (.goto 28, 3) := by decide +kernel
theorem dX7_rest_62 : decode cX7_rest 62 = .ok (.iload_n 1, 1) := by decide +kernel
theorem dX7_rest_63 : decode cX7_rest 63 = .ok (.iconst 3, 1) := by decide +kernel
theorem dX7_rest_64 : decode cX7_rest 64 = .ok (.if_icmp .ne 19, 3) := by decide +kernel
theorem dX7_rest_67 : decode cX7_rest 67 = .ok (.aload_n 0, 1) := by decide +kernel
theorem dX7_rest_68 : decode cX7_rest 68 = .ok (.getfield 40, 3) := by decide +kernel
theorem dX7_rest_71 : decode cX7_rest 71 = .ok (.iconst 0, 1) := by decide +kernel
theorem dX7_rest_72 : decode cX7_rest 72 = .ok (.iaload, 1) := by decide +kernel
theorem dX7_rest_73 : decode cX7_rest 73 = .ok (.aload_n 0, 1) := by decide +kernel
theorem dX7_rest_74 : decode cX7_rest 74 = .ok (.getfield 40, 3) := by decide +kernel
theorem dX7_rest_77 : decode cX7_rest 77 = .ok (.iconst 1, 1) := by decide +kernel
theorem dX7_rest_78 : decode cX7_rest 78 = .ok (.iaload, 1) := by decide +kernel
theorem dX7_rest_79 : decode cX7_rest 79 = .ok (.iadd, 1) := by decide +kernel
theorem dX7_rest_80 : decode cX7_rest 80 = .ok (.goto 7, 3) := by decide +kernel
theorem dX7_rest_83 : decode cX7_rest 83 = .ok (.aload_n 0, 1) := by decide +kernel
theorem dX7_rest_84 : decode cX7_rest 84 = .ok (.invokevirtual 225, 3) := by decide +kernel
theorem dX7_rest_87 : decode cX7_rest 87 = .ok (.istore_n 2, 1) := by decide +kernel
theorem dX7_rest_88 : decode cX7_rest 88 = .ok (.aload_n 0, 1) := by decide +kernel
theorem dX7_rest_89 : decode cX7_rest 89 = .ok (.iconst 1, 1) := by decide +kernel
theorem dX7_rest_90 : decode cX7_rest 90 = .ok (.iconst 0, 1) := by decide +kernel
theorem dX7_rest_91 : decode cX7_rest 91 = .ok (.invokevirtual 139, 3) := by decide +kernel
theorem dX7_rest_94 : decode cX7_rest 94 = .ok (.iload_n 2, 1) := by decide +kernel
theorem dX7_rest_95 : decode cX7_rest 95 = .ok (.ireturn, 1) := by decide +kernel
theorem dX7_when_0 : decode cX7_when 0 = .ok (.aload_n 0, 1) := by decide +kernel
theorem dX7_when_1 : decode cX7_when 1 = .ok (.iload_n 1, 1) := by decide +kernel
theorem dX7_when_2 : decode cX7_when 2 = .ok (.invokevirtual 132, 3) := by decide +kernel
theorem dX7_when_5 : decode cX7_when 5 = .ok (.ifCond .ne 9, 3) := by decide +kernel
theorem dX7_when_8 : decode cX7_when 8 = .ok (.aload_n 0, 1) := by decide +kernel
theorem dX7_when_9 : decode cX7_when 9 = .ok (.iconst (-1), 1) := by decide +kernel
theorem dX7_when_10 : decode cX7_when 10 = .ok (.invokevirtual 88, 3) := by decide +kernel
theorem dX7_when_13 : decode cX7_when 13 = .ok (.ireturn, 1) := by decide +kernel
theorem dX7_when_14 : decode cX7_when 14 = .ok (.aload_n 0, 1) := by decide +kernel
theorem dX7_when_15 : decode cX7_when 15 = .ok (.iconst 1, 1) := by decide +kernel
theorem dX7_when_16 : decode cX7_when 16 = .ok (.iconst 1, 1) := by decide +kernel
theorem dX7_when_17 : decode cX7_when 17 = .ok (.invokevirtual 139, 3) := by decide +kernel
theorem dX7_when_20 : decode cX7_when 20 = .ok (.aload_n 0, 1) := by decide +kernel
theorem dX7_when_21 : decode cX7_when 21 = .ok (.invokevirtual 222, 3) := by decide +kernel
theorem dX7_when_24 : decode cX7_when 24 = .ok (.aload_n 0, 1) := by decide +kernel
theorem dX7_when_25 : decode cX7_when 25 = .ok (.getfield 31, 3) := by decide +kernel
theorem dX7_when_28 : decode cX7_when 28 = .ok (.iload_n 1, 1) := by decide +kernel
theorem dX7_when_29 : decode cX7_when 29 = .ok (.iaload, 1) := by decide +kernel
theorem dX7_when_30 : decode cX7_when 30 = .ok (.iconst 2, 1) := by decide +kernel
theorem dX7_when_31 : decode cX7_when 31 = .ok (.if_icmp .ne 19, 3) := by decide +kernel
theorem dX7_when_34 : decode cX7_when 34 = .ok (.aload_n 0, 1) := by decide +kernel
theorem dX7_when_35 : decode cX7_when 35 = .ok (.getfield 22, 3) := by decide +kernel
theorem dX7_when_38 : decode cX7_when 38 = .ok (.iload_n 1, 1) := by decide +kernel
theorem dX7_when_39 : decode cX7_when 39 = .ok (.iaload, 1) := by decide +kernel
theorem dX7_when_40 : decode cX7_when 40 = .ok (.aload_n 0, 1) := by decide +kernel
theorem dX7_when_41 : decode cX7_when 41 = .ok (.getfield 34, 3) := by decide +kernel
theorem dX7_when_44 : decode cX7_when 44 = .ok (.iload_n 1, 1) := by decide +kernel
theorem dX7_when_45 : decode cX7_when 45 = .ok (.iaload, 1) := by decide +kernel
theorem dX7_when_46 : decode cX7_when 46 = .ok (.iadd, 1) := by decide +kernel
theorem dX7_when_47 : decode cX7_when 47 = .ok (.goto 5, 3) := by decide +kernel
theorem dX7_when_50 : decode cX7_when 50 = .ok (.bipush (-9), 2) := by decide +kernel
theorem dX7_when_52 : decode cX7_when 52 = .ok (.istore_n 2, 1) := by decide +kernel
theorem dX7_when_53 : decode cX7_when 53 = .ok (.aload_n 0, 1) := by decide +kernel
theorem dX7_when_54 : decode cX7_when 54 = .ok (.iconst 1, 1) := by decide +kernel
theorem dX7_when_55 : decode cX7_when 55 = .ok (.iconst 0, 1) := by decide +kernel
theorem dX7_when_56 : decode cX7_when 56 = .ok (.invokevirtual 139, 3) := by decide +kernel
theorem dX7_when_59 : decode cX7_when 59 = .ok (.iload_n 2, 1) := by decide +kernel
theorem dX7_when_60 : decode cX7_when 60 = .ok (.ireturn, 1) := by decide +kernel
theorem dX7_bestKind_0 : decode cX7_bestKind 0 = .ok (.aload_n 0, 1) := by decide +kernel
theorem dX7_bestKind_1 : decode cX7_bestKind 1 = .ok (.getfield 16, 3) := by decide +kernel
theorem dX7_bestKind_4 : decode cX7_bestKind 4 = .ok (.iload_n 1, 1) := by decide +kernel
theorem dX7_bestKind_5 : decode cX7_bestKind 5 = .ok (.iaload, 1) := by decide +kernel
theorem dX7_bestKind_6 : decode cX7_bestKind 6 = .ok (.istore_n 3, 1) := by decide +kernel
theorem dX7_bestKind_7 : decode cX7_bestKind 7 = .ok (.iconst 0, 1) := by decide +kernel
theorem dX7_bestKind_8 : decode cX7_bestKind 8 = .ok (.istore 4, 2) := by decide +kernel
theorem dX7_bestKind_10 : decode cX7_bestKind 10 = .ok (.ldc 76, 2) := by decide +kernel
theorem dX7_bestKind_12 : decode cX7_bestKind 12 = .ok (.istore 5, 2) := by decide +kernel
theorem dX7_bestKind_14 : decode cX7_bestKind 14 = .ok (.iconst 0, 1) := by decide +kernel
theorem dX7_bestKind_15 : decode cX7_bestKind 15 = .ok (.istore 6, 2) := by decide +kernel
theorem dX7_bestKind_17 : decode cX7_bestKind 17 = .ok (.iload 6, 2) := by decide +kernel
theorem dX7_bestKind_19 : decode cX7_bestKind 19 = .ok (.bipush 7, 2) := by decide +kernel
theorem dX7_bestKind_21 : decode cX7_bestKind 21 = .ok (.if_icmp .ge 68, 3) := by decide +kernel
theorem dX7_bestKind_24 : decode cX7_bestKind 24 = .ok (.aload_n 0, 1) := by decide +kernel
theorem dX7_bestKind_25 : decode cX7_bestKind 25 = .ok (.getfield 16, 3) := by decide +kernel
theorem dX7_bestKind_28 : decode cX7_bestKind 28 = .ok (.iload_n 1, 1) := by decide +kernel
theorem dX7_bestKind_29 : decode cX7_bestKind 29 = .ok (.iload 6, 2) := by decide +kernel
theorem dX7_bestKind_31 : decode cX7_bestKind 31 = .ok (.iastore, 1) := by decide +kernel
theorem dX7_bestKind_32 : decode cX7_bestKind 32 = .ok (.aload_n 0, 1) := by decide +kernel
theorem dX7_bestKind_33 : decode cX7_bestKind 33 = .ok (.invokevirtual 228, 3) := by decide +kernel
theorem dX7_bestKind_36 : decode cX7_bestKind 36 = .ok (.istore 7, 2) := by decide +kernel
theorem dX7_bestKind_38 : decode cX7_bestKind 38 = .ok (.iload_n 2, 1) := by decide +kernel
theorem dX7_bestKind_39 : decode cX7_bestKind 39 = .ok (.ifCond .ne 26, 3) := by decide +kernel
theorem dX7_bestKind_42 : decode cX7_bestKind 42 = .ok (.aload_n 0, 1) := by decide +kernel
theorem dX7_bestKind_43 : decode cX7_bestKind 43 = .ok (.getfield 31, 3) := by decide +kernel
theorem dX7_bestKind_46 : decode cX7_bestKind 46 = .ok (.iload_n 1, 1) := by decide +kernel
theorem dX7_bestKind_47 : decode cX7_bestKind 47 = .ok (.iaload, 1) := by decide +kernel
theorem dX7_bestKind_48 : decode cX7_bestKind 48 = .ok (.iconst 2, 1) := by decide +kernel
theorem dX7_bestKind_49 : decode cX7_bestKind 49 = .ok (.if_icmp .ne 12, 3) := by decide +kernel
theorem dX7_bestKind_52 : decode cX7_bestKind 52 = .ok (.aload_n 0, 1) := by decide +kernel
theorem dX7_bestKind_53 : decode cX7_bestKind 53 = .ok (.getfield 34, 3) := by decide +kernel
theorem dX7_bestKind_56 : decode cX7_bestKind 56 = .ok (.iload_n 1, 1) := by decide +kernel
theorem dX7_bestKind_57 : decode cX7_bestKind 57 = .ok (.iaload, 1) := by decide +kernel
theorem dX7_bestKind_58 : decode cX7_bestKind 58 = .ok (.goto 5, 3) := by decide +kernel
theorem dX7_bestKind_61 : decode cX7_bestKind 61 = .ok (.bipush 99, 2) := by decide +kernel
theorem dX7_bestKind_63 : decode cX7_bestKind 63 = .ok (.istore 7, 2) := by decide +kernel
theorem dX7_bestKind_65 : decode cX7_bestKind 65 = .ok (.iload 7, 2) := by decide +kernel
theorem dX7_bestKind_67 : decode cX7_bestKind 67 = .ok (.iload 5, 2) := by decide +kernel
theorem dX7_bestKind_69 : decode cX7_bestKind 69 = .ok (.if_icmp .lt 6, 3) := by decide +kernel
theorem dX7_bestKind_72 : decode cX7_bestKind 72 = .ok (.goto 11, 3) := by decide +kernel
theorem dX7_bestKind_75 : decode cX7_bestKind 75 = .ok (.iload 6, 2) := by decide +kernel
theorem dX7_bestKind_77 : decode cX7_bestKind 77 = .ok (.istore 4, 2) := by decide +kernel
theorem dX7_bestKind_79 : decode cX7_bestKind 79 = .ok (.iload 7, 2) := by decide +kernel
theorem dX7_bestKind_81 : decode cX7_bestKind 81 = .ok (.istore 5, 2) := by decide +kernel
theorem dX7_bestKind_83 : decode cX7_bestKind 83 = .ok (.iinc 6 1, 3) := by decide +kernel
theorem dX7_bestKind_86 : decode cX7_bestKind 86 = .ok (.goto (-69), 3) := by decide +kernel
theorem dX7_bestKind_89 : decode cX7_bestKind 89 = .ok (.aload_n 0, 1) := by decide +kernel
theorem dX7_bestKind_90 : decode cX7_bestKind 90 = .ok (.getfield 16, 3) := by decide +kernel
theorem dX7_bestKind_93 : decode cX7_bestKind 93 = .ok (.iload_n 1, 1) := by decide +kernel
theorem dX7_bestKind_94 : decode cX7_bestKind 94 = .ok (.iload_n 3, 1) := by decide +kernel
theorem dX7_bestKind_95 : decode cX7_bestKind 95 = .ok (.iastore, 1) := by decide +kernel
theorem dX7_bestKind_96 : decode cX7_bestKind 96 = .ok (.iload 4, 2) := by decide +kernel
theorem dX7_bestKind_98 : decode cX7_bestKind 98 = .ok (.ireturn, 1) := by decide +kernel
theorem dX7_best_0 : decode cX7_best 0 = .ok (.aload_n 0, 1) := by decide +kernel
theorem dX7_best_1 : decode cX7_best 1 = .ok (.iload_n 1, 1) := by decide +kernel
theorem dX7_best_2 : decode cX7_best 2 = .ok (.invokevirtual 132, 3) := by decide +kernel
theorem dX7_best_5 : decode cX7_best 5 = .ok (.ifCond .ne 9, 3) := by decide +kernel
theorem dX7_best_8 : decode cX7_best 8 = .ok (.aload_n 0, 1) := by decide +kernel
theorem dX7_best_9 : decode cX7_best 9 = .ok (.iconst (-1), 1) := by decide +kernel
theorem dX7_best_10 : decode cX7_best 10 = .ok (.invokevirtual 88, 3) := by decide +kernel
theorem dX7_best_13 : decode cX7_best 13 = .ok (.ireturn, 1) := by decide +kernel
theorem dX7_best_14 : decode cX7_best 14 = .ok (.iload_n 2, 1) := by decide +kernel
theorem dX7_best_15 : decode cX7_best 15 = .ok (.iconst 0, 1) := by decide +kernel
theorem dX7_best_16 : decode cX7_best 16 = .ok (.iconst 1, 1) := by decide +kernel
theorem dX7_best_17 : decode cX7_best 17 = .ok (.invokestatic 99, 3) := by decide +kernel
theorem dX7_best_20 : decode cX7_best 20 = .ok (.ifCond .ne 10, 3) := by decide +kernel
theorem dX7_best_23 : decode cX7_best 23 = .ok (.aload_n 0, 1) := by decide +kernel
theorem dX7_best_24 : decode cX7_best 24 = .ok (.bipush (-2), 2) := by decide +kernel
theorem dX7_best_26 : decode cX7_best 26 = .ok (.invokevirtual 88, 3) := by decide +kernel
theorem dX7_best_29 : decode cX7_best 29 = .ok (.ireturn, 1) := by decide +kernel
theorem dX7_best_30 : decode cX7_best 30 = .ok (.aload_n 0, 1) := by decide +kernel
theorem dX7_best_31 : decode cX7_best 31 = .ok (.iconst 1, 1) := by decide +kernel
theorem dX7_best_32 : decode cX7_best 32 = .ok (.iconst 1, 1) := by decide +kernel
theorem dX7_best_33 : decode cX7_best 33 = .ok (.invokevirtual 139, 3) := by decide +kernel
theorem dX7_best_36 : decode cX7_best 36 = .ok (.aload_n 0, 1) := by decide +kernel
theorem dX7_best_37 : decode cX7_best 37 = .ok (.iload_n 1, 1) := by decide +kernel
theorem dX7_best_38 : decode cX7_best 38 = .ok (.iload_n 2, 1) := by decide +kernel
theorem dX7_best_39 : decode cX7_best 39 = .ok (.invokevirtual 231, 3) := by decide +kernel
theorem dX7_best_42 : decode cX7_best 42 = .ok (.istore_n 3, 1) := by decide +kernel
theorem dX7_best_43 : decode cX7_best 43 = .ok (.aload_n 0, 1) := by decide +kernel
theorem dX7_best_44 : decode cX7_best 44 = .ok (.iconst 1, 1) := by decide +kernel
theorem dX7_best_45 : decode cX7_best 45 = .ok (.iconst 0, 1) := by decide +kernel
theorem dX7_best_46 : decode cX7_best 46 = .ok (.invokevirtual 139, 3) := by decide +kernel
theorem dX7_best_49 : decode cX7_best 49 = .ok (.iload_n 3, 1) := by decide +kernel
theorem dX7_best_50 : decode cX7_best 50 = .ok (.ireturn, 1) := by decide +kernel
theorem dX7_goesRounds_0 : decode cX7_goesRounds 0 = .ok (.iconst 0, 1) := by decide +kernel
theorem dX7_goesRounds_1 : decode cX7_goesRounds 1 = .ok (.istore_n 1, 1) := by decide +kernel
theorem dX7_goesRounds_2 : decode cX7_goesRounds 2 = .ok (.iconst 1, 1) := by decide +kernel
theorem dX7_goesRounds_3 : decode cX7_goesRounds 3 = .ok (.istore_n 2, 1) := by decide +kernel
theorem dX7_goesRounds_4 : decode cX7_goesRounds 4 = .ok (.iload_n 2, 1) := by decide +kernel
theorem dX7_goesRounds_5 : decode cX7_goesRounds 5 = .ok (.ifCond .eq 68, 3) := by decide +kernel
theorem dX7_goesRounds_8 : decode cX7_goesRounds 8 = .ok (.iload_n 1, 1) := by decide +kernel
theorem dX7_goesRounds_9 : decode cX7_goesRounds 9 = .ok (.bipush 20, 2) := by decide +kernel
theorem dX7_goesRounds_11 : decode cX7_goesRounds 11 = .ok (.if_icmp .ge 62, 3) := by decide +kernel
theorem dX7_goesRounds_14 : decode cX7_goesRounds 14 = .ok (.iconst 0, 1) := by decide +kernel
theorem dX7_goesRounds_15 : decode cX7_goesRounds 15 = .ok (.istore_n 2, 1) := by decide +kernel
theorem dX7_goesRounds_16 : decode cX7_goesRounds 16 = .ok (.iconst 0, 1) := by decide +kernel
theorem dX7_goesRounds_17 : decode cX7_goesRounds 17 = .ok (.istore_n 3, 1) := by decide +kernel
theorem dX7_goesRounds_18 : decode cX7_goesRounds 18 = .ok (.iload_n 3, 1) := by decide +kernel
theorem dX7_goesRounds_19 : decode cX7_goesRounds 19 = .ok (.aload_n 0, 1) := by decide +kernel
theorem dX7_goesRounds_20 : decode cX7_goesRounds 20 = .ok (.getfield 77, 3) := by decide +kernel
theorem dX7_goesRounds_23 : decode cX7_goesRounds 23 = .ok (.if_icmp .ge 44, 3) := by decide +kernel
theorem dX7_goesRounds_26 : decode cX7_goesRounds 26 = .ok (.aload_n 0, 1) := by decide +kernel
theorem dX7_goesRounds_27 : decode cX7_goesRounds 27 = .ok (.iload_n 3, 1) := by decide +kernel
theorem dX7_goesRounds_28 : decode cX7_goesRounds 28 = .ok (.iconst 0, 1) := by decide +kernel
theorem dX7_goesRounds_29 : decode cX7_goesRounds 29 = .ok (.invokevirtual 231, 3) := by decide +kernel
theorem dX7_goesRounds_32 : decode cX7_goesRounds 32 = .ok (.istore 4, 2) := by decide +kernel
theorem dX7_goesRounds_34 : decode cX7_goesRounds 34 = .ok (.iload_n 2, 1) := by decide +kernel
theorem dX7_goesRounds_35 : decode cX7_goesRounds 35 = .ok (.iload 4, 2) := by decide +kernel
theorem dX7_goesRounds_37 : decode cX7_goesRounds 37 = .ok (.aload_n 0, 1) := by decide +kernel
theorem dX7_goesRounds_38 : decode cX7_goesRounds 38 = .ok (.getfield 16, 3) := by decide +kernel
theorem dX7_goesRounds_41 : decode cX7_goesRounds 41 = .ok (.iload_n 3, 1) := by decide +kernel
theorem dX7_goesRounds_42 : decode cX7_goesRounds 42 = .ok (.iaload, 1) := by decide +kernel
theorem dX7_goesRounds_43 : decode cX7_goesRounds 43 = .ok (.if_icmp .eq 7, 3) := by decide +kernel
theorem dX7_goesRounds_46 : decode cX7_goesRounds 46 = .ok (.iconst 1, 1) := by decide +kernel
theorem dX7_goesRounds_47 : decode cX7_goesRounds 47 = .ok (.goto 4, 3) := by decide +kernel
theorem dX7_goesRounds_50 : decode cX7_goesRounds 50 = .ok (.iconst 0, 1) := by decide +kernel
theorem dX7_goesRounds_51 : decode cX7_goesRounds 51 = .ok (.ior, 1) := by decide +kernel
theorem dX7_goesRounds_52 : decode cX7_goesRounds 52 = .ok (.istore_n 2, 1) := by decide +kernel
theorem dX7_goesRounds_53 : decode cX7_goesRounds 53 = .ok (.aload_n 0, 1) := by decide +kernel
theorem dX7_goesRounds_54 : decode cX7_goesRounds 54 = .ok (.getfield 16, 3) := by decide +kernel
theorem dX7_goesRounds_57 : decode cX7_goesRounds 57 = .ok (.iload_n 3, 1) := by decide +kernel
theorem dX7_goesRounds_58 : decode cX7_goesRounds 58 = .ok (.iload 4, 2) := by decide +kernel
theorem dX7_goesRounds_60 : decode cX7_goesRounds 60 = .ok (.iastore, 1) := by decide +kernel
theorem dX7_goesRounds_61 : decode cX7_goesRounds 61 = .ok (.iinc 3 1, 3) := by decide +kernel
theorem dX7_goesRounds_64 : decode cX7_goesRounds 64 = .ok (.goto (-46), 3) := by decide +kernel
theorem dX7_goesRounds_67 : decode cX7_goesRounds 67 = .ok (.iinc 1 1, 3) := by decide +kernel
theorem dX7_goesRounds_70 : decode cX7_goesRounds 70 = .ok (.goto (-66), 3) := by decide +kernel
theorem dX7_goesRounds_73 : decode cX7_goesRounds 73 = .ok (.iload_n 1, 1) := by decide +kernel
theorem dX7_goesRounds_74 : decode cX7_goesRounds 74 = .ok (.ireturn, 1) := by decide +kernel
theorem dX7_kindsDigits_0 : decode cX7_kindsDigits 0 = .ok (.iconst 0, 1) := by decide +kernel
theorem dX7_kindsDigits_1 : decode cX7_kindsDigits 1 = .ok (.istore_n 1, 1) := by decide +kernel
theorem dX7_kindsDigits_2 : decode cX7_kindsDigits 2 = .ok (.aload_n 0, 1) := by decide +kernel
theorem dX7_kindsDigits_3 : decode cX7_kindsDigits 3 = .ok (.getfield 77, 3) := by decide +kernel
theorem dX7_kindsDigits_6 : decode cX7_kindsDigits 6 = .ok (.iconst 1, 1) := by decide +kernel
theorem dX7_kindsDigits_7 : decode cX7_kindsDigits 7 = .ok (.isub, 1) := by decide +kernel
theorem dX7_kindsDigits_8 : decode cX7_kindsDigits 8 = .ok (.istore_n 2, 1) := by decide +kernel
theorem dX7_kindsDigits_9 : decode cX7_kindsDigits 9 = .ok (.iload_n 2, 1) := by decide +kernel
theorem dX7_kindsDigits_10 : decode cX7_kindsDigits 10 = .ok (.ifCond .lt 21, 3) := by decide +kernel
theorem dX7_kindsDigits_13 : decode cX7_kindsDigits 13 = .ok (.bipush 10, 2) := by decide +kernel
theorem dX7_kindsDigits_15 : decode cX7_kindsDigits 15 = .ok (.iload_n 1, 1) := by decide +kernel
theorem dX7_kindsDigits_16 : decode cX7_kindsDigits 16 = .ok (.imul, 1) := by decide +kernel
theorem dX7_kindsDigits_17 : decode cX7_kindsDigits 17 = .ok (.aload_n 0, 1) := by decide +kernel
theorem dX7_kindsDigits_18 : decode cX7_kindsDigits 18 = .ok (.getfield 16, 3) := by decide +kernel
theorem dX7_kindsDigits_21 : decode cX7_kindsDigits 21 = .ok (.iload_n 2, 1) := by decide +kernel
theorem dX7_kindsDigits_22 : decode cX7_kindsDigits 22 = .ok (.iaload, 1) := by decide +kernel
theorem dX7_kindsDigits_23 : decode cX7_kindsDigits 23 = .ok (.iadd, 1) := by decide +kernel
theorem dX7_kindsDigits_24 : decode cX7_kindsDigits 24 = .ok (.istore_n 1, 1) := by decide +kernel
theorem dX7_kindsDigits_25 : decode cX7_kindsDigits 25 = .ok (.iinc 2 (-1), 3) := by decide +kernel
theorem dX7_kindsDigits_28 : decode cX7_kindsDigits 28 = .ok (.goto (-19), 3) := by decide +kernel
theorem dX7_kindsDigits_31 : decode cX7_kindsDigits 31 = .ok (.iload_n 1, 1) := by decide +kernel
theorem dX7_kindsDigits_32 : decode cX7_kindsDigits 32 = .ok (.ireturn, 1) := by decide +kernel
theorem dX7_leastOfOneKind_0 : decode cX7_leastOfOneKind 0 = .ok (.ldc 76, 2) := by decide +kernel
theorem dX7_leastOfOneKind_2 : decode cX7_leastOfOneKind 2 = .ok (.istore_n 1, 1) := by decide +kernel
theorem dX7_leastOfOneKind_3 : decode cX7_leastOfOneKind 3 = .ok (.iconst 0, 1) := by decide +kernel
theorem dX7_leastOfOneKind_4 : decode cX7_leastOfOneKind 4 = .ok (.istore_n 2, 1) := by decide +kernel
theorem dX7_leastOfOneKind_5 : decode cX7_leastOfOneKind 5 = .ok (.iload_n 2, 1) := by decide +kernel
theorem dX7_leastOfOneKind_6 : decode cX7_leastOfOneKind 6 = .ok (.bipush 7, 2) := by decide +kernel
theorem dX7_leastOfOneKind_8 : decode cX7_leastOfOneKind 8 = .ok (.if_icmp .ge 48, 3) := by decide +kernel
theorem dX7_leastOfOneKind_11 : decode cX7_leastOfOneKind 11 = .ok (.iconst 0, 1) := by decide +kernel
theorem dX7_leastOfOneKind_12 : decode cX7_leastOfOneKind 12 = .ok (.istore_n 3, 1) := by decide +kernel
theorem dX7_leastOfOneKind_13 : decode cX7_leastOfOneKind 13 = .ok (.iload_n 3, 1) := by decide +kernel
theorem dX7_leastOfOneKind_14 : decode cX7_leastOfOneKind 14 = .ok (.aload_n 0, 1) := by decide +kernel
theorem dX7_leastOfOneKind_15 : decode cX7_leastOfOneKind 15 = .ok (.getfield 77, 3) := by decide +kernel
theorem dX7_leastOfOneKind_18 : decode cX7_leastOfOneKind 18 = .ok (.if_icmp .ge 16, 3) := by decide +kernel
theorem dX7_leastOfOneKind_21 : decode cX7_leastOfOneKind 21 = .ok (.aload_n 0, 1) := by decide +kernel
theorem dX7_leastOfOneKind_22 : decode cX7_leastOfOneKind 22 = .ok (.getfield 16, 3) := by decide +kernel
theorem dX7_leastOfOneKind_25 : decode cX7_leastOfOneKind 25 = .ok (.iload_n 3, 1) := by decide +kernel
