theorem dX4_read_28 : decode cX4_read 28 = .ok (.aload_n 0, 1) := by decide +kernel
theorem dX4_read_29 : decode cX4_read 29 = .ok (.invokevirtual 22, 3) := by decide +kernel
theorem dX4_read_32 : decode cX4_read 32 = .ok (.ifCond .ne 12, 3) := by decide +kernel
theorem dX4_read_35 : decode cX4_read 35 = .ok (.sipush (-1000), 3) := by decide +kernel
theorem dX4_read_38 : decode cX4_read 38 = .ok (.aload_n 0, 1) := by decide +kernel
theorem dX4_read_39 : decode cX4_read 39 = .ok (.getfield 19, 3) := by decide +kernel
theorem dX4_read_42 : decode cX4_read 42 = .ok (.isub, 1) := by decide +kernel
theorem dX4_read_43 : decode cX4_read 43 = .ok (.ireturn, 1) := by decide +kernel
theorem dX4_read_44 : decode cX4_read 44 = .ok (.iinc 2 1, 3) := by decide +kernel
theorem dX4_read_47 : decode cX4_read 47 = .ok (.goto (-40), 3) := by decide +kernel
theorem dX4_read_50 : decode cX4_read 50 = .ok (.aload_n 0, 1) := by decide +kernel
theorem dX4_read_51 : decode cX4_read 51 = .ok (.iconst 0, 1) := by decide +kernel
theorem dX4_read_52 : decode cX4_read 52 = .ok (.putfield 19, 3) := by decide +kernel
theorem dX4_read_55 : decode cX4_read 55 = .ok (.iconst 0, 1) := by decide +kernel
theorem dX4_read_56 : decode cX4_read 56 = .ok (.istore_n 2, 1) := by decide +kernel
theorem dX4_read_57 : decode cX4_read 57 = .ok (.aload_n 0, 1) := by decide +kernel
theorem dX4_read_58 : decode cX4_read 58 = .ok (.getfield 19, 3) := by decide +kernel
theorem dX4_read_61 : decode cX4_read 61 = .ok (.aload_n 0, 1) := by decide +kernel
theorem dX4_read_62 : decode cX4_read 62 = .ok (.getfield 15, 3) := by decide +kernel
theorem dX4_read_65 : decode cX4_read 65 = .ok (.if_icmp .ge 42, 3) := by decide +kernel
theorem dX4_read_68 : decode cX4_read 68 = .ok (.iload_n 2, 1) := by decide +kernel
theorem dX4_read_69 : decode cX4_read 69 = .ok (.bipush 96, 2) := by decide +kernel
theorem dX4_read_71 : decode cX4_read 71 = .ok (.if_icmp .ge 36, 3) := by decide +kernel
theorem dX4_read_74 : decode cX4_read 74 = .ok (.aload_n 0, 1) := by decide +kernel
theorem dX4_read_75 : decode cX4_read 75 = .ok (.getfield 19, 3) := by decide +kernel
theorem dX4_read_78 : decode cX4_read 78 = .ok (.istore_n 3, 1) := by decide +kernel
theorem dX4_read_79 : decode cX4_read 79 = .ok (.aload_n 0, 1) := by decide +kernel
theorem dX4_read_80 : decode cX4_read 80 = .ok (.invokevirtual 22, 3) := by decide +kernel
theorem dX4_read_83 : decode cX4_read 83 = .ok (.ifCond .eq 12, 3) := by decide +kernel
theorem dX4_read_86 : decode cX4_read 86 = .ok (.aload_n 0, 1) := by decide +kernel
theorem dX4_read_87 : decode cX4_read 87 = .ok (.aload_n 1, 1) := by decide +kernel
theorem dX4_read_88 : decode cX4_read 88 = .ok (.iload_n 3, 1) := by decide +kernel
theorem dX4_read_89 : decode cX4_read 89 = .ok (.invokevirtual 26, 3) := by decide +kernel
theorem dX4_read_92 : decode cX4_read 92 = .ok (.ifCond .ne 9, 3) := by decide +kernel
theorem dX4_read_95 : decode cX4_read 95 = .ok (.sipush (-2000), 3) := by decide +kernel
theorem dX4_read_98 : decode cX4_read 98 = .ok (.iload_n 3, 1) := by decide +kernel
theorem dX4_read_99 : decode cX4_read 99 = .ok (.isub, 1) := by decide +kernel
theorem dX4_read_100 : decode cX4_read 100 = .ok (.ireturn, 1) := by decide +kernel
theorem dX4_read_101 : decode cX4_read 101 = .ok (.iinc 2 1, 3) := by decide +kernel
theorem dX4_read_104 : decode cX4_read 104 = .ok (.goto (-47), 3) := by decide +kernel
theorem dX4_read_107 : decode cX4_read 107 = .ok (.iload_n 2, 1) := by decide +kernel
theorem dX4_read_108 : decode cX4_read 108 = .ok (.ireturn, 1) := by decide +kernel
set_option maxRecDepth 20000 in
theorem ggX4_skipStatement_X4_skip : GoodIn wsX4_skipStatement wsX4_skip := goodIn_r _ [5, 6, 7, 8, 9, 4, 10, 11, 12, 17, 18, 19] (by decide +kernel) (by decide +kernel)
set_option maxRecDepth 20000 in
theorem gX4_skipStatement_X4_skip : GoodIn wsX4_skipStatement (wsV RX4 30 RX4 yX4_skip wsX4_skip) := goodIn_app (goodIn_of _ (by decide +kernel)) ggX4_skipStatement_X4_skip
set_option maxRecDepth 20000 in
theorem ggX4_skipStatement_X4_skipDigits : GoodIn wsX4_skipStatement wsX4_skipDigits := goodIn_r _ [16, 6, 7, 8, 9, 4, 10, 11, 12, 17, 18, 19] (by decide +kernel) (by decide +kernel)
set_option maxRecDepth 20000 in
theorem gX4_skipStatement_X4_skipDigits : GoodIn wsX4_skipStatement (wsV RX4 34 RX4 yX4_skipDigits wsX4_skipDigits) := goodIn_app (goodIn_of _ (by decide +kernel)) ggX4_skipStatement_X4_skipDigits
theorem dX4_skipStatement_0 : decode cX4_skipStatement 0 = .ok (.aload_n 0, 1) := by decide +kernel
theorem dX4_skipStatement_1 : decode cX4_skipStatement 1 = .ok (.bipush 115, 2) := by decide +kernel
theorem dX4_skipStatement_3 : decode cX4_skipStatement 3 = .ok (.invokevirtual 30, 3) := by decide +kernel
theorem dX4_skipStatement_6 : decode cX4_skipStatement 6 = .ok (.ifCond .eq 60, 3) := by decide +kernel
theorem dX4_skipStatement_9 : decode cX4_skipStatement 9 = .ok (.aload_n 0, 1) := by decide +kernel
theorem dX4_skipStatement_10 : decode cX4_skipStatement 10 = .ok (.iconst 1, 1) := by decide +kernel
theorem dX4_skipStatement_11 : decode cX4_skipStatement 11 = .ok (.invokevirtual 34, 3) := by decide +kernel
theorem dX4_skipStatement_14 : decode cX4_skipStatement 14 = .ok (.ifCond .eq 50, 3) := by decide +kernel
theorem dX4_skipStatement_17 : decode cX4_skipStatement 17 = .ok (.aload_n 0, 1) := by decide +kernel
theorem dX4_skipStatement_18 : decode cX4_skipStatement 18 = .ok (.bipush 61, 2) := by decide +kernel
theorem dX4_skipStatement_20 : decode cX4_skipStatement 20 = .ok (.invokevirtual 30, 3) := by decide +kernel
theorem dX4_skipStatement_23 : decode cX4_skipStatement 23 = .ok (.ifCond .eq 41, 3) := by decide +kernel
theorem dX4_skipStatement_26 : decode cX4_skipStatement 26 = .ok (.aload_n 0, 1) := by decide +kernel
theorem dX4_skipStatement_27 : decode cX4_skipStatement 27 = .ok (.iconst 1, 1) := by decide +kernel
theorem dX4_skipStatement_28 : decode cX4_skipStatement 28 = .ok (.invokevirtual 34, 3) := by decide +kernel
theorem dX4_skipStatement_31 : decode cX4_skipStatement 31 = .ok (.ifCond .eq 33, 3) := by decide +kernel
theorem dX4_skipStatement_34 : decode cX4_skipStatement 34 = .ok (.aload_n 0, 1) := by decide +kernel
theorem dX4_skipStatement_35 : decode cX4_skipStatement 35 = .ok (.bipush 59, 2) := by decide +kernel
theorem dX4_skipStatement_37 : decode cX4_skipStatement 37 = .ok (.invokevirtual 30, 3) := by decide +kernel
theorem dX4_skipStatement_40 : decode cX4_skipStatement 40 = .ok (.ifCond .ne 20, 3) := by decide +kernel
theorem dX4_skipStatement_43 : decode cX4_skipStatement 43 = .ok (.aload_n 0, 1) := by decide +kernel
theorem dX4_skipStatement_44 : decode cX4_skipStatement 44 = .ok (.iconst 1, 1) := by decide +kernel
theorem dX4_skipStatement_45 : decode cX4_skipStatement 45 = .ok (.invokevirtual 34, 3) := by decide +kernel
theorem dX4_skipStatement_48 : decode cX4_skipStatement 48 = .ok (.ifCond .eq 16, 3) := by decide +kernel
theorem dX4_skipStatement_51 : decode cX4_skipStatement 51 = .ok (.aload_n 0, 1) := by decide +kernel
theorem dX4_skipStatement_52 : decode cX4_skipStatement 52 = .ok (.bipush 59, 2) := by decide +kernel
theorem dX4_skipStatement_54 : decode cX4_skipStatement 54 = .ok (.invokevirtual 30, 3) := by decide +kernel
theorem dX4_skipStatement_57 : decode cX4_skipStatement 57 = .ok (.ifCond .eq 7, 3) := by decide +kernel
theorem dX4_skipStatement_60 : decode cX4_skipStatement 60 = .ok (.iconst 1, 1) := by decide +kernel
theorem dX4_skipStatement_61 : decode cX4_skipStatement 61 = .ok (.goto 4, 3) := by decide +kernel
theorem dX4_skipStatement_64 : decode cX4_skipStatement 64 = .ok (.iconst 0, 1) := by decide +kernel
theorem dX4_skipStatement_65 : decode cX4_skipStatement 65 = .ok (.ireturn, 1) := by decide +kernel
theorem dX4_skipStatement_66 : decode cX4_skipStatement 66 = .ok (.aload_n 0, 1) := by decide +kernel
theorem dX4_skipStatement_67 : decode cX4_skipStatement 67 = .ok (.bipush 99, 2) := by decide +kernel
theorem dX4_skipStatement_69 : decode cX4_skipStatement 69 = .ok (.invokevirtual 30, 3) := by decide +kernel
theorem dX4_skipStatement_72 : decode cX4_skipStatement 72 = .ok (.ifCond .eq 27, 3) := by decide +kernel
theorem dX4_skipStatement_75 : decode cX4_skipStatement 75 = .ok (.aload_n 0, 1) := by decide +kernel
theorem dX4_skipStatement_76 : decode cX4_skipStatement 76 = .ok (.bipush 8, 2) := by decide +kernel
theorem dX4_skipStatement_78 : decode cX4_skipStatement 78 = .ok (.invokevirtual 34, 3) := by decide +kernel
theorem dX4_skipStatement_81 : decode cX4_skipStatement 81 = .ok (.ifCond .eq 16, 3) := by decide +kernel
theorem dX4_skipStatement_84 : decode cX4_skipStatement 84 = .ok (.aload_n 0, 1) := by decide +kernel
theorem dX4_skipStatement_85 : decode cX4_skipStatement 85 = .ok (.bipush 59, 2) := by decide +kernel
theorem dX4_skipStatement_87 : decode cX4_skipStatement 87 = .ok (.invokevirtual 30, 3) := by decide +kernel
theorem dX4_skipStatement_90 : decode cX4_skipStatement 90 = .ok (.ifCond .eq 7, 3) := by decide +kernel
theorem dX4_skipStatement_93 : decode cX4_skipStatement 93 = .ok (.iconst 1, 1) := by decide +kernel
theorem dX4_skipStatement_94 : decode cX4_skipStatement 94 = .ok (.goto 4, 3) := by decide +kernel
theorem dX4_skipStatement_97 : decode cX4_skipStatement 97 = .ok (.iconst 0, 1) := by decide +kernel
theorem dX4_skipStatement_98 : decode cX4_skipStatement 98 = .ok (.ireturn, 1) := by decide +kernel
theorem dX4_skipStatement_99 : decode cX4_skipStatement 99 = .ok (.aload_n 0, 1) := by decide +kernel
theorem dX4_skipStatement_100 : decode cX4_skipStatement 100 = .ok (.bipush 107, 2) := by decide +kernel
theorem dX4_skipStatement_102 : decode cX4_skipStatement 102 = .ok (.invokevirtual 30, 3) := by decide +kernel
theorem dX4_skipStatement_105 : decode cX4_skipStatement 105 = .ok (.ifCond .eq 24, 3) := by decide +kernel
theorem dX4_skipStatement_108 : decode cX4_skipStatement 108 = .ok (.aload_n 0, 1) := by decide +kernel
theorem dX4_skipStatement_109 : decode cX4_skipStatement 109 = .ok (.iconst 3, 1) := by decide +kernel
theorem dX4_skipStatement_110 : decode cX4_skipStatement 110 = .ok (.invokevirtual 34, 3) := by decide +kernel
theorem dX4_skipStatement_113 : decode cX4_skipStatement 113 = .ok (.ifCond .eq 16, 3) := by decide +kernel
theorem dX4_skipStatement_116 : decode cX4_skipStatement 116 = .ok (.aload_n 0, 1) := by decide +kernel
theorem dX4_skipStatement_117 : decode cX4_skipStatement 117 = .ok (.bipush 59, 2) := by decide +kernel
theorem dX4_skipStatement_119 : decode cX4_skipStatement 119 = .ok (.invokevirtual 30, 3) := by decide +kernel
theorem dX4_skipStatement_122 : decode cX4_skipStatement 122 = .ok (.ifCond .eq 7, 3) := by decide +kernel
theorem dX4_skipStatement_125 : decode cX4_skipStatement 125 = .ok (.iconst 1, 1) := by decide +kernel
theorem dX4_skipStatement_126 : decode cX4_skipStatement 126 = .ok (.goto 4, 3) := by decide +kernel
theorem dX4_skipStatement_129 : decode cX4_skipStatement 129 = .ok (.iconst 0, 1) := by decide +kernel
theorem dX4_skipStatement_130 : decode cX4_skipStatement 130 = .ok (.ireturn, 1) := by decide +kernel
set_option maxRecDepth 20000 in
theorem ggX4_skip_X4_letterAt : GoodIn wsX4_skip wsX4_letterAt := goodIn_r _ [6, 7, 8, 9, 10, 11] (by decide +kernel) (by decide +kernel)
set_option maxRecDepth 20000 in
theorem gX4_skip_X4_letterAt : GoodIn wsX4_skip (wsV RX4 38 RX4 yX4_letterAt wsX4_letterAt) := goodIn_app (goodIn_of _ (by decide +kernel)) ggX4_skip_X4_letterAt
theorem dX4_skip_0 : decode cX4_skip 0 = .ok (.aload_n 0, 1) := by decide +kernel
theorem dX4_skip_1 : decode cX4_skip 1 = .ok (.aload_n 0, 1) := by decide +kernel
theorem dX4_skip_2 : decode cX4_skip 2 = .ok (.getfield 19, 3) := by decide +kernel
theorem dX4_skip_5 : decode cX4_skip 5 = .ok (.invokevirtual 38, 3) := by decide +kernel
theorem dX4_skip_8 : decode cX4_skip 8 = .ok (.iload_n 1, 1) := by decide +kernel
theorem dX4_skip_9 : decode cX4_skip 9 = .ok (.if_icmp .ne 7, 3) := by decide +kernel
theorem dX4_skip_12 : decode cX4_skip 12 = .ok (.iconst 1, 1) := by decide +kernel
theorem dX4_skip_13 : decode cX4_skip 13 = .ok (.goto 4, 3) := by decide +kernel
theorem dX4_skip_16 : decode cX4_skip 16 = .ok (.iconst 0, 1) := by decide +kernel
theorem dX4_skip_17 : decode cX4_skip 17 = .ok (.istore_n 2, 1) := by decide +kernel
theorem dX4_skip_18 : decode cX4_skip 18 = .ok (.aload_n 0, 1) := by decide +kernel
theorem dX4_skip_19 : decode cX4_skip 19 = .ok (.dup, 1) := by decide +kernel
theorem dX4_skip_20 : decode cX4_skip 20 = .ok (.getfield 19, 3) := by decide +kernel
theorem dX4_skip_23 : decode cX4_skip 23 = .ok (.iload_n 2, 1) := by decide +kernel
theorem dX4_skip_24 : decode cX4_skip 24 = .ok (.ifCond .eq 7, 3) := by decide +kernel
theorem dX4_skip_27 : decode cX4_skip 27 = .ok (.iconst 1, 1) := by decide +kernel
theorem dX4_skip_28 : decode cX4_skip 28 = .ok (.goto 4, 3) := by decide +kernel
theorem dX4_skip_31 : decode cX4_skip 31 = .ok (.iconst 0, 1) := by decide +kernel
theorem dX4_skip_32 : decode cX4_skip 32 = .ok (.iadd, 1) := by decide +kernel
theorem dX4_skip_33 : decode cX4_skip 33 = .ok (.putfield 19, 3) := by decide +kernel
theorem dX4_skip_36 : decode cX4_skip 36 = .ok (.iload_n 2, 1) := by decide +kernel
theorem dX4_skip_37 : decode cX4_skip 37 = .ok (.ireturn, 1) := by decide +kernel
set_option maxRecDepth 20000 in
theorem ggX4_skipDigits_X4_letterAt : GoodIn wsX4_skipDigits wsX4_letterAt := goodIn_r _ [6, 7, 8, 9, 10, 11] (by decide +kernel) (by decide +kernel)
set_option maxRecDepth 20000 in
theorem gX4_skipDigits_X4_letterAt : GoodIn wsX4_skipDigits (wsV RX4 38 RX4 yX4_letterAt wsX4_letterAt) := goodIn_app (goodIn_of _ (by decide +kernel)) ggX4_skipDigits_X4_letterAt
theorem dX4_skipDigits_0 : decode cX4_skipDigits 0 = .ok (.iconst 0, 1) := by decide +kernel
theorem dX4_skipDigits_1 : decode cX4_skipDigits 1 = .ok (.istore_n 2, 1) := by decide +kernel
theorem dX4_skipDigits_2 : decode cX4_skipDigits 2 = .ok (.iload_n 2, 1) := by decide +kernel
theorem dX4_skipDigits_3 : decode cX4_skipDigits 3 = .ok (.iload_n 1, 1) := by decide +kernel
theorem dX4_skipDigits_4 : decode cX4_skipDigits 4 = .ok (.if_icmp .ge 47, 3) := by decide +kernel
theorem dX4_skipDigits_7 : decode cX4_skipDigits 7 = .ok (.aload_n 0, 1) := by decide +kernel
theorem dX4_skipDigits_8 : decode cX4_skipDigits 8 = .ok (.aload_n 0, 1) := by decide +kernel
theorem dX4_skipDigits_9 : decode cX4_skipDigits 9 = .ok (.getfield 19, 3) := by decide +kernel
theorem dX4_skipDigits_12 : decode cX4_skipDigits 12 = .ok (.invokevirtual 38, 3) := by decide +kernel
theorem dX4_skipDigits_15 : decode cX4_skipDigits 15 = .ok (.bipush 48, 2) := by decide +kernel
theorem dX4_skipDigits_17 : decode cX4_skipDigits 17 = .ok (.if_icmp .lt 16, 3) := by decide +kernel
theorem dX4_skipDigits_20 : decode cX4_skipDigits 20 = .ok (.aload_n 0, 1) := by decide +kernel
theorem dX4_skipDigits_21 : decode cX4_skipDigits 21 = .ok (.aload_n 0, 1) := by decide +kernel
theorem dX4_skipDigits_22 : decode cX4_skipDigits 22 = .ok (.getfield 19, 3) := by decide +kernel
theorem dX4_skipDigits_25 : decode cX4_skipDigits 25 = .ok (.invokevirtual 38, 3) := by decide +kernel
theorem dX4_skipDigits_28 : decode cX4_skipDigits 28 = .ok (.bipush 57, 2) := by decide +kernel
theorem dX4_skipDigits_30 : decode cX4_skipDigits 30 = .ok (.if_icmp .le 5, 3) := by decide +kernel
theorem dX4_skipDigits_33 : decode cX4_skipDigits 33 = .ok (.iconst 0, 1) := by decide +kernel
theorem dX4_skipDigits_34 : decode cX4_skipDigits 34 = .ok (.ireturn, 1) := by decide +kernel
theorem dX4_skipDigits_35 : decode cX4_skipDigits 35 = .ok (.aload_n 0, 1) := by decide +kernel
theorem dX4_skipDigits_36 : decode cX4_skipDigits 36 = .ok (.dup, 1) := by decide +kernel
theorem dX4_skipDigits_37 : decode cX4_skipDigits 37 = .ok (.getfield 19, 3) := by decide +kernel
theorem dX4_skipDigits_40 : decode cX4_skipDigits 40 = .ok (.iconst 1, 1) := by decide +kernel
theorem dX4_skipDigits_41 : decode cX4_skipDigits 41 = .ok (.iadd, 1) := by decide +kernel
theorem dX4_skipDigits_42 : decode cX4_skipDigits 42 = .ok (.putfield 19, 3) := by decide +kernel
theorem dX4_skipDigits_45 : decode cX4_skipDigits 45 = .ok (.iinc 2 1, 3) := by decide +kernel
theorem dX4_skipDigits_48 : decode cX4_skipDigits 48 = .ok (.goto (-46), 3) := by decide +kernel
theorem dX4_skipDigits_51 : decode cX4_skipDigits 51 = .ok (.iconst 1, 1) := by decide +kernel
theorem dX4_skipDigits_52 : decode cX4_skipDigits 52 = .ok (.ireturn, 1) := by decide +kernel
set_option maxRecDepth 20000 in
theorem ggX4_carryOut_X4_letterAt : GoodIn wsX4_carryOut wsX4_letterAt := goodIn_r _ [7, 8, 9, 61, 62, 63] (by decide +kernel) (by decide +kernel)
set_option maxRecDepth 20000 in
theorem gX4_carryOut_X4_letterAt : GoodIn wsX4_carryOut (wsV RX4 38 RX4 yX4_letterAt wsX4_letterAt) := goodIn_app (goodIn_of _ (by decide +kernel)) ggX4_carryOut_X4_letterAt
set_option maxRecDepth 20000 in
theorem ggX4_carryOut_X4_number : GoodIn wsX4_carryOut wsX4_number := goodIn_r _ [13, 3, 4, 5, 6, 7, 8, 9, 61, 62, 63] (by decide +kernel) (by decide +kernel)
set_option maxRecDepth 20000 in
theorem gX4_carryOut_X4_number : GoodIn wsX4_carryOut (wsV RX4 42 RX4 yX4_number wsX4_number) := goodIn_app (goodIn_of _ (by decide +kernel)) ggX4_carryOut_X4_number
set_option maxRecDepth 20000 in
theorem ggX4_carryOut_X2_settingRefusal : GoodIn wsX4_carryOut wsX2_settingRefusal := goodIn_r _ [18, 19, 20, 21, 22, 23, 17, 24, 25, 26, 27, 28, 29, 30, 31, 32, 33, 34, 64, 65, 66, 67, 68, 69, 70, 71, 72, 73, 74, 75, 76] (by decide +kernel) (by decide +kernel)
set_option maxRecDepth 20000 in
theorem gX4_carryOut_X2_settingRefusal : GoodIn wsX4_carryOut (wsV RX4 46 RX2 yX2_settingRefusal wsX2_settingRefusal) := goodIn_app (goodIn_of _ (by decide +kernel)) ggX4_carryOut_X2_settingRefusal
set_option maxRecDepth 20000 in
theorem ggX4_carryOut_X2_change : GoodIn wsX4_carryOut wsX2_change := goodIn_r _ [38, 19, 64, 65, 66, 67, 68, 69, 70, 71] (by decide +kernel) (by decide +kernel)
set_option maxRecDepth 20000 in
theorem gX4_carryOut_X2_change : GoodIn wsX4_carryOut (wsV RX4 51 RX2 yX2_change wsX2_change) := goodIn_app (goodIn_of _ (by decide +kernel)) ggX4_carryOut_X2_change
set_option maxRecDepth 20000 in
theorem ggX4_carryOut_X2_add : GoodIn wsX4_carryOut wsX2_add := goodIn_r _ [42, 43, 44, 20, 45, 46, 47, 48, 49, 50, 51, 52, 53, 54, 55, 64, 65, 66, 67, 68, 69, 70, 71, 77, 78, 79, 80, 81, 82, 83] (by decide +kernel) (by decide +kernel)
set_option maxRecDepth 20000 in
theorem gX4_carryOut_X2_add : GoodIn wsX4_carryOut (wsV RX4 54 RX2 yX2_add wsX2_add) := goodIn_app (goodIn_of _ (by decide +kernel)) ggX4_carryOut_X2_add
set_option maxRecDepth 20000 in
theorem ggX4_carryOut_X2_hasComer : GoodIn wsX4_carryOut wsX2_hasComer := goodIn_r _ [59, 43, 64, 65, 66, 67, 68, 69, 70, 71] (by decide +kernel) (by decide +kernel)
set_option maxRecDepth 20000 in
theorem gX4_carryOut_X2_hasComer : GoodIn wsX4_carryOut (wsV RX4 58 RX2 yX2_hasComer wsX2_hasComer) := goodIn_app (goodIn_of _ (by decide +kernel)) ggX4_carryOut_X2_hasComer
set_option maxRecDepth 20000 in
theorem ggX4_carryOut_X1_become : GoodIn wsX4_carryOut wsX1_become := goodIn_r _ [53, 54, 55, 77, 78, 79, 80, 81, 82, 83] (by decide +kernel) (by decide +kernel)
set_option maxRecDepth 20000 in
theorem gX4_carryOut_X1_become : GoodIn wsX4_carryOut (wsV RX4 65 RX1 yX1_become wsX1_become) := goodIn_app (goodIn_of _ (by decide +kernel)) ggX4_carryOut_X1_become
theorem dX4_carryOut_0 : decode cX4_carryOut 0 = .ok (.aload_n 0, 1) := by decide +kernel
theorem dX4_carryOut_1 : decode cX4_carryOut 1 = .ok (.iload_n 2, 1) := by decide +kernel
theorem dX4_carryOut_2 : decode cX4_carryOut 2 = .ok (.invokevirtual 38, 3) := by decide +kernel
theorem dX4_carryOut_5 : decode cX4_carryOut 5 = .ok (.bipush 115, 2) := by decide +kernel
theorem dX4_carryOut_7 : decode cX4_carryOut 7 = .ok (.if_icmp .ne 62, 3) := by decide +kernel
theorem dX4_carryOut_10 : decode cX4_carryOut 10 = .ok (.aload_n 0, 1) := by decide +kernel
theorem dX4_carryOut_11 : decode cX4_carryOut 11 = .ok (.iload_n 2, 1) := by decide +kernel
theorem dX4_carryOut_12 : decode cX4_carryOut 12 = .ok (.iconst 1, 1) := by decide +kernel
theorem dX4_carryOut_13 : decode cX4_carryOut 13 = .ok (.iadd, 1) := by decide +kernel
theorem dX4_carryOut_14 : decode cX4_carryOut 14 = .ok (.iconst 1, 1) := by decide +kernel
theorem dX4_carryOut_15 : decode cX4_carryOut 15 = .ok (.invokevirtual 42, 3) := by decide +kernel
theorem dX4_carryOut_18 : decode cX4_carryOut 18 = .ok (.istore_n 3, 1) := by decide +kernel
theorem dX4_carryOut_19 : decode cX4_carryOut 19 = .ok (.aload_n 0, 1) := by decide +kernel
theorem dX4_carryOut_20 : decode cX4_carryOut 20 = .ok (.iload_n 2, 1) := by decide +kernel
theorem dX4_carryOut_21 : decode cX4_carryOut 21 = .ok (.iconst 3, 1) := by decide +kernel
theorem dX4_carryOut_22 : decode cX4_carryOut 22 = .ok (.iadd, 1) := by decide +kernel
theorem dX4_carryOut_23 : decode cX4_carryOut 23 = .ok (.aload_n 0, 1) := by decide +kernel
theorem dX4_carryOut_24 : decode cX4_carryOut 24 = .ok (.getfield 19, 3) := by decide +kernel
theorem dX4_carryOut_27 : decode cX4_carryOut 27 = .ok (.iload_n 2, 1) := by decide +kernel
theorem dX4_carryOut_28 : decode cX4_carryOut 28 = .ok (.isub, 1) := by decide +kernel
theorem dX4_carryOut_29 : decode cX4_carryOut 29 = .ok (.iconst 4, 1) := by decide +kernel
theorem dX4_carryOut_30 : decode cX4_carryOut 30 = .ok (.isub, 1) := by decide +kernel
theorem dX4_carryOut_31 : decode cX4_carryOut 31 = .ok (.invokevirtual 42, 3) := by decide +kernel
theorem dX4_carryOut_34 : decode cX4_carryOut 34 = .ok (.istore 4, 2) := by decide +kernel
theorem dX4_carryOut_36 : decode cX4_carryOut 36 = .ok (.aload_n 1, 1) := by decide +kernel
theorem dX4_carryOut_37 : decode cX4_carryOut 37 = .ok (.iload_n 3, 1) := by decide +kernel
theorem dX4_carryOut_38 : decode cX4_carryOut 38 = .ok (.iload 4, 2) := by decide +kernel
theorem dX4_carryOut_40 : decode cX4_carryOut 40 = .ok (.invokevirtual 46, 3) := by decide +kernel
theorem dX4_carryOut_43 : decode cX4_carryOut 43 = .ok (.ifCond .ne 7, 3) := by decide +kernel
theorem dX4_carryOut_46 : decode cX4_carryOut 46 = .ok (.iconst 1, 1) := by decide +kernel
theorem dX4_carryOut_47 : decode cX4_carryOut 47 = .ok (.goto 4, 3) := by decide +kernel
theorem dX4_carryOut_50 : decode cX4_carryOut 50 = .ok (.iconst 0, 1) := by decide +kernel
theorem dX4_carryOut_51 : decode cX4_carryOut 51 = .ok (.istore 5, 2) := by decide +kernel
theorem dX4_carryOut_53 : decode cX4_carryOut 53 = .ok (.iload 5, 2) := by decide +kernel
theorem dX4_carryOut_55 : decode cX4_carryOut 55 = .ok (.ifCond .eq 11, 3) := by decide +kernel
theorem dX4_carryOut_58 : decode cX4_carryOut 58 = .ok (.aload_n 1, 1) := by decide +kernel
theorem dX4_carryOut_59 : decode cX4_carryOut 59 = .ok (.iload_n 3, 1) := by decide +kernel
theorem dX4_carryOut_60 : decode cX4_carryOut 60 = .ok (.iload 4, 2) := by decide +kernel
theorem dX4_carryOut_62 : decode cX4_carryOut 62 = .ok (.invokevirtual 51, 3) := by decide +kernel
theorem dX4_carryOut_65 : decode cX4_carryOut 65 = .ok (.pop, 1) := by decide +kernel
theorem dX4_carryOut_66 : decode cX4_carryOut 66 = .ok (.iload 5, 2) := by decide +kernel
theorem dX4_carryOut_68 : decode cX4_carryOut 68 = .ok (.ireturn, 1) := by decide +kernel
theorem dX4_carryOut_69 : decode cX4_carryOut 69 = .ok (.aload_n 0, 1) := by decide +kernel
theorem dX4_carryOut_70 : decode cX4_carryOut 70 = .ok (.iload_n 2, 1) := by decide +kernel
theorem dX4_carryOut_71 : decode cX4_carryOut 71 = .ok (.invokevirtual 38, 3) := by decide +kernel
theorem dX4_carryOut_74 : decode cX4_carryOut 74 = .ok (.bipush 99, 2) := by decide +kernel
theorem dX4_carryOut_76 : decode cX4_carryOut 76 = .ok (.if_icmp .ne 50, 3) := by decide +kernel
theorem dX4_carryOut_79 : decode cX4_carryOut 79 = .ok (.aload_n 1, 1) := by decide +kernel
theorem dX4_carryOut_80 : decode cX4_carryOut 80 = .ok (.aload_n 0, 1) := by decide +kernel
theorem dX4_carryOut_81 : decode cX4_carryOut 81 = .ok (.iload_n 2, 1) := by decide +kernel
theorem dX4_carryOut_82 : decode cX4_carryOut 82 = .ok (.iconst 1, 1) := by decide +kernel
theorem dX4_carryOut_83 : decode cX4_carryOut 83 = .ok (.iadd, 1) := by decide +kernel
theorem dX4_carryOut_84 : decode cX4_carryOut 84 = .ok (.iconst 1, 1) := by decide +kernel
theorem dX4_carryOut_85 : decode cX4_carryOut 85 = .ok (.invokevirtual 42, 3) := by decide +kernel
theorem dX4_carryOut_88 : decode cX4_carryOut 88 = .ok (.aload_n 0, 1) := by decide +kernel
theorem dX4_carryOut_89 : decode cX4_carryOut 89 = .ok (.iload_n 2, 1) := by decide +kernel
theorem dX4_carryOut_90 : decode cX4_carryOut 90 = .ok (.iconst 2, 1) := by decide +kernel
theorem dX4_carryOut_91 : decode cX4_carryOut 91 = .ok (.iadd, 1) := by decide +kernel
theorem dX4_carryOut_92 : decode cX4_carryOut 92 = .ok (.iconst 1, 1) := by decide +kernel
theorem dX4_carryOut_93 : decode cX4_carryOut 93 = .ok (.invokevirtual 42, 3) := by decide +kernel
theorem dX4_carryOut_96 : decode cX4_carryOut 96 = .ok (.aload_n 0, 1) := by decide +kernel
theorem dX4_carryOut_97 : decode cX4_carryOut 97 = .ok (.iload_n 2, 1) := by decide +kernel
theorem dX4_carryOut_98 : decode cX4_carryOut 98 = .ok (.iconst 3, 1) := by decide +kernel
theorem dX4_carryOut_99 : decode cX4_carryOut 99 = .ok (.iadd, 1) := by decide +kernel
theorem dX4_carryOut_100 : decode cX4_carryOut 100 = .ok (.iconst 3, 1) := by decide +kernel
theorem dX4_carryOut_101 : decode cX4_carryOut 101 = .ok (.invokevirtual 42, 3) := by decide +kernel
theorem dX4_carryOut_104 : decode cX4_carryOut 104 = .ok (.aload_n 0, 1) := by decide +kernel
theorem dX4_carryOut_105 : decode cX4_carryOut 105 = .ok (.iload_n 2, 1) := by decide +kernel
theorem dX4_carryOut_106 : decode cX4_carryOut 106 = .ok (.bipush 6, 2) := by decide +kernel
theorem dX4_carryOut_108 : decode cX4_carryOut 108 = .ok (.iadd, 1) := by decide +kernel
theorem dX4_carryOut_109 : decode cX4_carryOut 109 = .ok (.iconst 1, 1) := by decide +kernel
theorem dX4_carryOut_110 : decode cX4_carryOut 110 = .ok (.invokevirtual 42, 3) := by decide +kernel
theorem dX4_carryOut_113 : decode cX4_carryOut 113 = .ok (.aload_n 0, 1) := by decide +kernel
theorem dX4_carryOut_114 : decode cX4_carryOut 114 = .ok (.iload_n 2, 1) := by decide +kernel
theorem dX4_carryOut_115 : decode cX4_carryOut 115 = .ok (.bipush 7, 2) := by decide +kernel
theorem dX4_carryOut_117 : decode cX4_carryOut 117 = .ok (.iadd, 1) := by decide +kernel
theorem dX4_carryOut_118 : decode cX4_carryOut 118 = .ok (.iconst 2, 1) := by decide +kernel
theorem dX4_carryOut_119 : decode cX4_carryOut 119 = .ok (.invokevirtual 42, 3) := by decide +kernel
theorem dX4_carryOut_122 : decode cX4_carryOut 122 = .ok (.invokevirtual 54, 3) := by decide +kernel
theorem dX4_carryOut_125 : decode cX4_carryOut 125 = .ok (.ireturn, 1) := by decide +kernel
theorem dX4_carryOut_126 : decode cX4_carryOut 126 = .ok (.aload_n 0, 1) := by decide +kernel
theorem dX4_carryOut_127 : decode cX4_carryOut 127 = .ok (.iload_n 2, 1) := by decide +kernel
theorem dX4_carryOut_128 : decode cX4_carryOut 128 = .ok (.iconst 1, 1) := by decide +kernel
theorem dX4_carryOut_129 : decode cX4_carryOut 129 = .ok (.iadd, 1) := by decide +kernel
theorem dX4_carryOut_130 : decode cX4_carryOut 130 = .ok (.iconst 1, 1) := by decide +kernel
theorem dX4_carryOut_131 : decode cX4_carryOut 131 = .ok (.invokevirtual 42, 3) := by decide +kernel
theorem dX4_carryOut_134 : decode cX4_carryOut 134 = .ok (.istore_n 3, 1) := by decide +kernel
theorem dX4_carryOut_135 : decode cX4_carryOut 135 = .ok (.aload_n 0, 1) := by decide +kernel
theorem dX4_carryOut_136 : decode cX4_carryOut 136 = .ok (.iload_n 2, 1) := by decide +kernel
theorem dX4_carryOut_137 : decode cX4_carryOut 137 = .ok (.iconst 2, 1) := by decide +kernel
theorem dX4_carryOut_138 : decode cX4_carryOut 138 = .ok (.iadd, 1) := by decide +kernel
theorem dX4_carryOut_139 : decode cX4_carryOut 139 = .ok (.iconst 1, 1) := by decide +kernel
theorem dX4_carryOut_140 : decode cX4_carryOut 140 = .ok (.invokevirtual 42, 3) := by decide +kernel
theorem dX4_carryOut_143 : decode cX4_carryOut 143 = .ok (.istore 4, 2) := by decide +kernel
theorem dX4_carryOut_145 : decode cX4_carryOut 145 = .ok (.aload_n 1, 1) := by decide +kernel
theorem dX4_carryOut_146 : decode cX4_carryOut 146 = .ok (.iload_n 3, 1) := by decide +kernel
theorem dX4_carryOut_147 : decode cX4_carryOut 147 = .ok (.invokevirtual 58, 3) := by decide +kernel
theorem dX4_carryOut_150 : decode cX4_carryOut 150 = .ok (.ifCond .eq 14, 3) := by decide +kernel
theorem dX4_carryOut_153 : decode cX4_carryOut 153 = .ok (.iload 4, 2) := by decide +kernel
theorem dX4_carryOut_155 : decode cX4_carryOut 155 = .ok (.bipush 7, 2) := by decide +kernel
theorem dX4_carryOut_157 : decode cX4_carryOut 157 = .ok (.if_icmp .ge 7, 3) := by decide +kernel
theorem dX4_carryOut_160 : decode cX4_carryOut 160 = .ok (.iconst 1, 1) := by decide +kernel
theorem dX4_carryOut_161 : decode cX4_carryOut 161 = .ok (.goto 4, 3) := by decide +kernel
theorem dX4_carryOut_164 : decode cX4_carryOut 164 = .ok (.iconst 0, 1) := by decide +kernel
theorem dX4_carryOut_165 : decode cX4_carryOut 165 = .ok (.istore 5, 2) := by decide +kernel
theorem dX4_carryOut_167 : decode cX4_carryOut 167 = .ok (.iload 5, 2) := by decide +kernel
theorem dX4_carryOut_169 : decode cX4_carryOut 169 = .ok (.ifCond .eq 22, 3) := by decide +kernel
theorem dX4_carryOut_172 : decode cX4_carryOut 172 = .ok (.aload_n 1, 1) := by decide +kernel
theorem dX4_carryOut_173 : decode cX4_carryOut 173 = .ok (.getfield 61, 3) := by decide +kernel
theorem dX4_carryOut_176 : decode cX4_carryOut 176 = .ok (.iload_n 3, 1) := by decide +kernel
theorem dX4_carryOut_177 : decode cX4_carryOut 177 = .ok (.aaload, 1) := by decide +kernel
theorem dX4_carryOut_178 : decode cX4_carryOut 178 = .ok (.iload 4, 2) := by decide +kernel
theorem dX4_carryOut_180 : decode cX4_carryOut 180 = .ok (.aload_n 0, 1) := by decide +kernel
theorem dX4_carryOut_181 : decode cX4_carryOut 181 = .ok (.iload_n 2, 1) := by decide +kernel
theorem dX4_carryOut_182 : decode cX4_carryOut 182 = .ok (.iconst 3, 1) := by decide +kernel
theorem dX4_carryOut_183 : decode cX4_carryOut 183 = .ok (.iadd, 1) := by decide +kernel
theorem dX4_carryOut_184 : decode cX4_carryOut 184 = .ok (.iconst 1, 1) := by decide +kernel
theorem dX4_carryOut_185 : decode cX4_carryOut 185 = .ok (.invokevirtual 42, 3) := by decide +kernel
theorem dX4_carryOut_188 : decode cX4_carryOut 188 = .ok (.invokevirtual 65, 3) := by decide +kernel
theorem dX4_carryOut_191 : decode cX4_carryOut 191 = .ok (.iload 5, 2) := by decide +kernel
theorem dX4_carryOut_193 : decode cX4_carryOut 193 = .ok (.ireturn, 1) := by decide +kernel
set_option maxRecDepth 20000 in
theorem ggX4_number_X4_letterAt : GoodIn wsX4_number wsX4_letterAt := goodIn_r _ [5, 6, 7, 8, 9, 10] (by decide +kernel) (by decide +kernel)
set_option maxRecDepth 20000 in
theorem gX4_number_X4_letterAt : GoodIn wsX4_number (wsV RX4 38 RX4 yX4_letterAt wsX4_letterAt) := goodIn_app (goodIn_of _ (by decide +kernel)) ggX4_number_X4_letterAt
theorem dX4_number_0 : decode cX4_number 0 = .ok (.iconst 0, 1) := by decide +kernel
theorem dX4_number_1 : decode cX4_number 1 = .ok (.istore_n 3, 1) := by decide +kernel
theorem dX4_number_2 : decode cX4_number 2 = .ok (.iconst 0, 1) := by decide +kernel
theorem dX4_number_3 : decode cX4_number 3 = .ok (.istore 4, 2) := by decide +kernel
theorem dX4_number_5 : decode cX4_number 5 = .ok (.iload 4, 2) := by decide +kernel
theorem dX4_number_7 : decode cX4_number 7 = .ok (.iload_n 2, 1) := by decide +kernel
theorem dX4_number_8 : decode cX4_number 8 = .ok (.if_icmp .ge 26, 3) := by decide +kernel
theorem dX4_number_11 : decode cX4_number 11 = .ok (.iload_n 3, 1) := by decide +kernel
theorem dX4_number_12 : decode cX4_number 12 = .ok (.bipush 10, 2) := by decide +kernel
theorem dX4_number_14 : decode cX4_number 14 = .ok (.imul, 1) := by decide +kernel
theorem dX4_number_15 : decode cX4_number 15 = .ok (.aload_n 0, 1) := by decide +kernel
theorem dX4_number_16 : decode cX4_number 16 = .ok (.iload_n 1, 1) := by decide +kernel
theorem dX4_number_17 : decode cX4_number 17 = .ok (.iload 4, 2) := by decide +kernel
theorem dX4_number_19 : decode cX4_number 19 = .ok (.iadd, 1) := by decide +kernel
theorem dX4_number_20 : decode cX4_number 20 = .ok (.invokevirtual 38, 3) := by decide +kernel
theorem dX4_number_23 : decode cX4_number 23 = .ok (.iadd, 1) := by decide +kernel
theorem dX4_number_24 : decode cX4_number 24 = .ok (.bipush 48, 2) := by decide +kernel
theorem dX4_number_26 : decode cX4_number 26 = .ok (.isub, 1) := by decide +kernel
theorem dX4_number_27 : decode cX4_number 27 = .ok (.istore_n 3, 1) := by decide +kernel
theorem dX4_number_28 : decode cX4_number 28 = .ok (.iinc 4 1, 3) := by decide +kernel
theorem dX4_number_31 : decode cX4_number 31 = .ok (.goto (-26), 3) := by decide +kernel
theorem dX4_number_34 : decode cX4_number 34 = .ok (.iload_n 3, 1) := by decide +kernel
theorem dX4_number_35 : decode cX4_number 35 = .ok (.ireturn, 1) := by decide +kernel
theorem dX4_letterAt_0 : decode cX4_letterAt 0 = .ok (.iload_n 1, 1) := by decide +kernel
theorem dX4_letterAt_1 : decode cX4_letterAt 1 = .ok (.ifCond .lt 29, 3) := by decide +kernel
theorem dX4_letterAt_4 : decode cX4_letterAt 4 = .ok (.iload_n 1, 1) := by decide +kernel
theorem dX4_letterAt_5 : decode cX4_letterAt 5 = .ok (.aload_n 0, 1) := by decide +kernel
theorem dX4_letterAt_6 : decode cX4_letterAt 6 = .ok (.getfield 15, 3) := by decide +kernel
theorem dX4_letterAt_9 : decode cX4_letterAt 9 = .ok (.if_icmp .ge 21, 3) := by decide +kernel
theorem dX4_letterAt_12 : decode cX4_letterAt 12 = .ok (.iload_n 1, 1) := by decide +kernel
theorem dX4_letterAt_13 : decode cX4_letterAt 13 = .ok (.aload_n 0, 1) := by decide +kernel
theorem dX4_letterAt_14 : decode cX4_letterAt 14 = .ok (.getfield 9, 3) := by decide +kernel
theorem dX4_letterAt_17 : decode cX4_letterAt 17 = .ok (.arraylength, 1) := by decide +kernel
theorem dX4_letterAt_18 : decode cX4_letterAt 18 = .ok (.if_icmp .ge 12, 3) := by decide +kernel
theorem dX4_letterAt_21 : decode cX4_letterAt 21 = .ok (.aload_n 0, 1) := by decide +kernel
theorem dX4_letterAt_22 : decode cX4_letterAt 22 = .ok (.getfield 9, 3) := by decide +kernel
theorem dX4_letterAt_25 : decode cX4_letterAt 25 = .ok (.iload_n 1, 1) := by decide +kernel
theorem dX4_letterAt_26 : decode cX4_letterAt 26 = .ok (.iaload, 1) := by decide +kernel
theorem dX4_letterAt_27 : decode cX4_letterAt 27 = .ok (.goto 5, 3) := by decide +kernel
theorem dX4_letterAt_30 : decode cX4_letterAt 30 = .ok (.bipush (-9), 2) := by decide +kernel
theorem dX4_letterAt_32 : decode cX4_letterAt 32 = .ok (.ireturn, 1) := by decide +kernel
set_option maxRecDepth 20000 in
theorem ggX5_init_X2_init : GoodIn wsX5_init wsX2_init := goodIn_r _ [10, 11, 2, 3, 12, 13, 14, 15, 16, 17, 18, 19, 20, 21, 22, 23, 24, 25, 26, 27, 28, 29, 30, 31, 32, 33, 34, 35, 36, 37, 38, 39, 40, 41, 42, 45, 46, 47, 48, 49, 50, 51, 52, 53, 54, 55, 56] (by decide +kernel) (by decide +kernel)
set_option maxRecDepth 20000 in
theorem gX5_init_X2_init : GoodIn wsX5_init (wsX2_init) := ggX5_init_X2_init
theorem dX5_init_0 : decode cX5_init 0 = .ok (.aload_n 0, 1) := by decide +kernel
theorem dX5_init_1 : decode cX5_init 1 = .ok (.invokespecial 3, 3) := by decide +kernel
theorem dX5_init_4 : decode cX5_init 4 = .ok (.aload_n 0, 1) := by decide +kernel
theorem dX5_init_5 : decode cX5_init 5 = .ok (.new 9, 3) := by decide +kernel
theorem dX5_init_8 : decode cX5_init 8 = .ok (.dup, 1) := by decide +kernel
theorem dX5_init_9 : decode cX5_init 9 = .ok (.invokespecial 11, 3) := by decide +kernel
theorem dX5_init_12 : decode cX5_init 12 = .ok (.putfield 12, 3) := by decide +kernel
theorem dX5_init_15 : decode cX5_init 15 = .ok (.return_, 1) := by decide +kernel
set_option maxRecDepth 20000 in
theorem ggX5_take_X2_copy : GoodIn wsX5_take wsX2_copy := goodIn_r _ [6, 7, 8, 9, 10, 11, 12, 13, 14, 15, 16, 17, 18, 19, 20, 21, 22, 23, 24, 25, 26, 27, 28, 29, 30, 31, 32, 33, 34, 35, 36, 37, 38, 39, 40, 41, 42, 43, 46, 47, 48, 49, 50, 51, 52, 53, 54, 55, 56, 57, 58, 59, 60, 61, 62, 63, 64, 65] (by decide +kernel) (by decide +kernel)
set_option maxRecDepth 20000 in
theorem gX5_take_X2_copy : GoodIn wsX5_take (wsV RX5 18 RX2 yX2_copy wsX2_copy) := goodIn_app (goodIn_of _ (by decide +kernel)) ggX5_take_X2_copy
theorem dX5_take_0 : decode cX5_take 0 = .ok (.aload_n 0, 1) := by decide +kernel
theorem dX5_take_1 : decode cX5_take 1 = .ok (.getfield 12, 3) := by decide +kernel
theorem dX5_take_4 : decode cX5_take 4 = .ok (.aload_n 1, 1) := by decide +kernel
theorem dX5_take_5 : decode cX5_take 5 = .ok (.invokevirtual 18, 3) := by decide +kernel
theorem dX5_take_8 : decode cX5_take 8 = .ok (.return_, 1) := by decide +kernel
set_option maxRecDepth 20000 in
theorem ggX5_restOfDay_X2_pass : GoodIn wsX5_restOfDay wsX2_pass := goodIn_r _ [7, 8, 9, 10, 6, 11, 12, 13, 14, 15, 16, 17, 18, 19, 20, 21, 22, 23, 24, 25, 26, 27, 28, 29, 30, 31, 32, 33, 34, 35, 36, 37, 38, 39, 40, 41, 42, 43, 44, 45, 46, 47, 48, 49, 50, 51, 52, 53, 54, 55, 56, 57, 58, 59, 60, 61, 62, 63, 64, 65, 66, 67, 68, 69, 70, 71, 72, 73, 74, 75, 76, 77, 78, 79, 80, 81, 82, 83, 84, 85, 86, 87, 88, 89, 90, 91, 92, 93, 94, 95, 96, 97, 98, 99, 100, 101, 102, 103, 104, 105, 106, 107, 108, 109, 110, 111, 112, 113, 114, 115, 116, 117, 118, 119, 120, 121, 122, 123, 124, 125, 126, 127, 128, 129, 156, 157, 158, 159, 160, 161, 162, 163, 164, 165, 166, 167, 168, 169, 170, 171, 172, 173, 174, 175] (by decide +kernel) (by decide +kernel)
set_option maxRecDepth 20000 in
theorem gX5_restOfDay_X2_pass : GoodIn wsX5_restOfDay (wsV RX5 26 RX2 yX2_pass wsX2_pass) := goodIn_app (goodIn_of _ (by decide +kernel)) ggX5_restOfDay_X2_pass
set_option maxRecDepth 20000 in
theorem ggX5_restOfDay_X2_allWaited : GoodIn wsX5_restOfDay wsX2_allWaited := goodIn_r _ [133, 18, 19, 134, 135, 136, 137, 138, 139, 140, 141, 142, 156, 157, 158, 159, 160, 161, 162, 163, 164, 165, 166, 167, 168, 169, 170] (by decide +kernel) (by decide +kernel)
set_option maxRecDepth 20000 in
theorem gX5_restOfDay_X2_allWaited : GoodIn wsX5_restOfDay (wsV RX5 30 RX2 yX2_allWaited wsX2_allWaited) := goodIn_app (goodIn_of _ (by decide +kernel)) ggX5_restOfDay_X2_allWaited
set_option maxRecDepth 20000 in
theorem ggX5_restOfDay_X2_comersWith : GoodIn wsX5_restOfDay wsX2_comersWith := goodIn_r _ [17, 18, 19, 20, 156, 157, 158, 159, 160, 161, 162, 163, 164, 165, 166, 167, 168, 169, 170] (by decide +kernel) (by decide +kernel)
set_option maxRecDepth 20000 in
theorem gX5_restOfDay_X2_comersWith : GoodIn wsX5_restOfDay (wsV RX5 34 RX2 yX2_comersWith wsX2_comersWith) := goodIn_app (goodIn_of _ (by decide +kernel)) ggX5_restOfDay_X2_comersWith
set_option maxRecDepth 20000 in
theorem ggX5_restOfDay_X2_cupsLeft : GoodIn wsX5_restOfDay wsX2_cupsLeft := goodIn_r _ [147, 25, 61, 26, 27, 28, 6, 29, 30, 156, 157, 158, 159, 160, 161, 162, 163, 171, 172, 173, 174, 175] (by decide +kernel) (by decide +kernel)
set_option maxRecDepth 20000 in
theorem gX5_restOfDay_X2_cupsLeft : GoodIn wsX5_restOfDay (wsV RX5 38 RX2 yX2_cupsLeft wsX2_cupsLeft) := goodIn_app (goodIn_of _ (by decide +kernel)) ggX5_restOfDay_X2_cupsLeft
set_option maxRecDepth 20000 in
theorem ggX5_restOfDay_X2_cost : GoodIn wsX5_restOfDay wsX2_cost := goodIn_r _ [151, 30, 152, 131, 132, 6, 133, 18, 19, 134, 135, 136, 137, 138, 139, 140, 141, 142, 153, 145, 146, 147, 25, 61, 26, 27, 28, 29, 14, 15, 16, 17, 20, 156, 157, 158, 159, 160, 161, 162, 163, 164, 165, 166, 167, 168, 169, 170, 171, 172, 173, 174, 175] (by decide +kernel) (by decide +kernel)
set_option maxRecDepth 20000 in
theorem gX5_restOfDay_X2_cost : GoodIn wsX5_restOfDay (wsV RX5 41 RX2 yX2_cost wsX2_cost) := goodIn_app (goodIn_of _ (by decide +kernel)) ggX5_restOfDay_X2_cost
theorem dX5_restOfDay_0 : decode cX5_restOfDay 0 = .ok (.aload_n 0, 1) := by decide +kernel
theorem dX5_restOfDay_1 : decode cX5_restOfDay 1 = .ok (.getfield 12, 3) := by decide +kernel
theorem dX5_restOfDay_4 : decode cX5_restOfDay 4 = .ok (.iconst 0, 1) := by decide +kernel
theorem dX5_restOfDay_5 : decode cX5_restOfDay 5 = .ok (.putfield 22, 3) := by decide +kernel
theorem dX5_restOfDay_8 : decode cX5_restOfDay 8 = .ok (.aload_n 0, 1) := by decide +kernel
theorem dX5_restOfDay_9 : decode cX5_restOfDay 9 = .ok (.getfield 12, 3) := by decide +kernel
theorem dX5_restOfDay_12 : decode cX5_restOfDay 12 = .ok (.sipush 180, 3) := by decide +kernel
theorem dX5_restOfDay_15 : decode cX5_restOfDay 15 = .ok (.invokevirtual 26, 3) := by decide +kernel
theorem dX5_restOfDay_18 : decode cX5_restOfDay 18 = .ok (.iload_n 1, 1) := by decide +kernel
theorem dX5_restOfDay_19 : decode cX5_restOfDay 19 = .ok (.tableswitch 62 0 3 #[29, 37, 46, 54], 29) := by decide +kernel
theorem dX5_restOfDay_48 : decode cX5_restOfDay 48 = .ok (.aload_n 0, 1) := by decide +kernel
theorem dX5_restOfDay_49 : decode cX5_restOfDay 49 = .ok (.getfield 12, 3) := by decide +kernel
theorem dX5_restOfDay_52 : decode cX5_restOfDay 52 = .ok (.invokevirtual 30, 3) := by decide +kernel
theorem dX5_restOfDay_55 : decode cX5_restOfDay 55 = .ok (.ireturn, 1) := by decide +kernel
theorem dX5_restOfDay_56 : decode cX5_restOfDay 56 = .ok (.aload_n 0, 1) := by decide +kernel
theorem dX5_restOfDay_57 : decode cX5_restOfDay 57 = .ok (.getfield 12, 3) := by decide +kernel
theorem dX5_restOfDay_60 : decode cX5_restOfDay 60 = .ok (.iconst 3, 1) := by decide +kernel
theorem dX5_restOfDay_61 : decode cX5_restOfDay 61 = .ok (.invokevirtual 34, 3) := by decide +kernel
theorem dX5_restOfDay_64 : decode cX5_restOfDay 64 = .ok (.ireturn, 1) := by decide +kernel
theorem dX5_restOfDay_65 : decode cX5_restOfDay 65 = .ok (.aload_n 0, 1) := by decide +kernel
theorem dX5_restOfDay_66 : decode cX5_restOfDay 66 = .ok (.getfield 12, 3) := by decide +kernel
theorem dX5_restOfDay_69 : decode cX5_restOfDay 69 = .ok (.getfield 22, 3) := by decide +kernel
theorem dX5_restOfDay_72 : decode cX5_restOfDay 72 = .ok (.ireturn, 1) := by decide +kernel
theorem dX5_restOfDay_73 : decode cX5_restOfDay 73 = .ok (.aload_n 0, 1) := by decide +kernel
theorem dX5_restOfDay_74 : decode cX5_restOfDay 74 = .ok (.getfield 12, 3) := by decide +kernel
theorem dX5_restOfDay_77 : decode cX5_restOfDay 77 = .ok (.invokevirtual 38, 3) := by decide +kernel
theorem dX5_restOfDay_80 : decode cX5_restOfDay 80 = .ok (.ireturn, 1) := by decide +kernel
theorem dX5_restOfDay_81 : decode cX5_restOfDay 81 = .ok (.aload_n 0, 1) := by decide +kernel
theorem dX5_restOfDay_82 : decode cX5_restOfDay 82 = .ok (.getfield 12, 3) := by decide +kernel
theorem dX5_restOfDay_85 : decode cX5_restOfDay 85 = .ok (.invokevirtual 41, 3) := by decide +kernel
theorem dX5_restOfDay_88 : decode cX5_restOfDay 88 = .ok (.ireturn, 1) := by decide +kernel
set_option maxRecDepth 20000 in
theorem ggX5_servedAt_X2_pass : GoodIn wsX5_servedAt wsX2_pass := goodIn_r _ [9, 10, 11, 12, 8, 13, 14, 15, 16, 17, 18, 19, 20, 21, 22, 23, 24, 25, 26, 27, 28, 29, 30, 31, 32, 33, 34, 35, 36, 37, 38, 39, 40, 41, 42, 43, 44, 45, 46, 47, 48, 49, 50, 51, 52, 53, 54, 55, 56, 57, 58, 59, 60, 61, 62, 63, 64, 65, 66, 67, 68, 69, 70, 71, 72, 73, 74, 75, 76, 77, 78, 79, 80, 81, 82, 83, 84, 85, 86, 87, 88, 89, 90, 91, 92, 93, 94, 95, 96, 97, 98, 99, 100, 101, 102, 103, 104, 105, 106, 107, 108, 109, 110, 111, 112, 113, 114, 115, 116, 117, 118, 119, 120, 121, 122, 123, 124, 125, 126, 127, 128, 129, 130, 131, 134, 135, 136, 137, 138, 139, 140, 141, 142, 143, 144, 145, 146, 147, 148, 149, 150, 151, 152, 153] (by decide +kernel) (by decide +kernel)
set_option maxRecDepth 20000 in
theorem gX5_servedAt_X2_pass : GoodIn wsX5_servedAt (wsV RX5 26 RX2 yX2_pass wsX2_pass) := goodIn_app (goodIn_of _ (by decide +kernel)) ggX5_servedAt_X2_pass
theorem dX5_servedAt_0 : decode cX5_servedAt 0 = .ok (.aload_n 0, 1) := by decide +kernel
theorem dX5_servedAt_1 : decode cX5_servedAt 1 = .ok (.getfield 12, 3) := by decide +kernel
theorem dX5_servedAt_4 : decode cX5_servedAt 4 = .ok (.sipush 180, 3) := by decide +kernel
theorem dX5_servedAt_7 : decode cX5_servedAt 7 = .ok (.invokevirtual 26, 3) := by decide +kernel
theorem dX5_servedAt_10 : decode cX5_servedAt 10 = .ok (.aload_n 0, 1) := by decide +kernel
theorem dX5_servedAt_11 : decode cX5_servedAt 11 = .ok (.getfield 12, 3) := by decide +kernel
theorem dX5_servedAt_14 : decode cX5_servedAt 14 = .ok (.getfield 44, 3) := by decide +kernel
theorem dX5_servedAt_17 : decode cX5_servedAt 17 = .ok (.iload_n 1, 1) := by decide +kernel
theorem dX5_servedAt_18 : decode cX5_servedAt 18 = .ok (.aaload, 1) := by decide +kernel
theorem dX5_servedAt_19 : decode cX5_servedAt 19 = .ok (.astore_n 2, 1) := by decide +kernel
theorem dX5_servedAt_20 : decode cX5_servedAt 20 = .ok (.aload_n 2, 1) := by decide +kernel
theorem dX5_servedAt_21 : decode cX5_servedAt 21 = .ok (.getfield 48, 3) := by decide +kernel
theorem dX5_servedAt_24 : decode cX5_servedAt 24 = .ok (.iconst 2, 1) := by decide +kernel
theorem dX5_servedAt_25 : decode cX5_servedAt 25 = .ok (.if_icmp .ne 10, 3) := by decide +kernel
theorem dX5_servedAt_28 : decode cX5_servedAt 28 = .ok (.aload_n 2, 1) := by decide +kernel
theorem dX5_servedAt_29 : decode cX5_servedAt 29 = .ok (.getfield 53, 3) := by decide +kernel
theorem dX5_servedAt_32 : decode cX5_servedAt 32 = .ok (.goto 5, 3) := by decide +kernel
theorem dX5_servedAt_35 : decode cX5_servedAt 35 = .ok (.bipush (-9), 2) := by decide +kernel
theorem dX5_servedAt_37 : decode cX5_servedAt 37 = .ok (.ireturn, 1) := by decide +kernel
set_option maxRecDepth 20000 in
theorem ggX5_costAnew_X2_begin : GoodIn wsX5_costAnew wsX2_begin := goodIn_r _ [6, 7, 8, 9, 10, 11, 12, 13, 14, 15, 16, 17, 18, 19, 20, 21, 156, 157, 158, 159, 160, 161, 162, 163, 164, 165, 166, 167, 168, 169, 170, 171, 172, 173, 174, 175] (by decide +kernel) (by decide +kernel)
set_option maxRecDepth 20000 in
theorem gX5_costAnew_X2_begin : GoodIn wsX5_costAnew (wsV RX5 56 RX2 yX2_begin wsX2_begin) := goodIn_app (goodIn_of _ (by decide +kernel)) ggX5_costAnew_X2_begin
set_option maxRecDepth 20000 in
theorem ggX5_costAnew_X2_isOver : GoodIn wsX5_costAnew wsX2_isOver := goodIn_r _ [25, 7, 8, 26, 27, 28, 5, 29, 9, 10, 11, 30, 31, 32, 33, 12, 34, 35, 36, 37, 38, 39, 40, 41, 16, 42, 21, 156, 157, 158, 159, 160, 161, 162, 163, 164, 165, 166, 167, 168, 169, 170, 171, 172, 173, 174, 175] (by decide +kernel) (by decide +kernel)
set_option maxRecDepth 20000 in
theorem gX5_costAnew_X2_isOver : GoodIn wsX5_costAnew (wsV RX5 59 RX2 yX2_isOver wsX2_isOver) := goodIn_app (goodIn_of _ (by decide +kernel)) ggX5_costAnew_X2_isOver
set_option maxRecDepth 20000 in
theorem ggX5_costAnew_X2_passMinute : GoodIn wsX5_costAnew wsX2_passMinute := goodIn_r _ [46, 8, 47, 7, 48, 49, 50, 5, 51, 9, 10, 11, 52, 53, 54, 55, 56, 57, 58, 59, 60, 61, 62, 63, 64, 65, 66, 67, 68, 69, 70, 71, 72, 12, 34, 35, 36, 37, 38, 73, 74, 75, 16, 76, 21, 19, 18, 77, 78, 79, 80, 81, 82, 83, 84, 85, 86, 39, 40, 41, 42, 87, 88, 89, 90, 91, 92, 93, 94, 95, 96, 97, 98, 99, 100, 101, 102, 103, 104, 105, 106, 107, 108, 109, 110, 111, 112, 113, 114, 115, 116, 117, 118, 119, 20, 120, 121, 122, 123, 124, 125, 126, 127, 128, 129, 130, 131, 132, 156, 157, 158, 159, 160, 161, 162, 163, 164, 165, 166, 167, 168, 169, 170, 171, 172, 173, 174, 175] (by decide +kernel) (by decide +kernel)
set_option maxRecDepth 20000 in
theorem gX5_costAnew_X2_passMinute : GoodIn wsX5_costAnew (wsV RX5 63 RX2 yX2_passMinute wsX2_passMinute) := goodIn_app (goodIn_of _ (by decide +kernel)) ggX5_costAnew_X2_passMinute
set_option maxRecDepth 20000 in
theorem ggX5_costAnew_X2_cost : GoodIn wsX5_costAnew wsX2_cost := goodIn_r _ [136, 38, 137, 138, 139, 5, 140, 9, 10, 141, 142, 143, 144, 145, 146, 147, 148, 149, 150, 151, 152, 153, 12, 67, 34, 35, 36, 37, 26, 27, 28, 29, 11, 156, 157, 158, 159, 160, 161, 162, 163, 164, 165, 166, 167, 168, 169, 170, 171, 172, 173, 174, 175] (by decide +kernel) (by decide +kernel)
set_option maxRecDepth 20000 in
theorem gX5_costAnew_X2_cost : GoodIn wsX5_costAnew (wsV RX5 41 RX2 yX2_cost wsX2_cost) := goodIn_app (goodIn_of _ (by decide +kernel)) ggX5_costAnew_X2_cost
theorem dX5_costAnew_0 : decode cX5_costAnew 0 = .ok (.aload_n 0, 1) := by decide +kernel
theorem dX5_costAnew_1 : decode cX5_costAnew 1 = .ok (.getfield 12, 3) := by decide +kernel
theorem dX5_costAnew_4 : decode cX5_costAnew 4 = .ok (.invokevirtual 56, 3) := by decide +kernel
theorem dX5_costAnew_7 : decode cX5_costAnew 7 = .ok (.iconst 0, 1) := by decide +kernel
theorem dX5_costAnew_8 : decode cX5_costAnew 8 = .ok (.istore_n 1, 1) := by decide +kernel
theorem dX5_costAnew_9 : decode cX5_costAnew 9 = .ok (.iload_n 1, 1) := by decide +kernel
theorem dX5_costAnew_10 : decode cX5_costAnew 10 = .ok (.sipush 180, 3) := by decide +kernel
theorem dX5_costAnew_13 : decode cX5_costAnew 13 = .ok (.if_icmp .ge 26, 3) := by decide +kernel
theorem dX5_costAnew_16 : decode cX5_costAnew 16 = .ok (.aload_n 0, 1) := by decide +kernel
theorem dX5_costAnew_17 : decode cX5_costAnew 17 = .ok (.getfield 12, 3) := by decide +kernel
theorem dX5_costAnew_20 : decode cX5_costAnew 20 = .ok (.invokevirtual 59, 3) := by decide +kernel
theorem dX5_costAnew_23 : decode cX5_costAnew 23 = .ok (.ifCond .ne 16, 3) := by decide +kernel
theorem dX5_costAnew_26 : decode cX5_costAnew 26 = .ok (.aload_n 0, 1) := by decide +kernel
theorem dX5_costAnew_27 : decode cX5_costAnew 27 = .ok (.getfield 12, 3) := by decide +kernel
theorem dX5_costAnew_30 : decode cX5_costAnew 30 = .ok (.invokevirtual 63, 3) := by decide +kernel
theorem dX5_costAnew_33 : decode cX5_costAnew 33 = .ok (.iinc 1 1, 3) := by decide +kernel
theorem dX5_costAnew_36 : decode cX5_costAnew 36 = .ok (.goto (-27), 3) := by decide +kernel
theorem dX5_costAnew_39 : decode cX5_costAnew 39 = .ok (.aload_n 0, 1) := by decide +kernel
theorem dX5_costAnew_40 : decode cX5_costAnew 40 = .ok (.getfield 12, 3) := by decide +kernel
theorem dX5_costAnew_43 : decode cX5_costAnew 43 = .ok (.invokevirtual 41, 3) := by decide +kernel
theorem dX5_costAnew_46 : decode cX5_costAnew 46 = .ok (.ireturn, 1) := by decide +kernel
set_option maxRecDepth 20000 in
theorem ggX5_bestKind_X5_costAnew : GoodIn wsX5_bestKind wsX5_costAnew := goodIn_r _ [10, 1, 11, 12, 13, 14, 15, 16, 17, 18, 19, 20, 21, 22, 23, 24, 25, 26, 27, 28, 29, 30, 31, 32, 33, 34, 35, 36, 37, 38, 39, 40, 41, 42, 43, 44, 45, 46, 47, 48, 49, 50, 51, 52, 53, 54, 55, 56, 57, 58, 59, 60, 61, 62, 63, 64, 65, 66, 67, 68, 69, 70, 71, 72, 73, 74, 75, 76, 77, 78, 79, 80, 81, 82, 83, 84, 85, 86, 87, 88, 89, 90, 91, 92, 93, 94, 95, 96, 97, 98, 99, 100, 101, 102, 103, 104, 105, 106, 107, 108, 109, 110, 111, 112, 113, 114, 115, 116, 117, 118, 119, 120, 121, 122, 123, 124, 125, 126, 127, 128, 129, 130, 131, 132, 133, 134, 135, 136, 137, 138, 139, 140, 141, 142, 143, 144, 145, 146, 147, 148, 149, 150, 151, 152, 153, 154, 155, 156, 157, 158, 159, 160, 161, 162, 164, 165, 166, 167, 168, 169, 170, 171, 172, 173, 174, 175, 176, 177, 178, 179, 180, 181, 182, 183, 184, 185] (by decide +kernel) (by decide +kernel)
set_option maxRecDepth 20000 in
theorem gX5_bestKind_X5_costAnew : GoodIn wsX5_bestKind (wsV RX5 72 RX5 yX5_costAnew wsX5_costAnew) := goodIn_app (goodIn_of _ (by decide +kernel)) ggX5_bestKind_X5_costAnew
set_option maxRecDepth 20000 in
theorem ggX5_bestKind_X1_waited : GoodIn wsX5_bestKind wsX1_waited := goodIn_r _ [154, 155, 156, 157, 158, 174, 175, 176, 177, 178, 179, 180] (by decide +kernel) (by decide +kernel)
set_option maxRecDepth 20000 in
theorem gX5_bestKind_X1_waited : GoodIn wsX5_bestKind (wsV RX5 75 RX1 yX1_waited wsX1_waited) := goodIn_app (goodIn_of _ (by decide +kernel)) ggX5_bestKind_X1_waited
theorem dX5_bestKind_0 : decode cX5_bestKind 0 = .ok (.aload_n 0, 1) := by decide +kernel
theorem dX5_bestKind_1 : decode cX5_bestKind 1 = .ok (.getfield 12, 3) := by decide +kernel
theorem dX5_bestKind_4 : decode cX5_bestKind 4 = .ok (.getfield 44, 3) := by decide +kernel
theorem dX5_bestKind_7 : decode cX5_bestKind 7 = .ok (.iload_n 1, 1) := by decide +kernel
theorem dX5_bestKind_8 : decode cX5_bestKind 8 = .ok (.aaload, 1) := by decide +kernel
theorem dX5_bestKind_9 : decode cX5_bestKind 9 = .ok (.astore_n 3, 1) := by decide +kernel
theorem dX5_bestKind_10 : decode cX5_bestKind 10 = .ok (.aload_n 3, 1) := by decide +kernel
theorem dX5_bestKind_11 : decode cX5_bestKind 11 = .ok (.getfield 66, 3) := by decide +kernel
theorem dX5_bestKind_14 : decode cX5_bestKind 14 = .ok (.istore 4, 2) := by decide +kernel
theorem dX5_bestKind_16 : decode cX5_bestKind 16 = .ok (.iconst 0, 1) := by decide +kernel
theorem dX5_bestKind_17 : decode cX5_bestKind 17 = .ok (.istore 5, 2) := by decide +kernel
theorem dX5_bestKind_19 : decode cX5_bestKind 19 = .ok (.ldc 71, 2) := by decide +kernel
theorem dX5_bestKind_21 : decode cX5_bestKind 21 = .ok (.istore 6, 2) := by decide +kernel
theorem dX5_bestKind_23 : decode cX5_bestKind 23 = .ok (.iconst 0, 1) := by decide +kernel
theorem dX5_bestKind_24 : decode cX5_bestKind 24 = .ok (.istore 7, 2) := by decide +kernel
theorem dX5_bestKind_26 : decode cX5_bestKind 26 = .ok (.iload 7, 2) := by decide +kernel
theorem dX5_bestKind_28 : decode cX5_bestKind 28 = .ok (.bipush 7, 2) := by decide +kernel
theorem dX5_bestKind_30 : decode cX5_bestKind 30 = .ok (.if_icmp .ge 59, 3) := by decide +kernel
theorem dX5_bestKind_33 : decode cX5_bestKind 33 = .ok (.aload_n 3, 1) := by decide +kernel
theorem dX5_bestKind_34 : decode cX5_bestKind 34 = .ok (.iload 7, 2) := by decide +kernel
theorem dX5_bestKind_36 : decode cX5_bestKind 36 = .ok (.putfield 66, 3) := by decide +kernel
theorem dX5_bestKind_39 : decode cX5_bestKind 39 = .ok (.aload_n 0, 1) := by decide +kernel
theorem dX5_bestKind_40 : decode cX5_bestKind 40 = .ok (.invokevirtual 72, 3) := by decide +kernel
theorem dX5_bestKind_43 : decode cX5_bestKind 43 = .ok (.istore 8, 2) := by decide +kernel
theorem dX5_bestKind_45 : decode cX5_bestKind 45 = .ok (.iload_n 2, 1) := by decide +kernel
theorem dX5_bestKind_46 : decode cX5_bestKind 46 = .ok (.ifCond .eq 22, 3) := by decide +kernel
theorem dX5_bestKind_49 : decode cX5_bestKind 49 = .ok (.aload_n 3, 1) := by decide +kernel
theorem dX5_bestKind_50 : decode cX5_bestKind 50 = .ok (.getfield 48, 3) := by decide +kernel
theorem dX5_bestKind_53 : decode cX5_bestKind 53 = .ok (.iconst 2, 1) := by decide +kernel
theorem dX5_bestKind_54 : decode cX5_bestKind 54 = .ok (.if_icmp .ne 10, 3) := by decide +kernel
theorem dX5_bestKind_57 : decode cX5_bestKind 57 = .ok (.aload_n 3, 1) := by decide +kernel
theorem dX5_bestKind_58 : decode cX5_bestKind 58 = .ok (.invokevirtual 75, 3) := by decide +kernel
theorem dX5_bestKind_61 : decode cX5_bestKind 61 = .ok (.goto 5, 3) := by decide +kernel
theorem dX5_bestKind_64 : decode cX5_bestKind 64 = .ok (.bipush 99, 2) := by decide +kernel
theorem dX5_bestKind_66 : decode cX5_bestKind 66 = .ok (.istore 8, 2) := by decide +kernel
theorem dX5_bestKind_68 : decode cX5_bestKind 68 = .ok (.iload 8, 2) := by decide +kernel
theorem dX5_bestKind_70 : decode cX5_bestKind 70 = .ok (.iload 6, 2) := by decide +kernel
theorem dX5_bestKind_72 : decode cX5_bestKind 72 = .ok (.if_icmp .ge 11, 3) := by decide +kernel
theorem dX5_bestKind_75 : decode cX5_bestKind 75 = .ok (.iload 8, 2) := by decide +kernel
theorem dX5_bestKind_77 : decode cX5_bestKind 77 = .ok (.istore 6, 2) := by decide +kernel
theorem dX5_bestKind_79 : decode cX5_bestKind 79 = .ok (.iload 7, 2) := by decide +kernel
theorem dX5_bestKind_81 : decode cX5_bestKind 81 = .ok (.istore 5, 2) := by decide +kernel
theorem dX5_bestKind_83 : decode cX5_bestKind 83 = .ok (.iinc 7 1, 3) := by decide +kernel
theorem dX5_bestKind_86 : decode cX5_bestKind 86 = .ok (.goto (-60), 3) := by decide +kernel
theorem dX5_bestKind_89 : decode cX5_bestKind 89 = .ok (.aload_n 3, 1) := by decide +kernel
theorem dX5_bestKind_90 : decode cX5_bestKind 90 = .ok (.iload 4, 2) := by decide +kernel
theorem dX5_bestKind_92 : decode cX5_bestKind 92 = .ok (.putfield 66, 3) := by decide +kernel
theorem dX5_bestKind_95 : decode cX5_bestKind 95 = .ok (.iload 5, 2) := by decide +kernel
theorem dX5_bestKind_97 : decode cX5_bestKind 97 = .ok (.ireturn, 1) := by decide +kernel
set_option maxRecDepth 20000 in
theorem ggX5_playRounds_X5_bestKind : GoodIn wsX5_playRounds wsX5_bestKind := goodIn_r _ [9, 1, 3, 4, 10, 11, 12, 13, 14, 8, 15, 16, 17, 18, 19, 20, 21, 22, 23, 24, 25, 26, 27, 28, 29, 30, 31, 32, 33, 34, 35, 36, 37, 38, 39, 40, 41, 42, 43, 44, 45, 46, 47, 48, 49, 50, 51, 52, 53, 54, 55, 56, 57, 58, 59, 60, 61, 62, 63, 64, 65, 66, 67, 68, 69, 70, 71, 72, 73, 74, 75, 76, 77, 78, 79, 80, 81, 82, 83, 84, 85, 86, 87, 88, 89, 90, 91, 92, 93, 94, 95, 96, 97, 98, 99, 100, 101, 102, 103, 104, 105, 106, 107, 108, 109, 110, 111, 112, 113, 114, 115, 116, 117, 118, 119, 120, 121, 122, 123, 124, 125, 126, 127, 128, 129, 130, 131, 132, 133, 134, 135, 136, 137, 138, 139, 140, 141, 142, 143, 144, 145, 146, 147, 148, 149, 150, 151, 152, 153, 154, 155, 156, 157, 158, 159, 160, 161, 162, 163, 164, 165, 166, 167, 168, 169, 170, 171, 172, 173, 174, 175, 176, 177, 178, 179, 180, 181, 182, 183, 184, 185, 186, 187, 188, 189, 190] (by decide +kernel) (by decide +kernel)
set_option maxRecDepth 20000 in
theorem gX5_playRounds_X5_bestKind : GoodIn wsX5_playRounds (wsV RX5 81 RX5 yX5_bestKind wsX5_bestKind) := goodIn_app (goodIn_of _ (by decide +kernel)) ggX5_playRounds_X5_bestKind
theorem dX5_playRounds_0 : decode cX5_playRounds 0 = .ok (.iconst 1, 1) := by decide +kernel
theorem dX5_playRounds_1 : decode cX5_playRounds 1 = .ok (.istore_n 1, 1) := by decide +kernel
theorem dX5_playRounds_2 : decode cX5_playRounds 2 = .ok (.iconst 0, 1) := by decide +kernel
theorem dX5_playRounds_3 : decode cX5_playRounds 3 = .ok (.istore_n 2, 1) := by decide +kernel
theorem dX5_playRounds_4 : decode cX5_playRounds 4 = .ok (.iload_n 1, 1) := by decide +kernel
theorem dX5_playRounds_5 : decode cX5_playRounds 5 = .ok (.ifCond .eq 85, 3) := by decide +kernel
theorem dX5_playRounds_8 : decode cX5_playRounds 8 = .ok (.iload_n 2, 1) := by decide +kernel
theorem dX5_playRounds_9 : decode cX5_playRounds 9 = .ok (.bipush 20, 2) := by decide +kernel
theorem dX5_playRounds_11 : decode cX5_playRounds 11 = .ok (.if_icmp .ge 79, 3) := by decide +kernel
theorem dX5_playRounds_14 : decode cX5_playRounds 14 = .ok (.iconst 0, 1) := by decide +kernel
theorem dX5_playRounds_15 : decode cX5_playRounds 15 = .ok (.istore_n 1, 1) := by decide +kernel
theorem dX5_playRounds_16 : decode cX5_playRounds 16 = .ok (.iconst 0, 1) := by decide +kernel
theorem dX5_playRounds_17 : decode cX5_playRounds 17 = .ok (.istore_n 3, 1) := by decide +kernel
theorem dX5_playRounds_18 : decode cX5_playRounds 18 = .ok (.iload_n 3, 1) := by decide +kernel
theorem dX5_playRounds_19 : decode cX5_playRounds 19 = .ok (.aload_n 0, 1) := by decide +kernel
theorem dX5_playRounds_20 : decode cX5_playRounds 20 = .ok (.getfield 12, 3) := by decide +kernel
theorem dX5_playRounds_23 : decode cX5_playRounds 23 = .ok (.getfield 78, 3) := by decide +kernel
theorem dX5_playRounds_26 : decode cX5_playRounds 26 = .ok (.if_icmp .ge 58, 3) := by decide +kernel
theorem dX5_playRounds_29 : decode cX5_playRounds 29 = .ok (.aload_n 0, 1) := by decide +kernel
theorem dX5_playRounds_30 : decode cX5_playRounds 30 = .ok (.iload_n 3, 1) := by decide +kernel
theorem dX5_playRounds_31 : decode cX5_playRounds 31 = .ok (.iconst 1, 1) := by decide +kernel
theorem dX5_playRounds_32 : decode cX5_playRounds 32 = .ok (.invokevirtual 81, 3) := by decide +kernel
theorem dX5_playRounds_35 : decode cX5_playRounds 35 = .ok (.istore 4, 2) := by decide +kernel
theorem dX5_playRounds_37 : decode cX5_playRounds 37 = .ok (.iload_n 1, 1) := by decide +kernel
theorem dX5_playRounds_38 : decode cX5_playRounds 38 = .ok (.ifCond .ne 20, 3) := by decide +kernel
theorem dX5_playRounds_41 : decode cX5_playRounds 41 = .ok (.iload 4, 2) := by decide +kernel
theorem dX5_playRounds_43 : decode cX5_playRounds 43 = .ok (.aload_n 0, 1) := by decide +kernel
theorem dX5_playRounds_44 : decode cX5_playRounds 44 = .ok (.getfield 12, 3) := by decide +kernel
theorem dX5_playRounds_47 : decode cX5_playRounds 47 = .ok (.getfield 44, 3) := by decide +kernel
theorem dX5_playRounds_50 : decode cX5_playRounds 50 = .ok (.iload_n 3, 1) := by decide +kernel
theorem dX5_playRounds_51 : decode cX5_playRounds 51 = .ok (.aaload, 1) := by decide +kernel
theorem dX5_playRounds_52 : decode cX5_playRounds 52 = .ok (.getfield 66, 3) := by decide +kernel
theorem dX5_playRounds_55 : decode cX5_playRounds 55 = .ok (.if_icmp .eq 7, 3) := by decide +kernel
theorem dX5_playRounds_58 : decode cX5_playRounds 58 = .ok (.iconst 1, 1) := by decide +kernel
theorem dX5_playRounds_59 : decode cX5_playRounds 59 = .ok (.goto 4, 3) := by decide +kernel
theorem dX5_playRounds_62 : decode cX5_playRounds 62 = .ok (.iconst 0, 1) := by decide +kernel
theorem dX5_playRounds_63 : decode cX5_playRounds 63 = .ok (.istore_n 1, 1) := by decide +kernel
theorem dX5_playRounds_64 : decode cX5_playRounds 64 = .ok (.aload_n 0, 1) := by decide +kernel
theorem dX5_playRounds_65 : decode cX5_playRounds 65 = .ok (.getfield 12, 3) := by decide +kernel
theorem dX5_playRounds_68 : decode cX5_playRounds 68 = .ok (.getfield 44, 3) := by decide +kernel
theorem dX5_playRounds_71 : decode cX5_playRounds 71 = .ok (.iload_n 3, 1) := by decide +kernel
theorem dX5_playRounds_72 : decode cX5_playRounds 72 = .ok (.aaload, 1) := by decide +kernel
theorem dX5_playRounds_73 : decode cX5_playRounds 73 = .ok (.iload 4, 2) := by decide +kernel
theorem dX5_playRounds_75 : decode cX5_playRounds 75 = .ok (.putfield 66, 3) := by decide +kernel
theorem dX5_playRounds_78 : decode cX5_playRounds 78 = .ok (.iinc 3 1, 3) := by decide +kernel
theorem dX5_playRounds_81 : decode cX5_playRounds 81 = .ok (.goto (-63), 3) := by decide +kernel
theorem dX5_playRounds_84 : decode cX5_playRounds 84 = .ok (.iinc 2 1, 3) := by decide +kernel
theorem dX5_playRounds_87 : decode cX5_playRounds 87 = .ok (.goto (-83), 3) := by decide +kernel
theorem dX5_playRounds_90 : decode cX5_playRounds 90 = .ok (.iload_n 2, 1) := by decide +kernel
theorem dX5_playRounds_91 : decode cX5_playRounds 91 = .ok (.ireturn, 1) := by decide +kernel
theorem dX5_kindDigits_0 : decode cX5_kindDigits 0 = .ok (.iconst 0, 1) := by decide +kernel
theorem dX5_kindDigits_1 : decode cX5_kindDigits 1 = .ok (.istore_n 1, 1) := by decide +kernel
theorem dX5_kindDigits_2 : decode cX5_kindDigits 2 = .ok (.aload_n 0, 1) := by decide +kernel
theorem dX5_kindDigits_3 : decode cX5_kindDigits 3 = .ok (.getfield 12, 3) := by decide +kernel
theorem dX5_kindDigits_6 : decode cX5_kindDigits 6 = .ok (.getfield 78, 3) := by decide +kernel
theorem dX5_kindDigits_9 : decode cX5_kindDigits 9 = .ok (.iconst 1, 1) := by decide +kernel
theorem dX5_kindDigits_10 : decode cX5_kindDigits 10 = .ok (.isub, 1) := by decide +kernel
theorem dX5_kindDigits_11 : decode cX5_kindDigits 11 = .ok (.istore_n 2, 1) := by decide +kernel
theorem dX5_kindDigits_12 : decode cX5_kindDigits 12 = .ok (.iload_n 2, 1) := by decide +kernel
theorem dX5_kindDigits_13 : decode cX5_kindDigits 13 = .ok (.ifCond .lt 27, 3) := by decide +kernel
theorem dX5_kindDigits_16 : decode cX5_kindDigits 16 = .ok (.iload_n 1, 1) := by decide +kernel
theorem dX5_kindDigits_17 : decode cX5_kindDigits 17 = .ok (.bipush 10, 2) := by decide +kernel
theorem dX5_kindDigits_19 : decode cX5_kindDigits 19 = .ok (.imul, 1) := by decide +kernel
theorem dX5_kindDigits_20 : decode cX5_kindDigits 20 = .ok (.aload_n 0, 1) := by decide +kernel
theorem dX5_kindDigits_21 : decode cX5_kindDigits 21 = .ok (.getfield 12, 3) := by decide +kernel
theorem dX5_kindDigits_24 : decode cX5_kindDigits 24 = .ok (.getfield 44, 3) := by decide +kernel
theorem dX5_kindDigits_27 : decode cX5_kindDigits 27 = .ok (.iload_n 2, 1) := by decide +kernel
theorem dX5_kindDigits_28 : decode cX5_kindDigits 28 = .ok (.aaload, 1) := by decide +kernel
theorem dX5_kindDigits_29 : decode cX5_kindDigits 29 = .ok (.getfield 66, 3) := by decide +kernel
theorem dX5_kindDigits_32 : decode cX5_kindDigits 32 = .ok (.iadd, 1) := by decide +kernel
theorem dX5_kindDigits_33 : decode cX5_kindDigits 33 = .ok (.istore_n 1, 1) := by decide +kernel
theorem dX5_kindDigits_34 : decode cX5_kindDigits 34 = .ok (.iinc 2 (-1), 3) := by decide +kernel
theorem dX5_kindDigits_37 : decode cX5_kindDigits 37 = .ok (.goto (-25), 3) := by decide +kernel
theorem dX5_kindDigits_40 : decode cX5_kindDigits 40 = .ok (.iload_n 1, 1) := by decide +kernel
theorem dX5_kindDigits_41 : decode cX5_kindDigits 41 = .ok (.ireturn, 1) := by decide +kernel
set_option maxRecDepth 20000 in
theorem ggX5_lostByKinds_X5_costAnew : GoodIn wsX5_lostByKinds wsX5_costAnew := goodIn_r _ [14, 2, 15, 16, 17, 18, 19, 20, 21, 22, 23, 24, 25, 26, 27, 28, 29, 30, 31, 32, 33, 34, 35, 36, 37, 38, 39, 40, 41, 42, 43, 44, 45, 46, 47, 48, 49, 50, 51, 52, 53, 54, 55, 56, 57, 58, 59, 60, 61, 62, 63, 64, 65, 66, 67, 68, 69, 70, 71, 72, 73, 74, 75, 76, 77, 78, 79, 80, 81, 82, 83, 84, 85, 86, 87, 88, 89, 90, 91, 92, 93, 94, 95, 96, 97, 98, 99, 100, 101, 102, 103, 104, 105, 106, 107, 108, 109, 110, 111, 8, 112, 113, 7, 9, 114, 115, 116, 117, 118, 119, 120, 121, 122, 123, 124, 125, 126, 127, 128, 129, 130, 131, 132, 133, 134, 135, 136, 137, 138, 139, 140, 141, 142, 143, 144, 145, 146, 147, 148, 149, 150, 151, 152, 153, 154, 155, 156, 157, 158, 159, 160, 161, 162, 163, 164, 165, 166, 167, 168, 169, 170, 171, 172, 173, 174, 175, 176, 177, 178, 179, 180, 181, 182, 183, 184, 185] (by decide +kernel) (by decide +kernel)
set_option maxRecDepth 20000 in
theorem gX5_lostByKinds_X5_costAnew : GoodIn wsX5_lostByKinds (wsV RX5 72 RX5 yX5_costAnew wsX5_costAnew) := goodIn_app (goodIn_of _ (by decide +kernel)) ggX5_lostByKinds_X5_costAnew
theorem dX5_lostByKinds_0 : decode cX5_lostByKinds 0 = .ok (.aload_n 0, 1) := by decide +kernel
theorem dX5_lostByKinds_1 : decode cX5_lostByKinds 1 = .ok (.invokevirtual 72, 3) := by decide +kernel
theorem dX5_lostByKinds_4 : decode cX5_lostByKinds 4 = .ok (.istore_n 1, 1) := by decide +kernel
theorem dX5_lostByKinds_5 : decode cX5_lostByKinds 5 = .ok (.ldc 71, 2) := by decide +kernel
theorem dX5_lostByKinds_7 : decode cX5_lostByKinds 7 = .ok (.istore_n 2, 1) := by decide +kernel
theorem dX5_lostByKinds_8 : decode cX5_lostByKinds 8 = .ok (.iconst 0, 1) := by decide +kernel
theorem dX5_lostByKinds_9 : decode cX5_lostByKinds 9 = .ok (.istore_n 3, 1) := by decide +kernel
theorem dX5_lostByKinds_10 : decode cX5_lostByKinds 10 = .ok (.iload_n 3, 1) := by decide +kernel
theorem dX5_lostByKinds_11 : decode cX5_lostByKinds 11 = .ok (.bipush 7, 2) := by decide +kernel
theorem dX5_lostByKinds_13 : decode cX5_lostByKinds 13 = .ok (.if_icmp .ge 53, 3) := by decide +kernel
theorem dX5_lostByKinds_16 : decode cX5_lostByKinds 16 = .ok (.iconst 0, 1) := by decide +kernel
theorem dX5_lostByKinds_17 : decode cX5_lostByKinds 17 = .ok (.istore 4, 2) := by decide +kernel
theorem dX5_lostByKinds_19 : decode cX5_lostByKinds 19 = .ok (.iload 4, 2) := by decide +kernel
theorem dX5_lostByKinds_21 : decode cX5_lostByKinds 21 = .ok (.aload_n 0, 1) := by decide +kernel
theorem dX5_lostByKinds_22 : decode cX5_lostByKinds 22 = .ok (.getfield 12, 3) := by decide +kernel
theorem dX5_lostByKinds_25 : decode cX5_lostByKinds 25 = .ok (.getfield 78, 3) := by decide +kernel
theorem dX5_lostByKinds_28 : decode cX5_lostByKinds 28 = .ok (.if_icmp .ge 23, 3) := by decide +kernel
theorem dX5_lostByKinds_31 : decode cX5_lostByKinds 31 = .ok (.aload_n 0, 1) := by decide +kernel
theorem dX5_lostByKinds_32 : decode cX5_lostByKinds 32 = .ok (.getfield 12, 3) := by decide +kernel
theorem dX5_lostByKinds_35 : decode cX5_lostByKinds 35 = .ok (.getfield 44, 3) := by decide +kernel
theorem dX5_lostByKinds_38 : decode cX5_lostByKinds 38 = .ok (.iload 4, 2) := by decide +kernel
theorem dX5_lostByKinds_40 : decode cX5_lostByKinds 40 = .ok (.aaload, 1) := by decide +kernel
theorem dX5_lostByKinds_41 : decode cX5_lostByKinds 41 = .ok (.iload_n 3, 1) := by decide +kernel
theorem dX5_lostByKinds_42 : decode cX5_lostByKinds 42 = .ok (.putfield 66, 3) := by decide +kernel
theorem dX5_lostByKinds_45 : decode cX5_lostByKinds 45 = .ok (.iinc 4 1, 3) := by decide +kernel
theorem dX5_lostByKinds_48 : decode cX5_lostByKinds 48 = .ok (.goto (-29), 3) := by decide +kernel
theorem dX5_lostByKinds_51 : decode cX5_lostByKinds 51 = .ok (.iload_n 2, 1) := by decide +kernel
theorem dX5_lostByKinds_52 : decode cX5_lostByKinds 52 = .ok (.aload_n 0, 1) := by decide +kernel
theorem dX5_lostByKinds_53 : decode cX5_lostByKinds 53 = .ok (.invokevirtual 72, 3) := by decide +kernel
theorem dX5_lostByKinds_56 : decode cX5_lostByKinds 56 = .ok (.invokestatic 85, 3) := by decide +kernel
theorem dX5_lostByKinds_59 : decode cX5_lostByKinds 59 = .ok (.istore_n 2, 1) := by decide +kernel
theorem dX5_lostByKinds_60 : decode cX5_lostByKinds 60 = .ok (.iinc 3 1, 3) := by decide +kernel
theorem dX5_lostByKinds_63 : decode cX5_lostByKinds 63 = .ok (.goto (-53), 3) := by decide +kernel
theorem dX5_lostByKinds_66 : decode cX5_lostByKinds 66 = .ok (.iload_n 1, 1) := by decide +kernel
theorem dX5_lostByKinds_67 : decode cX5_lostByKinds 67 = .ok (.iload_n 2, 1) := by decide +kernel
theorem dX5_lostByKinds_68 : decode cX5_lostByKinds 68 = .ok (.isub, 1) := by decide +kernel
theorem dX5_lostByKinds_69 : decode cX5_lostByKinds 69 = .ok (.ireturn, 1) := by decide +kernel
set_option maxRecDepth 20000 in
theorem ggX5_bestMark_X5_costAnew : GoodIn wsX5_bestMark wsX5_costAnew := goodIn_r _ [8, 2, 9, 10, 11, 12, 13, 14, 15, 16, 17, 18, 19, 20, 21, 22, 23, 24, 25, 26, 27, 28, 29, 30, 31, 32, 33, 34, 35, 36, 37, 38, 39, 40, 41, 42, 43, 44, 45, 46, 47, 48, 49, 50, 51, 52, 53, 54, 55, 56, 57, 58, 59, 60, 61, 62, 63, 64, 65, 66, 67, 68, 69, 70, 71, 72, 73, 74, 75, 76, 77, 78, 79, 80, 81, 82, 83, 84, 85, 86, 87, 88, 89, 90, 91, 92, 93, 94, 95, 96, 97, 98, 99, 100, 101, 102, 103, 104, 105, 106, 107, 108, 109, 110, 111, 112, 113, 114, 115, 116, 117, 118, 119, 120, 121, 122, 123, 124, 125, 126, 127, 128, 129, 130, 131, 132, 133, 134, 135, 136, 137, 138, 139, 140, 141, 142, 143, 144, 145, 146, 147, 148, 149, 150, 151, 152, 153, 154, 155, 156, 157, 158, 159, 160, 161, 162, 163, 164, 165, 166, 167, 168, 169, 170, 171, 172, 173, 174, 175, 176, 177, 178, 179, 180, 181, 182] (by decide +kernel) (by decide +kernel)
set_option maxRecDepth 20000 in
theorem gX5_bestMark_X5_costAnew : GoodIn wsX5_bestMark (wsV RX5 72 RX5 yX5_costAnew wsX5_costAnew) := goodIn_app (goodIn_of _ (by decide +kernel)) ggX5_bestMark_X5_costAnew
theorem dX5_bestMark_0 : decode cX5_bestMark 0 = .ok (.iconst 0, 1) := by decide +kernel
theorem dX5_bestMark_1 : decode cX5_bestMark 1 = .ok (.istore_n 2, 1) := by decide +kernel
theorem dX5_bestMark_2 : decode cX5_bestMark 2 = .ok (.ldc 71, 2) := by decide +kernel
theorem dX5_bestMark_4 : decode cX5_bestMark 4 = .ok (.istore_n 3, 1) := by decide +kernel
theorem dX5_bestMark_5 : decode cX5_bestMark 5 = .ok (.iconst 0, 1) := by decide +kernel
theorem dX5_bestMark_6 : decode cX5_bestMark 6 = .ok (.istore 4, 2) := by decide +kernel
theorem dX5_bestMark_8 : decode cX5_bestMark 8 = .ok (.iload 4, 2) := by decide +kernel
theorem dX5_bestMark_10 : decode cX5_bestMark 10 = .ok (.aload_n 0, 1) := by decide +kernel
theorem dX5_bestMark_11 : decode cX5_bestMark 11 = .ok (.getfield 12, 3) := by decide +kernel
theorem dX5_bestMark_14 : decode cX5_bestMark 14 = .ok (.getfield 91, 3) := by decide +kernel
theorem dX5_bestMark_17 : decode cX5_bestMark 17 = .ok (.iconst 0, 1) := by decide +kernel
theorem dX5_bestMark_18 : decode cX5_bestMark 18 = .ok (.iaload, 1) := by decide +kernel
theorem dX5_bestMark_19 : decode cX5_bestMark 19 = .ok (.if_icmp .gt 39, 3) := by decide +kernel
theorem dX5_bestMark_22 : decode cX5_bestMark 22 = .ok (.aload_n 0, 1) := by decide +kernel
theorem dX5_bestMark_23 : decode cX5_bestMark 23 = .ok (.getfield 12, 3) := by decide +kernel
theorem dX5_bestMark_26 : decode cX5_bestMark 26 = .ok (.getfield 91, 3) := by decide +kernel
theorem dX5_bestMark_29 : decode cX5_bestMark 29 = .ok (.bipush 6, 2) := by decide +kernel
theorem dX5_bestMark_31 : decode cX5_bestMark 31 = .ok (.iload 4, 2) := by decide +kernel
theorem dX5_bestMark_33 : decode cX5_bestMark 33 = .ok (.iastore, 1) := by decide +kernel
theorem dX5_bestMark_34 : decode cX5_bestMark 34 = .ok (.aload_n 0, 1) := by decide +kernel
theorem dX5_bestMark_35 : decode cX5_bestMark 35 = .ok (.invokevirtual 72, 3) := by decide +kernel
theorem dX5_bestMark_38 : decode cX5_bestMark 38 = .ok (.istore 5, 2) := by decide +kernel
theorem dX5_bestMark_40 : decode cX5_bestMark 40 = .ok (.iload 5, 2) := by decide +kernel
theorem dX5_bestMark_42 : decode cX5_bestMark 42 = .ok (.iload_n 3, 1) := by decide +kernel
theorem dX5_bestMark_43 : decode cX5_bestMark 43 = .ok (.if_icmp .ge 9, 3) := by decide +kernel
theorem dX5_bestMark_46 : decode cX5_bestMark 46 = .ok (.iload 5, 2) := by decide +kernel
theorem dX5_bestMark_48 : decode cX5_bestMark 48 = .ok (.istore_n 3, 1) := by decide +kernel
theorem dX5_bestMark_49 : decode cX5_bestMark 49 = .ok (.iload 4, 2) := by decide +kernel
theorem dX5_bestMark_51 : decode cX5_bestMark 51 = .ok (.istore_n 2, 1) := by decide +kernel
theorem dX5_bestMark_52 : decode cX5_bestMark 52 = .ok (.iinc 4 1, 3) := by decide +kernel
theorem dX5_bestMark_55 : decode cX5_bestMark 55 = .ok (.goto (-47), 3) := by decide +kernel
theorem dX5_bestMark_58 : decode cX5_bestMark 58 = .ok (.iload_n 1, 1) := by decide +kernel
theorem dX5_bestMark_59 : decode cX5_bestMark 59 = .ok (.ifCond .eq 7, 3) := by decide +kernel
theorem dX5_bestMark_62 : decode cX5_bestMark 62 = .ok (.iload_n 2, 1) := by decide +kernel
theorem dX5_bestMark_63 : decode cX5_bestMark 63 = .ok (.goto 4, 3) := by decide +kernel
theorem dX5_bestMark_66 : decode cX5_bestMark 66 = .ok (.iload_n 3, 1) := by decide +kernel
theorem dX5_bestMark_67 : decode cX5_bestMark 67 = .ok (.ireturn, 1) := by decide +kernel
set_option maxRecDepth 20000 in
theorem ggX5_savedBySecond_X5_costAnew : GoodIn wsX5_savedBySecond wsX5_costAnew := goodIn_r _ [7, 1, 8, 9, 10, 11, 12, 13, 14, 15, 16, 17, 18, 19, 20, 21, 22, 23, 24, 25, 26, 27, 28, 29, 30, 31, 32, 33, 34, 35, 36, 37, 38, 39, 40, 41, 42, 43, 44, 45, 46, 47, 48, 49, 50, 51, 52, 53, 54, 55, 56, 57, 58, 59, 60, 61, 62, 63, 64, 65, 66, 67, 68, 69, 70, 71, 72, 73, 74, 75, 76, 77, 78, 79, 80, 81, 82, 83, 84, 85, 86, 87, 88, 89, 90, 91, 92, 93, 94, 95, 96, 97, 98, 99, 100, 101, 102, 103, 104, 105, 106, 107, 108, 109, 110, 111, 112, 113, 114, 115, 116, 117, 118, 119, 120, 121, 122, 123, 124, 125, 126, 127, 128, 129, 130, 131, 132, 133, 134, 135, 136, 137, 138, 139, 140, 141, 142, 143, 144, 145, 146, 147, 148, 149, 150, 151, 152, 153, 154, 155, 156, 157, 158, 159, 160, 161, 162, 163, 164, 165, 166, 167, 168, 169, 170, 171, 172, 173, 174, 175, 176, 177, 178, 179, 180, 181] (by decide +kernel) (by decide +kernel)
set_option maxRecDepth 20000 in
theorem gX5_savedBySecond_X5_costAnew : GoodIn wsX5_savedBySecond (wsV RX5 72 RX5 yX5_costAnew wsX5_costAnew) := goodIn_app (goodIn_of _ (by decide +kernel)) ggX5_savedBySecond_X5_costAnew
theorem dX5_savedBySecond_0 : decode cX5_savedBySecond 0 = .ok (.aload_n 0, 1) := by decide +kernel
theorem dX5_savedBySecond_1 : decode cX5_savedBySecond 1 = .ok (.getfield 12, 3) := by decide +kernel
theorem dX5_savedBySecond_4 : decode cX5_savedBySecond 4 = .ok (.getfield 91, 3) := by decide +kernel
theorem dX5_savedBySecond_7 : decode cX5_savedBySecond 7 = .ok (.bipush 7, 2) := by decide +kernel
theorem dX5_savedBySecond_9 : decode cX5_savedBySecond 9 = .ok (.iconst 1, 1) := by decide +kernel
theorem dX5_savedBySecond_10 : decode cX5_savedBySecond 10 = .ok (.iastore, 1) := by decide +kernel
theorem dX5_savedBySecond_11 : decode cX5_savedBySecond 11 = .ok (.aload_n 0, 1) := by decide +kernel
theorem dX5_savedBySecond_12 : decode cX5_savedBySecond 12 = .ok (.invokevirtual 72, 3) := by decide +kernel
theorem dX5_savedBySecond_15 : decode cX5_savedBySecond 15 = .ok (.istore_n 1, 1) := by decide +kernel
theorem dX5_savedBySecond_16 : decode cX5_savedBySecond 16 = .ok (.aload_n 0, 1) := by decide +kernel
theorem dX5_savedBySecond_17 : decode cX5_savedBySecond 17 = .ok (.getfield 12, 3) := by decide +kernel
theorem dX5_savedBySecond_20 : decode cX5_savedBySecond 20 = .ok (.getfield 91, 3) := by decide +kernel
theorem dX5_savedBySecond_23 : decode cX5_savedBySecond 23 = .ok (.bipush 7, 2) := by decide +kernel
theorem dX5_savedBySecond_25 : decode cX5_savedBySecond 25 = .ok (.iconst 2, 1) := by decide +kernel
theorem dX5_savedBySecond_26 : decode cX5_savedBySecond 26 = .ok (.iastore, 1) := by decide +kernel
theorem dX5_savedBySecond_27 : decode cX5_savedBySecond 27 = .ok (.iload_n 1, 1) := by decide +kernel
theorem dX5_savedBySecond_28 : decode cX5_savedBySecond 28 = .ok (.aload_n 0, 1) := by decide +kernel
theorem dX5_savedBySecond_29 : decode cX5_savedBySecond 29 = .ok (.invokevirtual 72, 3) := by decide +kernel
theorem dX5_savedBySecond_32 : decode cX5_savedBySecond 32 = .ok (.isub, 1) := by decide +kernel
theorem dX5_savedBySecond_33 : decode cX5_savedBySecond 33 = .ok (.ireturn, 1) := by decide +kernel
set_option maxRecDepth 20000 in
theorem ggX5_comerToFollow_X1_become : GoodIn wsX5_comerToFollow wsX1_become := goodIn_r _ [11, 12, 13, 180, 181, 182, 183, 184, 185, 186] (by decide +kernel) (by decide +kernel)
set_option maxRecDepth 20000 in
theorem gX5_comerToFollow_X1_become : GoodIn wsX5_comerToFollow (wsV RX5 98 RX1 yX1_become wsX1_become) := goodIn_app (goodIn_of _ (by decide +kernel)) ggX5_comerToFollow_X1_become
set_option maxRecDepth 20000 in
theorem ggX5_comerToFollow_X5_costAnew : GoodIn wsX5_comerToFollow wsX5_costAnew := goodIn_r _ [18, 4, 19, 20, 21, 22, 23, 24, 25, 26, 27, 28, 29, 30, 31, 32, 33, 34, 35, 36, 37, 38, 39, 40, 41, 42, 43, 44, 45, 46, 47, 48, 49, 50, 51, 52, 53, 54, 55, 56, 57, 58, 59, 60, 61, 62, 63, 64, 65, 66, 67, 68, 69, 70, 71, 72, 73, 74, 75, 76, 77, 78, 79, 80, 81, 82, 83, 84, 85, 86, 87, 88, 89, 90, 91, 92, 93, 94, 95, 96, 97, 98, 99, 100, 101, 102, 103, 104, 105, 106, 107, 108, 109, 110, 111, 112, 113, 114, 115, 116, 117, 118, 119, 120, 121, 122, 123, 124, 125, 126, 127, 128, 129, 130, 131, 132, 133, 134, 135, 136, 137, 138, 139, 140, 141, 142, 143, 144, 145, 146, 147, 148, 149, 150, 151, 152, 153, 154, 155, 156, 157, 158, 159, 160, 10, 161, 162, 163, 164, 165, 166, 167, 168, 169, 178, 179, 170, 171, 172, 173, 174, 175, 176, 177, 180, 181, 182, 183, 184, 185, 186, 187, 188, 189, 190, 191] (by decide +kernel) (by decide +kernel)
set_option maxRecDepth 20000 in
theorem gX5_comerToFollow_X5_costAnew : GoodIn wsX5_comerToFollow (wsV RX5 72 RX5 yX5_costAnew wsX5_costAnew) := goodIn_app (goodIn_of _ (by decide +kernel)) ggX5_comerToFollow_X5_costAnew
theorem dX5_comerToFollow_0 : decode cX5_comerToFollow 0 = .ok (.bipush (-9), 2) := by decide +kernel
theorem dX5_comerToFollow_2 : decode cX5_comerToFollow 2 = .ok (.istore_n 2, 1) := by decide +kernel
theorem dX5_comerToFollow_3 : decode cX5_comerToFollow 3 = .ok (.ldc 71, 2) := by decide +kernel
theorem dX5_comerToFollow_5 : decode cX5_comerToFollow 5 = .ok (.istore_n 3, 1) := by decide +kernel
theorem dX5_comerToFollow_6 : decode cX5_comerToFollow 6 = .ok (.iconst 0, 1) := by decide +kernel
theorem dX5_comerToFollow_7 : decode cX5_comerToFollow 7 = .ok (.istore 4, 2) := by decide +kernel
theorem dX5_comerToFollow_9 : decode cX5_comerToFollow 9 = .ok (.iload 4, 2) := by decide +kernel
theorem dX5_comerToFollow_11 : decode cX5_comerToFollow 11 = .ok (.aload_n 1, 1) := by decide +kernel
theorem dX5_comerToFollow_12 : decode cX5_comerToFollow 12 = .ok (.getfield 78, 3) := by decide +kernel
theorem dX5_comerToFollow_15 : decode cX5_comerToFollow 15 = .ok (.if_icmp .ge 80, 3) := by decide +kernel
theorem dX5_comerToFollow_18 : decode cX5_comerToFollow 18 = .ok (.aload_n 1, 1) := by decide +kernel
theorem dX5_comerToFollow_19 : decode cX5_comerToFollow 19 = .ok (.getfield 44, 3) := by decide +kernel
theorem dX5_comerToFollow_22 : decode cX5_comerToFollow 22 = .ok (.iload 4, 2) := by decide +kernel
theorem dX5_comerToFollow_24 : decode cX5_comerToFollow 24 = .ok (.aaload, 1) := by decide +kernel
theorem dX5_comerToFollow_25 : decode cX5_comerToFollow 25 = .ok (.astore 5, 2) := by decide +kernel
theorem dX5_comerToFollow_27 : decode cX5_comerToFollow 27 = .ok (.iconst 0, 1) := by decide +kernel
theorem dX5_comerToFollow_28 : decode cX5_comerToFollow 28 = .ok (.istore 6, 2) := by decide +kernel
theorem dX5_comerToFollow_30 : decode cX5_comerToFollow 30 = .ok (.iload 6, 2) := by decide +kernel
theorem dX5_comerToFollow_32 : decode cX5_comerToFollow 32 = .ok (.aload_n 0, 1) := by decide +kernel
theorem dX5_comerToFollow_33 : decode cX5_comerToFollow 33 = .ok (.getfield 12, 3) := by decide +kernel
theorem dX5_comerToFollow_36 : decode cX5_comerToFollow 36 = .ok (.getfield 78, 3) := by decide +kernel
theorem dX5_comerToFollow_39 : decode cX5_comerToFollow 39 = .ok (.if_icmp .ge 32, 3) := by decide +kernel
theorem dX5_comerToFollow_42 : decode cX5_comerToFollow 42 = .ok (.aload_n 0, 1) := by decide +kernel
theorem dX5_comerToFollow_43 : decode cX5_comerToFollow 43 = .ok (.getfield 12, 3) := by decide +kernel
theorem dX5_comerToFollow_46 : decode cX5_comerToFollow 46 = .ok (.getfield 44, 3) := by decide +kernel
theorem dX5_comerToFollow_49 : decode cX5_comerToFollow 49 = .ok (.iload 6, 2) := by decide +kernel
theorem dX5_comerToFollow_51 : decode cX5_comerToFollow 51 = .ok (.aaload, 1) := by decide +kernel
theorem dX5_comerToFollow_52 : decode cX5_comerToFollow 52 = .ok (.aload 5, 2) := by decide +kernel
theorem dX5_comerToFollow_54 : decode cX5_comerToFollow 54 = .ok (.getfield 66, 3) := by decide +kernel
theorem dX5_comerToFollow_57 : decode cX5_comerToFollow 57 = .ok (.aload 5, 2) := by decide +kernel
theorem dX5_comerToFollow_59 : decode cX5_comerToFollow 59 = .ok (.getfield 95, 3) := by decide +kernel
theorem dX5_comerToFollow_62 : decode cX5_comerToFollow 62 = .ok (.invokevirtual 98, 3) := by decide +kernel
theorem dX5_comerToFollow_65 : decode cX5_comerToFollow 65 = .ok (.iinc 6 1, 3) := by decide +kernel
theorem dX5_comerToFollow_68 : decode cX5_comerToFollow 68 = .ok (.goto (-38), 3) := by decide +kernel
theorem dX5_comerToFollow_71 : decode cX5_comerToFollow 71 = .ok (.aload_n 0, 1) := by decide +kernel
theorem dX5_comerToFollow_72 : decode cX5_comerToFollow 72 = .ok (.invokevirtual 72, 3) := by decide +kernel
theorem dX5_comerToFollow_75 : decode cX5_comerToFollow 75 = .ok (.istore 6, 2) := by decide +kernel
theorem dX5_comerToFollow_77 : decode cX5_comerToFollow 77 = .ok (.iload 6, 2) := by decide +kernel
theorem dX5_comerToFollow_79 : decode cX5_comerToFollow 79 = .ok (.iload_n 3, 1) := by decide +kernel
theorem dX5_comerToFollow_80 : decode cX5_comerToFollow 80 = .ok (.if_icmp .ge 9, 3) := by decide +kernel
theorem dX5_comerToFollow_83 : decode cX5_comerToFollow 83 = .ok (.iload 6, 2) := by decide +kernel
theorem dX5_comerToFollow_85 : decode cX5_comerToFollow 85 = .ok (.istore_n 3, 1) := by decide +kernel
theorem dX5_comerToFollow_86 : decode cX5_comerToFollow 86 = .ok (.iload 4, 2) := by decide +kernel
theorem dX5_comerToFollow_88 : decode cX5_comerToFollow 88 = .ok (.istore_n 2, 1) := by decide +kernel
theorem dX5_comerToFollow_89 : decode cX5_comerToFollow 89 = .ok (.iinc 4 1, 3) := by decide +kernel
theorem dX5_comerToFollow_92 : decode cX5_comerToFollow 92 = .ok (.goto (-83), 3) := by decide +kernel
theorem dX5_comerToFollow_95 : decode cX5_comerToFollow 95 = .ok (.iload_n 2, 1) := by decide +kernel
theorem dX5_comerToFollow_96 : decode cX5_comerToFollow 96 = .ok (.ireturn, 1) := by decide +kernel
set_option maxRecDepth 20000 in
theorem ggX5_firstOtherLevel_X2_pass : GoodIn wsX5_firstOtherLevel wsX2_pass := goodIn_r _ [8, 9, 10, 11, 7, 12, 13, 14, 15, 16, 17, 18, 19, 20, 21, 22, 23, 24, 25, 26, 27, 28, 29, 30, 31, 32, 33, 34, 35, 36, 37, 38, 39, 40, 41, 42, 43, 44, 45, 46, 47, 48, 49, 50, 51, 52, 53, 54, 55, 56, 57, 58, 59, 60, 61, 62, 63, 64, 65, 66, 67, 68, 69, 70, 71, 72, 73, 74, 75, 76, 77, 78, 79, 80, 81, 82, 83, 84, 85, 86, 87, 88, 89, 90, 91, 92, 93, 94, 95, 96, 97, 98, 99, 100, 101, 102, 103, 104, 105, 106, 107, 108, 109, 110, 111, 112, 113, 114, 115, 116, 117, 118, 119, 120, 121, 122, 123, 124, 125, 126, 127, 128, 129, 130, 133, 134, 135, 136, 137, 138, 139, 140, 146, 147, 148, 149, 150, 151, 152, 141, 142, 143, 144, 145] (by decide +kernel) (by decide +kernel)
set_option maxRecDepth 20000 in
theorem gX5_firstOtherLevel_X2_pass : GoodIn wsX5_firstOtherLevel (wsV RX5 26 RX2 yX2_pass wsX2_pass) := goodIn_app (goodIn_of _ (by decide +kernel)) ggX5_firstOtherLevel_X2_pass
theorem dX5_firstOtherLevel_0 : decode cX5_firstOtherLevel 0 = .ok (.iconst 0, 1) := by decide +kernel
theorem dX5_firstOtherLevel_1 : decode cX5_firstOtherLevel 1 = .ok (.istore_n 3, 1) := by decide +kernel
theorem dX5_firstOtherLevel_2 : decode cX5_firstOtherLevel 2 = .ok (.iload_n 3, 1) := by decide +kernel
theorem dX5_firstOtherLevel_3 : decode cX5_firstOtherLevel 3 = .ok (.iload_n 2, 1) := by decide +kernel
theorem dX5_firstOtherLevel_4 : decode cX5_firstOtherLevel 4 = .ok (.if_icmp .ge 43, 3) := by decide +kernel
theorem dX5_firstOtherLevel_7 : decode cX5_firstOtherLevel 7 = .ok (.iload_n 3, 1) := by decide +kernel
theorem dX5_firstOtherLevel_8 : decode cX5_firstOtherLevel 8 = .ok (.aload_n 1, 1) := by decide +kernel
theorem dX5_firstOtherLevel_9 : decode cX5_firstOtherLevel 9 = .ok (.arraylength, 1) := by decide +kernel
theorem dX5_firstOtherLevel_10 : decode cX5_firstOtherLevel 10 = .ok (.if_icmp .ge 37, 3) := by decide +kernel
theorem dX5_firstOtherLevel_13 : decode cX5_firstOtherLevel 13 = .ok (.aload_n 0, 1) := by decide +kernel
theorem dX5_firstOtherLevel_14 : decode cX5_firstOtherLevel 14 = .ok (.getfield 12, 3) := by decide +kernel
theorem dX5_firstOtherLevel_17 : decode cX5_firstOtherLevel 17 = .ok (.iconst 1, 1) := by decide +kernel
theorem dX5_firstOtherLevel_18 : decode cX5_firstOtherLevel 18 = .ok (.invokevirtual 26, 3) := by decide +kernel
theorem dX5_firstOtherLevel_21 : decode cX5_firstOtherLevel 21 = .ok (.aload_n 0, 1) := by decide +kernel
theorem dX5_firstOtherLevel_22 : decode cX5_firstOtherLevel 22 = .ok (.getfield 12, 3) := by decide +kernel
theorem dX5_firstOtherLevel_25 : decode cX5_firstOtherLevel 25 = .ok (.getfield 102, 3) := by decide +kernel
theorem dX5_firstOtherLevel_28 : decode cX5_firstOtherLevel 28 = .ok (.iconst 0, 1) := by decide +kernel
theorem dX5_firstOtherLevel_29 : decode cX5_firstOtherLevel 29 = .ok (.aaload, 1) := by decide +kernel
theorem dX5_firstOtherLevel_30 : decode cX5_firstOtherLevel 30 = .ok (.getfield 106, 3) := by decide +kernel
theorem dX5_firstOtherLevel_33 : decode cX5_firstOtherLevel 33 = .ok (.aload_n 1, 1) := by decide +kernel
theorem dX5_firstOtherLevel_34 : decode cX5_firstOtherLevel 34 = .ok (.iload_n 3, 1) := by decide +kernel
theorem dX5_firstOtherLevel_35 : decode cX5_firstOtherLevel 35 = .ok (.iaload, 1) := by decide +kernel
theorem dX5_firstOtherLevel_36 : decode cX5_firstOtherLevel 36 = .ok (.if_icmp .eq 5, 3) := by decide +kernel
theorem dX5_firstOtherLevel_39 : decode cX5_firstOtherLevel 39 = .ok (.iload_n 3, 1) := by decide +kernel
theorem dX5_firstOtherLevel_40 : decode cX5_firstOtherLevel 40 = .ok (.ireturn, 1) := by decide +kernel
theorem dX5_firstOtherLevel_41 : decode cX5_firstOtherLevel 41 = .ok (.iinc 3 1, 3) := by decide +kernel
theorem dX5_firstOtherLevel_44 : decode cX5_firstOtherLevel 44 = .ok (.goto (-42), 3) := by decide +kernel
theorem dX5_firstOtherLevel_47 : decode cX5_firstOtherLevel 47 = .ok (.bipush (-9), 2) := by decide +kernel
theorem dX5_firstOtherLevel_49 : decode cX5_firstOtherLevel 49 = .ok (.ireturn, 1) := by decide +kernel
set_option maxRecDepth 20000 in
theorem ggX5_drawnDays_X5_draw : GoodIn wsX5_drawnDays wsX5_draw := goodIn_r _ [10, 1, 11, 12, 13, 171, 172] (by decide +kernel) (by decide +kernel)
set_option maxRecDepth 20000 in
theorem gX5_drawnDays_X5_draw : GoodIn wsX5_drawnDays (wsV RX5 114 RX5 yX5_draw wsX5_draw) := goodIn_app (goodIn_of _ (by decide +kernel)) ggX5_drawnDays_X5_draw
set_option maxRecDepth 20000 in
theorem ggX5_drawnDays_X5_costAnew : GoodIn wsX5_drawnDays wsX5_costAnew := goodIn_r _ [17, 2, 18, 19, 20, 21, 22, 23, 24, 25, 26, 27, 28, 29, 30, 31, 32, 33, 34, 35, 36, 37, 38, 39, 40, 41, 42, 43, 44, 45, 46, 47, 48, 49, 50, 51, 52, 53, 54, 55, 56, 57, 58, 59, 60, 61, 62, 63, 64, 65, 66, 67, 68, 69, 70, 71, 72, 73, 74, 75, 76, 77, 78, 79, 80, 81, 82, 83, 84, 85, 86, 87, 88, 89, 90, 91, 92, 93, 94, 95, 96, 97, 98, 99, 100, 101, 102, 103, 104, 105, 106, 107, 108, 109, 110, 111, 112, 113, 114, 115, 116, 117, 118, 119, 120, 121, 122, 123, 124, 125, 126, 127, 128, 129, 130, 131, 132, 133, 134, 135, 136, 137, 138, 139, 140, 141, 142, 143, 144, 145, 146, 147, 148, 149, 150, 151, 152, 153, 154, 155, 156, 157, 158, 159, 160, 161, 162, 163, 164, 165, 166, 167, 168, 169, 171, 172, 173, 174, 175, 176, 177, 178, 179, 180, 181, 182, 183, 184, 185, 186, 187, 188, 189, 190, 191, 192] (by decide +kernel) (by decide +kernel)
set_option maxRecDepth 20000 in
theorem gX5_drawnDays_X5_costAnew : GoodIn wsX5_drawnDays (wsV RX5 72 RX5 yX5_costAnew wsX5_costAnew) := goodIn_app (goodIn_of _ (by decide +kernel)) ggX5_drawnDays_X5_costAnew
set_option maxRecDepth 20000 in
theorem ggX5_drawnDays_X2_comersWith : GoodIn wsX5_drawnDays wsX2_comersWith := goodIn_r _ [45, 25, 26, 27, 173, 174, 175, 176, 177, 178, 179, 180, 181, 182, 183, 184, 185, 186, 187] (by decide +kernel) (by decide +kernel)
set_option maxRecDepth 20000 in
theorem gX5_drawnDays_X2_comersWith : GoodIn wsX5_drawnDays (wsV RX5 34 RX2 yX2_comersWith wsX2_comersWith) := goodIn_app (goodIn_of _ (by decide +kernel)) ggX5_drawnDays_X2_comersWith
theorem dX5_drawnDays_0 : decode cX5_drawnDays 0 = .ok (.aload_n 0, 1) := by decide +kernel
theorem dX5_drawnDays_1 : decode cX5_drawnDays 1 = .ok (.iload_n 2, 1) := by decide +kernel
theorem dX5_drawnDays_2 : decode cX5_drawnDays 2 = .ok (.putfield 111, 3) := by decide +kernel
theorem dX5_drawnDays_5 : decode cX5_drawnDays 5 = .ok (.iconst 0, 1) := by decide +kernel
theorem dX5_drawnDays_6 : decode cX5_drawnDays 6 = .ok (.istore 4, 2) := by decide +kernel
theorem dX5_drawnDays_8 : decode cX5_drawnDays 8 = .ok (.iconst 0, 1) := by decide +kernel
theorem dX5_drawnDays_9 : decode cX5_drawnDays 9 = .ok (.istore 5, 2) := by decide +kernel
theorem dX5_drawnDays_11 : decode cX5_drawnDays 11 = .ok (.iconst 0, 1) := by decide +kernel
theorem dX5_drawnDays_12 : decode cX5_drawnDays 12 = .ok (.istore 6, 2) := by decide +kernel
theorem dX5_drawnDays_14 : decode cX5_drawnDays 14 = .ok (.iload 6, 2) := by decide +kernel
theorem dX5_drawnDays_16 : decode cX5_drawnDays 16 = .ok (.iload_n 1, 1) := by decide +kernel
theorem dX5_drawnDays_17 : decode cX5_drawnDays 17 = .ok (.if_icmp .ge 71, 3) := by decide +kernel
theorem dX5_drawnDays_20 : decode cX5_drawnDays 20 = .ok (.iconst 0, 1) := by decide +kernel
theorem dX5_drawnDays_21 : decode cX5_drawnDays 21 = .ok (.istore 7, 2) := by decide +kernel
theorem dX5_drawnDays_23 : decode cX5_drawnDays 23 = .ok (.iload 7, 2) := by decide +kernel
theorem dX5_drawnDays_25 : decode cX5_drawnDays 25 = .ok (.aload_n 0, 1) := by decide +kernel
theorem dX5_drawnDays_26 : decode cX5_drawnDays 26 = .ok (.getfield 12, 3) := by decide +kernel
theorem dX5_drawnDays_29 : decode cX5_drawnDays 29 = .ok (.getfield 78, 3) := by decide +kernel
theorem dX5_drawnDays_32 : decode cX5_drawnDays 32 = .ok (.if_icmp .ge 28, 3) := by decide +kernel
theorem dX5_drawnDays_35 : decode cX5_drawnDays 35 = .ok (.aload_n 0, 1) := by decide +kernel
theorem dX5_drawnDays_36 : decode cX5_drawnDays 36 = .ok (.getfield 12, 3) := by decide +kernel
theorem dX5_drawnDays_39 : decode cX5_drawnDays 39 = .ok (.getfield 44, 3) := by decide +kernel
theorem dX5_drawnDays_42 : decode cX5_drawnDays 42 = .ok (.iload 7, 2) := by decide +kernel
theorem dX5_drawnDays_44 : decode cX5_drawnDays 44 = .ok (.aaload, 1) := by decide +kernel
theorem dX5_drawnDays_45 : decode cX5_drawnDays 45 = .ok (.aload_n 0, 1) := by decide +kernel
theorem dX5_drawnDays_46 : decode cX5_drawnDays 46 = .ok (.bipush 120, 2) := by decide +kernel
theorem dX5_drawnDays_48 : decode cX5_drawnDays 48 = .ok (.invokevirtual 114, 3) := by decide +kernel
theorem dX5_drawnDays_51 : decode cX5_drawnDays 51 = .ok (.putfield 117, 3) := by decide +kernel
theorem dX5_drawnDays_54 : decode cX5_drawnDays 54 = .ok (.iinc 7 1, 3) := by decide +kernel
theorem dX5_drawnDays_57 : decode cX5_drawnDays 57 = .ok (.goto (-34), 3) := by decide +kernel
theorem dX5_drawnDays_60 : decode cX5_drawnDays 60 = .ok (.iload 4, 2) := by decide +kernel
theorem dX5_drawnDays_62 : decode cX5_drawnDays 62 = .ok (.aload_n 0, 1) := by decide +kernel
theorem dX5_drawnDays_63 : decode cX5_drawnDays 63 = .ok (.invokevirtual 72, 3) := by decide +kernel
theorem dX5_drawnDays_66 : decode cX5_drawnDays 66 = .ok (.iadd, 1) := by decide +kernel
theorem dX5_drawnDays_67 : decode cX5_drawnDays 67 = .ok (.istore 4, 2) := by decide +kernel
theorem dX5_drawnDays_69 : decode cX5_drawnDays 69 = .ok (.iload 5, 2) := by decide +kernel
theorem dX5_drawnDays_71 : decode cX5_drawnDays 71 = .ok (.aload_n 0, 1) := by decide +kernel
theorem dX5_drawnDays_72 : decode cX5_drawnDays 72 = .ok (.getfield 12, 3) := by decide +kernel
theorem dX5_drawnDays_75 : decode cX5_drawnDays 75 = .ok (.iconst 3, 1) := by decide +kernel
theorem dX5_drawnDays_76 : decode cX5_drawnDays 76 = .ok (.invokevirtual 34, 3) := by decide +kernel
theorem dX5_drawnDays_79 : decode cX5_drawnDays 79 = .ok (.iadd, 1) := by decide +kernel
theorem dX5_drawnDays_80 : decode cX5_drawnDays 80 = .ok (.istore 5, 2) := by decide +kernel
theorem dX5_drawnDays_82 : decode cX5_drawnDays 82 = .ok (.iinc 6 1, 3) := by decide +kernel
theorem dX5_drawnDays_85 : decode cX5_drawnDays 85 = .ok (.goto (-71), 3) := by decide +kernel
theorem dX5_drawnDays_88 : decode cX5_drawnDays 88 = .ok (.iload_n 3, 1) := by decide +kernel
theorem dX5_drawnDays_89 : decode cX5_drawnDays 89 = .ok (.ifCond .eq 8, 3) := by decide +kernel
theorem dX5_drawnDays_92 : decode cX5_drawnDays 92 = .ok (.iload 4, 2) := by decide +kernel
theorem dX5_drawnDays_94 : decode cX5_drawnDays 94 = .ok (.goto 5, 3) := by decide +kernel
theorem dX5_drawnDays_97 : decode cX5_drawnDays 97 = .ok (.iload 5, 2) := by decide +kernel
theorem dX5_drawnDays_99 : decode cX5_drawnDays 99 = .ok (.ireturn, 1) := by decide +kernel
theorem dX5_draw_0 : decode cX5_draw 0 = .ok (.aload_n 0, 1) := by decide +kernel
theorem dX5_draw_1 : decode cX5_draw 1 = .ok (.aload_n 0, 1) := by decide +kernel
theorem dX5_draw_2 : decode cX5_draw 2 = .ok (.getfield 111, 3) := by decide +kernel
theorem dX5_draw_5 : decode cX5_draw 5 = .ok (.ldc 120, 2) := by decide +kernel
theorem dX5_draw_7 : decode cX5_draw 7 = .ok (.imul, 1) := by decide +kernel
theorem dX5_draw_8 : decode cX5_draw 8 = .ok (.sipush 12345, 3) := by decide +kernel
theorem dX5_draw_11 : decode cX5_draw 11 = .ok (.iadd, 1) := by decide +kernel
theorem dX5_draw_12 : decode cX5_draw 12 = .ok (.putfield 111, 3) := by decide +kernel
