theorem dX2_passMinute_0 : decode cX2_passMinute 0 = .ok (.aload_n 0, 1) := by decide +kernel
theorem dX2_passMinute_1 : decode cX2_passMinute 1 = .ok (.invokevirtual 111, 3) := by decide +kernel
theorem dX2_passMinute_4 : decode cX2_passMinute 4 = .ok (.aload_n 0, 1) := by decide +kernel
theorem dX2_passMinute_5 : decode cX2_passMinute 5 = .ok (.invokevirtual 114, 3) := by decide +kernel
theorem dX2_passMinute_8 : decode cX2_passMinute 8 = .ok (.iconst 0, 1) := by decide +kernel
theorem dX2_passMinute_9 : decode cX2_passMinute 9 = .ok (.istore_n 1, 1) := by decide +kernel
theorem dX2_passMinute_10 : decode cX2_passMinute 10 = .ok (.iload_n 1, 1) := by decide +kernel
theorem dX2_passMinute_11 : decode cX2_passMinute 11 = .ok (.aload_n 0, 1) := by decide +kernel
theorem dX2_passMinute_12 : decode cX2_passMinute 12 = .ok (.getfield 50, 3) := by decide +kernel
theorem dX2_passMinute_15 : decode cX2_passMinute 15 = .ok (.if_icmp .ge 32, 3) := by decide +kernel
theorem dX2_passMinute_18 : decode cX2_passMinute 18 = .ok (.aload_n 0, 1) := by decide +kernel
theorem dX2_passMinute_19 : decode cX2_passMinute 19 = .ok (.aload_n 0, 1) := by decide +kernel
theorem dX2_passMinute_20 : decode cX2_passMinute 20 = .ok (.getfield 37, 3) := by decide +kernel
theorem dX2_passMinute_23 : decode cX2_passMinute 23 = .ok (.iload_n 1, 1) := by decide +kernel
theorem dX2_passMinute_24 : decode cX2_passMinute 24 = .ok (.iaload, 1) := by decide +kernel
theorem dX2_passMinute_25 : decode cX2_passMinute 25 = .ok (.invokevirtual 117, 3) := by decide +kernel
theorem dX2_passMinute_28 : decode cX2_passMinute 28 = .ok (.ifCond .ne 13, 3) := by decide +kernel
theorem dX2_passMinute_31 : decode cX2_passMinute 31 = .ok (.aload_n 0, 1) := by decide +kernel
theorem dX2_passMinute_32 : decode cX2_passMinute 32 = .ok (.aload_n 0, 1) := by decide +kernel
theorem dX2_passMinute_33 : decode cX2_passMinute 33 = .ok (.getfield 37, 3) := by decide +kernel
theorem dX2_passMinute_36 : decode cX2_passMinute 36 = .ok (.iload_n 1, 1) := by decide +kernel
theorem dX2_passMinute_37 : decode cX2_passMinute 37 = .ok (.iaload, 1) := by decide +kernel
theorem dX2_passMinute_38 : decode cX2_passMinute 38 = .ok (.invokevirtual 120, 3) := by decide +kernel
theorem dX2_passMinute_41 : decode cX2_passMinute 41 = .ok (.iinc 1 1, 3) := by decide +kernel
theorem dX2_passMinute_44 : decode cX2_passMinute 44 = .ok (.goto (-34), 3) := by decide +kernel
theorem dX2_passMinute_47 : decode cX2_passMinute 47 = .ok (.aload_n 0, 1) := by decide +kernel
theorem dX2_passMinute_48 : decode cX2_passMinute 48 = .ok (.invokevirtual 124, 3) := by decide +kernel
theorem dX2_passMinute_51 : decode cX2_passMinute 51 = .ok (.aload_n 0, 1) := by decide +kernel
theorem dX2_passMinute_52 : decode cX2_passMinute 52 = .ok (.invokevirtual 127, 3) := by decide +kernel
theorem dX2_passMinute_55 : decode cX2_passMinute 55 = .ok (.aload_n 0, 1) := by decide +kernel
theorem dX2_passMinute_56 : decode cX2_passMinute 56 = .ok (.dup, 1) := by decide +kernel
theorem dX2_passMinute_57 : decode cX2_passMinute 57 = .ok (.getfield 53, 3) := by decide +kernel
theorem dX2_passMinute_60 : decode cX2_passMinute 60 = .ok (.iconst 1, 1) := by decide +kernel
theorem dX2_passMinute_61 : decode cX2_passMinute 61 = .ok (.iadd, 1) := by decide +kernel
theorem dX2_passMinute_62 : decode cX2_passMinute 62 = .ok (.putfield 53, 3) := by decide +kernel
theorem dX2_passMinute_65 : decode cX2_passMinute 65 = .ok (.return_, 1) := by decide +kernel
theorem dX2_lineUp_0 : decode cX2_lineUp 0 = .ok (.iconst 0, 1) := by decide +kernel
theorem dX2_lineUp_1 : decode cX2_lineUp 1 = .ok (.istore_n 1, 1) := by decide +kernel
theorem dX2_lineUp_2 : decode cX2_lineUp 2 = .ok (.iload_n 1, 1) := by decide +kernel
theorem dX2_lineUp_3 : decode cX2_lineUp 3 = .ok (.aload_n 0, 1) := by decide +kernel
theorem dX2_lineUp_4 : decode cX2_lineUp 4 = .ok (.getfield 46, 3) := by decide +kernel
theorem dX2_lineUp_7 : decode cX2_lineUp 7 = .ok (.if_icmp .ge 79, 3) := by decide +kernel
theorem dX2_lineUp_10 : decode cX2_lineUp 10 = .ok (.aload_n 0, 1) := by decide +kernel
theorem dX2_lineUp_11 : decode cX2_lineUp 11 = .ok (.getfield 25, 3) := by decide +kernel
theorem dX2_lineUp_14 : decode cX2_lineUp 14 = .ok (.iload_n 1, 1) := by decide +kernel
theorem dX2_lineUp_15 : decode cX2_lineUp 15 = .ok (.aaload, 1) := by decide +kernel
theorem dX2_lineUp_16 : decode cX2_lineUp 16 = .ok (.getfield 63, 3) := by decide +kernel
theorem dX2_lineUp_19 : decode cX2_lineUp 19 = .ok (.ifCond .ne 61, 3) := by decide +kernel
theorem dX2_lineUp_22 : decode cX2_lineUp 22 = .ok (.aload_n 0, 1) := by decide +kernel
theorem dX2_lineUp_23 : decode cX2_lineUp 23 = .ok (.getfield 25, 3) := by decide +kernel
theorem dX2_lineUp_26 : decode cX2_lineUp 26 = .ok (.iload_n 1, 1) := by decide +kernel
theorem dX2_lineUp_27 : decode cX2_lineUp 27 = .ok (.aaload, 1) := by decide +kernel
theorem dX2_lineUp_28 : decode cX2_lineUp 28 = .ok (.getfield 83, 3) := by decide +kernel
theorem dX2_lineUp_31 : decode cX2_lineUp 31 = .ok (.aload_n 0, 1) := by decide +kernel
theorem dX2_lineUp_32 : decode cX2_lineUp 32 = .ok (.getfield 53, 3) := by decide +kernel
theorem dX2_lineUp_35 : decode cX2_lineUp 35 = .ok (.if_icmp .ne 45, 3) := by decide +kernel
theorem dX2_lineUp_38 : decode cX2_lineUp 38 = .ok (.aload_n 0, 1) := by decide +kernel
theorem dX2_lineUp_39 : decode cX2_lineUp 39 = .ok (.getfield 50, 3) := by decide +kernel
theorem dX2_lineUp_42 : decode cX2_lineUp 42 = .ok (.aload_n 0, 1) := by decide +kernel
theorem dX2_lineUp_43 : decode cX2_lineUp 43 = .ok (.getfield 37, 3) := by decide +kernel
theorem dX2_lineUp_46 : decode cX2_lineUp 46 = .ok (.arraylength, 1) := by decide +kernel
theorem dX2_lineUp_47 : decode cX2_lineUp 47 = .ok (.if_icmp .ge 33, 3) := by decide +kernel
theorem dX2_lineUp_50 : decode cX2_lineUp 50 = .ok (.aload_n 0, 1) := by decide +kernel
theorem dX2_lineUp_51 : decode cX2_lineUp 51 = .ok (.getfield 25, 3) := by decide +kernel
theorem dX2_lineUp_54 : decode cX2_lineUp 54 = .ok (.iload_n 1, 1) := by decide +kernel
theorem dX2_lineUp_55 : decode cX2_lineUp 55 = .ok (.aaload, 1) := by decide +kernel
theorem dX2_lineUp_56 : decode cX2_lineUp 56 = .ok (.iconst 1, 1) := by decide +kernel
theorem dX2_lineUp_57 : decode cX2_lineUp 57 = .ok (.putfield 63, 3) := by decide +kernel
theorem dX2_lineUp_60 : decode cX2_lineUp 60 = .ok (.aload_n 0, 1) := by decide +kernel
theorem dX2_lineUp_61 : decode cX2_lineUp 61 = .ok (.getfield 37, 3) := by decide +kernel
theorem dX2_lineUp_64 : decode cX2_lineUp 64 = .ok (.aload_n 0, 1) := by decide +kernel
theorem dX2_lineUp_65 : decode cX2_lineUp 65 = .ok (.getfield 50, 3) := by decide +kernel
theorem dX2_lineUp_68 : decode cX2_lineUp 68 = .ok (.iload_n 1, 1) := by decide +kernel
theorem dX2_lineUp_69 : decode cX2_lineUp 69 = .ok (.iastore, 1) := by decide +kernel
theorem dX2_lineUp_70 : decode cX2_lineUp 70 = .ok (.aload_n 0, 1) := by decide +kernel
theorem dX2_lineUp_71 : decode cX2_lineUp 71 = .ok (.dup, 1) := by decide +kernel
theorem dX2_lineUp_72 : decode cX2_lineUp 72 = .ok (.getfield 50, 3) := by decide +kernel
theorem dX2_lineUp_75 : decode cX2_lineUp 75 = .ok (.iconst 1, 1) := by decide +kernel
theorem dX2_lineUp_76 : decode cX2_lineUp 76 = .ok (.iadd, 1) := by decide +kernel
theorem dX2_lineUp_77 : decode cX2_lineUp 77 = .ok (.putfield 50, 3) := by decide +kernel
theorem dX2_lineUp_80 : decode cX2_lineUp 80 = .ok (.iinc 1 1, 3) := by decide +kernel
theorem dX2_lineUp_83 : decode cX2_lineUp 83 = .ok (.goto (-81), 3) := by decide +kernel
theorem dX2_lineUp_86 : decode cX2_lineUp 86 = .ok (.return_, 1) := by decide +kernel
set_option maxRecDepth 20000 in
theorem ggX2_loseImpatient_X2_closeUp : GoodIn wsX2_loseImpatient wsX2_closeUp := goodIn_r _ [12, 1, 2, 3, 7, 13, 14, 15, 16, 17, 18, 19, 20, 21, 22, 23, 24, 25, 26, 27] (by decide +kernel) (by decide +kernel)
set_option maxRecDepth 20000 in
theorem gX2_loseImpatient_X2_closeUp : GoodIn wsX2_loseImpatient (wsV RX2 124 RX2 yX2_closeUp wsX2_closeUp) := goodIn_app (goodIn_of _ (by decide +kernel)) ggX2_loseImpatient_X2_closeUp
theorem dX2_loseImpatient_0 : decode cX2_loseImpatient 0 = .ok (.iconst 0, 1) := by decide +kernel
theorem dX2_loseImpatient_1 : decode cX2_loseImpatient 1 = .ok (.istore_n 1, 1) := by decide +kernel
theorem dX2_loseImpatient_2 : decode cX2_loseImpatient 2 = .ok (.iload_n 1, 1) := by decide +kernel
theorem dX2_loseImpatient_3 : decode cX2_loseImpatient 3 = .ok (.aload_n 0, 1) := by decide +kernel
theorem dX2_loseImpatient_4 : decode cX2_loseImpatient 4 = .ok (.getfield 50, 3) := by decide +kernel
theorem dX2_loseImpatient_7 : decode cX2_loseImpatient 7 = .ok (.if_icmp .ge 42, 3) := by decide +kernel
theorem dX2_loseImpatient_10 : decode cX2_loseImpatient 10 = .ok (.aload_n 0, 1) := by decide +kernel
theorem dX2_loseImpatient_11 : decode cX2_loseImpatient 11 = .ok (.getfield 25, 3) := by decide +kernel
theorem dX2_loseImpatient_14 : decode cX2_loseImpatient 14 = .ok (.aload_n 0, 1) := by decide +kernel
theorem dX2_loseImpatient_15 : decode cX2_loseImpatient 15 = .ok (.getfield 37, 3) := by decide +kernel
theorem dX2_loseImpatient_18 : decode cX2_loseImpatient 18 = .ok (.iload_n 1, 1) := by decide +kernel
theorem dX2_loseImpatient_19 : decode cX2_loseImpatient 19 = .ok (.iaload, 1) := by decide +kernel
theorem dX2_loseImpatient_20 : decode cX2_loseImpatient 20 = .ok (.aaload, 1) := by decide +kernel
theorem dX2_loseImpatient_21 : decode cX2_loseImpatient 21 = .ok (.astore_n 2, 1) := by decide +kernel
theorem dX2_loseImpatient_22 : decode cX2_loseImpatient 22 = .ok (.aload_n 0, 1) := by decide +kernel
theorem dX2_loseImpatient_23 : decode cX2_loseImpatient 23 = .ok (.getfield 53, 3) := by decide +kernel
theorem dX2_loseImpatient_26 : decode cX2_loseImpatient 26 = .ok (.aload_n 2, 1) := by decide +kernel
theorem dX2_loseImpatient_27 : decode cX2_loseImpatient 27 = .ok (.getfield 83, 3) := by decide +kernel
theorem dX2_loseImpatient_30 : decode cX2_loseImpatient 30 = .ok (.isub, 1) := by decide +kernel
theorem dX2_loseImpatient_31 : decode cX2_loseImpatient 31 = .ok (.aload_n 2, 1) := by decide +kernel
theorem dX2_loseImpatient_32 : decode cX2_loseImpatient 32 = .ok (.getfield 87, 3) := by decide +kernel
theorem dX2_loseImpatient_35 : decode cX2_loseImpatient 35 = .ok (.if_icmp .le 8, 3) := by decide +kernel
theorem dX2_loseImpatient_38 : decode cX2_loseImpatient 38 = .ok (.aload_n 2, 1) := by decide +kernel
theorem dX2_loseImpatient_39 : decode cX2_loseImpatient 39 = .ok (.iconst 3, 1) := by decide +kernel
theorem dX2_loseImpatient_40 : decode cX2_loseImpatient 40 = .ok (.putfield 63, 3) := by decide +kernel
theorem dX2_loseImpatient_43 : decode cX2_loseImpatient 43 = .ok (.iinc 1 1, 3) := by decide +kernel
theorem dX2_loseImpatient_46 : decode cX2_loseImpatient 46 = .ok (.goto (-44), 3) := by decide +kernel
theorem dX2_loseImpatient_49 : decode cX2_loseImpatient 49 = .ok (.aload_n 0, 1) := by decide +kernel
theorem dX2_loseImpatient_50 : decode cX2_loseImpatient 50 = .ok (.invokevirtual 124, 3) := by decide +kernel
theorem dX2_loseImpatient_53 : decode cX2_loseImpatient 53 = .ok (.return_, 1) := by decide +kernel
set_option maxRecDepth 20000 in
theorem ggX2_serve_X2_firstReady : GoodIn wsX2_serve wsX2_firstReady := goodIn_r _ [11, 12, 5, 13, 14, 15, 10, 16, 17, 18, 19, 20, 21, 22, 23, 24, 25, 26, 27, 28, 29, 30, 31, 32, 33, 41, 42, 43, 44, 45] (by decide +kernel) (by decide +kernel)
set_option maxRecDepth 20000 in
theorem gX2_serve_X2_firstReady : GoodIn wsX2_serve (wsV RX2 130 RX2 yX2_firstReady wsX2_firstReady) := goodIn_app (goodIn_of _ (by decide +kernel)) ggX2_serve_X2_firstReady
theorem dX2_serve_0 : decode cX2_serve 0 = .ok (.aload_n 0, 1) := by decide +kernel
theorem dX2_serve_1 : decode cX2_serve 1 = .ok (.getfield 25, 3) := by decide +kernel
theorem dX2_serve_4 : decode cX2_serve 4 = .ok (.iload_n 1, 1) := by decide +kernel
theorem dX2_serve_5 : decode cX2_serve 5 = .ok (.aaload, 1) := by decide +kernel
theorem dX2_serve_6 : decode cX2_serve 6 = .ok (.astore_n 2, 1) := by decide +kernel
theorem dX2_serve_7 : decode cX2_serve 7 = .ok (.aload_n 0, 1) := by decide +kernel
theorem dX2_serve_8 : decode cX2_serve 8 = .ok (.aload_n 2, 1) := by decide +kernel
theorem dX2_serve_9 : decode cX2_serve 9 = .ok (.getfield 84, 3) := by decide +kernel
theorem dX2_serve_12 : decode cX2_serve 12 = .ok (.invokevirtual 130, 3) := by decide +kernel
theorem dX2_serve_15 : decode cX2_serve 15 = .ok (.astore_n 3, 1) := by decide +kernel
theorem dX2_serve_16 : decode cX2_serve 16 = .ok (.aload_n 3, 1) := by decide +kernel
theorem dX2_serve_17 : decode cX2_serve 17 = .ok (.ifnull 29, 3) := by decide +kernel
theorem dX2_serve_20 : decode cX2_serve 20 = .ok (.aload_n 3, 1) := by decide +kernel
theorem dX2_serve_21 : decode cX2_serve 21 = .ok (.dup, 1) := by decide +kernel
theorem dX2_serve_22 : decode cX2_serve 22 = .ok (.getfield 134, 3) := by decide +kernel
theorem dX2_serve_25 : decode cX2_serve 25 = .ok (.aload_n 2, 1) := by decide +kernel
theorem dX2_serve_26 : decode cX2_serve 26 = .ok (.getfield 84, 3) := by decide +kernel
theorem dX2_serve_29 : decode cX2_serve 29 = .ok (.isub, 1) := by decide +kernel
theorem dX2_serve_30 : decode cX2_serve 30 = .ok (.putfield 134, 3) := by decide +kernel
theorem dX2_serve_33 : decode cX2_serve 33 = .ok (.aload_n 2, 1) := by decide +kernel
theorem dX2_serve_34 : decode cX2_serve 34 = .ok (.iconst 2, 1) := by decide +kernel
theorem dX2_serve_35 : decode cX2_serve 35 = .ok (.putfield 63, 3) := by decide +kernel
theorem dX2_serve_38 : decode cX2_serve 38 = .ok (.aload_n 2, 1) := by decide +kernel
theorem dX2_serve_39 : decode cX2_serve 39 = .ok (.aload_n 0, 1) := by decide +kernel
theorem dX2_serve_40 : decode cX2_serve 40 = .ok (.getfield 53, 3) := by decide +kernel
theorem dX2_serve_43 : decode cX2_serve 43 = .ok (.putfield 137, 3) := by decide +kernel
theorem dX2_serve_46 : decode cX2_serve 46 = .ok (.aload_n 3, 1) := by decide +kernel
theorem dX2_serve_47 : decode cX2_serve 47 = .ok (.ifnull 7, 3) := by decide +kernel
theorem dX2_serve_50 : decode cX2_serve 50 = .ok (.iconst 1, 1) := by decide +kernel
theorem dX2_serve_51 : decode cX2_serve 51 = .ok (.goto 4, 3) := by decide +kernel
theorem dX2_serve_54 : decode cX2_serve 54 = .ok (.iconst 0, 1) := by decide +kernel
theorem dX2_serve_55 : decode cX2_serve 55 = .ok (.ireturn, 1) := by decide +kernel
set_option maxRecDepth 20000 in
theorem ggX2_boil_X2_firstFree : GoodIn wsX2_boil wsX2_firstFree := goodIn_r _ [11, 12, 3, 13, 14, 15, 10, 16, 5, 17, 18, 19, 20, 21, 22, 67, 68, 69, 70, 71, 72, 73, 74, 82, 83, 84, 85, 86] (by decide +kernel) (by decide +kernel)
set_option maxRecDepth 20000 in
theorem gX2_boil_X2_firstFree : GoodIn wsX2_boil (wsV RX2 140 RX2 yX2_firstFree wsX2_firstFree) := goodIn_app (goodIn_of _ (by decide +kernel)) ggX2_boil_X2_firstFree
set_option maxRecDepth 20000 in
theorem ggX2_boil_X2_waitsForOwn : GoodIn wsX2_boil wsX2_waitsForOwn := goodIn_r _ [26, 12, 27, 3, 13, 14, 15, 10, 16, 5, 17, 18, 19, 20, 21, 22, 67, 68, 69, 70, 71, 72, 73, 74, 82, 83, 84, 85, 86] (by decide +kernel) (by decide +kernel)
set_option maxRecDepth 20000 in
theorem gX2_boil_X2_waitsForOwn : GoodIn wsX2_boil (wsV RX2 144 RX2 yX2_waitsForOwn wsX2_waitsForOwn) := goodIn_app (goodIn_of _ (by decide +kernel)) ggX2_boil_X2_waitsForOwn
set_option maxRecDepth 20000 in
theorem ggX2_boil_X2_upTo : GoodIn wsX2_boil wsX2_upTo := goodIn_r _ [31, 32, 5, 3, 33, 34, 35, 36, 37, 38, 39, 40, 41, 42, 43, 10, 44, 45, 1, 46, 47, 48, 49, 50, 51, 75, 76, 77, 78, 79, 80, 81, 67, 68, 69, 70, 71, 72, 73, 74] (by decide +kernel) (by decide +kernel)
set_option maxRecDepth 20000 in
theorem gX2_boil_X2_upTo : GoodIn wsX2_boil (wsV RX2 150 RX2 yX2_upTo wsX2_upTo) := goodIn_app (goodIn_of _ (by decide +kernel)) ggX2_boil_X2_upTo
set_option maxRecDepth 20000 in
theorem ggX2_boil_X3_fill : GoodIn wsX2_boil wsX3_fill := goodIn_r _ [55, 56, 57, 82, 83, 84, 85, 86] (by decide +kernel) (by decide +kernel)
set_option maxRecDepth 20000 in
theorem gX2_boil_X3_fill : GoodIn wsX2_boil (wsV RX2 154 RX3 yX3_fill wsX3_fill) := goodIn_app (goodIn_of _ (by decide +kernel)) ggX2_boil_X3_fill
set_option maxRecDepth 20000 in
theorem ggX2_boil_X3_putOn : GoodIn wsX2_boil wsX3_putOn := goodIn_r _ [61, 56, 57, 22, 62, 63, 64, 65, 66, 82, 83, 84, 85, 86] (by decide +kernel) (by decide +kernel)
set_option maxRecDepth 20000 in
theorem gX2_boil_X3_putOn : GoodIn wsX2_boil (wsV RX2 157 RX3 yX3_putOn wsX3_putOn) := goodIn_app (goodIn_of _ (by decide +kernel)) ggX2_boil_X3_putOn
theorem dX2_boil_0 : decode cX2_boil 0 = .ok (.aload_n 0, 1) := by decide +kernel
theorem dX2_boil_1 : decode cX2_boil 1 = .ok (.invokevirtual 140, 3) := by decide +kernel
theorem dX2_boil_4 : decode cX2_boil 4 = .ok (.astore_n 2, 1) := by decide +kernel
theorem dX2_boil_5 : decode cX2_boil 5 = .ok (.aload_n 2, 1) := by decide +kernel
theorem dX2_boil_6 : decode cX2_boil 6 = .ok (.ifnull 11, 3) := by decide +kernel
theorem dX2_boil_9 : decode cX2_boil 9 = .ok (.aload_n 0, 1) := by decide +kernel
theorem dX2_boil_10 : decode cX2_boil 10 = .ok (.iload_n 1, 1) := by decide +kernel
theorem dX2_boil_11 : decode cX2_boil 11 = .ok (.invokevirtual 144, 3) := by decide +kernel
theorem dX2_boil_14 : decode cX2_boil 14 = .ok (.ifCond .eq 4, 3) := by decide +kernel
theorem dX2_boil_17 : decode cX2_boil 17 = .ok (.return_, 1) := by decide +kernel
theorem dX2_boil_18 : decode cX2_boil 18 = .ok (.aload_n 0, 1) := by decide +kernel
theorem dX2_boil_19 : decode cX2_boil 19 = .ok (.aload_n 0, 1) := by decide +kernel
theorem dX2_boil_20 : decode cX2_boil 20 = .ok (.getfield 25, 3) := by decide +kernel
theorem dX2_boil_23 : decode cX2_boil 23 = .ok (.iload_n 1, 1) := by decide +kernel
theorem dX2_boil_24 : decode cX2_boil 24 = .ok (.aaload, 1) := by decide +kernel
theorem dX2_boil_25 : decode cX2_boil 25 = .ok (.aload_n 0, 1) := by decide +kernel
theorem dX2_boil_26 : decode cX2_boil 26 = .ok (.getfield 25, 3) := by decide +kernel
theorem dX2_boil_29 : decode cX2_boil 29 = .ok (.iload_n 1, 1) := by decide +kernel
theorem dX2_boil_30 : decode cX2_boil 30 = .ok (.aaload, 1) := by decide +kernel
theorem dX2_boil_31 : decode cX2_boil 31 = .ok (.getfield 147, 3) := by decide +kernel
theorem dX2_boil_34 : decode cX2_boil 34 = .ok (.invokevirtual 150, 3) := by decide +kernel
theorem dX2_boil_37 : decode cX2_boil 37 = .ok (.istore_n 3, 1) := by decide +kernel
theorem dX2_boil_38 : decode cX2_boil 38 = .ok (.aload_n 0, 1) := by decide +kernel
theorem dX2_boil_39 : decode cX2_boil 39 = .ok (.getfield 53, 3) := by decide +kernel
theorem dX2_boil_42 : decode cX2_boil 42 = .ok (.istore 4, 2) := by decide +kernel
theorem dX2_boil_44 : decode cX2_boil 44 = .ok (.aload_n 2, 1) := by decide +kernel
theorem dX2_boil_45 : decode cX2_boil 45 = .ok (.getfield 134, 3) := by decide +kernel
theorem dX2_boil_48 : decode cX2_boil 48 = .ok (.iload_n 3, 1) := by decide +kernel
theorem dX2_boil_49 : decode cX2_boil 49 = .ok (.if_icmp .ge 19, 3) := by decide +kernel
theorem dX2_boil_52 : decode cX2_boil 52 = .ok (.aload_n 2, 1) := by decide +kernel
theorem dX2_boil_53 : decode cX2_boil 53 = .ok (.iload_n 3, 1) := by decide +kernel
theorem dX2_boil_54 : decode cX2_boil 54 = .ok (.invokevirtual 154, 3) := by decide +kernel
theorem dX2_boil_57 : decode cX2_boil 57 = .ok (.iload 4, 2) := by decide +kernel
theorem dX2_boil_59 : decode cX2_boil 59 = .ok (.aload_n 0, 1) := by decide +kernel
theorem dX2_boil_60 : decode cX2_boil 60 = .ok (.getfield 18, 3) := by decide +kernel
theorem dX2_boil_63 : decode cX2_boil 63 = .ok (.iconst 1, 1) := by decide +kernel
theorem dX2_boil_64 : decode cX2_boil 64 = .ok (.iaload, 1) := by decide +kernel
theorem dX2_boil_65 : decode cX2_boil 65 = .ok (.iadd, 1) := by decide +kernel
theorem dX2_boil_66 : decode cX2_boil 66 = .ok (.istore 4, 2) := by decide +kernel
theorem dX2_boil_68 : decode cX2_boil 68 = .ok (.aload_n 2, 1) := by decide +kernel
theorem dX2_boil_69 : decode cX2_boil 69 = .ok (.iload_n 1, 1) := by decide +kernel
theorem dX2_boil_70 : decode cX2_boil 70 = .ok (.iload 4, 2) := by decide +kernel
theorem dX2_boil_72 : decode cX2_boil 72 = .ok (.aload_n 0, 1) := by decide +kernel
theorem dX2_boil_73 : decode cX2_boil 73 = .ok (.getfield 18, 3) := by decide +kernel
theorem dX2_boil_76 : decode cX2_boil 76 = .ok (.iconst 2, 1) := by decide +kernel
theorem dX2_boil_77 : decode cX2_boil 77 = .ok (.iaload, 1) := by decide +kernel
theorem dX2_boil_78 : decode cX2_boil 78 = .ok (.invokevirtual 157, 3) := by decide +kernel
theorem dX2_boil_81 : decode cX2_boil 81 = .ok (.aload_n 0, 1) := by decide +kernel
theorem dX2_boil_82 : decode cX2_boil 82 = .ok (.dup, 1) := by decide +kernel
theorem dX2_boil_83 : decode cX2_boil 83 = .ok (.getfield 161, 3) := by decide +kernel
theorem dX2_boil_86 : decode cX2_boil 86 = .ok (.iconst 1, 1) := by decide +kernel
theorem dX2_boil_87 : decode cX2_boil 87 = .ok (.iadd, 1) := by decide +kernel
theorem dX2_boil_88 : decode cX2_boil 88 = .ok (.putfield 161, 3) := by decide +kernel
theorem dX2_boil_91 : decode cX2_boil 91 = .ok (.return_, 1) := by decide +kernel
set_option maxRecDepth 20000 in
theorem ggX2_firstReady_X2_kettlesInUse : GoodIn wsX2_firstReady wsX2_kettlesInUse := goodIn_r _ [7, 8, 17, 18, 19, 20, 21, 22, 23, 24] (by decide +kernel) (by decide +kernel)
set_option maxRecDepth 20000 in
theorem gX2_firstReady_X2_kettlesInUse : GoodIn wsX2_firstReady (wsV RX2 98 RX2 yX2_kettlesInUse wsX2_kettlesInUse) := goodIn_app (goodIn_of _ (by decide +kernel)) ggX2_firstReady_X2_kettlesInUse
set_option maxRecDepth 20000 in
theorem ggX2_firstReady_X3_isReady : GoodIn wsX2_firstReady wsX3_isReady := goodIn_r _ [13, 14, 15, 16, 25, 26, 27, 28, 29] (by decide +kernel) (by decide +kernel)
set_option maxRecDepth 20000 in
theorem gX2_firstReady_X3_isReady : GoodIn wsX2_firstReady (wsV RX2 164 RX3 yX3_isReady wsX3_isReady) := goodIn_app (goodIn_of _ (by decide +kernel)) ggX2_firstReady_X3_isReady
theorem dX2_firstReady_0 : decode cX2_firstReady 0 = .ok (.iconst 0, 1) := by decide +kernel
theorem dX2_firstReady_1 : decode cX2_firstReady 1 = .ok (.istore_n 2, 1) := by decide +kernel
theorem dX2_firstReady_2 : decode cX2_firstReady 2 = .ok (.iload_n 2, 1) := by decide +kernel
theorem dX2_firstReady_3 : decode cX2_firstReady 3 = .ok (.aload_n 0, 1) := by decide +kernel
theorem dX2_firstReady_4 : decode cX2_firstReady 4 = .ok (.invokevirtual 98, 3) := by decide +kernel
theorem dX2_firstReady_7 : decode cX2_firstReady 7 = .ok (.if_icmp .ge 33, 3) := by decide +kernel
theorem dX2_firstReady_10 : decode cX2_firstReady 10 = .ok (.aload_n 0, 1) := by decide +kernel
theorem dX2_firstReady_11 : decode cX2_firstReady 11 = .ok (.getfield 32, 3) := by decide +kernel
theorem dX2_firstReady_14 : decode cX2_firstReady 14 = .ok (.iload_n 2, 1) := by decide +kernel
theorem dX2_firstReady_15 : decode cX2_firstReady 15 = .ok (.aaload, 1) := by decide +kernel
theorem dX2_firstReady_16 : decode cX2_firstReady 16 = .ok (.aload_n 0, 1) := by decide +kernel
theorem dX2_firstReady_17 : decode cX2_firstReady 17 = .ok (.getfield 53, 3) := by decide +kernel
theorem dX2_firstReady_20 : decode cX2_firstReady 20 = .ok (.iload_n 1, 1) := by decide +kernel
theorem dX2_firstReady_21 : decode cX2_firstReady 21 = .ok (.invokevirtual 164, 3) := by decide +kernel
theorem dX2_firstReady_24 : decode cX2_firstReady 24 = .ok (.ifCond .eq 10, 3) := by decide +kernel
theorem dX2_firstReady_27 : decode cX2_firstReady 27 = .ok (.aload_n 0, 1) := by decide +kernel
theorem dX2_firstReady_28 : decode cX2_firstReady 28 = .ok (.getfield 32, 3) := by decide +kernel
theorem dX2_firstReady_31 : decode cX2_firstReady 31 = .ok (.iload_n 2, 1) := by decide +kernel
theorem dX2_firstReady_32 : decode cX2_firstReady 32 = .ok (.aaload, 1) := by decide +kernel
theorem dX2_firstReady_33 : decode cX2_firstReady 33 = .ok (.areturn, 1) := by decide +kernel
theorem dX2_firstReady_34 : decode cX2_firstReady 34 = .ok (.iinc 2 1, 3) := by decide +kernel
theorem dX2_firstReady_37 : decode cX2_firstReady 37 = .ok (.goto (-35), 3) := by decide +kernel
theorem dX2_firstReady_40 : decode cX2_firstReady 40 = .ok (.aconst_null, 1) := by decide +kernel
theorem dX2_firstReady_41 : decode cX2_firstReady 41 = .ok (.areturn, 1) := by decide +kernel
set_option maxRecDepth 20000 in
theorem ggX2_firstFree_X2_kettlesInUse : GoodIn wsX2_firstFree wsX2_kettlesInUse := goodIn_r _ [7, 8, 15, 16, 17, 18, 19, 20, 21, 22] (by decide +kernel) (by decide +kernel)
set_option maxRecDepth 20000 in
theorem gX2_firstFree_X2_kettlesInUse : GoodIn wsX2_firstFree (wsV RX2 98 RX2 yX2_kettlesInUse wsX2_kettlesInUse) := goodIn_app (goodIn_of _ (by decide +kernel)) ggX2_firstFree_X2_kettlesInUse
set_option maxRecDepth 20000 in
theorem ggX2_firstFree_X3_isFree : GoodIn wsX2_firstFree wsX3_isFree := goodIn_r _ [13, 14, 23, 24, 25, 26, 27] (by decide +kernel) (by decide +kernel)
set_option maxRecDepth 20000 in
theorem gX2_firstFree_X3_isFree : GoodIn wsX2_firstFree (wsV RX2 101 RX3 yX3_isFree wsX3_isFree) := goodIn_app (goodIn_of _ (by decide +kernel)) ggX2_firstFree_X3_isFree
theorem dX2_firstFree_0 : decode cX2_firstFree 0 = .ok (.iconst 0, 1) := by decide +kernel
theorem dX2_firstFree_1 : decode cX2_firstFree 1 = .ok (.istore_n 1, 1) := by decide +kernel
theorem dX2_firstFree_2 : decode cX2_firstFree 2 = .ok (.iload_n 1, 1) := by decide +kernel
theorem dX2_firstFree_3 : decode cX2_firstFree 3 = .ok (.aload_n 0, 1) := by decide +kernel
theorem dX2_firstFree_4 : decode cX2_firstFree 4 = .ok (.invokevirtual 98, 3) := by decide +kernel
theorem dX2_firstFree_7 : decode cX2_firstFree 7 = .ok (.if_icmp .ge 32, 3) := by decide +kernel
theorem dX2_firstFree_10 : decode cX2_firstFree 10 = .ok (.aload_n 0, 1) := by decide +kernel
theorem dX2_firstFree_11 : decode cX2_firstFree 11 = .ok (.getfield 32, 3) := by decide +kernel
theorem dX2_firstFree_14 : decode cX2_firstFree 14 = .ok (.iload_n 1, 1) := by decide +kernel
theorem dX2_firstFree_15 : decode cX2_firstFree 15 = .ok (.aaload, 1) := by decide +kernel
theorem dX2_firstFree_16 : decode cX2_firstFree 16 = .ok (.aload_n 0, 1) := by decide +kernel
theorem dX2_firstFree_17 : decode cX2_firstFree 17 = .ok (.getfield 53, 3) := by decide +kernel
theorem dX2_firstFree_20 : decode cX2_firstFree 20 = .ok (.invokevirtual 101, 3) := by decide +kernel
theorem dX2_firstFree_23 : decode cX2_firstFree 23 = .ok (.ifCond .eq 10, 3) := by decide +kernel
theorem dX2_firstFree_26 : decode cX2_firstFree 26 = .ok (.aload_n 0, 1) := by decide +kernel
theorem dX2_firstFree_27 : decode cX2_firstFree 27 = .ok (.getfield 32, 3) := by decide +kernel
theorem dX2_firstFree_30 : decode cX2_firstFree 30 = .ok (.iload_n 1, 1) := by decide +kernel
theorem dX2_firstFree_31 : decode cX2_firstFree 31 = .ok (.aaload, 1) := by decide +kernel
theorem dX2_firstFree_32 : decode cX2_firstFree 32 = .ok (.areturn, 1) := by decide +kernel
theorem dX2_firstFree_33 : decode cX2_firstFree 33 = .ok (.iinc 1 1, 3) := by decide +kernel
theorem dX2_firstFree_36 : decode cX2_firstFree 36 = .ok (.goto (-34), 3) := by decide +kernel
theorem dX2_firstFree_39 : decode cX2_firstFree 39 = .ok (.aconst_null, 1) := by decide +kernel
theorem dX2_firstFree_40 : decode cX2_firstFree 40 = .ok (.areturn, 1) := by decide +kernel
set_option maxRecDepth 20000 in
theorem ggX2_waitsForOwn_X2_kettlesInUse : GoodIn wsX2_waitsForOwn wsX2_kettlesInUse := goodIn_r _ [8, 9, 16, 17, 18, 19, 20, 21, 22, 23] (by decide +kernel) (by decide +kernel)
set_option maxRecDepth 20000 in
theorem gX2_waitsForOwn_X2_kettlesInUse : GoodIn wsX2_waitsForOwn (wsV RX2 98 RX2 yX2_kettlesInUse wsX2_kettlesInUse) := goodIn_app (goodIn_of _ (by decide +kernel)) ggX2_waitsForOwn_X2_kettlesInUse
set_option maxRecDepth 20000 in
theorem ggX2_waitsForOwn_X3_isFree : GoodIn wsX2_waitsForOwn wsX3_isFree := goodIn_r _ [14, 15, 24, 25, 26, 27, 28] (by decide +kernel) (by decide +kernel)
set_option maxRecDepth 20000 in
theorem gX2_waitsForOwn_X3_isFree : GoodIn wsX2_waitsForOwn (wsV RX2 101 RX3 yX3_isFree wsX3_isFree) := goodIn_app (goodIn_of _ (by decide +kernel)) ggX2_waitsForOwn_X3_isFree
theorem dX2_waitsForOwn_0 : decode cX2_waitsForOwn 0 = .ok (.iconst 0, 1) := by decide +kernel
theorem dX2_waitsForOwn_1 : decode cX2_waitsForOwn 1 = .ok (.istore_n 2, 1) := by decide +kernel
theorem dX2_waitsForOwn_2 : decode cX2_waitsForOwn 2 = .ok (.iload_n 2, 1) := by decide +kernel
theorem dX2_waitsForOwn_3 : decode cX2_waitsForOwn 3 = .ok (.aload_n 0, 1) := by decide +kernel
theorem dX2_waitsForOwn_4 : decode cX2_waitsForOwn 4 = .ok (.invokevirtual 98, 3) := by decide +kernel
theorem dX2_waitsForOwn_7 : decode cX2_waitsForOwn 7 = .ok (.if_icmp .ge 40, 3) := by decide +kernel
theorem dX2_waitsForOwn_10 : decode cX2_waitsForOwn 10 = .ok (.aload_n 0, 1) := by decide +kernel
theorem dX2_waitsForOwn_11 : decode cX2_waitsForOwn 11 = .ok (.getfield 32, 3) := by decide +kernel
theorem dX2_waitsForOwn_14 : decode cX2_waitsForOwn 14 = .ok (.iload_n 2, 1) := by decide +kernel
theorem dX2_waitsForOwn_15 : decode cX2_waitsForOwn 15 = .ok (.aaload, 1) := by decide +kernel
theorem dX2_waitsForOwn_16 : decode cX2_waitsForOwn 16 = .ok (.getfield 168, 3) := by decide +kernel
theorem dX2_waitsForOwn_19 : decode cX2_waitsForOwn 19 = .ok (.iload_n 1, 1) := by decide +kernel
theorem dX2_waitsForOwn_20 : decode cX2_waitsForOwn 20 = .ok (.if_icmp .ne 21, 3) := by decide +kernel
theorem dX2_waitsForOwn_23 : decode cX2_waitsForOwn 23 = .ok (.aload_n 0, 1) := by decide +kernel
theorem dX2_waitsForOwn_24 : decode cX2_waitsForOwn 24 = .ok (.getfield 32, 3) := by decide +kernel
theorem dX2_waitsForOwn_27 : decode cX2_waitsForOwn 27 = .ok (.iload_n 2, 1) := by decide +kernel
theorem dX2_waitsForOwn_28 : decode cX2_waitsForOwn 28 = .ok (.aaload, 1) := by decide +kernel
theorem dX2_waitsForOwn_29 : decode cX2_waitsForOwn 29 = .ok (.aload_n 0, 1) := by decide +kernel
theorem dX2_waitsForOwn_30 : decode cX2_waitsForOwn 30 = .ok (.getfield 53, 3) := by decide +kernel
theorem dX2_waitsForOwn_33 : decode cX2_waitsForOwn 33 = .ok (.invokevirtual 101, 3) := by decide +kernel
theorem dX2_waitsForOwn_36 : decode cX2_waitsForOwn 36 = .ok (.ifCond .ne 5, 3) := by decide +kernel
theorem dX2_waitsForOwn_39 : decode cX2_waitsForOwn 39 = .ok (.iconst 1, 1) := by decide +kernel
theorem dX2_waitsForOwn_40 : decode cX2_waitsForOwn 40 = .ok (.ireturn, 1) := by decide +kernel
theorem dX2_waitsForOwn_41 : decode cX2_waitsForOwn 41 = .ok (.iinc 2 1, 3) := by decide +kernel
theorem dX2_waitsForOwn_44 : decode cX2_waitsForOwn 44 = .ok (.goto (-42), 3) := by decide +kernel
theorem dX2_waitsForOwn_47 : decode cX2_waitsForOwn 47 = .ok (.iconst 0, 1) := by decide +kernel
theorem dX2_waitsForOwn_48 : decode cX2_waitsForOwn 48 = .ok (.ireturn, 1) := by decide +kernel
theorem dX2_closeUp_0 : decode cX2_closeUp 0 = .ok (.iconst 0, 1) := by decide +kernel
theorem dX2_closeUp_1 : decode cX2_closeUp 1 = .ok (.istore_n 1, 1) := by decide +kernel
theorem dX2_closeUp_2 : decode cX2_closeUp 2 = .ok (.iconst 0, 1) := by decide +kernel
theorem dX2_closeUp_3 : decode cX2_closeUp 3 = .ok (.istore_n 2, 1) := by decide +kernel
theorem dX2_closeUp_4 : decode cX2_closeUp 4 = .ok (.iload_n 2, 1) := by decide +kernel
theorem dX2_closeUp_5 : decode cX2_closeUp 5 = .ok (.aload_n 0, 1) := by decide +kernel
theorem dX2_closeUp_6 : decode cX2_closeUp 6 = .ok (.getfield 50, 3) := by decide +kernel
theorem dX2_closeUp_9 : decode cX2_closeUp 9 = .ok (.if_icmp .ge 42, 3) := by decide +kernel
theorem dX2_closeUp_12 : decode cX2_closeUp 12 = .ok (.aload_n 0, 1) := by decide +kernel
theorem dX2_closeUp_13 : decode cX2_closeUp 13 = .ok (.getfield 25, 3) := by decide +kernel
theorem dX2_closeUp_16 : decode cX2_closeUp 16 = .ok (.aload_n 0, 1) := by decide +kernel
theorem dX2_closeUp_17 : decode cX2_closeUp 17 = .ok (.getfield 37, 3) := by decide +kernel
theorem dX2_closeUp_20 : decode cX2_closeUp 20 = .ok (.iload_n 2, 1) := by decide +kernel
theorem dX2_closeUp_21 : decode cX2_closeUp 21 = .ok (.iaload, 1) := by decide +kernel
theorem dX2_closeUp_22 : decode cX2_closeUp 22 = .ok (.aaload, 1) := by decide +kernel
theorem dX2_closeUp_23 : decode cX2_closeUp 23 = .ok (.getfield 63, 3) := by decide +kernel
theorem dX2_closeUp_26 : decode cX2_closeUp 26 = .ok (.iconst 1, 1) := by decide +kernel
theorem dX2_closeUp_27 : decode cX2_closeUp 27 = .ok (.if_icmp .ne 18, 3) := by decide +kernel
theorem dX2_closeUp_30 : decode cX2_closeUp 30 = .ok (.aload_n 0, 1) := by decide +kernel
theorem dX2_closeUp_31 : decode cX2_closeUp 31 = .ok (.getfield 37, 3) := by decide +kernel
theorem dX2_closeUp_34 : decode cX2_closeUp 34 = .ok (.iload_n 1, 1) := by decide +kernel
theorem dX2_closeUp_35 : decode cX2_closeUp 35 = .ok (.aload_n 0, 1) := by decide +kernel
theorem dX2_closeUp_36 : decode cX2_closeUp 36 = .ok (.getfield 37, 3) := by decide +kernel
theorem dX2_closeUp_39 : decode cX2_closeUp 39 = .ok (.iload_n 2, 1) := by decide +kernel
theorem dX2_closeUp_40 : decode cX2_closeUp 40 = .ok (.iaload, 1) := by decide +kernel
theorem dX2_closeUp_41 : decode cX2_closeUp 41 = .ok (.iastore, 1) := by decide +kernel
theorem dX2_closeUp_42 : decode cX2_closeUp 42 = .ok (.iinc 1 1, 3) := by decide +kernel
theorem dX2_closeUp_45 : decode cX2_closeUp 45 = .ok (.iinc 2 1, 3) := by decide +kernel
theorem dX2_closeUp_48 : decode cX2_closeUp 48 = .ok (.goto (-44), 3) := by decide +kernel
theorem dX2_closeUp_51 : decode cX2_closeUp 51 = .ok (.aload_n 0, 1) := by decide +kernel
theorem dX2_closeUp_52 : decode cX2_closeUp 52 = .ok (.iload_n 1, 1) := by decide +kernel
theorem dX2_closeUp_53 : decode cX2_closeUp 53 = .ok (.putfield 50, 3) := by decide +kernel
theorem dX2_closeUp_56 : decode cX2_closeUp 56 = .ok (.return_, 1) := by decide +kernel
set_option maxRecDepth 20000 in
theorem ggX2_coolDown_X2_kettlesInUse : GoodIn wsX2_coolDown wsX2_kettlesInUse := goodIn_r _ [9, 4, 26, 27, 28, 29, 30, 31, 32, 33] (by decide +kernel) (by decide +kernel)
set_option maxRecDepth 20000 in
theorem gX2_coolDown_X2_kettlesInUse : GoodIn wsX2_coolDown (wsV RX2 98 RX2 yX2_kettlesInUse wsX2_kettlesInUse) := goodIn_app (goodIn_of _ (by decide +kernel)) ggX2_coolDown_X2_kettlesInUse
set_option maxRecDepth 20000 in
theorem ggX2_coolDown_X3_isFree : GoodIn wsX2_coolDown wsX3_isFree := goodIn_r _ [14, 15, 34, 35, 36, 37, 38] (by decide +kernel) (by decide +kernel)
set_option maxRecDepth 20000 in
theorem gX2_coolDown_X3_isFree : GoodIn wsX2_coolDown (wsV RX2 101 RX3 yX3_isFree wsX3_isFree) := goodIn_app (goodIn_of _ (by decide +kernel)) ggX2_coolDown_X3_isFree
set_option maxRecDepth 20000 in
theorem ggX2_coolDown_X3_cool : GoodIn wsX2_coolDown wsX3_cool := goodIn_r _ [19, 20, 21, 22, 23, 24, 25, 34, 35, 36, 37, 38] (by decide +kernel) (by decide +kernel)
set_option maxRecDepth 20000 in
theorem gX2_coolDown_X3_cool : GoodIn wsX2_coolDown (wsV RX2 171 RX3 yX3_cool wsX3_cool) := goodIn_app (goodIn_of _ (by decide +kernel)) ggX2_coolDown_X3_cool
theorem dX2_coolDown_0 : decode cX2_coolDown 0 = .ok (.iconst 0, 1) := by decide +kernel
theorem dX2_coolDown_1 : decode cX2_coolDown 1 = .ok (.istore_n 1, 1) := by decide +kernel
theorem dX2_coolDown_2 : decode cX2_coolDown 2 = .ok (.iload_n 1, 1) := by decide +kernel
theorem dX2_coolDown_3 : decode cX2_coolDown 3 = .ok (.aload_n 0, 1) := by decide +kernel
theorem dX2_coolDown_4 : decode cX2_coolDown 4 = .ok (.invokevirtual 98, 3) := by decide +kernel
theorem dX2_coolDown_7 : decode cX2_coolDown 7 = .ok (.if_icmp .ge 52, 3) := by decide +kernel
theorem dX2_coolDown_10 : decode cX2_coolDown 10 = .ok (.aload_n 0, 1) := by decide +kernel
theorem dX2_coolDown_11 : decode cX2_coolDown 11 = .ok (.getfield 32, 3) := by decide +kernel
theorem dX2_coolDown_14 : decode cX2_coolDown 14 = .ok (.iload_n 1, 1) := by decide +kernel
theorem dX2_coolDown_15 : decode cX2_coolDown 15 = .ok (.aaload, 1) := by decide +kernel
theorem dX2_coolDown_16 : decode cX2_coolDown 16 = .ok (.getfield 134, 3) := by decide +kernel
theorem dX2_coolDown_19 : decode cX2_coolDown 19 = .ok (.ifCond .le 34, 3) := by decide +kernel
theorem dX2_coolDown_22 : decode cX2_coolDown 22 = .ok (.aload_n 0, 1) := by decide +kernel
theorem dX2_coolDown_23 : decode cX2_coolDown 23 = .ok (.getfield 32, 3) := by decide +kernel
theorem dX2_coolDown_26 : decode cX2_coolDown 26 = .ok (.iload_n 1, 1) := by decide +kernel
theorem dX2_coolDown_27 : decode cX2_coolDown 27 = .ok (.aaload, 1) := by decide +kernel
theorem dX2_coolDown_28 : decode cX2_coolDown 28 = .ok (.aload_n 0, 1) := by decide +kernel
theorem dX2_coolDown_29 : decode cX2_coolDown 29 = .ok (.getfield 53, 3) := by decide +kernel
theorem dX2_coolDown_32 : decode cX2_coolDown 32 = .ok (.invokevirtual 101, 3) := by decide +kernel
theorem dX2_coolDown_35 : decode cX2_coolDown 35 = .ok (.ifCond .eq 18, 3) := by decide +kernel
theorem dX2_coolDown_38 : decode cX2_coolDown 38 = .ok (.aload_n 0, 1) := by decide +kernel
theorem dX2_coolDown_39 : decode cX2_coolDown 39 = .ok (.getfield 32, 3) := by decide +kernel
theorem dX2_coolDown_42 : decode cX2_coolDown 42 = .ok (.iload_n 1, 1) := by decide +kernel
theorem dX2_coolDown_43 : decode cX2_coolDown 43 = .ok (.aaload, 1) := by decide +kernel
theorem dX2_coolDown_44 : decode cX2_coolDown 44 = .ok (.aload_n 0, 1) := by decide +kernel
theorem dX2_coolDown_45 : decode cX2_coolDown 45 = .ok (.getfield 18, 3) := by decide +kernel
theorem dX2_coolDown_48 : decode cX2_coolDown 48 = .ok (.iconst 3, 1) := by decide +kernel
theorem dX2_coolDown_49 : decode cX2_coolDown 49 = .ok (.iaload, 1) := by decide +kernel
theorem dX2_coolDown_50 : decode cX2_coolDown 50 = .ok (.invokevirtual 171, 3) := by decide +kernel
theorem dX2_coolDown_53 : decode cX2_coolDown 53 = .ok (.iinc 1 1, 3) := by decide +kernel
theorem dX2_coolDown_56 : decode cX2_coolDown 56 = .ok (.goto (-54), 3) := by decide +kernel
theorem dX2_coolDown_59 : decode cX2_coolDown 59 = .ok (.return_, 1) := by decide +kernel
set_option maxRecDepth 20000 in
theorem ggX2_upTo_X2_wantsInLine : GoodIn wsX2_upTo wsX2_wantsInLine := goodIn_r _ [16, 17, 18, 19, 1, 32, 33, 34, 35, 36, 37, 38, 39, 25, 26, 27, 28, 29, 30, 31] (by decide +kernel) (by decide +kernel)
set_option maxRecDepth 20000 in
theorem gX2_upTo_X2_wantsInLine : GoodIn wsX2_upTo (wsV RX2 174 RX2 yX2_wantsInLine wsX2_wantsInLine) := goodIn_app (goodIn_of _ (by decide +kernel)) ggX2_upTo_X2_wantsInLine
set_option maxRecDepth 20000 in
theorem ggX2_upTo_X2_wantsToCome : GoodIn wsX2_upTo wsX2_wantsToCome := goodIn_r _ [23, 17, 18, 19, 24, 1, 32, 33, 34, 35, 36, 37, 38, 39, 25, 26, 27, 28, 29, 30, 31] (by decide +kernel) (by decide +kernel)
set_option maxRecDepth 20000 in
theorem gX2_upTo_X2_wantsToCome : GoodIn wsX2_upTo (wsV RX2 180 RX2 yX2_wantsToCome wsX2_wantsToCome) := goodIn_app (goodIn_of _ (by decide +kernel)) ggX2_upTo_X2_wantsToCome
theorem dX2_upTo_0 : decode cX2_upTo 0 = .ok (.iload_n 2, 1) := by decide +kernel
theorem dX2_upTo_1 : decode cX2_upTo 1 = .ok (.tableswitch 106 1 6 #[39, 47, 57, 65, 87, 98], 39) := by decide +kernel
theorem dX2_upTo_40 : decode cX2_upTo 40 = .ok (.aload_n 1, 1) := by decide +kernel
theorem dX2_upTo_41 : decode cX2_upTo 41 = .ok (.getfield 84, 3) := by decide +kernel
theorem dX2_upTo_44 : decode cX2_upTo 44 = .ok (.istore_n 3, 1) := by decide +kernel
theorem dX2_upTo_45 : decode cX2_upTo 45 = .ok (.goto 69, 3) := by decide +kernel
theorem dX2_upTo_48 : decode cX2_upTo 48 = .ok (.aload_n 0, 1) := by decide +kernel
theorem dX2_upTo_49 : decode cX2_upTo 49 = .ok (.getfield 18, 3) := by decide +kernel
theorem dX2_upTo_52 : decode cX2_upTo 52 = .ok (.iconst 0, 1) := by decide +kernel
theorem dX2_upTo_53 : decode cX2_upTo 53 = .ok (.iaload, 1) := by decide +kernel
theorem dX2_upTo_54 : decode cX2_upTo 54 = .ok (.istore_n 3, 1) := by decide +kernel
theorem dX2_upTo_55 : decode cX2_upTo 55 = .ok (.goto 59, 3) := by decide +kernel
theorem dX2_upTo_58 : decode cX2_upTo 58 = .ok (.aload_n 0, 1) := by decide +kernel
theorem dX2_upTo_59 : decode cX2_upTo 59 = .ok (.invokevirtual 174, 3) := by decide +kernel
theorem dX2_upTo_62 : decode cX2_upTo 62 = .ok (.istore_n 3, 1) := by decide +kernel
theorem dX2_upTo_63 : decode cX2_upTo 63 = .ok (.goto 51, 3) := by decide +kernel
theorem dX2_upTo_66 : decode cX2_upTo 66 = .ok (.aload_n 0, 1) := by decide +kernel
theorem dX2_upTo_67 : decode cX2_upTo 67 = .ok (.invokevirtual 174, 3) := by decide +kernel
theorem dX2_upTo_70 : decode cX2_upTo 70 = .ok (.aload_n 0, 1) := by decide +kernel
theorem dX2_upTo_71 : decode cX2_upTo 71 = .ok (.aload_n 0, 1) := by decide +kernel
theorem dX2_upTo_72 : decode cX2_upTo 72 = .ok (.getfield 53, 3) := by decide +kernel
theorem dX2_upTo_75 : decode cX2_upTo 75 = .ok (.aload_n 1, 1) := by decide +kernel
theorem dX2_upTo_76 : decode cX2_upTo 76 = .ok (.getfield 177, 3) := by decide +kernel
theorem dX2_upTo_79 : decode cX2_upTo 79 = .ok (.iadd, 1) := by decide +kernel
theorem dX2_upTo_80 : decode cX2_upTo 80 = .ok (.invokevirtual 180, 3) := by decide +kernel
theorem dX2_upTo_83 : decode cX2_upTo 83 = .ok (.iadd, 1) := by decide +kernel
theorem dX2_upTo_84 : decode cX2_upTo 84 = .ok (.istore_n 3, 1) := by decide +kernel
theorem dX2_upTo_85 : decode cX2_upTo 85 = .ok (.goto 29, 3) := by decide +kernel
theorem dX2_upTo_88 : decode cX2_upTo 88 = .ok (.aload_n 0, 1) := by decide +kernel
theorem dX2_upTo_89 : decode cX2_upTo 89 = .ok (.getfield 18, 3) := by decide +kernel
theorem dX2_upTo_92 : decode cX2_upTo 92 = .ok (.bipush 6, 2) := by decide +kernel
theorem dX2_upTo_94 : decode cX2_upTo 94 = .ok (.iaload, 1) := by decide +kernel
theorem dX2_upTo_95 : decode cX2_upTo 95 = .ok (.istore_n 3, 1) := by decide +kernel
theorem dX2_upTo_96 : decode cX2_upTo 96 = .ok (.goto 18, 3) := by decide +kernel
theorem dX2_upTo_99 : decode cX2_upTo 99 = .ok (.aload_n 1, 1) := by decide +kernel
theorem dX2_upTo_100 : decode cX2_upTo 100 = .ok (.getfield 177, 3) := by decide +kernel
theorem dX2_upTo_103 : decode cX2_upTo 103 = .ok (.istore_n 3, 1) := by decide +kernel
theorem dX2_upTo_104 : decode cX2_upTo 104 = .ok (.goto 10, 3) := by decide +kernel
theorem dX2_upTo_107 : decode cX2_upTo 107 = .ok (.aload_n 1, 1) := by decide +kernel
theorem dX2_upTo_108 : decode cX2_upTo 108 = .ok (.getfield 84, 3) := by decide +kernel
theorem dX2_upTo_111 : decode cX2_upTo 111 = .ok (.iconst 1, 1) := by decide +kernel
theorem dX2_upTo_112 : decode cX2_upTo 112 = .ok (.iadd, 1) := by decide +kernel
theorem dX2_upTo_113 : decode cX2_upTo 113 = .ok (.istore_n 3, 1) := by decide +kernel
theorem dX2_upTo_114 : decode cX2_upTo 114 = .ok (.aload_n 0, 1) := by decide +kernel
theorem dX2_upTo_115 : decode cX2_upTo 115 = .ok (.getfield 18, 3) := by decide +kernel
theorem dX2_upTo_118 : decode cX2_upTo 118 = .ok (.iconst 0, 1) := by decide +kernel
theorem dX2_upTo_119 : decode cX2_upTo 119 = .ok (.iaload, 1) := by decide +kernel
theorem dX2_upTo_120 : decode cX2_upTo 120 = .ok (.aload_n 1, 1) := by decide +kernel
theorem dX2_upTo_121 : decode cX2_upTo 121 = .ok (.getfield 84, 3) := by decide +kernel
theorem dX2_upTo_124 : decode cX2_upTo 124 = .ok (.iload_n 3, 1) := by decide +kernel
theorem dX2_upTo_125 : decode cX2_upTo 125 = .ok (.invokestatic 183, 3) := by decide +kernel
theorem dX2_upTo_128 : decode cX2_upTo 128 = .ok (.invokestatic 189, 3) := by decide +kernel
theorem dX2_upTo_131 : decode cX2_upTo 131 = .ok (.ireturn, 1) := by decide +kernel
theorem dX2_wantsInLine_0 : decode cX2_wantsInLine 0 = .ok (.iconst 0, 1) := by decide +kernel
theorem dX2_wantsInLine_1 : decode cX2_wantsInLine 1 = .ok (.istore_n 1, 1) := by decide +kernel
theorem dX2_wantsInLine_2 : decode cX2_wantsInLine 2 = .ok (.iconst 0, 1) := by decide +kernel
theorem dX2_wantsInLine_3 : decode cX2_wantsInLine 3 = .ok (.istore_n 2, 1) := by decide +kernel
theorem dX2_wantsInLine_4 : decode cX2_wantsInLine 4 = .ok (.iload_n 2, 1) := by decide +kernel
theorem dX2_wantsInLine_5 : decode cX2_wantsInLine 5 = .ok (.aload_n 0, 1) := by decide +kernel
theorem dX2_wantsInLine_6 : decode cX2_wantsInLine 6 = .ok (.getfield 46, 3) := by decide +kernel
theorem dX2_wantsInLine_9 : decode cX2_wantsInLine 9 = .ok (.if_icmp .ge 34, 3) := by decide +kernel
theorem dX2_wantsInLine_12 : decode cX2_wantsInLine 12 = .ok (.aload_n 0, 1) := by decide +kernel
theorem dX2_wantsInLine_13 : decode cX2_wantsInLine 13 = .ok (.getfield 25, 3) := by decide +kernel
theorem dX2_wantsInLine_16 : decode cX2_wantsInLine 16 = .ok (.iload_n 2, 1) := by decide +kernel
theorem dX2_wantsInLine_17 : decode cX2_wantsInLine 17 = .ok (.aaload, 1) := by decide +kernel
theorem dX2_wantsInLine_18 : decode cX2_wantsInLine 18 = .ok (.getfield 63, 3) := by decide +kernel
theorem dX2_wantsInLine_21 : decode cX2_wantsInLine 21 = .ok (.iconst 1, 1) := by decide +kernel
theorem dX2_wantsInLine_22 : decode cX2_wantsInLine 22 = .ok (.if_icmp .ne 15, 3) := by decide +kernel
theorem dX2_wantsInLine_25 : decode cX2_wantsInLine 25 = .ok (.iload_n 1, 1) := by decide +kernel
theorem dX2_wantsInLine_26 : decode cX2_wantsInLine 26 = .ok (.aload_n 0, 1) := by decide +kernel
theorem dX2_wantsInLine_27 : decode cX2_wantsInLine 27 = .ok (.getfield 25, 3) := by decide +kernel
theorem dX2_wantsInLine_30 : decode cX2_wantsInLine 30 = .ok (.iload_n 2, 1) := by decide +kernel
theorem dX2_wantsInLine_31 : decode cX2_wantsInLine 31 = .ok (.aaload, 1) := by decide +kernel
theorem dX2_wantsInLine_32 : decode cX2_wantsInLine 32 = .ok (.getfield 84, 3) := by decide +kernel
theorem dX2_wantsInLine_35 : decode cX2_wantsInLine 35 = .ok (.iadd, 1) := by decide +kernel
theorem dX2_wantsInLine_36 : decode cX2_wantsInLine 36 = .ok (.istore_n 1, 1) := by decide +kernel
theorem dX2_wantsInLine_37 : decode cX2_wantsInLine 37 = .ok (.iinc 2 1, 3) := by decide +kernel
theorem dX2_wantsInLine_40 : decode cX2_wantsInLine 40 = .ok (.goto (-36), 3) := by decide +kernel
theorem dX2_wantsInLine_43 : decode cX2_wantsInLine 43 = .ok (.iload_n 1, 1) := by decide +kernel
theorem dX2_wantsInLine_44 : decode cX2_wantsInLine 44 = .ok (.ireturn, 1) := by decide +kernel
theorem dX2_wantsToCome_0 : decode cX2_wantsToCome 0 = .ok (.iconst 0, 1) := by decide +kernel
theorem dX2_wantsToCome_1 : decode cX2_wantsToCome 1 = .ok (.istore_n 2, 1) := by decide +kernel
theorem dX2_wantsToCome_2 : decode cX2_wantsToCome 2 = .ok (.iconst 0, 1) := by decide +kernel
theorem dX2_wantsToCome_3 : decode cX2_wantsToCome 3 = .ok (.istore_n 3, 1) := by decide +kernel
theorem dX2_wantsToCome_4 : decode cX2_wantsToCome 4 = .ok (.iload_n 3, 1) := by decide +kernel
theorem dX2_wantsToCome_5 : decode cX2_wantsToCome 5 = .ok (.aload_n 0, 1) := by decide +kernel
theorem dX2_wantsToCome_6 : decode cX2_wantsToCome 6 = .ok (.getfield 46, 3) := by decide +kernel
theorem dX2_wantsToCome_9 : decode cX2_wantsToCome 9 = .ok (.if_icmp .ge 46, 3) := by decide +kernel
theorem dX2_wantsToCome_12 : decode cX2_wantsToCome 12 = .ok (.aload_n 0, 1) := by decide +kernel
theorem dX2_wantsToCome_13 : decode cX2_wantsToCome 13 = .ok (.getfield 25, 3) := by decide +kernel
theorem dX2_wantsToCome_16 : decode cX2_wantsToCome 16 = .ok (.iload_n 3, 1) := by decide +kernel
theorem dX2_wantsToCome_17 : decode cX2_wantsToCome 17 = .ok (.aaload, 1) := by decide +kernel
theorem dX2_wantsToCome_18 : decode cX2_wantsToCome 18 = .ok (.getfield 63, 3) := by decide +kernel
theorem dX2_wantsToCome_21 : decode cX2_wantsToCome 21 = .ok (.ifCond .ne 28, 3) := by decide +kernel
theorem dX2_wantsToCome_24 : decode cX2_wantsToCome 24 = .ok (.aload_n 0, 1) := by decide +kernel
theorem dX2_wantsToCome_25 : decode cX2_wantsToCome 25 = .ok (.getfield 25, 3) := by decide +kernel
theorem dX2_wantsToCome_28 : decode cX2_wantsToCome 28 = .ok (.iload_n 3, 1) := by decide +kernel
theorem dX2_wantsToCome_29 : decode cX2_wantsToCome 29 = .ok (.aaload, 1) := by decide +kernel
theorem dX2_wantsToCome_30 : decode cX2_wantsToCome 30 = .ok (.getfield 83, 3) := by decide +kernel
theorem dX2_wantsToCome_33 : decode cX2_wantsToCome 33 = .ok (.iload_n 1, 1) := by decide +kernel
theorem dX2_wantsToCome_34 : decode cX2_wantsToCome 34 = .ok (.if_icmp .gt 15, 3) := by decide +kernel
theorem dX2_wantsToCome_37 : decode cX2_wantsToCome 37 = .ok (.iload_n 2, 1) := by decide +kernel
theorem dX2_wantsToCome_38 : decode cX2_wantsToCome 38 = .ok (.aload_n 0, 1) := by decide +kernel
theorem dX2_wantsToCome_39 : decode cX2_wantsToCome 39 = .ok (.getfield 25, 3) := by decide +kernel
theorem dX2_wantsToCome_42 : decode cX2_wantsToCome 42 = .ok (.iload_n 3, 1) := by decide +kernel
theorem dX2_wantsToCome_43 : decode cX2_wantsToCome 43 = .ok (.aaload, 1) := by decide +kernel
theorem dX2_wantsToCome_44 : decode cX2_wantsToCome 44 = .ok (.getfield 84, 3) := by decide +kernel
theorem dX2_wantsToCome_47 : decode cX2_wantsToCome 47 = .ok (.iadd, 1) := by decide +kernel
theorem dX2_wantsToCome_48 : decode cX2_wantsToCome 48 = .ok (.istore_n 2, 1) := by decide +kernel
theorem dX2_wantsToCome_49 : decode cX2_wantsToCome 49 = .ok (.iinc 3 1, 3) := by decide +kernel
theorem dX2_wantsToCome_52 : decode cX2_wantsToCome 52 = .ok (.goto (-48), 3) := by decide +kernel
theorem dX2_wantsToCome_55 : decode cX2_wantsToCome 55 = .ok (.iload_n 2, 1) := by decide +kernel
theorem dX2_wantsToCome_56 : decode cX2_wantsToCome 56 = .ok (.ireturn, 1) := by decide +kernel
set_option maxRecDepth 20000 in
theorem ggX2_kindsThatFill_X2_upTo : GoodIn wsX2_kindsThatFill wsX2_upTo := goodIn_r _ [8, 9, 10, 11, 12, 13, 14, 15, 16, 17, 18, 19, 20, 21, 22, 7, 23, 24, 2, 25, 26, 27, 28, 29, 30, 39, 40, 41, 42, 43, 44, 45, 31, 32, 33, 34, 35, 36, 37, 38] (by decide +kernel) (by decide +kernel)
set_option maxRecDepth 20000 in
theorem gX2_kindsThatFill_X2_upTo : GoodIn wsX2_kindsThatFill (wsV RX2 150 RX2 yX2_upTo wsX2_upTo) := goodIn_app (goodIn_of _ (by decide +kernel)) ggX2_kindsThatFill_X2_upTo
theorem dX2_kindsThatFill_0 : decode cX2_kindsThatFill 0 = .ok (.iconst 0, 1) := by decide +kernel
theorem dX2_kindsThatFill_1 : decode cX2_kindsThatFill 1 = .ok (.istore_n 2, 1) := by decide +kernel
theorem dX2_kindsThatFill_2 : decode cX2_kindsThatFill 2 = .ok (.iconst 0, 1) := by decide +kernel
theorem dX2_kindsThatFill_3 : decode cX2_kindsThatFill 3 = .ok (.istore_n 3, 1) := by decide +kernel
theorem dX2_kindsThatFill_4 : decode cX2_kindsThatFill 4 = .ok (.iload_n 3, 1) := by decide +kernel
theorem dX2_kindsThatFill_5 : decode cX2_kindsThatFill 5 = .ok (.bipush 7, 2) := by decide +kernel
theorem dX2_kindsThatFill_7 : decode cX2_kindsThatFill 7 = .ok (.if_icmp .ge 42, 3) := by decide +kernel
theorem dX2_kindsThatFill_10 : decode cX2_kindsThatFill 10 = .ok (.aload_n 0, 1) := by decide +kernel
theorem dX2_kindsThatFill_11 : decode cX2_kindsThatFill 11 = .ok (.getfield 50, 3) := by decide +kernel
theorem dX2_kindsThatFill_14 : decode cX2_kindsThatFill 14 = .ok (.ifCond .le 35, 3) := by decide +kernel
theorem dX2_kindsThatFill_17 : decode cX2_kindsThatFill 17 = .ok (.aload_n 0, 1) := by decide +kernel
theorem dX2_kindsThatFill_18 : decode cX2_kindsThatFill 18 = .ok (.aload_n 0, 1) := by decide +kernel
theorem dX2_kindsThatFill_19 : decode cX2_kindsThatFill 19 = .ok (.getfield 25, 3) := by decide +kernel
theorem dX2_kindsThatFill_22 : decode cX2_kindsThatFill 22 = .ok (.aload_n 0, 1) := by decide +kernel
theorem dX2_kindsThatFill_23 : decode cX2_kindsThatFill 23 = .ok (.getfield 37, 3) := by decide +kernel
theorem dX2_kindsThatFill_26 : decode cX2_kindsThatFill 26 = .ok (.iconst 0, 1) := by decide +kernel
theorem dX2_kindsThatFill_27 : decode cX2_kindsThatFill 27 = .ok (.iaload, 1) := by decide +kernel
theorem dX2_kindsThatFill_28 : decode cX2_kindsThatFill 28 = .ok (.aaload, 1) := by decide +kernel
theorem dX2_kindsThatFill_29 : decode cX2_kindsThatFill 29 = .ok (.iload_n 3, 1) := by decide +kernel
theorem dX2_kindsThatFill_30 : decode cX2_kindsThatFill 30 = .ok (.invokevirtual 150, 3) := by decide +kernel
theorem dX2_kindsThatFill_33 : decode cX2_kindsThatFill 33 = .ok (.iload_n 1, 1) := by decide +kernel
theorem dX2_kindsThatFill_34 : decode cX2_kindsThatFill 34 = .ok (.if_icmp .ne 9, 3) := by decide +kernel
theorem dX2_kindsThatFill_37 : decode cX2_kindsThatFill 37 = .ok (.iload_n 2, 1) := by decide +kernel
theorem dX2_kindsThatFill_38 : decode cX2_kindsThatFill 38 = .ok (.iconst 1, 1) := by decide +kernel
theorem dX2_kindsThatFill_39 : decode cX2_kindsThatFill 39 = .ok (.iload_n 3, 1) := by decide +kernel
theorem dX2_kindsThatFill_40 : decode cX2_kindsThatFill 40 = .ok (.ishl, 1) := by decide +kernel
theorem dX2_kindsThatFill_41 : decode cX2_kindsThatFill 41 = .ok (.ior, 1) := by decide +kernel
theorem dX2_kindsThatFill_42 : decode cX2_kindsThatFill 42 = .ok (.istore_n 2, 1) := by decide +kernel
theorem dX2_kindsThatFill_43 : decode cX2_kindsThatFill 43 = .ok (.iinc 3 1, 3) := by decide +kernel
theorem dX2_kindsThatFill_46 : decode cX2_kindsThatFill 46 = .ok (.goto (-42), 3) := by decide +kernel
theorem dX2_kindsThatFill_49 : decode cX2_kindsThatFill 49 = .ok (.iload_n 2, 1) := by decide +kernel
theorem dX2_kindsThatFill_50 : decode cX2_kindsThatFill 50 = .ok (.ireturn, 1) := by decide +kernel
theorem dX2_comersWith_0 : decode cX2_comersWith 0 = .ok (.iconst 0, 1) := by decide +kernel
theorem dX2_comersWith_1 : decode cX2_comersWith 1 = .ok (.istore_n 2, 1) := by decide +kernel
theorem dX2_comersWith_2 : decode cX2_comersWith 2 = .ok (.iconst 0, 1) := by decide +kernel
theorem dX2_comersWith_3 : decode cX2_comersWith 3 = .ok (.istore_n 3, 1) := by decide +kernel
theorem dX2_comersWith_4 : decode cX2_comersWith 4 = .ok (.iload_n 3, 1) := by decide +kernel
theorem dX2_comersWith_5 : decode cX2_comersWith 5 = .ok (.aload_n 0, 1) := by decide +kernel
theorem dX2_comersWith_6 : decode cX2_comersWith 6 = .ok (.getfield 46, 3) := by decide +kernel
theorem dX2_comersWith_9 : decode cX2_comersWith 9 = .ok (.if_icmp .ge 25, 3) := by decide +kernel
theorem dX2_comersWith_12 : decode cX2_comersWith 12 = .ok (.aload_n 0, 1) := by decide +kernel
theorem dX2_comersWith_13 : decode cX2_comersWith 13 = .ok (.getfield 25, 3) := by decide +kernel
theorem dX2_comersWith_16 : decode cX2_comersWith 16 = .ok (.iload_n 3, 1) := by decide +kernel
theorem dX2_comersWith_17 : decode cX2_comersWith 17 = .ok (.aaload, 1) := by decide +kernel
theorem dX2_comersWith_18 : decode cX2_comersWith 18 = .ok (.getfield 63, 3) := by decide +kernel
theorem dX2_comersWith_21 : decode cX2_comersWith 21 = .ok (.iload_n 1, 1) := by decide +kernel
theorem dX2_comersWith_22 : decode cX2_comersWith 22 = .ok (.if_icmp .ne 6, 3) := by decide +kernel
theorem dX2_comersWith_25 : decode cX2_comersWith 25 = .ok (.iinc 2 1, 3) := by decide +kernel
theorem dX2_comersWith_28 : decode cX2_comersWith 28 = .ok (.iinc 3 1, 3) := by decide +kernel
theorem dX2_comersWith_31 : decode cX2_comersWith 31 = .ok (.goto (-27), 3) := by decide +kernel
theorem dX2_comersWith_34 : decode cX2_comersWith 34 = .ok (.iload_n 2, 1) := by decide +kernel
theorem dX2_comersWith_35 : decode cX2_comersWith 35 = .ok (.ireturn, 1) := by decide +kernel
theorem dX2_someoneWantsTooMuch_0 : decode cX2_someoneWantsTooMuch 0 = .ok (.iconst 0, 1) := by decide +kernel
theorem dX2_someoneWantsTooMuch_1 : decode cX2_someoneWantsTooMuch 1 = .ok (.istore_n 1, 1) := by decide +kernel
theorem dX2_someoneWantsTooMuch_2 : decode cX2_someoneWantsTooMuch 2 = .ok (.iload_n 1, 1) := by decide +kernel
theorem dX2_someoneWantsTooMuch_3 : decode cX2_someoneWantsTooMuch 3 = .ok (.aload_n 0, 1) := by decide +kernel
theorem dX2_someoneWantsTooMuch_4 : decode cX2_someoneWantsTooMuch 4 = .ok (.getfield 46, 3) := by decide +kernel
theorem dX2_someoneWantsTooMuch_7 : decode cX2_someoneWantsTooMuch 7 = .ok (.if_icmp .ge 29, 3) := by decide +kernel
theorem dX2_someoneWantsTooMuch_10 : decode cX2_someoneWantsTooMuch 10 = .ok (.aload_n 0, 1) := by decide +kernel
theorem dX2_someoneWantsTooMuch_11 : decode cX2_someoneWantsTooMuch 11 = .ok (.getfield 25, 3) := by decide +kernel
theorem dX2_someoneWantsTooMuch_14 : decode cX2_someoneWantsTooMuch 14 = .ok (.iload_n 1, 1) := by decide +kernel
theorem dX2_someoneWantsTooMuch_15 : decode cX2_someoneWantsTooMuch 15 = .ok (.aaload, 1) := by decide +kernel
theorem dX2_someoneWantsTooMuch_16 : decode cX2_someoneWantsTooMuch 16 = .ok (.getfield 84, 3) := by decide +kernel
theorem dX2_someoneWantsTooMuch_19 : decode cX2_someoneWantsTooMuch 19 = .ok (.aload_n 0, 1) := by decide +kernel
theorem dX2_someoneWantsTooMuch_20 : decode cX2_someoneWantsTooMuch 20 = .ok (.getfield 18, 3) := by decide +kernel
theorem dX2_someoneWantsTooMuch_23 : decode cX2_someoneWantsTooMuch 23 = .ok (.iconst 0, 1) := by decide +kernel
theorem dX2_someoneWantsTooMuch_24 : decode cX2_someoneWantsTooMuch 24 = .ok (.iaload, 1) := by decide +kernel
theorem dX2_someoneWantsTooMuch_25 : decode cX2_someoneWantsTooMuch 25 = .ok (.if_icmp .le 5, 3) := by decide +kernel
theorem dX2_someoneWantsTooMuch_28 : decode cX2_someoneWantsTooMuch 28 = .ok (.iconst 1, 1) := by decide +kernel
theorem dX2_someoneWantsTooMuch_29 : decode cX2_someoneWantsTooMuch 29 = .ok (.ireturn, 1) := by decide +kernel
theorem dX2_someoneWantsTooMuch_30 : decode cX2_someoneWantsTooMuch 30 = .ok (.iinc 1 1, 3) := by decide +kernel
theorem dX2_someoneWantsTooMuch_33 : decode cX2_someoneWantsTooMuch 33 = .ok (.goto (-31), 3) := by decide +kernel
theorem dX2_someoneWantsTooMuch_36 : decode cX2_someoneWantsTooMuch 36 = .ok (.iconst 0, 1) := by decide +kernel
theorem dX2_someoneWantsTooMuch_37 : decode cX2_someoneWantsTooMuch 37 = .ok (.ireturn, 1) := by decide +kernel
set_option maxRecDepth 20000 in
theorem ggX2_allWaited_X1_waited : GoodIn wsX2_allWaited wsX1_waited := goodIn_r _ [7, 8, 9, 10, 11, 20, 21, 22, 23, 24, 25, 26] (by decide +kernel) (by decide +kernel)
set_option maxRecDepth 20000 in
theorem gX2_allWaited_X1_waited : GoodIn wsX2_allWaited (wsV RX2 192 RX1 yX1_waited wsX1_waited) := goodIn_app (goodIn_of _ (by decide +kernel)) ggX2_allWaited_X1_waited
theorem dX2_allWaited_0 : decode cX2_allWaited 0 = .ok (.iconst 0, 1) := by decide +kernel
theorem dX2_allWaited_1 : decode cX2_allWaited 1 = .ok (.istore_n 1, 1) := by decide +kernel
theorem dX2_allWaited_2 : decode cX2_allWaited 2 = .ok (.iconst 0, 1) := by decide +kernel
theorem dX2_allWaited_3 : decode cX2_allWaited 3 = .ok (.istore_n 2, 1) := by decide +kernel
theorem dX2_allWaited_4 : decode cX2_allWaited 4 = .ok (.iload_n 2, 1) := by decide +kernel
theorem dX2_allWaited_5 : decode cX2_allWaited 5 = .ok (.aload_n 0, 1) := by decide +kernel
theorem dX2_allWaited_6 : decode cX2_allWaited 6 = .ok (.getfield 46, 3) := by decide +kernel
theorem dX2_allWaited_9 : decode cX2_allWaited 9 = .ok (.if_icmp .ge 21, 3) := by decide +kernel
theorem dX2_allWaited_12 : decode cX2_allWaited 12 = .ok (.iload_n 1, 1) := by decide +kernel
theorem dX2_allWaited_13 : decode cX2_allWaited 13 = .ok (.aload_n 0, 1) := by decide +kernel
theorem dX2_allWaited_14 : decode cX2_allWaited 14 = .ok (.getfield 25, 3) := by decide +kernel
theorem dX2_allWaited_17 : decode cX2_allWaited 17 = .ok (.iload_n 2, 1) := by decide +kernel
theorem dX2_allWaited_18 : decode cX2_allWaited 18 = .ok (.aaload, 1) := by decide +kernel
theorem dX2_allWaited_19 : decode cX2_allWaited 19 = .ok (.invokevirtual 192, 3) := by decide +kernel
theorem dX2_allWaited_22 : decode cX2_allWaited 22 = .ok (.iadd, 1) := by decide +kernel
theorem dX2_allWaited_23 : decode cX2_allWaited 23 = .ok (.istore_n 1, 1) := by decide +kernel
theorem dX2_allWaited_24 : decode cX2_allWaited 24 = .ok (.iinc 2 1, 3) := by decide +kernel
theorem dX2_allWaited_27 : decode cX2_allWaited 27 = .ok (.goto (-23), 3) := by decide +kernel
theorem dX2_allWaited_30 : decode cX2_allWaited 30 = .ok (.iload_n 1, 1) := by decide +kernel
theorem dX2_allWaited_31 : decode cX2_allWaited 31 = .ok (.ireturn, 1) := by decide +kernel
set_option maxRecDepth 20000 in
theorem ggX2_cupsLeft_X2_kettlesInUse : GoodIn wsX2_cupsLeft wsX2_kettlesInUse := goodIn_r _ [7, 8, 9, 10, 11, 12, 13, 14, 15, 16] (by decide +kernel) (by decide +kernel)
set_option maxRecDepth 20000 in
theorem gX2_cupsLeft_X2_kettlesInUse : GoodIn wsX2_cupsLeft (wsV RX2 98 RX2 yX2_kettlesInUse wsX2_kettlesInUse) := goodIn_app (goodIn_of _ (by decide +kernel)) ggX2_cupsLeft_X2_kettlesInUse
theorem dX2_cupsLeft_0 : decode cX2_cupsLeft 0 = .ok (.iconst 0, 1) := by decide +kernel
theorem dX2_cupsLeft_1 : decode cX2_cupsLeft 1 = .ok (.istore_n 1, 1) := by decide +kernel
theorem dX2_cupsLeft_2 : decode cX2_cupsLeft 2 = .ok (.iconst 0, 1) := by decide +kernel
theorem dX2_cupsLeft_3 : decode cX2_cupsLeft 3 = .ok (.istore_n 2, 1) := by decide +kernel
theorem dX2_cupsLeft_4 : decode cX2_cupsLeft 4 = .ok (.iload_n 2, 1) := by decide +kernel
theorem dX2_cupsLeft_5 : decode cX2_cupsLeft 5 = .ok (.aload_n 0, 1) := by decide +kernel
theorem dX2_cupsLeft_6 : decode cX2_cupsLeft 6 = .ok (.invokevirtual 98, 3) := by decide +kernel
theorem dX2_cupsLeft_9 : decode cX2_cupsLeft 9 = .ok (.if_icmp .ge 21, 3) := by decide +kernel
theorem dX2_cupsLeft_12 : decode cX2_cupsLeft 12 = .ok (.iload_n 1, 1) := by decide +kernel
theorem dX2_cupsLeft_13 : decode cX2_cupsLeft 13 = .ok (.aload_n 0, 1) := by decide +kernel
theorem dX2_cupsLeft_14 : decode cX2_cupsLeft 14 = .ok (.getfield 32, 3) := by decide +kernel
theorem dX2_cupsLeft_17 : decode cX2_cupsLeft 17 = .ok (.iload_n 2, 1) := by decide +kernel
theorem dX2_cupsLeft_18 : decode cX2_cupsLeft 18 = .ok (.aaload, 1) := by decide +kernel
theorem dX2_cupsLeft_19 : decode cX2_cupsLeft 19 = .ok (.getfield 134, 3) := by decide +kernel
theorem dX2_cupsLeft_22 : decode cX2_cupsLeft 22 = .ok (.iadd, 1) := by decide +kernel
theorem dX2_cupsLeft_23 : decode cX2_cupsLeft 23 = .ok (.istore_n 1, 1) := by decide +kernel
theorem dX2_cupsLeft_24 : decode cX2_cupsLeft 24 = .ok (.iinc 2 1, 3) := by decide +kernel
theorem dX2_cupsLeft_27 : decode cX2_cupsLeft 27 = .ok (.goto (-23), 3) := by decide +kernel
theorem dX2_cupsLeft_30 : decode cX2_cupsLeft 30 = .ok (.iload_n 1, 1) := by decide +kernel
theorem dX2_cupsLeft_31 : decode cX2_cupsLeft 31 = .ok (.ireturn, 1) := by decide +kernel
set_option maxRecDepth 20000 in
theorem ggX2_highestLevel_X2_kettlesInUse : GoodIn wsX2_highestLevel wsX2_kettlesInUse := goodIn_r _ [11, 12, 13, 14, 15, 16, 17, 18, 19, 20] (by decide +kernel) (by decide +kernel)
set_option maxRecDepth 20000 in
theorem gX2_highestLevel_X2_kettlesInUse : GoodIn wsX2_highestLevel (wsV RX2 98 RX2 yX2_kettlesInUse wsX2_kettlesInUse) := goodIn_app (goodIn_of _ (by decide +kernel)) ggX2_highestLevel_X2_kettlesInUse
theorem dX2_highestLevel_0 : decode cX2_highestLevel 0 = .ok (.iconst 0, 1) := by decide +kernel
theorem dX2_highestLevel_1 : decode cX2_highestLevel 1 = .ok (.istore_n 1, 1) := by decide +kernel
theorem dX2_highestLevel_2 : decode cX2_highestLevel 2 = .ok (.iconst 0, 1) := by decide +kernel
theorem dX2_highestLevel_3 : decode cX2_highestLevel 3 = .ok (.istore_n 2, 1) := by decide +kernel
theorem dX2_highestLevel_4 : decode cX2_highestLevel 4 = .ok (.iload_n 2, 1) := by decide +kernel
theorem dX2_highestLevel_5 : decode cX2_highestLevel 5 = .ok (.aload_n 0, 1) := by decide +kernel
theorem dX2_highestLevel_6 : decode cX2_highestLevel 6 = .ok (.invokevirtual 98, 3) := by decide +kernel
theorem dX2_highestLevel_9 : decode cX2_highestLevel 9 = .ok (.if_icmp .ge 23, 3) := by decide +kernel
theorem dX2_highestLevel_12 : decode cX2_highestLevel 12 = .ok (.iload_n 1, 1) := by decide +kernel
theorem dX2_highestLevel_13 : decode cX2_highestLevel 13 = .ok (.aload_n 0, 1) := by decide +kernel
theorem dX2_highestLevel_14 : decode cX2_highestLevel 14 = .ok (.getfield 32, 3) := by decide +kernel
theorem dX2_highestLevel_17 : decode cX2_highestLevel 17 = .ok (.iload_n 2, 1) := by decide +kernel
theorem dX2_highestLevel_18 : decode cX2_highestLevel 18 = .ok (.aaload, 1) := by decide +kernel
theorem dX2_highestLevel_19 : decode cX2_highestLevel 19 = .ok (.getfield 134, 3) := by decide +kernel
theorem dX2_highestLevel_22 : decode cX2_highestLevel 22 = .ok (.invokestatic 183, 3) := by decide +kernel
theorem dX2_highestLevel_25 : decode cX2_highestLevel 25 = .ok (.istore_n 1, 1) := by decide +kernel
theorem dX2_highestLevel_26 : decode cX2_highestLevel 26 = .ok (.iinc 2 1, 3) := by decide +kernel
theorem dX2_highestLevel_29 : decode cX2_highestLevel 29 = .ok (.goto (-25), 3) := by decide +kernel
theorem dX2_highestLevel_32 : decode cX2_highestLevel 32 = .ok (.iload_n 1, 1) := by decide +kernel
theorem dX2_highestLevel_33 : decode cX2_highestLevel 33 = .ok (.ireturn, 1) := by decide +kernel
set_option maxRecDepth 20000 in
theorem ggX2_cost_X2_allWaited : GoodIn wsX2_cost wsX2_allWaited := goodIn_r _ [6, 7, 8, 9, 10, 11, 12, 13, 14, 15, 16, 17, 33, 34, 35, 36, 37, 38, 39, 40, 41, 42, 43, 44, 45, 46, 47] (by decide +kernel) (by decide +kernel)
set_option maxRecDepth 20000 in
theorem gX2_cost_X2_allWaited : GoodIn wsX2_cost (wsV RX2 195 RX2 yX2_allWaited wsX2_allWaited) := goodIn_app (goodIn_of _ (by decide +kernel)) ggX2_cost_X2_allWaited
set_option maxRecDepth 20000 in
theorem ggX2_cost_X2_cupsLeft : GoodIn wsX2_cost wsX2_cupsLeft := goodIn_r _ [21, 22, 23, 24, 25, 26, 5, 27, 1, 33, 34, 35, 36, 37, 38, 39, 40, 48, 49, 50, 51, 52] (by decide +kernel) (by decide +kernel)
set_option maxRecDepth 20000 in
theorem gX2_cost_X2_cupsLeft : GoodIn wsX2_cost (wsV RX2 198 RX2 yX2_cupsLeft wsX2_cupsLeft) := goodIn_app (goodIn_of _ (by decide +kernel)) ggX2_cost_X2_cupsLeft
set_option maxRecDepth 20000 in
theorem ggX2_cost_X2_comersWith : GoodIn wsX2_cost wsX2_comersWith := goodIn_r _ [31, 7, 8, 32, 33, 34, 35, 36, 37, 38, 39, 40, 41, 42, 43, 44, 45, 46, 47] (by decide +kernel) (by decide +kernel)
set_option maxRecDepth 20000 in
theorem gX2_cost_X2_comersWith : GoodIn wsX2_cost (wsV RX2 90 RX2 yX2_comersWith wsX2_comersWith) := goodIn_app (goodIn_of _ (by decide +kernel)) ggX2_cost_X2_comersWith
theorem dX2_cost_0 : decode cX2_cost 0 = .ok (.aload_n 0, 1) := by decide +kernel
theorem dX2_cost_1 : decode cX2_cost 1 = .ok (.invokevirtual 195, 3) := by decide +kernel
theorem dX2_cost_4 : decode cX2_cost 4 = .ok (.aload_n 0, 1) := by decide +kernel
theorem dX2_cost_5 : decode cX2_cost 5 = .ok (.getfield 18, 3) := by decide +kernel
theorem dX2_cost_8 : decode cX2_cost 8 = .ok (.iconst 4, 1) := by decide +kernel
theorem dX2_cost_9 : decode cX2_cost 9 = .ok (.iaload, 1) := by decide +kernel
theorem dX2_cost_10 : decode cX2_cost 10 = .ok (.imul, 1) := by decide +kernel
theorem dX2_cost_11 : decode cX2_cost 11 = .ok (.aload_n 0, 1) := by decide +kernel
theorem dX2_cost_12 : decode cX2_cost 12 = .ok (.invokevirtual 198, 3) := by decide +kernel
theorem dX2_cost_15 : decode cX2_cost 15 = .ok (.aload_n 0, 1) := by decide +kernel
theorem dX2_cost_16 : decode cX2_cost 16 = .ok (.getfield 18, 3) := by decide +kernel
theorem dX2_cost_19 : decode cX2_cost 19 = .ok (.iconst 5, 1) := by decide +kernel
theorem dX2_cost_20 : decode cX2_cost 20 = .ok (.iaload, 1) := by decide +kernel
theorem dX2_cost_21 : decode cX2_cost 21 = .ok (.imul, 1) := by decide +kernel
theorem dX2_cost_22 : decode cX2_cost 22 = .ok (.iadd, 1) := by decide +kernel
theorem dX2_cost_23 : decode cX2_cost 23 = .ok (.aload_n 0, 1) := by decide +kernel
theorem dX2_cost_24 : decode cX2_cost 24 = .ok (.iconst 3, 1) := by decide +kernel
theorem dX2_cost_25 : decode cX2_cost 25 = .ok (.invokevirtual 90, 3) := by decide +kernel
theorem dX2_cost_28 : decode cX2_cost 28 = .ok (.bipush 9, 2) := by decide +kernel
theorem dX2_cost_30 : decode cX2_cost 30 = .ok (.imul, 1) := by decide +kernel
theorem dX2_cost_31 : decode cX2_cost 31 = .ok (.iadd, 1) := by decide +kernel
theorem dX2_cost_32 : decode cX2_cost 32 = .ok (.ireturn, 1) := by decide +kernel
theorem dX3_init_0 : decode cX3_init 0 = .ok (.aload_n 0, 1) := by decide +kernel
theorem dX3_init_1 : decode cX3_init 1 = .ok (.invokespecial 3, 3) := by decide +kernel
theorem dX3_init_4 : decode cX3_init 4 = .ok (.return_, 1) := by decide +kernel
theorem dX3_copy_0 : decode cX3_copy 0 = .ok (.aload_n 0, 1) := by decide +kernel
theorem dX3_copy_1 : decode cX3_copy 1 = .ok (.aload_n 1, 1) := by decide +kernel
theorem dX3_copy_2 : decode cX3_copy 2 = .ok (.getfield 9, 3) := by decide +kernel
theorem dX3_copy_5 : decode cX3_copy 5 = .ok (.putfield 9, 3) := by decide +kernel
theorem dX3_copy_8 : decode cX3_copy 8 = .ok (.aload_n 0, 1) := by decide +kernel
theorem dX3_copy_9 : decode cX3_copy 9 = .ok (.aload_n 1, 1) := by decide +kernel
theorem dX3_copy_10 : decode cX3_copy 10 = .ok (.getfield 15, 3) := by decide +kernel
theorem dX3_copy_13 : decode cX3_copy 13 = .ok (.putfield 15, 3) := by decide +kernel
theorem dX3_copy_16 : decode cX3_copy 16 = .ok (.aload_n 0, 1) := by decide +kernel
theorem dX3_copy_17 : decode cX3_copy 17 = .ok (.aload_n 1, 1) := by decide +kernel
theorem dX3_copy_18 : decode cX3_copy 18 = .ok (.getfield 18, 3) := by decide +kernel
theorem dX3_copy_21 : decode cX3_copy 21 = .ok (.putfield 18, 3) := by decide +kernel
theorem dX3_copy_24 : decode cX3_copy 24 = .ok (.aload_n 0, 1) := by decide +kernel
theorem dX3_copy_25 : decode cX3_copy 25 = .ok (.aload_n 1, 1) := by decide +kernel
theorem dX3_copy_26 : decode cX3_copy 26 = .ok (.getfield 21, 3) := by decide +kernel
theorem dX3_copy_29 : decode cX3_copy 29 = .ok (.putfield 21, 3) := by decide +kernel
theorem dX3_copy_32 : decode cX3_copy 32 = .ok (.aload_n 0, 1) := by decide +kernel
theorem dX3_copy_33 : decode cX3_copy 33 = .ok (.aload_n 1, 1) := by decide +kernel
theorem dX3_copy_34 : decode cX3_copy 34 = .ok (.getfield 24, 3) := by decide +kernel
theorem dX3_copy_37 : decode cX3_copy 37 = .ok (.putfield 24, 3) := by decide +kernel
theorem dX3_copy_40 : decode cX3_copy 40 = .ok (.return_, 1) := by decide +kernel
theorem dX3_begin_0 : decode cX3_begin 0 = .ok (.aload_n 0, 1) := by decide +kernel
theorem dX3_begin_1 : decode cX3_begin 1 = .ok (.iconst 0, 1) := by decide +kernel
theorem dX3_begin_2 : decode cX3_begin 2 = .ok (.putfield 9, 3) := by decide +kernel
theorem dX3_begin_5 : decode cX3_begin 5 = .ok (.aload_n 0, 1) := by decide +kernel
theorem dX3_begin_6 : decode cX3_begin 6 = .ok (.iconst 0, 1) := by decide +kernel
theorem dX3_begin_7 : decode cX3_begin 7 = .ok (.putfield 15, 3) := by decide +kernel
theorem dX3_begin_10 : decode cX3_begin 10 = .ok (.aload_n 0, 1) := by decide +kernel
theorem dX3_begin_11 : decode cX3_begin 11 = .ok (.iconst 0, 1) := by decide +kernel
theorem dX3_begin_12 : decode cX3_begin 12 = .ok (.putfield 18, 3) := by decide +kernel
theorem dX3_begin_15 : decode cX3_begin 15 = .ok (.aload_n 0, 1) := by decide +kernel
theorem dX3_begin_16 : decode cX3_begin 16 = .ok (.iconst 0, 1) := by decide +kernel
theorem dX3_begin_17 : decode cX3_begin 17 = .ok (.putfield 21, 3) := by decide +kernel
theorem dX3_begin_20 : decode cX3_begin 20 = .ok (.return_, 1) := by decide +kernel
theorem dX3_isFree_0 : decode cX3_isFree 0 = .ok (.aload_n 0, 1) := by decide +kernel
theorem dX3_isFree_1 : decode cX3_isFree 1 = .ok (.getfield 21, 3) := by decide +kernel
theorem dX3_isFree_4 : decode cX3_isFree 4 = .ok (.iload_n 1, 1) := by decide +kernel
theorem dX3_isFree_5 : decode cX3_isFree 5 = .ok (.if_icmp .gt 7, 3) := by decide +kernel
theorem dX3_isFree_8 : decode cX3_isFree 8 = .ok (.iconst 1, 1) := by decide +kernel
theorem dX3_isFree_9 : decode cX3_isFree 9 = .ok (.goto 4, 3) := by decide +kernel
theorem dX3_isFree_12 : decode cX3_isFree 12 = .ok (.iconst 0, 1) := by decide +kernel
theorem dX3_isFree_13 : decode cX3_isFree 13 = .ok (.ireturn, 1) := by decide +kernel
theorem dX3_isReady_0 : decode cX3_isReady 0 = .ok (.aload_n 0, 1) := by decide +kernel
theorem dX3_isReady_1 : decode cX3_isReady 1 = .ok (.getfield 21, 3) := by decide +kernel
theorem dX3_isReady_4 : decode cX3_isReady 4 = .ok (.iload_n 1, 1) := by decide +kernel
theorem dX3_isReady_5 : decode cX3_isReady 5 = .ok (.if_icmp .gt 24, 3) := by decide +kernel
theorem dX3_isReady_8 : decode cX3_isReady 8 = .ok (.aload_n 0, 1) := by decide +kernel
theorem dX3_isReady_9 : decode cX3_isReady 9 = .ok (.getfield 15, 3) := by decide +kernel
theorem dX3_isReady_12 : decode cX3_isReady 12 = .ok (.bipush 8, 2) := by decide +kernel
theorem dX3_isReady_14 : decode cX3_isReady 14 = .ok (.if_icmp .lt 15, 3) := by decide +kernel
theorem dX3_isReady_17 : decode cX3_isReady 17 = .ok (.aload_n 0, 1) := by decide +kernel
theorem dX3_isReady_18 : decode cX3_isReady 18 = .ok (.getfield 9, 3) := by decide +kernel
theorem dX3_isReady_21 : decode cX3_isReady 21 = .ok (.iload_n 2, 1) := by decide +kernel
theorem dX3_isReady_22 : decode cX3_isReady 22 = .ok (.if_icmp .lt 7, 3) := by decide +kernel
theorem dX3_isReady_25 : decode cX3_isReady 25 = .ok (.iconst 1, 1) := by decide +kernel
theorem dX3_isReady_26 : decode cX3_isReady 26 = .ok (.goto 4, 3) := by decide +kernel
theorem dX3_isReady_29 : decode cX3_isReady 29 = .ok (.iconst 0, 1) := by decide +kernel
theorem dX3_isReady_30 : decode cX3_isReady 30 = .ok (.ireturn, 1) := by decide +kernel
theorem dX3_fill_0 : decode cX3_fill 0 = .ok (.iload_n 1, 1) := by decide +kernel
theorem dX3_fill_1 : decode cX3_fill 1 = .ok (.ifCond .le 23, 3) := by decide +kernel
theorem dX3_fill_4 : decode cX3_fill 4 = .ok (.aload_n 0, 1) := by decide +kernel
theorem dX3_fill_5 : decode cX3_fill 5 = .ok (.aload_n 0, 1) := by decide +kernel
theorem dX3_fill_6 : decode cX3_fill 6 = .ok (.getfield 9, 3) := by decide +kernel
theorem dX3_fill_9 : decode cX3_fill 9 = .ok (.aload_n 0, 1) := by decide +kernel
theorem dX3_fill_10 : decode cX3_fill 10 = .ok (.getfield 15, 3) := by decide +kernel
theorem dX3_fill_13 : decode cX3_fill 13 = .ok (.imul, 1) := by decide +kernel
theorem dX3_fill_14 : decode cX3_fill 14 = .ok (.iload_n 1, 1) := by decide +kernel
theorem dX3_fill_15 : decode cX3_fill 15 = .ok (.idiv, 1) := by decide +kernel
theorem dX3_fill_16 : decode cX3_fill 16 = .ok (.putfield 15, 3) := by decide +kernel
theorem dX3_fill_19 : decode cX3_fill 19 = .ok (.aload_n 0, 1) := by decide +kernel
theorem dX3_fill_20 : decode cX3_fill 20 = .ok (.iload_n 1, 1) := by decide +kernel
theorem dX3_fill_21 : decode cX3_fill 21 = .ok (.putfield 9, 3) := by decide +kernel
theorem dX3_fill_24 : decode cX3_fill 24 = .ok (.return_, 1) := by decide +kernel
set_option maxRecDepth 20000 in
theorem ggX3_putOn_X6_heatingMinutes : GoodIn wsX3_putOn wsX6_heatingMinutes := goodIn_r _ [8] (by decide +kernel) (by decide +kernel)
set_option maxRecDepth 20000 in
theorem gX3_putOn_X6_heatingMinutes_n27 : GoodIn wsX3_putOn (wsX6_heatingMinutes) := ggX3_putOn_X6_heatingMinutes
theorem dX3_putOn_0 : decode cX3_putOn 0 = .ok (.aload_n 0, 1) := by decide +kernel
theorem dX3_putOn_1 : decode cX3_putOn 1 = .ok (.iload_n 2, 1) := by decide +kernel
theorem dX3_putOn_2 : decode cX3_putOn 2 = .ok (.aload_n 0, 1) := by decide +kernel
theorem dX3_putOn_3 : decode cX3_putOn 3 = .ok (.getfield 9, 3) := by decide +kernel
theorem dX3_putOn_6 : decode cX3_putOn 6 = .ok (.bipush 10, 2) := by decide +kernel
theorem dX3_putOn_8 : decode cX3_putOn 8 = .ok (.aload_n 0, 1) := by decide +kernel
theorem dX3_putOn_9 : decode cX3_putOn 9 = .ok (.getfield 15, 3) := by decide +kernel
theorem dX3_putOn_12 : decode cX3_putOn 12 = .ok (.isub, 1) := by decide +kernel
theorem dX3_putOn_13 : decode cX3_putOn 13 = .ok (.iload_n 3, 1) := by decide +kernel
theorem dX3_putOn_14 : decode cX3_putOn 14 = .ok (.invokestatic 27, 3) := by decide +kernel
theorem dX3_putOn_17 : decode cX3_putOn 17 = .ok (.iadd, 1) := by decide +kernel
theorem dX3_putOn_18 : decode cX3_putOn 18 = .ok (.putfield 21, 3) := by decide +kernel
theorem dX3_putOn_21 : decode cX3_putOn 21 = .ok (.aload_n 0, 1) := by decide +kernel
theorem dX3_putOn_22 : decode cX3_putOn 22 = .ok (.bipush 10, 2) := by decide +kernel
theorem dX3_putOn_24 : decode cX3_putOn 24 = .ok (.putfield 15, 3) := by decide +kernel
theorem dX3_putOn_27 : decode cX3_putOn 27 = .ok (.aload_n 0, 1) := by decide +kernel
theorem dX3_putOn_28 : decode cX3_putOn 28 = .ok (.iconst 0, 1) := by decide +kernel
theorem dX3_putOn_29 : decode cX3_putOn 29 = .ok (.putfield 18, 3) := by decide +kernel
theorem dX3_putOn_32 : decode cX3_putOn 32 = .ok (.aload_n 0, 1) := by decide +kernel
theorem dX3_putOn_33 : decode cX3_putOn 33 = .ok (.iload_n 1, 1) := by decide +kernel
theorem dX3_putOn_34 : decode cX3_putOn 34 = .ok (.putfield 24, 3) := by decide +kernel
theorem dX3_putOn_37 : decode cX3_putOn 37 = .ok (.return_, 1) := by decide +kernel
theorem dX3_cool_0 : decode cX3_cool 0 = .ok (.aload_n 0, 1) := by decide +kernel
theorem dX3_cool_1 : decode cX3_cool 1 = .ok (.dup, 1) := by decide +kernel
theorem dX3_cool_2 : decode cX3_cool 2 = .ok (.getfield 18, 3) := by decide +kernel
theorem dX3_cool_5 : decode cX3_cool 5 = .ok (.iconst 1, 1) := by decide +kernel
theorem dX3_cool_6 : decode cX3_cool 6 = .ok (.iadd, 1) := by decide +kernel
theorem dX3_cool_7 : decode cX3_cool 7 = .ok (.putfield 18, 3) := by decide +kernel
theorem dX3_cool_10 : decode cX3_cool 10 = .ok (.aload_n 0, 1) := by decide +kernel
theorem dX3_cool_11 : decode cX3_cool 11 = .ok (.getfield 18, 3) := by decide +kernel
theorem dX3_cool_14 : decode cX3_cool 14 = .ok (.iload_n 1, 1) := by decide +kernel
theorem dX3_cool_15 : decode cX3_cool 15 = .ok (.if_icmp .lt 22, 3) := by decide +kernel
theorem dX3_cool_18 : decode cX3_cool 18 = .ok (.aload_n 0, 1) := by decide +kernel
theorem dX3_cool_19 : decode cX3_cool 19 = .ok (.iconst 0, 1) := by decide +kernel
theorem dX3_cool_20 : decode cX3_cool 20 = .ok (.aload_n 0, 1) := by decide +kernel
theorem dX3_cool_21 : decode cX3_cool 21 = .ok (.getfield 15, 3) := by decide +kernel
theorem dX3_cool_24 : decode cX3_cool 24 = .ok (.iconst 1, 1) := by decide +kernel
theorem dX3_cool_25 : decode cX3_cool 25 = .ok (.isub, 1) := by decide +kernel
theorem dX3_cool_26 : decode cX3_cool 26 = .ok (.invokestatic 31, 3) := by decide +kernel
theorem dX3_cool_29 : decode cX3_cool 29 = .ok (.putfield 15, 3) := by decide +kernel
theorem dX3_cool_32 : decode cX3_cool 32 = .ok (.aload_n 0, 1) := by decide +kernel
theorem dX3_cool_33 : decode cX3_cool 33 = .ok (.iconst 0, 1) := by decide +kernel
theorem dX3_cool_34 : decode cX3_cool 34 = .ok (.putfield 18, 3) := by decide +kernel
theorem dX3_cool_37 : decode cX3_cool 37 = .ok (.return_, 1) := by decide +kernel
theorem dX3_tell_0 : decode cX3_tell 0 = .ok (.iload_n 1, 1) := by decide +kernel
theorem dX3_tell_1 : decode cX3_tell 1 = .ok (.tableswitch 42 0 2 #[27, 32, 37], 27) := by decide +kernel
theorem dX3_tell_28 : decode cX3_tell 28 = .ok (.aload_n 0, 1) := by decide +kernel
theorem dX3_tell_29 : decode cX3_tell 29 = .ok (.getfield 9, 3) := by decide +kernel
theorem dX3_tell_32 : decode cX3_tell 32 = .ok (.ireturn, 1) := by decide +kernel
theorem dX3_tell_33 : decode cX3_tell 33 = .ok (.aload_n 0, 1) := by decide +kernel
theorem dX3_tell_34 : decode cX3_tell 34 = .ok (.getfield 15, 3) := by decide +kernel
theorem dX3_tell_37 : decode cX3_tell 37 = .ok (.ireturn, 1) := by decide +kernel
theorem dX3_tell_38 : decode cX3_tell 38 = .ok (.aload_n 0, 1) := by decide +kernel
theorem dX3_tell_39 : decode cX3_tell 39 = .ok (.getfield 18, 3) := by decide +kernel
theorem dX3_tell_42 : decode cX3_tell 42 = .ok (.ireturn, 1) := by decide +kernel
theorem dX3_tell_43 : decode cX3_tell 43 = .ok (.iconst 0, 1) := by decide +kernel
theorem dX3_tell_44 : decode cX3_tell 44 = .ok (.aload_n 0, 1) := by decide +kernel
theorem dX3_tell_45 : decode cX3_tell 45 = .ok (.getfield 21, 3) := by decide +kernel
theorem dX3_tell_48 : decode cX3_tell 48 = .ok (.iload_n 2, 1) := by decide +kernel
theorem dX3_tell_49 : decode cX3_tell 49 = .ok (.isub, 1) := by decide +kernel
theorem dX3_tell_50 : decode cX3_tell 50 = .ok (.invokestatic 31, 3) := by decide +kernel
theorem dX3_tell_53 : decode cX3_tell 53 = .ok (.ireturn, 1) := by decide +kernel
theorem dX4_init_0 : decode cX4_init 0 = .ok (.aload_n 0, 1) := by decide +kernel
theorem dX4_init_1 : decode cX4_init 1 = .ok (.invokespecial 3, 3) := by decide +kernel
theorem dX4_init_4 : decode cX4_init 4 = .ok (.aload_n 0, 1) := by decide +kernel
theorem dX4_init_5 : decode cX4_init 5 = .ok (.bipush 96, 2) := by decide +kernel
theorem dX4_init_7 : decode cX4_init 7 = .ok (.newarray .int, 2) := by decide +kernel
theorem dX4_init_9 : decode cX4_init 9 = .ok (.putfield 9, 3) := by decide +kernel
theorem dX4_init_12 : decode cX4_init 12 = .ok (.return_, 1) := by decide +kernel
theorem dX4_append_0 : decode cX4_append 0 = .ok (.aload_n 0, 1) := by decide +kernel
theorem dX4_append_1 : decode cX4_append 1 = .ok (.getfield 15, 3) := by decide +kernel
theorem dX4_append_4 : decode cX4_append 4 = .ok (.aload_n 0, 1) := by decide +kernel
theorem dX4_append_5 : decode cX4_append 5 = .ok (.getfield 9, 3) := by decide +kernel
theorem dX4_append_8 : decode cX4_append 8 = .ok (.arraylength, 1) := by decide +kernel
theorem dX4_append_9 : decode cX4_append 9 = .ok (.if_icmp .ge 23, 3) := by decide +kernel
theorem dX4_append_12 : decode cX4_append 12 = .ok (.aload_n 0, 1) := by decide +kernel
theorem dX4_append_13 : decode cX4_append 13 = .ok (.getfield 9, 3) := by decide +kernel
theorem dX4_append_16 : decode cX4_append 16 = .ok (.aload_n 0, 1) := by decide +kernel
theorem dX4_append_17 : decode cX4_append 17 = .ok (.getfield 15, 3) := by decide +kernel
theorem dX4_append_20 : decode cX4_append 20 = .ok (.iload_n 1, 1) := by decide +kernel
theorem dX4_append_21 : decode cX4_append 21 = .ok (.iastore, 1) := by decide +kernel
theorem dX4_append_22 : decode cX4_append 22 = .ok (.aload_n 0, 1) := by decide +kernel
theorem dX4_append_23 : decode cX4_append 23 = .ok (.dup, 1) := by decide +kernel
theorem dX4_append_24 : decode cX4_append 24 = .ok (.getfield 15, 3) := by decide +kernel
theorem dX4_append_27 : decode cX4_append 27 = .ok (.iconst 1, 1) := by decide +kernel
theorem dX4_append_28 : decode cX4_append 28 = .ok (.iadd, 1) := by decide +kernel
theorem dX4_append_29 : decode cX4_append 29 = .ok (.putfield 15, 3) := by decide +kernel
theorem dX4_append_32 : decode cX4_append 32 = .ok (.aload_n 0, 1) := by decide +kernel
theorem dX4_append_33 : decode cX4_append 33 = .ok (.getfield 15, 3) := by decide +kernel
theorem dX4_append_36 : decode cX4_append 36 = .ok (.ireturn, 1) := by decide +kernel
set_option maxRecDepth 20000 in
theorem ggX4_read_X4_skipStatement : GoodIn wsX4_read wsX4_skipStatement := goodIn_r _ [7, 8, 9, 10, 6, 11, 1, 12, 13, 14, 15, 2, 16, 17, 18, 19, 20, 77, 78, 79] (by decide +kernel) (by decide +kernel)
set_option maxRecDepth 20000 in
theorem gX4_read_X4_skipStatement : GoodIn wsX4_read (wsV RX4 22 RX4 yX4_skipStatement wsX4_skipStatement) := goodIn_app (goodIn_of _ (by decide +kernel)) ggX4_read_X4_skipStatement
set_option maxRecDepth 20000 in
theorem ggX4_read_X4_carryOut : GoodIn wsX4_read wsX4_carryOut := goodIn_r _ [24, 1, 25, 12, 13, 14, 6, 15, 2, 16, 26, 27, 28, 29, 30, 31, 32, 33, 34, 35, 36, 37, 38, 39, 40, 41, 42, 43, 44, 45, 46, 47, 48, 49, 50, 51, 52, 53, 54, 55, 56, 57, 58, 59, 60, 61, 62, 63, 64, 65, 66, 67, 68, 69, 70, 71, 72, 73, 74, 75, 76, 77, 78, 79, 80, 81, 82, 83, 84, 85, 86, 87, 88, 89, 90, 91, 92, 93, 94, 95, 96, 97, 98, 99] (by decide +kernel) (by decide +kernel)
set_option maxRecDepth 20000 in
theorem gX4_read_X4_carryOut : GoodIn wsX4_read (wsV RX4 26 RX4 yX4_carryOut wsX4_carryOut) := goodIn_app (goodIn_of _ (by decide +kernel)) ggX4_read_X4_carryOut
theorem dX4_read_0 : decode cX4_read 0 = .ok (.aload_n 0, 1) := by decide +kernel
theorem dX4_read_1 : decode cX4_read 1 = .ok (.iconst 0, 1) := by decide +kernel
theorem dX4_read_2 : decode cX4_read 2 = .ok (.putfield 19, 3) := by decide +kernel
theorem dX4_read_5 : decode cX4_read 5 = .ok (.iconst 0, 1) := by decide +kernel
theorem dX4_read_6 : decode cX4_read 6 = .ok (.istore_n 2, 1) := by decide +kernel
theorem dX4_read_7 : decode cX4_read 7 = .ok (.iload_n 2, 1) := by decide +kernel
theorem dX4_read_8 : decode cX4_read 8 = .ok (.bipush 96, 2) := by decide +kernel
theorem dX4_read_10 : decode cX4_read 10 = .ok (.if_icmp .ge 40, 3) := by decide +kernel
theorem dX4_read_13 : decode cX4_read 13 = .ok (.iload_n 2, 1) := by decide +kernel
theorem dX4_read_14 : decode cX4_read 14 = .ok (.ifCond .eq 14, 3) := by decide +kernel
theorem dX4_read_17 : decode cX4_read 17 = .ok (.aload_n 0, 1) := by decide +kernel
theorem dX4_read_18 : decode cX4_read 18 = .ok (.getfield 19, 3) := by decide +kernel
theorem dX4_read_21 : decode cX4_read 21 = .ok (.aload_n 0, 1) := by decide +kernel
theorem dX4_read_22 : decode cX4_read 22 = .ok (.getfield 15, 3) := by decide +kernel
theorem dX4_read_25 : decode cX4_read 25 = .ok (.if_icmp .ge 25, 3) := by decide +kernel
