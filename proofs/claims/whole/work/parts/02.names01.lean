theorem dX0_init_0 : decode cX0_init 0 = .ok (.aload_n 0, 1) := by decide +kernel
theorem dX0_init_1 : decode cX0_init 1 = .ok (.invokespecial 3, 3) := by decide +kernel
theorem dX0_init_4 : decode cX0_init 4 = .ok (.aload_n 0, 1) := by decide +kernel
theorem dX0_init_5 : decode cX0_init 5 = .ok (.bipush 8, 2) := by decide +kernel
theorem dX0_init_7 : decode cX0_init 7 = .ok (.newarray .int, 2) := by decide +kernel
theorem dX0_init_9 : decode cX0_init 9 = .ok (.putfield 9, 3) := by decide +kernel
theorem dX0_init_12 : decode cX0_init 12 = .ok (.aload_n 0, 1) := by decide +kernel
theorem dX0_init_13 : decode cX0_init 13 = .ok (.bipush 8, 2) := by decide +kernel
theorem dX0_init_15 : decode cX0_init 15 = .ok (.newarray .int, 2) := by decide +kernel
theorem dX0_init_17 : decode cX0_init 17 = .ok (.putfield 15, 3) := by decide +kernel
theorem dX0_init_20 : decode cX0_init 20 = .ok (.return_, 1) := by decide +kernel
set_option maxRecDepth 20000 in
theorem ggX0_take_X0_insert : GoodIn wsX0_take wsX0_insert := goodIn_r _ [11, 1, 3, 12, 13, 14, 15] (by decide +kernel) (by decide +kernel)
set_option maxRecDepth 20000 in
theorem gX0_take_X0_insert : GoodIn wsX0_take (wsV RX0 38 RX0 yX0_insert wsX0_insert) := goodIn_app (goodIn_of _ (by decide +kernel)) ggX0_take_X0_insert
theorem dX0_take_0 : decode cX0_take 0 = .ok (.aload_n 0, 1) := by decide +kernel
theorem dX0_take_1 : decode cX0_take 1 = .ok (.iconst 0, 1) := by decide +kernel
theorem dX0_take_2 : decode cX0_take 2 = .ok (.putfield 18, 3) := by decide +kernel
theorem dX0_take_5 : decode cX0_take 5 = .ok (.iconst 0, 1) := by decide +kernel
theorem dX0_take_6 : decode cX0_take 6 = .ok (.istore_n 2, 1) := by decide +kernel
theorem dX0_take_7 : decode cX0_take 7 = .ok (.iload_n 2, 1) := by decide +kernel
theorem dX0_take_8 : decode cX0_take 8 = .ok (.aload_n 1, 1) := by decide +kernel
theorem dX0_take_9 : decode cX0_take 9 = .ok (.getfield 22, 3) := by decide +kernel
theorem dX0_take_12 : decode cX0_take 12 = .ok (.if_icmp .ge 43, 3) := by decide +kernel
theorem dX0_take_15 : decode cX0_take 15 = .ok (.aload_n 0, 1) := by decide +kernel
theorem dX0_take_16 : decode cX0_take 16 = .ok (.getfield 18, 3) := by decide +kernel
theorem dX0_take_19 : decode cX0_take 19 = .ok (.aload_n 0, 1) := by decide +kernel
theorem dX0_take_20 : decode cX0_take 20 = .ok (.getfield 9, 3) := by decide +kernel
theorem dX0_take_23 : decode cX0_take 23 = .ok (.arraylength, 1) := by decide +kernel
theorem dX0_take_24 : decode cX0_take 24 = .ok (.if_icmp .ge 31, 3) := by decide +kernel
theorem dX0_take_27 : decode cX0_take 27 = .ok (.aload_n 0, 1) := by decide +kernel
theorem dX0_take_28 : decode cX0_take 28 = .ok (.aload_n 1, 1) := by decide +kernel
theorem dX0_take_29 : decode cX0_take 29 = .ok (.getfield 27, 3) := by decide +kernel
theorem dX0_take_32 : decode cX0_take 32 = .ok (.iload_n 2, 1) := by decide +kernel
theorem dX0_take_33 : decode cX0_take 33 = .ok (.aaload, 1) := by decide +kernel
theorem dX0_take_34 : decode cX0_take 34 = .ok (.getfield 31, 3) := by decide +kernel
theorem dX0_take_37 : decode cX0_take 37 = .ok (.aload_n 1, 1) := by decide +kernel
theorem dX0_take_38 : decode cX0_take 38 = .ok (.getfield 27, 3) := by decide +kernel
theorem dX0_take_41 : decode cX0_take 41 = .ok (.iload_n 2, 1) := by decide +kernel
theorem dX0_take_42 : decode cX0_take 42 = .ok (.aaload, 1) := by decide +kernel
theorem dX0_take_43 : decode cX0_take 43 = .ok (.getfield 36, 3) := by decide +kernel
theorem dX0_take_46 : decode cX0_take 46 = .ok (.invokevirtual 38, 3) := by decide +kernel
theorem dX0_take_49 : decode cX0_take 49 = .ok (.iinc 2 1, 3) := by decide +kernel
theorem dX0_take_52 : decode cX0_take 52 = .ok (.goto (-45), 3) := by decide +kernel
theorem dX0_take_55 : decode cX0_take 55 = .ok (.return_, 1) := by decide +kernel
theorem dX0_insert_0 : decode cX0_insert 0 = .ok (.aload_n 0, 1) := by decide +kernel
theorem dX0_insert_1 : decode cX0_insert 1 = .ok (.getfield 18, 3) := by decide +kernel
theorem dX0_insert_4 : decode cX0_insert 4 = .ok (.istore_n 3, 1) := by decide +kernel
theorem dX0_insert_5 : decode cX0_insert 5 = .ok (.iload_n 3, 1) := by decide +kernel
theorem dX0_insert_6 : decode cX0_insert 6 = .ok (.ifCond .le 49, 3) := by decide +kernel
theorem dX0_insert_9 : decode cX0_insert 9 = .ok (.aload_n 0, 1) := by decide +kernel
theorem dX0_insert_10 : decode cX0_insert 10 = .ok (.getfield 9, 3) := by decide +kernel
theorem dX0_insert_13 : decode cX0_insert 13 = .ok (.iload_n 3, 1) := by decide +kernel
theorem dX0_insert_14 : decode cX0_insert 14 = .ok (.iconst 1, 1) := by decide +kernel
theorem dX0_insert_15 : decode cX0_insert 15 = .ok (.isub, 1) := by decide +kernel
theorem dX0_insert_16 : decode cX0_insert 16 = .ok (.iaload, 1) := by decide +kernel
theorem dX0_insert_17 : decode cX0_insert 17 = .ok (.iload_n 1, 1) := by decide +kernel
theorem dX0_insert_18 : decode cX0_insert 18 = .ok (.if_icmp .le 37, 3) := by decide +kernel
theorem dX0_insert_21 : decode cX0_insert 21 = .ok (.aload_n 0, 1) := by decide +kernel
theorem dX0_insert_22 : decode cX0_insert 22 = .ok (.getfield 9, 3) := by decide +kernel
theorem dX0_insert_25 : decode cX0_insert 25 = .ok (.iload_n 3, 1) := by decide +kernel
theorem dX0_insert_26 : decode cX0_insert 26 = .ok (.aload_n 0, 1) := by decide +kernel
theorem dX0_insert_27 : decode cX0_insert 27 = .ok (.getfield 9, 3) := by decide +kernel
theorem dX0_insert_30 : decode cX0_insert 30 = .ok (.iload_n 3, 1) := by decide +kernel
theorem dX0_insert_31 : decode cX0_insert 31 = .ok (.iconst 1, 1) := by decide +kernel
theorem dX0_insert_32 : decode cX0_insert 32 = .ok (.isub, 1) := by decide +kernel
theorem dX0_insert_33 : decode cX0_insert 33 = .ok (.iaload, 1) := by decide +kernel
theorem dX0_insert_34 : decode cX0_insert 34 = .ok (.iastore, 1) := by decide +kernel
theorem dX0_insert_35 : decode cX0_insert 35 = .ok (.aload_n 0, 1) := by decide +kernel
theorem dX0_insert_36 : decode cX0_insert 36 = .ok (.getfield 15, 3) := by decide +kernel
theorem dX0_insert_39 : decode cX0_insert 39 = .ok (.iload_n 3, 1) := by decide +kernel
theorem dX0_insert_40 : decode cX0_insert 40 = .ok (.aload_n 0, 1) := by decide +kernel
theorem dX0_insert_41 : decode cX0_insert 41 = .ok (.getfield 15, 3) := by decide +kernel
theorem dX0_insert_44 : decode cX0_insert 44 = .ok (.iload_n 3, 1) := by decide +kernel
theorem dX0_insert_45 : decode cX0_insert 45 = .ok (.iconst 1, 1) := by decide +kernel
theorem dX0_insert_46 : decode cX0_insert 46 = .ok (.isub, 1) := by decide +kernel
theorem dX0_insert_47 : decode cX0_insert 47 = .ok (.iaload, 1) := by decide +kernel
theorem dX0_insert_48 : decode cX0_insert 48 = .ok (.iastore, 1) := by decide +kernel
theorem dX0_insert_49 : decode cX0_insert 49 = .ok (.iinc 3 (-1), 3) := by decide +kernel
theorem dX0_insert_52 : decode cX0_insert 52 = .ok (.goto (-47), 3) := by decide +kernel
theorem dX0_insert_55 : decode cX0_insert 55 = .ok (.aload_n 0, 1) := by decide +kernel
theorem dX0_insert_56 : decode cX0_insert 56 = .ok (.getfield 9, 3) := by decide +kernel
theorem dX0_insert_59 : decode cX0_insert 59 = .ok (.iload_n 3, 1) := by decide +kernel
theorem dX0_insert_60 : decode cX0_insert 60 = .ok (.iload_n 1, 1) := by decide +kernel
theorem dX0_insert_61 : decode cX0_insert 61 = .ok (.iastore, 1) := by decide +kernel
theorem dX0_insert_62 : decode cX0_insert 62 = .ok (.aload_n 0, 1) := by decide +kernel
theorem dX0_insert_63 : decode cX0_insert 63 = .ok (.getfield 15, 3) := by decide +kernel
theorem dX0_insert_66 : decode cX0_insert 66 = .ok (.iload_n 3, 1) := by decide +kernel
theorem dX0_insert_67 : decode cX0_insert 67 = .ok (.iload_n 2, 1) := by decide +kernel
theorem dX0_insert_68 : decode cX0_insert 68 = .ok (.iastore, 1) := by decide +kernel
theorem dX0_insert_69 : decode cX0_insert 69 = .ok (.aload_n 0, 1) := by decide +kernel
theorem dX0_insert_70 : decode cX0_insert 70 = .ok (.dup, 1) := by decide +kernel
theorem dX0_insert_71 : decode cX0_insert 71 = .ok (.getfield 18, 3) := by decide +kernel
theorem dX0_insert_74 : decode cX0_insert 74 = .ok (.iconst 1, 1) := by decide +kernel
theorem dX0_insert_75 : decode cX0_insert 75 = .ok (.iadd, 1) := by decide +kernel
theorem dX0_insert_76 : decode cX0_insert 76 = .ok (.putfield 18, 3) := by decide +kernel
theorem dX0_insert_79 : decode cX0_insert 79 = .ok (.return_, 1) := by decide +kernel
theorem dX0_hours_0 : decode cX0_hours 0 = .ok (.aload_n 0, 1) := by decide +kernel
theorem dX0_hours_1 : decode cX0_hours 1 = .ok (.getfield 18, 3) := by decide +kernel
theorem dX0_hours_4 : decode cX0_hours 4 = .ok (.ifCond .ne 5, 3) := by decide +kernel
theorem dX0_hours_7 : decode cX0_hours 7 = .ok (.iconst 0, 1) := by decide +kernel
theorem dX0_hours_8 : decode cX0_hours 8 = .ok (.ireturn, 1) := by decide +kernel
theorem dX0_hours_9 : decode cX0_hours 9 = .ok (.iconst 1, 1) := by decide +kernel
theorem dX0_hours_10 : decode cX0_hours 10 = .ok (.aload_n 0, 1) := by decide +kernel
theorem dX0_hours_11 : decode cX0_hours 11 = .ok (.getfield 9, 3) := by decide +kernel
theorem dX0_hours_14 : decode cX0_hours 14 = .ok (.aload_n 0, 1) := by decide +kernel
theorem dX0_hours_15 : decode cX0_hours 15 = .ok (.getfield 18, 3) := by decide +kernel
theorem dX0_hours_18 : decode cX0_hours 18 = .ok (.iconst 1, 1) := by decide +kernel
theorem dX0_hours_19 : decode cX0_hours 19 = .ok (.isub, 1) := by decide +kernel
theorem dX0_hours_20 : decode cX0_hours 20 = .ok (.iaload, 1) := by decide +kernel
theorem dX0_hours_21 : decode cX0_hours 21 = .ok (.aload_n 0, 1) := by decide +kernel
theorem dX0_hours_22 : decode cX0_hours 22 = .ok (.getfield 9, 3) := by decide +kernel
theorem dX0_hours_25 : decode cX0_hours 25 = .ok (.iconst 0, 1) := by decide +kernel
theorem dX0_hours_26 : decode cX0_hours 26 = .ok (.iaload, 1) := by decide +kernel
theorem dX0_hours_27 : decode cX0_hours 27 = .ok (.isub, 1) := by decide +kernel
theorem dX0_hours_28 : decode cX0_hours 28 = .ok (.bipush 60, 2) := by decide +kernel
theorem dX0_hours_30 : decode cX0_hours 30 = .ok (.iadd, 1) := by decide +kernel
theorem dX0_hours_31 : decode cX0_hours 31 = .ok (.iconst 1, 1) := by decide +kernel
theorem dX0_hours_32 : decode cX0_hours 32 = .ok (.isub, 1) := by decide +kernel
theorem dX0_hours_33 : decode cX0_hours 33 = .ok (.bipush 60, 2) := by decide +kernel
theorem dX0_hours_35 : decode cX0_hours 35 = .ok (.idiv, 1) := by decide +kernel
theorem dX0_hours_36 : decode cX0_hours 36 = .ok (.invokestatic 42, 3) := by decide +kernel
theorem dX0_hours_39 : decode cX0_hours 39 = .ok (.ireturn, 1) := by decide +kernel
set_option maxRecDepth 20000 in
theorem ggX0_leastBoils_X0_boilsCost : GoodIn wsX0_leastBoils wsX0_boilsCost := goodIn_r _ [8, 2, 9, 1, 10, 11, 12, 13, 14, 15, 16, 17, 18, 19, 20, 7, 21, 22, 23, 24] (by decide +kernel) (by decide +kernel)
set_option maxRecDepth 20000 in
theorem gX0_leastBoils_X0_boilsCost : GoodIn wsX0_leastBoils (wsV RX0 54 RX0 yX0_boilsCost wsX0_boilsCost) := goodIn_app (goodIn_of _ (by decide +kernel)) ggX0_leastBoils_X0_boilsCost
theorem dX0_leastBoils_0 : decode cX0_leastBoils 0 = .ok (.iconst 0, 1) := by decide +kernel
theorem dX0_leastBoils_1 : decode cX0_leastBoils 1 = .ok (.istore_n 3, 1) := by decide +kernel
theorem dX0_leastBoils_2 : decode cX0_leastBoils 2 = .ok (.ldc 50, 2) := by decide +kernel
theorem dX0_leastBoils_4 : decode cX0_leastBoils 4 = .ok (.istore 4, 2) := by decide +kernel
theorem dX0_leastBoils_6 : decode cX0_leastBoils 6 = .ok (.iconst 0, 1) := by decide +kernel
theorem dX0_leastBoils_7 : decode cX0_leastBoils 7 = .ok (.istore 5, 2) := by decide +kernel
theorem dX0_leastBoils_9 : decode cX0_leastBoils 9 = .ok (.iload 5, 2) := by decide +kernel
theorem dX0_leastBoils_11 : decode cX0_leastBoils 11 = .ok (.iconst 1, 1) := by decide +kernel
theorem dX0_leastBoils_12 : decode cX0_leastBoils 12 = .ok (.aload_n 0, 1) := by decide +kernel
theorem dX0_leastBoils_13 : decode cX0_leastBoils 13 = .ok (.getfield 18, 3) := by decide +kernel
theorem dX0_leastBoils_16 : decode cX0_leastBoils 16 = .ok (.ishl, 1) := by decide +kernel
theorem dX0_leastBoils_17 : decode cX0_leastBoils 17 = .ok (.if_icmp .ge 35, 3) := by decide +kernel
theorem dX0_leastBoils_20 : decode cX0_leastBoils 20 = .ok (.aload_n 0, 1) := by decide +kernel
theorem dX0_leastBoils_21 : decode cX0_leastBoils 21 = .ok (.iload 5, 2) := by decide +kernel
theorem dX0_leastBoils_23 : decode cX0_leastBoils 23 = .ok (.aload_n 1, 1) := by decide +kernel
theorem dX0_leastBoils_24 : decode cX0_leastBoils 24 = .ok (.getfield 51, 3) := by decide +kernel
theorem dX0_leastBoils_27 : decode cX0_leastBoils 27 = .ok (.invokevirtual 54, 3) := by decide +kernel
theorem dX0_leastBoils_30 : decode cX0_leastBoils 30 = .ok (.istore 6, 2) := by decide +kernel
theorem dX0_leastBoils_32 : decode cX0_leastBoils 32 = .ok (.iload 6, 2) := by decide +kernel
theorem dX0_leastBoils_34 : decode cX0_leastBoils 34 = .ok (.iload 4, 2) := by decide +kernel
theorem dX0_leastBoils_36 : decode cX0_leastBoils 36 = .ok (.if_icmp .ge 10, 3) := by decide +kernel
theorem dX0_leastBoils_39 : decode cX0_leastBoils 39 = .ok (.iload 6, 2) := by decide +kernel
theorem dX0_leastBoils_41 : decode cX0_leastBoils 41 = .ok (.istore 4, 2) := by decide +kernel
theorem dX0_leastBoils_43 : decode cX0_leastBoils 43 = .ok (.iload 5, 2) := by decide +kernel
theorem dX0_leastBoils_45 : decode cX0_leastBoils 45 = .ok (.istore_n 3, 1) := by decide +kernel
theorem dX0_leastBoils_46 : decode cX0_leastBoils 46 = .ok (.iinc 5 1, 3) := by decide +kernel
theorem dX0_leastBoils_49 : decode cX0_leastBoils 49 = .ok (.goto (-40), 3) := by decide +kernel
theorem dX0_leastBoils_52 : decode cX0_leastBoils 52 = .ok (.iload_n 2, 1) := by decide +kernel
theorem dX0_leastBoils_53 : decode cX0_leastBoils 53 = .ok (.ifCond .eq 8, 3) := by decide +kernel
theorem dX0_leastBoils_56 : decode cX0_leastBoils 56 = .ok (.iload 4, 2) := by decide +kernel
theorem dX0_leastBoils_58 : decode cX0_leastBoils 58 = .ok (.goto 4, 3) := by decide +kernel
theorem dX0_leastBoils_61 : decode cX0_leastBoils 61 = .ok (.iload_n 3, 1) := by decide +kernel
theorem dX0_leastBoils_62 : decode cX0_leastBoils 62 = .ok (.ireturn, 1) := by decide +kernel
set_option maxRecDepth 20000 in
theorem ggX0_boilsCost_X6_heatingMinutes : GoodIn wsX0_boilsCost wsX6_heatingMinutes := goodIn_r _ [11] (by decide +kernel) (by decide +kernel)
set_option maxRecDepth 20000 in
theorem gX0_boilsCost_X6_heatingMinutes_n58 : GoodIn wsX0_boilsCost (wsX6_heatingMinutes) := ggX0_boilsCost_X6_heatingMinutes
set_option maxRecDepth 20000 in
theorem ggX0_boilsCost_X0_waitedTill : GoodIn wsX0_boilsCost wsX0_waitedTill := goodIn_r _ [16, 1, 4, 17, 18, 19] (by decide +kernel) (by decide +kernel)
set_option maxRecDepth 20000 in
theorem gX0_boilsCost_X0_waitedTill : GoodIn wsX0_boilsCost (wsV RX0 62 RX0 yX0_waitedTill wsX0_waitedTill) := goodIn_app (goodIn_of _ (by decide +kernel)) ggX0_boilsCost_X0_waitedTill
theorem dX0_boilsCost_0 : decode cX0_boilsCost 0 = .ok (.iconst 0, 1) := by decide +kernel
theorem dX0_boilsCost_1 : decode cX0_boilsCost 1 = .ok (.istore_n 3, 1) := by decide +kernel
theorem dX0_boilsCost_2 : decode cX0_boilsCost 2 = .ok (.iconst 0, 1) := by decide +kernel
theorem dX0_boilsCost_3 : decode cX0_boilsCost 3 = .ok (.istore 4, 2) := by decide +kernel
theorem dX0_boilsCost_5 : decode cX0_boilsCost 5 = .ok (.iconst 0, 1) := by decide +kernel
theorem dX0_boilsCost_6 : decode cX0_boilsCost 6 = .ok (.istore 5, 2) := by decide +kernel
theorem dX0_boilsCost_8 : decode cX0_boilsCost 8 = .ok (.iconst 0, 1) := by decide +kernel
theorem dX0_boilsCost_9 : decode cX0_boilsCost 9 = .ok (.istore 6, 2) := by decide +kernel
theorem dX0_boilsCost_11 : decode cX0_boilsCost 11 = .ok (.iconst 0, 1) := by decide +kernel
theorem dX0_boilsCost_12 : decode cX0_boilsCost 12 = .ok (.istore 7, 2) := by decide +kernel
theorem dX0_boilsCost_14 : decode cX0_boilsCost 14 = .ok (.iload 7, 2) := by decide +kernel
theorem dX0_boilsCost_16 : decode cX0_boilsCost 16 = .ok (.aload_n 0, 1) := by decide +kernel
theorem dX0_boilsCost_17 : decode cX0_boilsCost 17 = .ok (.getfield 18, 3) := by decide +kernel
theorem dX0_boilsCost_20 : decode cX0_boilsCost 20 = .ok (.if_icmp .ge 99, 3) := by decide +kernel
theorem dX0_boilsCost_23 : decode cX0_boilsCost 23 = .ok (.iload 6, 2) := by decide +kernel
theorem dX0_boilsCost_25 : decode cX0_boilsCost 25 = .ok (.aload_n 0, 1) := by decide +kernel
theorem dX0_boilsCost_26 : decode cX0_boilsCost 26 = .ok (.getfield 15, 3) := by decide +kernel
theorem dX0_boilsCost_29 : decode cX0_boilsCost 29 = .ok (.iload 7, 2) := by decide +kernel
theorem dX0_boilsCost_31 : decode cX0_boilsCost 31 = .ok (.iaload, 1) := by decide +kernel
theorem dX0_boilsCost_32 : decode cX0_boilsCost 32 = .ok (.iadd, 1) := by decide +kernel
theorem dX0_boilsCost_33 : decode cX0_boilsCost 33 = .ok (.istore 6, 2) := by decide +kernel
theorem dX0_boilsCost_35 : decode cX0_boilsCost 35 = .ok (.iload 6, 2) := by decide +kernel
theorem dX0_boilsCost_37 : decode cX0_boilsCost 37 = .ok (.aload_n 2, 1) := by decide +kernel
theorem dX0_boilsCost_38 : decode cX0_boilsCost 38 = .ok (.iconst 0, 1) := by decide +kernel
theorem dX0_boilsCost_39 : decode cX0_boilsCost 39 = .ok (.iaload, 1) := by decide +kernel
theorem dX0_boilsCost_40 : decode cX0_boilsCost 40 = .ok (.if_icmp .le 6, 3) := by decide +kernel
theorem dX0_boilsCost_43 : decode cX0_boilsCost 43 = .ok (.ldc 50, 2) := by decide +kernel
theorem dX0_boilsCost_45 : decode cX0_boilsCost 45 = .ok (.ireturn, 1) := by decide +kernel
theorem dX0_boilsCost_46 : decode cX0_boilsCost 46 = .ok (.iload_n 1, 1) := by decide +kernel
theorem dX0_boilsCost_47 : decode cX0_boilsCost 47 = .ok (.iload 7, 2) := by decide +kernel
theorem dX0_boilsCost_49 : decode cX0_boilsCost 49 = .ok (.ishr, 1) := by decide +kernel
theorem dX0_boilsCost_50 : decode cX0_boilsCost 50 = .ok (.iconst 1, 1) := by decide +kernel
theorem dX0_boilsCost_51 : decode cX0_boilsCost 51 = .ok (.iand, 1) := by decide +kernel
theorem dX0_boilsCost_52 : decode cX0_boilsCost 52 = .ok (.iconst 1, 1) := by decide +kernel
theorem dX0_boilsCost_53 : decode cX0_boilsCost 53 = .ok (.if_icmp .ne 60, 3) := by decide +kernel
theorem dX0_boilsCost_56 : decode cX0_boilsCost 56 = .ok (.iload 4, 2) := by decide +kernel
theorem dX0_boilsCost_58 : decode cX0_boilsCost 58 = .ok (.aload_n 0, 1) := by decide +kernel
theorem dX0_boilsCost_59 : decode cX0_boilsCost 59 = .ok (.getfield 9, 3) := by decide +kernel
theorem dX0_boilsCost_62 : decode cX0_boilsCost 62 = .ok (.iload 7, 2) := by decide +kernel
theorem dX0_boilsCost_64 : decode cX0_boilsCost 64 = .ok (.iaload, 1) := by decide +kernel
theorem dX0_boilsCost_65 : decode cX0_boilsCost 65 = .ok (.invokestatic 42, 3) := by decide +kernel
theorem dX0_boilsCost_68 : decode cX0_boilsCost 68 = .ok (.aload_n 2, 1) := by decide +kernel
theorem dX0_boilsCost_69 : decode cX0_boilsCost 69 = .ok (.iconst 1, 1) := by decide +kernel
theorem dX0_boilsCost_70 : decode cX0_boilsCost 70 = .ok (.iaload, 1) := by decide +kernel
theorem dX0_boilsCost_71 : decode cX0_boilsCost 71 = .ok (.iadd, 1) := by decide +kernel
theorem dX0_boilsCost_72 : decode cX0_boilsCost 72 = .ok (.iload 6, 2) := by decide +kernel
theorem dX0_boilsCost_74 : decode cX0_boilsCost 74 = .ok (.bipush 10, 2) := by decide +kernel
theorem dX0_boilsCost_76 : decode cX0_boilsCost 76 = .ok (.aload_n 2, 1) := by decide +kernel
theorem dX0_boilsCost_77 : decode cX0_boilsCost 77 = .ok (.iconst 2, 1) := by decide +kernel
theorem dX0_boilsCost_78 : decode cX0_boilsCost 78 = .ok (.iaload, 1) := by decide +kernel
theorem dX0_boilsCost_79 : decode cX0_boilsCost 79 = .ok (.invokestatic 58, 3) := by decide +kernel
theorem dX0_boilsCost_82 : decode cX0_boilsCost 82 = .ok (.iadd, 1) := by decide +kernel
theorem dX0_boilsCost_83 : decode cX0_boilsCost 83 = .ok (.istore 4, 2) := by decide +kernel
theorem dX0_boilsCost_85 : decode cX0_boilsCost 85 = .ok (.iload_n 3, 1) := by decide +kernel
theorem dX0_boilsCost_86 : decode cX0_boilsCost 86 = .ok (.aload_n 0, 1) := by decide +kernel
theorem dX0_boilsCost_87 : decode cX0_boilsCost 87 = .ok (.iload 4, 2) := by decide +kernel
theorem dX0_boilsCost_89 : decode cX0_boilsCost 89 = .ok (.iload 5, 2) := by decide +kernel
theorem dX0_boilsCost_91 : decode cX0_boilsCost 91 = .ok (.iload 7, 2) := by decide +kernel
theorem dX0_boilsCost_93 : decode cX0_boilsCost 93 = .ok (.invokevirtual 62, 3) := by decide +kernel
theorem dX0_boilsCost_96 : decode cX0_boilsCost 96 = .ok (.aload_n 2, 1) := by decide +kernel
theorem dX0_boilsCost_97 : decode cX0_boilsCost 97 = .ok (.iconst 4, 1) := by decide +kernel
theorem dX0_boilsCost_98 : decode cX0_boilsCost 98 = .ok (.iaload, 1) := by decide +kernel
theorem dX0_boilsCost_99 : decode cX0_boilsCost 99 = .ok (.imul, 1) := by decide +kernel
theorem dX0_boilsCost_100 : decode cX0_boilsCost 100 = .ok (.iconst 3, 1) := by decide +kernel
theorem dX0_boilsCost_101 : decode cX0_boilsCost 101 = .ok (.iadd, 1) := by decide +kernel
theorem dX0_boilsCost_102 : decode cX0_boilsCost 102 = .ok (.iadd, 1) := by decide +kernel
theorem dX0_boilsCost_103 : decode cX0_boilsCost 103 = .ok (.istore_n 3, 1) := by decide +kernel
theorem dX0_boilsCost_104 : decode cX0_boilsCost 104 = .ok (.iload 7, 2) := by decide +kernel
theorem dX0_boilsCost_106 : decode cX0_boilsCost 106 = .ok (.iconst 1, 1) := by decide +kernel
theorem dX0_boilsCost_107 : decode cX0_boilsCost 107 = .ok (.iadd, 1) := by decide +kernel
theorem dX0_boilsCost_108 : decode cX0_boilsCost 108 = .ok (.istore 5, 2) := by decide +kernel
theorem dX0_boilsCost_110 : decode cX0_boilsCost 110 = .ok (.iconst 0, 1) := by decide +kernel
theorem dX0_boilsCost_111 : decode cX0_boilsCost 111 = .ok (.istore 6, 2) := by decide +kernel
theorem dX0_boilsCost_113 : decode cX0_boilsCost 113 = .ok (.iinc 7 1, 3) := by decide +kernel
theorem dX0_boilsCost_116 : decode cX0_boilsCost 116 = .ok (.goto (-102), 3) := by decide +kernel
theorem dX0_boilsCost_119 : decode cX0_boilsCost 119 = .ok (.iload 5, 2) := by decide +kernel
theorem dX0_boilsCost_121 : decode cX0_boilsCost 121 = .ok (.aload_n 0, 1) := by decide +kernel
theorem dX0_boilsCost_122 : decode cX0_boilsCost 122 = .ok (.getfield 18, 3) := by decide +kernel
theorem dX0_boilsCost_125 : decode cX0_boilsCost 125 = .ok (.if_icmp .ne 7, 3) := by decide +kernel
theorem dX0_boilsCost_128 : decode cX0_boilsCost 128 = .ok (.iload_n 3, 1) := by decide +kernel
theorem dX0_boilsCost_129 : decode cX0_boilsCost 129 = .ok (.goto 5, 3) := by decide +kernel
theorem dX0_boilsCost_132 : decode cX0_boilsCost 132 = .ok (.ldc 50, 2) := by decide +kernel
theorem dX0_boilsCost_134 : decode cX0_boilsCost 134 = .ok (.ireturn, 1) := by decide +kernel
theorem dX0_waitedTill_0 : decode cX0_waitedTill 0 = .ok (.iconst 0, 1) := by decide +kernel
theorem dX0_waitedTill_1 : decode cX0_waitedTill 1 = .ok (.istore 4, 2) := by decide +kernel
theorem dX0_waitedTill_3 : decode cX0_waitedTill 3 = .ok (.iload_n 2, 1) := by decide +kernel
theorem dX0_waitedTill_4 : decode cX0_waitedTill 4 = .ok (.istore 5, 2) := by decide +kernel
theorem dX0_waitedTill_6 : decode cX0_waitedTill 6 = .ok (.iload 5, 2) := by decide +kernel
theorem dX0_waitedTill_8 : decode cX0_waitedTill 8 = .ok (.iload_n 3, 1) := by decide +kernel
theorem dX0_waitedTill_9 : decode cX0_waitedTill 9 = .ok (.if_icmp .gt 32, 3) := by decide +kernel
theorem dX0_waitedTill_12 : decode cX0_waitedTill 12 = .ok (.iload 5, 2) := by decide +kernel
theorem dX0_waitedTill_14 : decode cX0_waitedTill 14 = .ok (.aload_n 0, 1) := by decide +kernel
theorem dX0_waitedTill_15 : decode cX0_waitedTill 15 = .ok (.getfield 18, 3) := by decide +kernel
theorem dX0_waitedTill_18 : decode cX0_waitedTill 18 = .ok (.if_icmp .ge 23, 3) := by decide +kernel
theorem dX0_waitedTill_21 : decode cX0_waitedTill 21 = .ok (.iload 4, 2) := by decide +kernel
theorem dX0_waitedTill_23 : decode cX0_waitedTill 23 = .ok (.iload_n 1, 1) := by decide +kernel
theorem dX0_waitedTill_24 : decode cX0_waitedTill 24 = .ok (.aload_n 0, 1) := by decide +kernel
theorem dX0_waitedTill_25 : decode cX0_waitedTill 25 = .ok (.getfield 9, 3) := by decide +kernel
theorem dX0_waitedTill_28 : decode cX0_waitedTill 28 = .ok (.iload 5, 2) := by decide +kernel
theorem dX0_waitedTill_30 : decode cX0_waitedTill 30 = .ok (.iaload, 1) := by decide +kernel
theorem dX0_waitedTill_31 : decode cX0_waitedTill 31 = .ok (.isub, 1) := by decide +kernel
theorem dX0_waitedTill_32 : decode cX0_waitedTill 32 = .ok (.iadd, 1) := by decide +kernel
theorem dX0_waitedTill_33 : decode cX0_waitedTill 33 = .ok (.istore 4, 2) := by decide +kernel
theorem dX0_waitedTill_35 : decode cX0_waitedTill 35 = .ok (.iinc 5 1, 3) := by decide +kernel
theorem dX0_waitedTill_38 : decode cX0_waitedTill 38 = .ok (.goto (-32), 3) := by decide +kernel
theorem dX0_waitedTill_41 : decode cX0_waitedTill 41 = .ok (.iload 4, 2) := by decide +kernel
theorem dX0_waitedTill_43 : decode cX0_waitedTill 43 = .ok (.ireturn, 1) := by decide +kernel
set_option maxRecDepth 20000 in
theorem ggX0_waitedForSeats_X0_waitedTill : GoodIn wsX0_waitedForSeats wsX0_waitedTill := goodIn_r _ [7, 1, 2, 8, 9, 10] (by decide +kernel) (by decide +kernel)
set_option maxRecDepth 20000 in
theorem gX0_waitedForSeats_X0_waitedTill : GoodIn wsX0_waitedForSeats (wsV RX0 62 RX0 yX0_waitedTill wsX0_waitedTill) := goodIn_app (goodIn_of _ (by decide +kernel)) ggX0_waitedForSeats_X0_waitedTill
theorem dX0_waitedForSeats_0 : decode cX0_waitedForSeats 0 = .ok (.iconst 0, 1) := by decide +kernel
theorem dX0_waitedForSeats_1 : decode cX0_waitedForSeats 1 = .ok (.istore_n 3, 1) := by decide +kernel
theorem dX0_waitedForSeats_2 : decode cX0_waitedForSeats 2 = .ok (.iconst 0, 1) := by decide +kernel
theorem dX0_waitedForSeats_3 : decode cX0_waitedForSeats 3 = .ok (.istore 4, 2) := by decide +kernel
theorem dX0_waitedForSeats_5 : decode cX0_waitedForSeats 5 = .ok (.iconst 0, 1) := by decide +kernel
theorem dX0_waitedForSeats_6 : decode cX0_waitedForSeats 6 = .ok (.istore 5, 2) := by decide +kernel
theorem dX0_waitedForSeats_8 : decode cX0_waitedForSeats 8 = .ok (.iload 5, 2) := by decide +kernel
theorem dX0_waitedForSeats_10 : decode cX0_waitedForSeats 10 = .ok (.aload_n 0, 1) := by decide +kernel
theorem dX0_waitedForSeats_11 : decode cX0_waitedForSeats 11 = .ok (.getfield 18, 3) := by decide +kernel
theorem dX0_waitedForSeats_14 : decode cX0_waitedForSeats 14 = .ok (.if_icmp .ge 44, 3) := by decide +kernel
theorem dX0_waitedForSeats_17 : decode cX0_waitedForSeats 17 = .ok (.iload 5, 2) := by decide +kernel
theorem dX0_waitedForSeats_19 : decode cX0_waitedForSeats 19 = .ok (.iload 4, 2) := by decide +kernel
theorem dX0_waitedForSeats_21 : decode cX0_waitedForSeats 21 = .ok (.isub, 1) := by decide +kernel
theorem dX0_waitedForSeats_22 : decode cX0_waitedForSeats 22 = .ok (.iconst 1, 1) := by decide +kernel
theorem dX0_waitedForSeats_23 : decode cX0_waitedForSeats 23 = .ok (.iadd, 1) := by decide +kernel
theorem dX0_waitedForSeats_24 : decode cX0_waitedForSeats 24 = .ok (.iload_n 1, 1) := by decide +kernel
theorem dX0_waitedForSeats_25 : decode cX0_waitedForSeats 25 = .ok (.if_icmp .ne 27, 3) := by decide +kernel
theorem dX0_waitedForSeats_28 : decode cX0_waitedForSeats 28 = .ok (.iload_n 3, 1) := by decide +kernel
theorem dX0_waitedForSeats_29 : decode cX0_waitedForSeats 29 = .ok (.aload_n 0, 1) := by decide +kernel
theorem dX0_waitedForSeats_30 : decode cX0_waitedForSeats 30 = .ok (.aload_n 0, 1) := by decide +kernel
theorem dX0_waitedForSeats_31 : decode cX0_waitedForSeats 31 = .ok (.getfield 9, 3) := by decide +kernel
theorem dX0_waitedForSeats_34 : decode cX0_waitedForSeats 34 = .ok (.iload 5, 2) := by decide +kernel
theorem dX0_waitedForSeats_36 : decode cX0_waitedForSeats 36 = .ok (.iaload, 1) := by decide +kernel
theorem dX0_waitedForSeats_37 : decode cX0_waitedForSeats 37 = .ok (.iload 4, 2) := by decide +kernel
theorem dX0_waitedForSeats_39 : decode cX0_waitedForSeats 39 = .ok (.iload 5, 2) := by decide +kernel
theorem dX0_waitedForSeats_41 : decode cX0_waitedForSeats 41 = .ok (.invokevirtual 62, 3) := by decide +kernel
theorem dX0_waitedForSeats_44 : decode cX0_waitedForSeats 44 = .ok (.iadd, 1) := by decide +kernel
theorem dX0_waitedForSeats_45 : decode cX0_waitedForSeats 45 = .ok (.istore_n 3, 1) := by decide +kernel
theorem dX0_waitedForSeats_46 : decode cX0_waitedForSeats 46 = .ok (.iload 5, 2) := by decide +kernel
theorem dX0_waitedForSeats_48 : decode cX0_waitedForSeats 48 = .ok (.iconst 1, 1) := by decide +kernel
theorem dX0_waitedForSeats_49 : decode cX0_waitedForSeats 49 = .ok (.iadd, 1) := by decide +kernel
theorem dX0_waitedForSeats_50 : decode cX0_waitedForSeats 50 = .ok (.istore 4, 2) := by decide +kernel
theorem dX0_waitedForSeats_52 : decode cX0_waitedForSeats 52 = .ok (.iinc 5 1, 3) := by decide +kernel
theorem dX0_waitedForSeats_55 : decode cX0_waitedForSeats 55 = .ok (.goto (-47), 3) := by decide +kernel
theorem dX0_waitedForSeats_58 : decode cX0_waitedForSeats 58 = .ok (.iload 4, 2) := by decide +kernel
theorem dX0_waitedForSeats_60 : decode cX0_waitedForSeats 60 = .ok (.aload_n 0, 1) := by decide +kernel
theorem dX0_waitedForSeats_61 : decode cX0_waitedForSeats 61 = .ok (.getfield 18, 3) := by decide +kernel
theorem dX0_waitedForSeats_64 : decode cX0_waitedForSeats 64 = .ok (.if_icmp .ge 31, 3) := by decide +kernel
theorem dX0_waitedForSeats_67 : decode cX0_waitedForSeats 67 = .ok (.iload_n 3, 1) := by decide +kernel
theorem dX0_waitedForSeats_68 : decode cX0_waitedForSeats 68 = .ok (.aload_n 0, 1) := by decide +kernel
theorem dX0_waitedForSeats_69 : decode cX0_waitedForSeats 69 = .ok (.aload_n 0, 1) := by decide +kernel
theorem dX0_waitedForSeats_70 : decode cX0_waitedForSeats 70 = .ok (.getfield 9, 3) := by decide +kernel
theorem dX0_waitedForSeats_73 : decode cX0_waitedForSeats 73 = .ok (.aload_n 0, 1) := by decide +kernel
theorem dX0_waitedForSeats_74 : decode cX0_waitedForSeats 74 = .ok (.getfield 18, 3) := by decide +kernel
theorem dX0_waitedForSeats_77 : decode cX0_waitedForSeats 77 = .ok (.iconst 1, 1) := by decide +kernel
theorem dX0_waitedForSeats_78 : decode cX0_waitedForSeats 78 = .ok (.isub, 1) := by decide +kernel
theorem dX0_waitedForSeats_79 : decode cX0_waitedForSeats 79 = .ok (.iaload, 1) := by decide +kernel
theorem dX0_waitedForSeats_80 : decode cX0_waitedForSeats 80 = .ok (.iload_n 2, 1) := by decide +kernel
theorem dX0_waitedForSeats_81 : decode cX0_waitedForSeats 81 = .ok (.iadd, 1) := by decide +kernel
theorem dX0_waitedForSeats_82 : decode cX0_waitedForSeats 82 = .ok (.iload 4, 2) := by decide +kernel
theorem dX0_waitedForSeats_84 : decode cX0_waitedForSeats 84 = .ok (.aload_n 0, 1) := by decide +kernel
theorem dX0_waitedForSeats_85 : decode cX0_waitedForSeats 85 = .ok (.getfield 18, 3) := by decide +kernel
theorem dX0_waitedForSeats_88 : decode cX0_waitedForSeats 88 = .ok (.iconst 1, 1) := by decide +kernel
theorem dX0_waitedForSeats_89 : decode cX0_waitedForSeats 89 = .ok (.isub, 1) := by decide +kernel
theorem dX0_waitedForSeats_90 : decode cX0_waitedForSeats 90 = .ok (.invokevirtual 62, 3) := by decide +kernel
theorem dX0_waitedForSeats_93 : decode cX0_waitedForSeats 93 = .ok (.iadd, 1) := by decide +kernel
theorem dX0_waitedForSeats_94 : decode cX0_waitedForSeats 94 = .ok (.istore_n 3, 1) := by decide +kernel
theorem dX0_waitedForSeats_95 : decode cX0_waitedForSeats 95 = .ok (.iload_n 3, 1) := by decide +kernel
theorem dX0_waitedForSeats_96 : decode cX0_waitedForSeats 96 = .ok (.ireturn, 1) := by decide +kernel
set_option maxRecDepth 20000 in
theorem ggX0_waitedForTimes_J9_floorMod_7cf53 : GoodIn wsX0_waitedForTimes wsJ9_floorMod_7cf53 := goodIn_r _ [6] (by decide +kernel) (by decide +kernel)
set_option maxRecDepth 20000 in
theorem gX0_waitedForTimes_J9_floorMod_7cf53 : GoodIn wsX0_waitedForTimes (va_wsS RX0 65 yJ9_floorMod_7cf53 wsJ9_floorMod_7cf53) := goodIn_app (goodIn_of _ (by decide +kernel)) ggX0_waitedForTimes_J9_floorMod_7cf53
theorem dX0_waitedForTimes_0 : decode cX0_waitedForTimes 0 = .ok (.iconst 0, 1) := by decide +kernel
theorem dX0_waitedForTimes_1 : decode cX0_waitedForTimes 1 = .ok (.istore_n 2, 1) := by decide +kernel
theorem dX0_waitedForTimes_2 : decode cX0_waitedForTimes 2 = .ok (.iconst 0, 1) := by decide +kernel
theorem dX0_waitedForTimes_3 : decode cX0_waitedForTimes 3 = .ok (.istore_n 3, 1) := by decide +kernel
theorem dX0_waitedForTimes_4 : decode cX0_waitedForTimes 4 = .ok (.iload_n 3, 1) := by decide +kernel
theorem dX0_waitedForTimes_5 : decode cX0_waitedForTimes 5 = .ok (.aload_n 0, 1) := by decide +kernel
theorem dX0_waitedForTimes_6 : decode cX0_waitedForTimes 6 = .ok (.getfield 18, 3) := by decide +kernel
theorem dX0_waitedForTimes_9 : decode cX0_waitedForTimes 9 = .ok (.if_icmp .ge 27, 3) := by decide +kernel
theorem dX0_waitedForTimes_12 : decode cX0_waitedForTimes 12 = .ok (.iload_n 1, 1) := by decide +kernel
theorem dX0_waitedForTimes_13 : decode cX0_waitedForTimes 13 = .ok (.ifCond .le 23, 3) := by decide +kernel
theorem dX0_waitedForTimes_16 : decode cX0_waitedForTimes 16 = .ok (.iload_n 2, 1) := by decide +kernel
theorem dX0_waitedForTimes_17 : decode cX0_waitedForTimes 17 = .ok (.aload_n 0, 1) := by decide +kernel
theorem dX0_waitedForTimes_18 : decode cX0_waitedForTimes 18 = .ok (.getfield 9, 3) := by decide +kernel
theorem dX0_waitedForTimes_21 : decode cX0_waitedForTimes 21 = .ok (.iload_n 3, 1) := by decide +kernel
theorem dX0_waitedForTimes_22 : decode cX0_waitedForTimes 22 = .ok (.iaload, 1) := by decide +kernel
theorem dX0_waitedForTimes_23 : decode cX0_waitedForTimes 23 = .ok (.ineg, 1) := by decide +kernel
theorem dX0_waitedForTimes_24 : decode cX0_waitedForTimes 24 = .ok (.iload_n 1, 1) := by decide +kernel
theorem dX0_waitedForTimes_25 : decode cX0_waitedForTimes 25 = .ok (.invokestatic 65, 3) := by decide +kernel
theorem dX0_waitedForTimes_28 : decode cX0_waitedForTimes 28 = .ok (.iadd, 1) := by decide +kernel
theorem dX0_waitedForTimes_29 : decode cX0_waitedForTimes 29 = .ok (.istore_n 2, 1) := by decide +kernel
theorem dX0_waitedForTimes_30 : decode cX0_waitedForTimes 30 = .ok (.iinc 3 1, 3) := by decide +kernel
theorem dX0_waitedForTimes_33 : decode cX0_waitedForTimes 33 = .ok (.goto (-29), 3) := by decide +kernel
theorem dX0_waitedForTimes_36 : decode cX0_waitedForTimes 36 = .ok (.iload_n 2, 1) := by decide +kernel
theorem dX0_waitedForTimes_37 : decode cX0_waitedForTimes 37 = .ok (.ireturn, 1) := by decide +kernel
set_option maxRecDepth 20000 in
theorem ggX0_bestSeats_X0_waitedForTimes : GoodIn wsX0_bestSeats wsX0_waitedForTimes := goodIn_r _ [5, 6, 7, 8, 9, 10, 11, 20, 21, 22] (by decide +kernel) (by decide +kernel)
set_option maxRecDepth 20000 in
theorem gX0_bestSeats_X0_waitedForTimes : GoodIn wsX0_bestSeats (wsV RX0 68 RX0 yX0_waitedForTimes wsX0_waitedForTimes) := goodIn_app (goodIn_of _ (by decide +kernel)) ggX0_bestSeats_X0_waitedForTimes
set_option maxRecDepth 20000 in
theorem ggX0_bestSeats_X0_waitedForSeats : GoodIn wsX0_bestSeats wsX0_waitedForSeats := goodIn_r _ [15, 6, 7, 16, 17, 18, 4, 19, 20, 21, 22] (by decide +kernel) (by decide +kernel)
set_option maxRecDepth 20000 in
theorem gX0_bestSeats_X0_waitedForSeats : GoodIn wsX0_bestSeats (wsV RX0 72 RX0 yX0_waitedForSeats wsX0_waitedForSeats) := goodIn_app (goodIn_of _ (by decide +kernel)) ggX0_bestSeats_X0_waitedForSeats
theorem dX0_bestSeats_0 : decode cX0_bestSeats 0 = .ok (.bipush (-9), 2) := by decide +kernel
theorem dX0_bestSeats_2 : decode cX0_bestSeats 2 = .ok (.istore_n 2, 1) := by decide +kernel
theorem dX0_bestSeats_3 : decode cX0_bestSeats 3 = .ok (.iconst 0, 1) := by decide +kernel
theorem dX0_bestSeats_4 : decode cX0_bestSeats 4 = .ok (.istore_n 3, 1) := by decide +kernel
theorem dX0_bestSeats_5 : decode cX0_bestSeats 5 = .ok (.iconst 1, 1) := by decide +kernel
theorem dX0_bestSeats_6 : decode cX0_bestSeats 6 = .ok (.istore 4, 2) := by decide +kernel
theorem dX0_bestSeats_8 : decode cX0_bestSeats 8 = .ok (.iload 4, 2) := by decide +kernel
theorem dX0_bestSeats_10 : decode cX0_bestSeats 10 = .ok (.bipush 8, 2) := by decide +kernel
theorem dX0_bestSeats_12 : decode cX0_bestSeats 12 = .ok (.if_icmp .gt 36, 3) := by decide +kernel
theorem dX0_bestSeats_15 : decode cX0_bestSeats 15 = .ok (.aload_n 0, 1) := by decide +kernel
theorem dX0_bestSeats_16 : decode cX0_bestSeats 16 = .ok (.iload_n 1, 1) := by decide +kernel
theorem dX0_bestSeats_17 : decode cX0_bestSeats 17 = .ok (.invokevirtual 68, 3) := by decide +kernel
theorem dX0_bestSeats_20 : decode cX0_bestSeats 20 = .ok (.aload_n 0, 1) := by decide +kernel
theorem dX0_bestSeats_21 : decode cX0_bestSeats 21 = .ok (.iload 4, 2) := by decide +kernel
theorem dX0_bestSeats_23 : decode cX0_bestSeats 23 = .ok (.iload_n 1, 1) := by decide +kernel
theorem dX0_bestSeats_24 : decode cX0_bestSeats 24 = .ok (.invokevirtual 72, 3) := by decide +kernel
theorem dX0_bestSeats_27 : decode cX0_bestSeats 27 = .ok (.isub, 1) := by decide +kernel
theorem dX0_bestSeats_28 : decode cX0_bestSeats 28 = .ok (.istore 5, 2) := by decide +kernel
theorem dX0_bestSeats_30 : decode cX0_bestSeats 30 = .ok (.iload 5, 2) := by decide +kernel
theorem dX0_bestSeats_32 : decode cX0_bestSeats 32 = .ok (.iload_n 3, 1) := by decide +kernel
theorem dX0_bestSeats_33 : decode cX0_bestSeats 33 = .ok (.if_icmp .le 9, 3) := by decide +kernel
theorem dX0_bestSeats_36 : decode cX0_bestSeats 36 = .ok (.iload 5, 2) := by decide +kernel
theorem dX0_bestSeats_38 : decode cX0_bestSeats 38 = .ok (.istore_n 3, 1) := by decide +kernel
theorem dX0_bestSeats_39 : decode cX0_bestSeats 39 = .ok (.iload 4, 2) := by decide +kernel
theorem dX0_bestSeats_41 : decode cX0_bestSeats 41 = .ok (.istore_n 2, 1) := by decide +kernel
theorem dX0_bestSeats_42 : decode cX0_bestSeats 42 = .ok (.iinc 4 1, 3) := by decide +kernel
theorem dX0_bestSeats_45 : decode cX0_bestSeats 45 = .ok (.goto (-37), 3) := by decide +kernel
theorem dX0_bestSeats_48 : decode cX0_bestSeats 48 = .ok (.iload_n 2, 1) := by decide +kernel
theorem dX0_bestSeats_49 : decode cX0_bestSeats 49 = .ok (.ireturn, 1) := by decide +kernel
theorem dX1_init_0 : decode cX1_init 0 = .ok (.aload_n 0, 1) := by decide +kernel
theorem dX1_init_1 : decode cX1_init 1 = .ok (.invokespecial 3, 3) := by decide +kernel
theorem dX1_init_4 : decode cX1_init 4 = .ok (.return_, 1) := by decide +kernel
set_option maxRecDepth 20000 in
theorem ggX1_copy_X1_become : GoodIn wsX1_copy wsX1_become := goodIn_r _ [12, 1, 2, 13, 14, 15, 16, 17, 18, 19] (by decide +kernel) (by decide +kernel)
set_option maxRecDepth 20000 in
theorem gX1_copy_X1_become : GoodIn wsX1_copy (wsV RX1 18 RX1 yX1_become wsX1_become) := goodIn_app (goodIn_of _ (by decide +kernel)) ggX1_copy_X1_become
theorem dX1_copy_0 : decode cX1_copy 0 = .ok (.aload_n 0, 1) := by decide +kernel
theorem dX1_copy_1 : decode cX1_copy 1 = .ok (.aload_n 1, 1) := by decide +kernel
theorem dX1_copy_2 : decode cX1_copy 2 = .ok (.getfield 9, 3) := by decide +kernel
theorem dX1_copy_5 : decode cX1_copy 5 = .ok (.aload_n 1, 1) := by decide +kernel
theorem dX1_copy_6 : decode cX1_copy 6 = .ok (.getfield 15, 3) := by decide +kernel
theorem dX1_copy_9 : decode cX1_copy 9 = .ok (.invokevirtual 18, 3) := by decide +kernel
theorem dX1_copy_12 : decode cX1_copy 12 = .ok (.aload_n 0, 1) := by decide +kernel
theorem dX1_copy_13 : decode cX1_copy 13 = .ok (.aload_n 1, 1) := by decide +kernel
theorem dX1_copy_14 : decode cX1_copy 14 = .ok (.getfield 22, 3) := by decide +kernel
theorem dX1_copy_17 : decode cX1_copy 17 = .ok (.putfield 22, 3) := by decide +kernel
theorem dX1_copy_20 : decode cX1_copy 20 = .ok (.aload_n 0, 1) := by decide +kernel
theorem dX1_copy_21 : decode cX1_copy 21 = .ok (.aload_n 1, 1) := by decide +kernel
theorem dX1_copy_22 : decode cX1_copy 22 = .ok (.getfield 25, 3) := by decide +kernel
theorem dX1_copy_25 : decode cX1_copy 25 = .ok (.putfield 25, 3) := by decide +kernel
theorem dX1_copy_28 : decode cX1_copy 28 = .ok (.aload_n 0, 1) := by decide +kernel
theorem dX1_copy_29 : decode cX1_copy 29 = .ok (.aload_n 1, 1) := by decide +kernel
theorem dX1_copy_30 : decode cX1_copy 30 = .ok (.getfield 28, 3) := by decide +kernel
theorem dX1_copy_33 : decode cX1_copy 33 = .ok (.putfield 28, 3) := by decide +kernel
theorem dX1_copy_36 : decode cX1_copy 36 = .ok (.aload_n 0, 1) := by decide +kernel
theorem dX1_copy_37 : decode cX1_copy 37 = .ok (.aload_n 1, 1) := by decide +kernel
theorem dX1_copy_38 : decode cX1_copy 38 = .ok (.getfield 31, 3) := by decide +kernel
theorem dX1_copy_41 : decode cX1_copy 41 = .ok (.putfield 31, 3) := by decide +kernel
theorem dX1_copy_44 : decode cX1_copy 44 = .ok (.aload_n 0, 1) := by decide +kernel
theorem dX1_copy_45 : decode cX1_copy 45 = .ok (.aload_n 1, 1) := by decide +kernel
theorem dX1_copy_46 : decode cX1_copy 46 = .ok (.getfield 34, 3) := by decide +kernel
theorem dX1_copy_49 : decode cX1_copy 49 = .ok (.putfield 34, 3) := by decide +kernel
theorem dX1_copy_52 : decode cX1_copy 52 = .ok (.return_, 1) := by decide +kernel
theorem dX1_become_0 : decode cX1_become 0 = .ok (.aload_n 0, 1) := by decide +kernel
theorem dX1_become_1 : decode cX1_become 1 = .ok (.iload_n 1, 1) := by decide +kernel
theorem dX1_become_2 : decode cX1_become 2 = .ok (.putfield 9, 3) := by decide +kernel
theorem dX1_become_5 : decode cX1_become 5 = .ok (.aload_n 0, 1) := by decide +kernel
theorem dX1_become_6 : decode cX1_become 6 = .ok (.iload_n 2, 1) := by decide +kernel
theorem dX1_become_7 : decode cX1_become 7 = .ok (.putfield 15, 3) := by decide +kernel
theorem dX1_become_10 : decode cX1_become 10 = .ok (.return_, 1) := by decide +kernel
theorem dX1_waited_0 : decode cX1_waited 0 = .ok (.aload_n 0, 1) := by decide +kernel
theorem dX1_waited_1 : decode cX1_waited 1 = .ok (.getfield 31, 3) := by decide +kernel
theorem dX1_waited_4 : decode cX1_waited 4 = .ok (.iconst 2, 1) := by decide +kernel
theorem dX1_waited_5 : decode cX1_waited 5 = .ok (.if_icmp .ne 13, 3) := by decide +kernel
theorem dX1_waited_8 : decode cX1_waited 8 = .ok (.aload_n 0, 1) := by decide +kernel
theorem dX1_waited_9 : decode cX1_waited 9 = .ok (.getfield 34, 3) := by decide +kernel
theorem dX1_waited_12 : decode cX1_waited 12 = .ok (.aload_n 0, 1) := by decide +kernel
theorem dX1_waited_13 : decode cX1_waited 13 = .ok (.getfield 22, 3) := by decide +kernel
theorem dX1_waited_16 : decode cX1_waited 16 = .ok (.isub, 1) := by decide +kernel
theorem dX1_waited_17 : decode cX1_waited 17 = .ok (.ireturn, 1) := by decide +kernel
theorem dX1_waited_18 : decode cX1_waited 18 = .ok (.aload_n 0, 1) := by decide +kernel
theorem dX1_waited_19 : decode cX1_waited 19 = .ok (.getfield 31, 3) := by decide +kernel
theorem dX1_waited_22 : decode cX1_waited 22 = .ok (.iconst 3, 1) := by decide +kernel
theorem dX1_waited_23 : decode cX1_waited 23 = .ok (.if_icmp .ne 10, 3) := by decide +kernel
theorem dX1_waited_26 : decode cX1_waited 26 = .ok (.aload_n 0, 1) := by decide +kernel
theorem dX1_waited_27 : decode cX1_waited 27 = .ok (.getfield 28, 3) := by decide +kernel
theorem dX1_waited_30 : decode cX1_waited 30 = .ok (.goto 4, 3) := by decide +kernel
theorem dX1_waited_33 : decode cX1_waited 33 = .ok (.iconst 0, 1) := by decide +kernel
theorem dX1_waited_34 : decode cX1_waited 34 = .ok (.ireturn, 1) := by decide +kernel
set_option maxRecDepth 20000 in
theorem ggX1_tell_X1_waited : GoodIn wsX1_tell wsX1_waited := goodIn_r _ [11, 6, 12, 3, 5, 13, 14, 15, 16, 17, 18, 19] (by decide +kernel) (by decide +kernel)
set_option maxRecDepth 20000 in
theorem gX1_tell_X1_waited : GoodIn wsX1_tell (wsV RX1 37 RX1 yX1_waited wsX1_waited) := goodIn_app (goodIn_of _ (by decide +kernel)) ggX1_tell_X1_waited
theorem dX1_tell_0 : decode cX1_tell 0 = .ok (.iload_n 1, 1) := by decide +kernel
theorem dX1_tell_1 : decode cX1_tell 1 = .ok (.tableswitch 69 0 5 #[39, 44, 49, 54, 59, 64], 39) := by decide +kernel
theorem dX1_tell_40 : decode cX1_tell 40 = .ok (.aload_n 0, 1) := by decide +kernel
theorem dX1_tell_41 : decode cX1_tell 41 = .ok (.getfield 9, 3) := by decide +kernel
theorem dX1_tell_44 : decode cX1_tell 44 = .ok (.ireturn, 1) := by decide +kernel
theorem dX1_tell_45 : decode cX1_tell 45 = .ok (.aload_n 0, 1) := by decide +kernel
theorem dX1_tell_46 : decode cX1_tell 46 = .ok (.getfield 15, 3) := by decide +kernel
theorem dX1_tell_49 : decode cX1_tell 49 = .ok (.ireturn, 1) := by decide +kernel
theorem dX1_tell_50 : decode cX1_tell 50 = .ok (.aload_n 0, 1) := by decide +kernel
theorem dX1_tell_51 : decode cX1_tell 51 = .ok (.getfield 22, 3) := by decide +kernel
theorem dX1_tell_54 : decode cX1_tell 54 = .ok (.ireturn, 1) := by decide +kernel
theorem dX1_tell_55 : decode cX1_tell 55 = .ok (.aload_n 0, 1) := by decide +kernel
theorem dX1_tell_56 : decode cX1_tell 56 = .ok (.getfield 25, 3) := by decide +kernel
theorem dX1_tell_59 : decode cX1_tell 59 = .ok (.ireturn, 1) := by decide +kernel
theorem dX1_tell_60 : decode cX1_tell 60 = .ok (.aload_n 0, 1) := by decide +kernel
theorem dX1_tell_61 : decode cX1_tell 61 = .ok (.getfield 28, 3) := by decide +kernel
theorem dX1_tell_64 : decode cX1_tell 64 = .ok (.ireturn, 1) := by decide +kernel
theorem dX1_tell_65 : decode cX1_tell 65 = .ok (.aload_n 0, 1) := by decide +kernel
theorem dX1_tell_66 : decode cX1_tell 66 = .ok (.getfield 31, 3) := by decide +kernel
theorem dX1_tell_69 : decode cX1_tell 69 = .ok (.ireturn, 1) := by decide +kernel
theorem dX1_tell_70 : decode cX1_tell 70 = .ok (.aload_n 0, 1) := by decide +kernel
theorem dX1_tell_71 : decode cX1_tell 71 = .ok (.invokevirtual 37, 3) := by decide +kernel
theorem dX1_tell_74 : decode cX1_tell 74 = .ok (.ireturn, 1) := by decide +kernel
set_option maxRecDepth 20000 in
theorem ggX2_init_X1_init : GoodIn wsX2_init wsX1_init := goodIn_r _ [22, 23, 2, 3] (by decide +kernel) (by decide +kernel)
set_option maxRecDepth 20000 in
theorem gX2_init_X1_init_n29 : GoodIn wsX2_init (wsX1_init) := ggX2_init_X1_init
set_option maxRecDepth 20000 in
theorem ggX2_init_X3_init : GoodIn wsX2_init wsX3_init := goodIn_r _ [25, 26, 2, 3] (by decide +kernel) (by decide +kernel)
set_option maxRecDepth 20000 in
theorem gX2_init_X3_init_n36 : GoodIn wsX2_init (wsX3_init) := ggX2_init_X3_init
theorem dX2_init_0 : decode cX2_init 0 = .ok (.aload_n 0, 1) := by decide +kernel
theorem dX2_init_1 : decode cX2_init 1 = .ok (.invokespecial 3, 3) := by decide +kernel
theorem dX2_init_4 : decode cX2_init 4 = .ok (.aload_n 0, 1) := by decide +kernel
theorem dX2_init_5 : decode cX2_init 5 = .ok (.getstatic 9, 3) := by decide +kernel
theorem dX2_init_8 : decode cX2_init 8 = .ok (.invokevirtual 13, 3) := by decide +kernel
theorem dX2_init_11 : decode cX2_init 11 = .ok (.checkcast 14, 3) := by decide +kernel
theorem dX2_init_14 : decode cX2_init 14 = .ok (.putfield 18, 3) := by decide +kernel
theorem dX2_init_17 : decode cX2_init 17 = .ok (.aload_n 0, 1) := by decide +kernel
theorem dX2_init_18 : decode cX2_init 18 = .ok (.bipush 8, 2) := by decide +kernel
theorem dX2_init_20 : decode cX2_init 20 = .ok (.anewarray 23, 3) := by decide +kernel
theorem dX2_init_23 : decode cX2_init 23 = .ok (.putfield 25, 3) := by decide +kernel
theorem dX2_init_26 : decode cX2_init 26 = .ok (.iconst 0, 1) := by decide +kernel
theorem dX2_init_27 : decode cX2_init 27 = .ok (.istore_n 1, 1) := by decide +kernel
theorem dX2_init_28 : decode cX2_init 28 = .ok (.iload_n 1, 1) := by decide +kernel
theorem dX2_init_29 : decode cX2_init 29 = .ok (.aload_n 0, 1) := by decide +kernel
theorem dX2_init_30 : decode cX2_init 30 = .ok (.getfield 25, 3) := by decide +kernel
theorem dX2_init_33 : decode cX2_init 33 = .ok (.arraylength, 1) := by decide +kernel
theorem dX2_init_34 : decode cX2_init 34 = .ok (.if_icmp .ge 22, 3) := by decide +kernel
theorem dX2_init_37 : decode cX2_init 37 = .ok (.aload_n 0, 1) := by decide +kernel
theorem dX2_init_38 : decode cX2_init 38 = .ok (.getfield 25, 3) := by decide +kernel
theorem dX2_init_41 : decode cX2_init 41 = .ok (.iload_n 1, 1) := by decide +kernel
theorem dX2_init_42 : decode cX2_init 42 = .ok (.new 23, 3) := by decide +kernel
theorem dX2_init_45 : decode cX2_init 45 = .ok (.dup, 1) := by decide +kernel
theorem dX2_init_46 : decode cX2_init 46 = .ok (.invokespecial 29, 3) := by decide +kernel
theorem dX2_init_49 : decode cX2_init 49 = .ok (.aastore, 1) := by decide +kernel
theorem dX2_init_50 : decode cX2_init 50 = .ok (.iinc 1 1, 3) := by decide +kernel
theorem dX2_init_53 : decode cX2_init 53 = .ok (.goto (-25), 3) := by decide +kernel
theorem dX2_init_56 : decode cX2_init 56 = .ok (.aload_n 0, 1) := by decide +kernel
theorem dX2_init_57 : decode cX2_init 57 = .ok (.iconst 2, 1) := by decide +kernel
theorem dX2_init_58 : decode cX2_init 58 = .ok (.anewarray 30, 3) := by decide +kernel
theorem dX2_init_61 : decode cX2_init 61 = .ok (.putfield 32, 3) := by decide +kernel
theorem dX2_init_64 : decode cX2_init 64 = .ok (.iconst 0, 1) := by decide +kernel
theorem dX2_init_65 : decode cX2_init 65 = .ok (.istore_n 1, 1) := by decide +kernel
theorem dX2_init_66 : decode cX2_init 66 = .ok (.iload_n 1, 1) := by decide +kernel
theorem dX2_init_67 : decode cX2_init 67 = .ok (.aload_n 0, 1) := by decide +kernel
theorem dX2_init_68 : decode cX2_init 68 = .ok (.getfield 32, 3) := by decide +kernel
theorem dX2_init_71 : decode cX2_init 71 = .ok (.arraylength, 1) := by decide +kernel
theorem dX2_init_72 : decode cX2_init 72 = .ok (.if_icmp .ge 22, 3) := by decide +kernel
theorem dX2_init_75 : decode cX2_init 75 = .ok (.aload_n 0, 1) := by decide +kernel
theorem dX2_init_76 : decode cX2_init 76 = .ok (.getfield 32, 3) := by decide +kernel
theorem dX2_init_79 : decode cX2_init 79 = .ok (.iload_n 1, 1) := by decide +kernel
theorem dX2_init_80 : decode cX2_init 80 = .ok (.new 30, 3) := by decide +kernel
theorem dX2_init_83 : decode cX2_init 83 = .ok (.dup, 1) := by decide +kernel
theorem dX2_init_84 : decode cX2_init 84 = .ok (.invokespecial 36, 3) := by decide +kernel
theorem dX2_init_87 : decode cX2_init 87 = .ok (.aastore, 1) := by decide +kernel
theorem dX2_init_88 : decode cX2_init 88 = .ok (.iinc 1 1, 3) := by decide +kernel
theorem dX2_init_91 : decode cX2_init 91 = .ok (.goto (-25), 3) := by decide +kernel
theorem dX2_init_94 : decode cX2_init 94 = .ok (.aload_n 0, 1) := by decide +kernel
theorem dX2_init_95 : decode cX2_init 95 = .ok (.bipush 8, 2) := by decide +kernel
theorem dX2_init_97 : decode cX2_init 97 = .ok (.newarray .int, 2) := by decide +kernel
theorem dX2_init_99 : decode cX2_init 99 = .ok (.putfield 37, 3) := by decide +kernel
theorem dX2_init_102 : decode cX2_init 102 = .ok (.return_, 1) := by decide +kernel
set_option maxRecDepth 20000 in
theorem ggX2_copy_X1_copy : GoodIn wsX2_copy wsX1_copy := goodIn_r _ [16, 17, 18, 19, 20, 21, 22, 23, 24, 25, 26, 15, 27, 46, 47, 48, 49, 50, 51, 52] (by decide +kernel) (by decide +kernel)
set_option maxRecDepth 20000 in
theorem gX2_copy_X1_copy : GoodIn wsX2_copy (wsV RX2 56 RX1 yX1_copy wsX1_copy) := goodIn_app (goodIn_of _ (by decide +kernel)) ggX2_copy_X1_copy
set_option maxRecDepth 20000 in
theorem ggX2_copy_X3_copy : GoodIn wsX2_copy wsX3_copy := goodIn_r _ [32, 33, 34, 35, 36, 37, 53, 54, 55, 56, 57] (by decide +kernel) (by decide +kernel)
set_option maxRecDepth 20000 in
theorem gX2_copy_X3_copy : GoodIn wsX2_copy (wsV RX2 60 RX3 yX3_copy wsX3_copy) := goodIn_app (goodIn_of _ (by decide +kernel)) ggX2_copy_X3_copy
theorem dX2_copy_0 : decode cX2_copy 0 = .ok (.aload_n 1, 1) := by decide +kernel
theorem dX2_copy_1 : decode cX2_copy 1 = .ok (.getfield 18, 3) := by decide +kernel
theorem dX2_copy_4 : decode cX2_copy 4 = .ok (.iconst 0, 1) := by decide +kernel
theorem dX2_copy_5 : decode cX2_copy 5 = .ok (.aload_n 0, 1) := by decide +kernel
theorem dX2_copy_6 : decode cX2_copy 6 = .ok (.getfield 18, 3) := by decide +kernel
theorem dX2_copy_9 : decode cX2_copy 9 = .ok (.iconst 0, 1) := by decide +kernel
theorem dX2_copy_10 : decode cX2_copy 10 = .ok (.aload_n 0, 1) := by decide +kernel
theorem dX2_copy_11 : decode cX2_copy 11 = .ok (.getfield 18, 3) := by decide +kernel
theorem dX2_copy_14 : decode cX2_copy 14 = .ok (.arraylength, 1) := by decide +kernel
theorem dX2_copy_15 : decode cX2_copy 15 = .ok (.invokestatic 40, 3) := by decide +kernel
theorem dX2_copy_18 : decode cX2_copy 18 = .ok (.aload_n 1, 1) := by decide +kernel
theorem dX2_copy_19 : decode cX2_copy 19 = .ok (.getfield 37, 3) := by decide +kernel
theorem dX2_copy_22 : decode cX2_copy 22 = .ok (.iconst 0, 1) := by decide +kernel
theorem dX2_copy_23 : decode cX2_copy 23 = .ok (.aload_n 0, 1) := by decide +kernel
theorem dX2_copy_24 : decode cX2_copy 24 = .ok (.getfield 37, 3) := by decide +kernel
theorem dX2_copy_27 : decode cX2_copy 27 = .ok (.iconst 0, 1) := by decide +kernel
theorem dX2_copy_28 : decode cX2_copy 28 = .ok (.aload_n 0, 1) := by decide +kernel
theorem dX2_copy_29 : decode cX2_copy 29 = .ok (.getfield 37, 3) := by decide +kernel
theorem dX2_copy_32 : decode cX2_copy 32 = .ok (.arraylength, 1) := by decide +kernel
theorem dX2_copy_33 : decode cX2_copy 33 = .ok (.invokestatic 40, 3) := by decide +kernel
theorem dX2_copy_36 : decode cX2_copy 36 = .ok (.aload_n 0, 1) := by decide +kernel
theorem dX2_copy_37 : decode cX2_copy 37 = .ok (.aload_n 1, 1) := by decide +kernel
theorem dX2_copy_38 : decode cX2_copy 38 = .ok (.getfield 46, 3) := by decide +kernel
theorem dX2_copy_41 : decode cX2_copy 41 = .ok (.putfield 46, 3) := by decide +kernel
theorem dX2_copy_44 : decode cX2_copy 44 = .ok (.aload_n 0, 1) := by decide +kernel
theorem dX2_copy_45 : decode cX2_copy 45 = .ok (.aload_n 1, 1) := by decide +kernel
theorem dX2_copy_46 : decode cX2_copy 46 = .ok (.getfield 50, 3) := by decide +kernel
theorem dX2_copy_49 : decode cX2_copy 49 = .ok (.putfield 50, 3) := by decide +kernel
theorem dX2_copy_52 : decode cX2_copy 52 = .ok (.aload_n 0, 1) := by decide +kernel
theorem dX2_copy_53 : decode cX2_copy 53 = .ok (.aload_n 1, 1) := by decide +kernel
theorem dX2_copy_54 : decode cX2_copy 54 = .ok (.getfield 53, 3) := by decide +kernel
theorem dX2_copy_57 : decode cX2_copy 57 = .ok (.putfield 53, 3) := by decide +kernel
theorem dX2_copy_60 : decode cX2_copy 60 = .ok (.iconst 0, 1) := by decide +kernel
theorem dX2_copy_61 : decode cX2_copy 61 = .ok (.istore_n 2, 1) := by decide +kernel
theorem dX2_copy_62 : decode cX2_copy 62 = .ok (.iload_n 2, 1) := by decide +kernel
theorem dX2_copy_63 : decode cX2_copy 63 = .ok (.aload_n 0, 1) := by decide +kernel
theorem dX2_copy_64 : decode cX2_copy 64 = .ok (.getfield 46, 3) := by decide +kernel
theorem dX2_copy_67 : decode cX2_copy 67 = .ok (.if_icmp .ge 24, 3) := by decide +kernel
theorem dX2_copy_70 : decode cX2_copy 70 = .ok (.aload_n 0, 1) := by decide +kernel
theorem dX2_copy_71 : decode cX2_copy 71 = .ok (.getfield 25, 3) := by decide +kernel
theorem dX2_copy_74 : decode cX2_copy 74 = .ok (.iload_n 2, 1) := by decide +kernel
theorem dX2_copy_75 : decode cX2_copy 75 = .ok (.aaload, 1) := by decide +kernel
theorem dX2_copy_76 : decode cX2_copy 76 = .ok (.aload_n 1, 1) := by decide +kernel
theorem dX2_copy_77 : decode cX2_copy 77 = .ok (.getfield 25, 3) := by decide +kernel
theorem dX2_copy_80 : decode cX2_copy 80 = .ok (.iload_n 2, 1) := by decide +kernel
theorem dX2_copy_81 : decode cX2_copy 81 = .ok (.aaload, 1) := by decide +kernel
theorem dX2_copy_82 : decode cX2_copy 82 = .ok (.invokevirtual 56, 3) := by decide +kernel
theorem dX2_copy_85 : decode cX2_copy 85 = .ok (.iinc 2 1, 3) := by decide +kernel
theorem dX2_copy_88 : decode cX2_copy 88 = .ok (.goto (-26), 3) := by decide +kernel
theorem dX2_copy_91 : decode cX2_copy 91 = .ok (.iconst 0, 1) := by decide +kernel
theorem dX2_copy_92 : decode cX2_copy 92 = .ok (.istore_n 2, 1) := by decide +kernel
theorem dX2_copy_93 : decode cX2_copy 93 = .ok (.iload_n 2, 1) := by decide +kernel
theorem dX2_copy_94 : decode cX2_copy 94 = .ok (.aload_n 0, 1) := by decide +kernel
theorem dX2_copy_95 : decode cX2_copy 95 = .ok (.getfield 32, 3) := by decide +kernel
theorem dX2_copy_98 : decode cX2_copy 98 = .ok (.arraylength, 1) := by decide +kernel
theorem dX2_copy_99 : decode cX2_copy 99 = .ok (.if_icmp .ge 24, 3) := by decide +kernel
theorem dX2_copy_102 : decode cX2_copy 102 = .ok (.aload_n 0, 1) := by decide +kernel
theorem dX2_copy_103 : decode cX2_copy 103 = .ok (.getfield 32, 3) := by decide +kernel
theorem dX2_copy_106 : decode cX2_copy 106 = .ok (.iload_n 2, 1) := by decide +kernel
theorem dX2_copy_107 : decode cX2_copy 107 = .ok (.aaload, 1) := by decide +kernel
theorem dX2_copy_108 : decode cX2_copy 108 = .ok (.aload_n 1, 1) := by decide +kernel
theorem dX2_copy_109 : decode cX2_copy 109 = .ok (.getfield 32, 3) := by decide +kernel
theorem dX2_copy_112 : decode cX2_copy 112 = .ok (.iload_n 2, 1) := by decide +kernel
theorem dX2_copy_113 : decode cX2_copy 113 = .ok (.aaload, 1) := by decide +kernel
theorem dX2_copy_114 : decode cX2_copy 114 = .ok (.invokevirtual 60, 3) := by decide +kernel
theorem dX2_copy_117 : decode cX2_copy 117 = .ok (.iinc 2 1, 3) := by decide +kernel
theorem dX2_copy_120 : decode cX2_copy 120 = .ok (.goto (-27), 3) := by decide +kernel
theorem dX2_copy_123 : decode cX2_copy 123 = .ok (.return_, 1) := by decide +kernel
set_option maxRecDepth 20000 in
theorem ggX2_begin_X3_begin : GoodIn wsX2_begin wsX3_begin := goodIn_r _ [11, 12, 13, 14, 15, 31, 32, 33, 34, 35] (by decide +kernel) (by decide +kernel)
set_option maxRecDepth 20000 in
theorem gX2_begin_X3_begin : GoodIn wsX2_begin (wsV RX2 66 RX3 yX3_begin wsX3_begin) := goodIn_app (goodIn_of _ (by decide +kernel)) ggX2_begin_X3_begin
theorem dX2_begin_0 : decode cX2_begin 0 = .ok (.aload_n 0, 1) := by decide +kernel
theorem dX2_begin_1 : decode cX2_begin 1 = .ok (.iconst 0, 1) := by decide +kernel
theorem dX2_begin_2 : decode cX2_begin 2 = .ok (.putfield 53, 3) := by decide +kernel
theorem dX2_begin_5 : decode cX2_begin 5 = .ok (.aload_n 0, 1) := by decide +kernel
theorem dX2_begin_6 : decode cX2_begin 6 = .ok (.iconst 0, 1) := by decide +kernel
theorem dX2_begin_7 : decode cX2_begin 7 = .ok (.putfield 50, 3) := by decide +kernel
theorem dX2_begin_10 : decode cX2_begin 10 = .ok (.iconst 0, 1) := by decide +kernel
theorem dX2_begin_11 : decode cX2_begin 11 = .ok (.istore_n 1, 1) := by decide +kernel
theorem dX2_begin_12 : decode cX2_begin 12 = .ok (.iload_n 1, 1) := by decide +kernel
theorem dX2_begin_13 : decode cX2_begin 13 = .ok (.aload_n 0, 1) := by decide +kernel
theorem dX2_begin_14 : decode cX2_begin 14 = .ok (.getfield 46, 3) := by decide +kernel
theorem dX2_begin_17 : decode cX2_begin 17 = .ok (.if_icmp .ge 19, 3) := by decide +kernel
theorem dX2_begin_20 : decode cX2_begin 20 = .ok (.aload_n 0, 1) := by decide +kernel
theorem dX2_begin_21 : decode cX2_begin 21 = .ok (.getfield 25, 3) := by decide +kernel
theorem dX2_begin_24 : decode cX2_begin 24 = .ok (.iload_n 1, 1) := by decide +kernel
theorem dX2_begin_25 : decode cX2_begin 25 = .ok (.aaload, 1) := by decide +kernel
theorem dX2_begin_26 : decode cX2_begin 26 = .ok (.iconst 0, 1) := by decide +kernel
theorem dX2_begin_27 : decode cX2_begin 27 = .ok (.putfield 63, 3) := by decide +kernel
theorem dX2_begin_30 : decode cX2_begin 30 = .ok (.iinc 1 1, 3) := by decide +kernel
theorem dX2_begin_33 : decode cX2_begin 33 = .ok (.goto (-21), 3) := by decide +kernel
theorem dX2_begin_36 : decode cX2_begin 36 = .ok (.iconst 0, 1) := by decide +kernel
theorem dX2_begin_37 : decode cX2_begin 37 = .ok (.istore_n 1, 1) := by decide +kernel
theorem dX2_begin_38 : decode cX2_begin 38 = .ok (.iload_n 1, 1) := by decide +kernel
theorem dX2_begin_39 : decode cX2_begin 39 = .ok (.aload_n 0, 1) := by decide +kernel
theorem dX2_begin_40 : decode cX2_begin 40 = .ok (.getfield 32, 3) := by decide +kernel
theorem dX2_begin_43 : decode cX2_begin 43 = .ok (.arraylength, 1) := by decide +kernel
theorem dX2_begin_44 : decode cX2_begin 44 = .ok (.if_icmp .ge 18, 3) := by decide +kernel
theorem dX2_begin_47 : decode cX2_begin 47 = .ok (.aload_n 0, 1) := by decide +kernel
theorem dX2_begin_48 : decode cX2_begin 48 = .ok (.getfield 32, 3) := by decide +kernel
theorem dX2_begin_51 : decode cX2_begin 51 = .ok (.iload_n 1, 1) := by decide +kernel
theorem dX2_begin_52 : decode cX2_begin 52 = .ok (.aaload, 1) := by decide +kernel
theorem dX2_begin_53 : decode cX2_begin 53 = .ok (.invokevirtual 66, 3) := by decide +kernel
theorem dX2_begin_56 : decode cX2_begin 56 = .ok (.iinc 1 1, 3) := by decide +kernel
theorem dX2_begin_59 : decode cX2_begin 59 = .ok (.goto (-21), 3) := by decide +kernel
theorem dX2_begin_62 : decode cX2_begin 62 = .ok (.return_, 1) := by decide +kernel
theorem dX2_hasComer_0 : decode cX2_hasComer 0 = .ok (.iload_n 1, 1) := by decide +kernel
theorem dX2_hasComer_1 : decode cX2_hasComer 1 = .ok (.ifCond .lt 15, 3) := by decide +kernel
theorem dX2_hasComer_4 : decode cX2_hasComer 4 = .ok (.iload_n 1, 1) := by decide +kernel
theorem dX2_hasComer_5 : decode cX2_hasComer 5 = .ok (.aload_n 0, 1) := by decide +kernel
theorem dX2_hasComer_6 : decode cX2_hasComer 6 = .ok (.getfield 46, 3) := by decide +kernel
theorem dX2_hasComer_9 : decode cX2_hasComer 9 = .ok (.if_icmp .ge 7, 3) := by decide +kernel
theorem dX2_hasComer_12 : decode cX2_hasComer 12 = .ok (.iconst 1, 1) := by decide +kernel
theorem dX2_hasComer_13 : decode cX2_hasComer 13 = .ok (.goto 4, 3) := by decide +kernel
theorem dX2_hasComer_16 : decode cX2_hasComer 16 = .ok (.iconst 0, 1) := by decide +kernel
theorem dX2_hasComer_17 : decode cX2_hasComer 17 = .ok (.ireturn, 1) := by decide +kernel
theorem dX2_kettlesInUse_0 : decode cX2_kettlesInUse 0 = .ok (.aload_n 0, 1) := by decide +kernel
theorem dX2_kettlesInUse_1 : decode cX2_kettlesInUse 1 = .ok (.getfield 18, 3) := by decide +kernel
theorem dX2_kettlesInUse_4 : decode cX2_kettlesInUse 4 = .ok (.bipush 7, 2) := by decide +kernel
theorem dX2_kettlesInUse_6 : decode cX2_kettlesInUse 6 = .ok (.iaload, 1) := by decide +kernel
theorem dX2_kettlesInUse_7 : decode cX2_kettlesInUse 7 = .ok (.ireturn, 1) := by decide +kernel
set_option maxRecDepth 20000 in
theorem ggX2_settingRefusal_X2_highestLevel : GoodIn wsX2_settingRefusal wsX2_highestLevel := goodIn_r _ [7, 8, 9, 10, 11, 12, 13, 14, 15, 16, 6, 17, 1, 18, 19, 20, 21, 22, 23, 24, 25, 26, 27, 28, 29, 30] (by decide +kernel) (by decide +kernel)
set_option maxRecDepth 20000 in
theorem gX2_settingRefusal_X2_highestLevel : GoodIn wsX2_settingRefusal (wsV RX2 75 RX2 yX2_highestLevel wsX2_highestLevel) := goodIn_app (goodIn_of _ (by decide +kernel)) ggX2_settingRefusal_X2_highestLevel
theorem dX2_settingRefusal_0 : decode cX2_settingRefusal 0 = .ok (.iload_n 1, 1) := by decide +kernel
theorem dX2_settingRefusal_1 : decode cX2_settingRefusal 1 = .ok (.ifCond .lt 12, 3) := by decide +kernel
theorem dX2_settingRefusal_4 : decode cX2_settingRefusal 4 = .ok (.iload_n 1, 1) := by decide +kernel
theorem dX2_settingRefusal_5 : decode cX2_settingRefusal 5 = .ok (.aload_n 0, 1) := by decide +kernel
theorem dX2_settingRefusal_6 : decode cX2_settingRefusal 6 = .ok (.getfield 18, 3) := by decide +kernel
theorem dX2_settingRefusal_9 : decode cX2_settingRefusal 9 = .ok (.arraylength, 1) := by decide +kernel
theorem dX2_settingRefusal_10 : decode cX2_settingRefusal 10 = .ok (.if_icmp .lt 5, 3) := by decide +kernel
theorem dX2_settingRefusal_13 : decode cX2_settingRefusal 13 = .ok (.iconst (-1), 1) := by decide +kernel
theorem dX2_settingRefusal_14 : decode cX2_settingRefusal 14 = .ok (.ireturn, 1) := by decide +kernel
theorem dX2_settingRefusal_15 : decode cX2_settingRefusal 15 = .ok (.iload_n 2, 1) := by decide +kernel
theorem dX2_settingRefusal_16 : decode cX2_settingRefusal 16 = .ok (.getstatic 69, 3) := by decide +kernel
theorem dX2_settingRefusal_19 : decode cX2_settingRefusal 19 = .ok (.iload_n 1, 1) := by decide +kernel
theorem dX2_settingRefusal_20 : decode cX2_settingRefusal 20 = .ok (.iaload, 1) := by decide +kernel
theorem dX2_settingRefusal_21 : decode cX2_settingRefusal 21 = .ok (.if_icmp .ge 6, 3) := by decide +kernel
theorem dX2_settingRefusal_24 : decode cX2_settingRefusal 24 = .ok (.bipush (-4), 2) := by decide +kernel
theorem dX2_settingRefusal_26 : decode cX2_settingRefusal 26 = .ok (.ireturn, 1) := by decide +kernel
theorem dX2_settingRefusal_27 : decode cX2_settingRefusal 27 = .ok (.iload_n 2, 1) := by decide +kernel
theorem dX2_settingRefusal_28 : decode cX2_settingRefusal 28 = .ok (.getstatic 72, 3) := by decide +kernel
theorem dX2_settingRefusal_31 : decode cX2_settingRefusal 31 = .ok (.iload_n 1, 1) := by decide +kernel
theorem dX2_settingRefusal_32 : decode cX2_settingRefusal 32 = .ok (.iaload, 1) := by decide +kernel
theorem dX2_settingRefusal_33 : decode cX2_settingRefusal 33 = .ok (.if_icmp .le 6, 3) := by decide +kernel
theorem dX2_settingRefusal_36 : decode cX2_settingRefusal 36 = .ok (.bipush (-6), 2) := by decide +kernel
theorem dX2_settingRefusal_38 : decode cX2_settingRefusal 38 = .ok (.ireturn, 1) := by decide +kernel
theorem dX2_settingRefusal_39 : decode cX2_settingRefusal 39 = .ok (.iload_n 1, 1) := by decide +kernel
theorem dX2_settingRefusal_40 : decode cX2_settingRefusal 40 = .ok (.ifCond .ne 15, 3) := by decide +kernel
theorem dX2_settingRefusal_43 : decode cX2_settingRefusal 43 = .ok (.iload_n 2, 1) := by decide +kernel
theorem dX2_settingRefusal_44 : decode cX2_settingRefusal 44 = .ok (.aload_n 0, 1) := by decide +kernel
theorem dX2_settingRefusal_45 : decode cX2_settingRefusal 45 = .ok (.invokevirtual 75, 3) := by decide +kernel
theorem dX2_settingRefusal_48 : decode cX2_settingRefusal 48 = .ok (.if_icmp .ge 7, 3) := by decide +kernel
theorem dX2_settingRefusal_51 : decode cX2_settingRefusal 51 = .ok (.iconst 1, 1) := by decide +kernel
theorem dX2_settingRefusal_52 : decode cX2_settingRefusal 52 = .ok (.goto 4, 3) := by decide +kernel
theorem dX2_settingRefusal_55 : decode cX2_settingRefusal 55 = .ok (.iconst 0, 1) := by decide +kernel
theorem dX2_settingRefusal_56 : decode cX2_settingRefusal 56 = .ok (.istore_n 3, 1) := by decide +kernel
theorem dX2_settingRefusal_57 : decode cX2_settingRefusal 57 = .ok (.iload_n 1, 1) := by decide +kernel
theorem dX2_settingRefusal_58 : decode cX2_settingRefusal 58 = .ok (.bipush 7, 2) := by decide +kernel
theorem dX2_settingRefusal_60 : decode cX2_settingRefusal 60 = .ok (.if_icmp .ne 25, 3) := by decide +kernel
theorem dX2_settingRefusal_63 : decode cX2_settingRefusal 63 = .ok (.iload_n 2, 1) := by decide +kernel
theorem dX2_settingRefusal_64 : decode cX2_settingRefusal 64 = .ok (.aload_n 0, 1) := by decide +kernel
theorem dX2_settingRefusal_65 : decode cX2_settingRefusal 65 = .ok (.getfield 18, 3) := by decide +kernel
theorem dX2_settingRefusal_68 : decode cX2_settingRefusal 68 = .ok (.bipush 7, 2) := by decide +kernel
theorem dX2_settingRefusal_70 : decode cX2_settingRefusal 70 = .ok (.iaload, 1) := by decide +kernel
theorem dX2_settingRefusal_71 : decode cX2_settingRefusal 71 = .ok (.if_icmp .eq 14, 3) := by decide +kernel
theorem dX2_settingRefusal_74 : decode cX2_settingRefusal 74 = .ok (.aload_n 0, 1) := by decide +kernel
theorem dX2_settingRefusal_75 : decode cX2_settingRefusal 75 = .ok (.getfield 53, 3) := by decide +kernel
theorem dX2_settingRefusal_78 : decode cX2_settingRefusal 78 = .ok (.ifCond .eq 7, 3) := by decide +kernel
theorem dX2_settingRefusal_81 : decode cX2_settingRefusal 81 = .ok (.iconst 1, 1) := by decide +kernel
theorem dX2_settingRefusal_82 : decode cX2_settingRefusal 82 = .ok (.goto 4, 3) := by decide +kernel
theorem dX2_settingRefusal_85 : decode cX2_settingRefusal 85 = .ok (.iconst 0, 1) := by decide +kernel
theorem dX2_settingRefusal_86 : decode cX2_settingRefusal 86 = .ok (.istore 4, 2) := by decide +kernel
theorem dX2_settingRefusal_88 : decode cX2_settingRefusal 88 = .ok (.iload_n 3, 1) := by decide +kernel
theorem dX2_settingRefusal_89 : decode cX2_settingRefusal 89 = .ok (.ifCond .ne 8, 3) := by decide +kernel
theorem dX2_settingRefusal_92 : decode cX2_settingRefusal 92 = .ok (.iload 4, 2) := by decide +kernel
theorem dX2_settingRefusal_94 : decode cX2_settingRefusal 94 = .ok (.ifCond .eq 8, 3) := by decide +kernel
theorem dX2_settingRefusal_97 : decode cX2_settingRefusal 97 = .ok (.bipush (-3), 2) := by decide +kernel
theorem dX2_settingRefusal_99 : decode cX2_settingRefusal 99 = .ok (.goto 4, 3) := by decide +kernel
theorem dX2_settingRefusal_102 : decode cX2_settingRefusal 102 = .ok (.iconst 0, 1) := by decide +kernel
theorem dX2_settingRefusal_103 : decode cX2_settingRefusal 103 = .ok (.ireturn, 1) := by decide +kernel
theorem dX2_change_0 : decode cX2_change 0 = .ok (.aload_n 0, 1) := by decide +kernel
theorem dX2_change_1 : decode cX2_change 1 = .ok (.getfield 18, 3) := by decide +kernel
theorem dX2_change_4 : decode cX2_change 4 = .ok (.iload_n 1, 1) := by decide +kernel
theorem dX2_change_5 : decode cX2_change 5 = .ok (.iaload, 1) := by decide +kernel
theorem dX2_change_6 : decode cX2_change 6 = .ok (.istore_n 3, 1) := by decide +kernel
theorem dX2_change_7 : decode cX2_change 7 = .ok (.aload_n 0, 1) := by decide +kernel
theorem dX2_change_8 : decode cX2_change 8 = .ok (.getfield 18, 3) := by decide +kernel
theorem dX2_change_11 : decode cX2_change 11 = .ok (.iload_n 1, 1) := by decide +kernel
theorem dX2_change_12 : decode cX2_change 12 = .ok (.iload_n 2, 1) := by decide +kernel
theorem dX2_change_13 : decode cX2_change 13 = .ok (.iastore, 1) := by decide +kernel
theorem dX2_change_14 : decode cX2_change 14 = .ok (.iload_n 3, 1) := by decide +kernel
theorem dX2_change_15 : decode cX2_change 15 = .ok (.ireturn, 1) := by decide +kernel
set_option maxRecDepth 20000 in
theorem ggX2_add_X1_become : GoodIn wsX2_add wsX1_become := goodIn_r _ [12, 13, 14, 23, 24, 25, 26, 27, 28, 29] (by decide +kernel) (by decide +kernel)
set_option maxRecDepth 20000 in
theorem gX2_add_X1_become : GoodIn wsX2_add (wsV RX2 79 RX1 yX1_become wsX1_become) := goodIn_app (goodIn_of _ (by decide +kernel)) ggX2_add_X1_become
theorem dX2_add_0 : decode cX2_add 0 = .ok (.aload_n 0, 1) := by decide +kernel
theorem dX2_add_1 : decode cX2_add 1 = .ok (.getfield 46, 3) := by decide +kernel
theorem dX2_add_4 : decode cX2_add 4 = .ok (.aload_n 0, 1) := by decide +kernel
theorem dX2_add_5 : decode cX2_add 5 = .ok (.getfield 25, 3) := by decide +kernel
theorem dX2_add_8 : decode cX2_add 8 = .ok (.arraylength, 1) := by decide +kernel
theorem dX2_add_9 : decode cX2_add 9 = .ok (.if_icmp .ge 46, 3) := by decide +kernel
theorem dX2_add_12 : decode cX2_add 12 = .ok (.iload_n 1, 1) := by decide +kernel
theorem dX2_add_13 : decode cX2_add 13 = .ok (.bipush 7, 2) := by decide +kernel
theorem dX2_add_15 : decode cX2_add 15 = .ok (.if_icmp .ge 40, 3) := by decide +kernel
theorem dX2_add_18 : decode cX2_add 18 = .ok (.iload_n 3, 1) := by decide +kernel
theorem dX2_add_19 : decode cX2_add 19 = .ok (.bipush 120, 2) := by decide +kernel
theorem dX2_add_21 : decode cX2_add 21 = .ok (.if_icmp .ge 34, 3) := by decide +kernel
theorem dX2_add_24 : decode cX2_add 24 = .ok (.iload_n 3, 1) := by decide +kernel
theorem dX2_add_25 : decode cX2_add 25 = .ok (.aload_n 0, 1) := by decide +kernel
theorem dX2_add_26 : decode cX2_add 26 = .ok (.getfield 53, 3) := by decide +kernel
theorem dX2_add_29 : decode cX2_add 29 = .ok (.if_icmp .lt 26, 3) := by decide +kernel
theorem dX2_add_32 : decode cX2_add 32 = .ok (.iload 4, 2) := by decide +kernel
theorem dX2_add_34 : decode cX2_add 34 = .ok (.iconst 1, 1) := by decide +kernel
theorem dX2_add_35 : decode cX2_add 35 = .ok (.if_icmp .lt 20, 3) := by decide +kernel
theorem dX2_add_38 : decode cX2_add 38 = .ok (.iload 4, 2) := by decide +kernel
theorem dX2_add_40 : decode cX2_add 40 = .ok (.iconst 3, 1) := by decide +kernel
theorem dX2_add_41 : decode cX2_add 41 = .ok (.if_icmp .gt 14, 3) := by decide +kernel
theorem dX2_add_44 : decode cX2_add 44 = .ok (.iload 5, 2) := by decide +kernel
theorem dX2_add_46 : decode cX2_add 46 = .ok (.bipush 30, 2) := by decide +kernel
theorem dX2_add_48 : decode cX2_add 48 = .ok (.if_icmp .gt 7, 3) := by decide +kernel
theorem dX2_add_51 : decode cX2_add 51 = .ok (.iconst 1, 1) := by decide +kernel
theorem dX2_add_52 : decode cX2_add 52 = .ok (.goto 4, 3) := by decide +kernel
theorem dX2_add_55 : decode cX2_add 55 = .ok (.iconst 0, 1) := by decide +kernel
theorem dX2_add_56 : decode cX2_add 56 = .ok (.istore 6, 2) := by decide +kernel
theorem dX2_add_58 : decode cX2_add 58 = .ok (.iload 6, 2) := by decide +kernel
theorem dX2_add_60 : decode cX2_add 60 = .ok (.ifCond .eq 57, 3) := by decide +kernel
theorem dX2_add_63 : decode cX2_add 63 = .ok (.aload_n 0, 1) := by decide +kernel
theorem dX2_add_64 : decode cX2_add 64 = .ok (.getfield 25, 3) := by decide +kernel
theorem dX2_add_67 : decode cX2_add 67 = .ok (.aload_n 0, 1) := by decide +kernel
theorem dX2_add_68 : decode cX2_add 68 = .ok (.getfield 46, 3) := by decide +kernel
theorem dX2_add_71 : decode cX2_add 71 = .ok (.aaload, 1) := by decide +kernel
theorem dX2_add_72 : decode cX2_add 72 = .ok (.astore 7, 2) := by decide +kernel
theorem dX2_add_74 : decode cX2_add 74 = .ok (.aload 7, 2) := by decide +kernel
theorem dX2_add_76 : decode cX2_add 76 = .ok (.iload_n 1, 1) := by decide +kernel
theorem dX2_add_77 : decode cX2_add 77 = .ok (.iload_n 2, 1) := by decide +kernel
theorem dX2_add_78 : decode cX2_add 78 = .ok (.invokevirtual 79, 3) := by decide +kernel
theorem dX2_add_81 : decode cX2_add 81 = .ok (.aload 7, 2) := by decide +kernel
theorem dX2_add_83 : decode cX2_add 83 = .ok (.iload_n 3, 1) := by decide +kernel
theorem dX2_add_84 : decode cX2_add 84 = .ok (.putfield 83, 3) := by decide +kernel
theorem dX2_add_87 : decode cX2_add 87 = .ok (.aload 7, 2) := by decide +kernel
theorem dX2_add_89 : decode cX2_add 89 = .ok (.iload 4, 2) := by decide +kernel
theorem dX2_add_91 : decode cX2_add 91 = .ok (.putfield 84, 3) := by decide +kernel
theorem dX2_add_94 : decode cX2_add 94 = .ok (.aload 7, 2) := by decide +kernel
theorem dX2_add_96 : decode cX2_add 96 = .ok (.iload 5, 2) := by decide +kernel
theorem dX2_add_98 : decode cX2_add 98 = .ok (.putfield 87, 3) := by decide +kernel
theorem dX2_add_101 : decode cX2_add 101 = .ok (.aload 7, 2) := by decide +kernel
theorem dX2_add_103 : decode cX2_add 103 = .ok (.iconst 0, 1) := by decide +kernel
theorem dX2_add_104 : decode cX2_add 104 = .ok (.putfield 63, 3) := by decide +kernel
theorem dX2_add_107 : decode cX2_add 107 = .ok (.aload_n 0, 1) := by decide +kernel
theorem dX2_add_108 : decode cX2_add 108 = .ok (.dup, 1) := by decide +kernel
theorem dX2_add_109 : decode cX2_add 109 = .ok (.getfield 46, 3) := by decide +kernel
theorem dX2_add_112 : decode cX2_add 112 = .ok (.iconst 1, 1) := by decide +kernel
theorem dX2_add_113 : decode cX2_add 113 = .ok (.iadd, 1) := by decide +kernel
theorem dX2_add_114 : decode cX2_add 114 = .ok (.putfield 46, 3) := by decide +kernel
theorem dX2_add_117 : decode cX2_add 117 = .ok (.iload 6, 2) := by decide +kernel
theorem dX2_add_119 : decode cX2_add 119 = .ok (.ireturn, 1) := by decide +kernel
set_option maxRecDepth 20000 in
theorem ggX2_isOver_X2_comersWith : GoodIn wsX2_isOver wsX2_comersWith := goodIn_r _ [7, 8, 9, 10, 27, 28, 29, 30, 31, 32, 33, 34, 35, 36, 37, 38, 39, 40, 41] (by decide +kernel) (by decide +kernel)
set_option maxRecDepth 20000 in
theorem gX2_isOver_X2_comersWith : GoodIn wsX2_isOver (wsV RX2 90 RX2 yX2_comersWith wsX2_comersWith) := goodIn_app (goodIn_of _ (by decide +kernel)) ggX2_isOver_X2_comersWith
set_option maxRecDepth 20000 in
theorem ggX2_isOver_X2_allFree : GoodIn wsX2_isOver wsX2_allFree := goodIn_r _ [14, 15, 1, 16, 17, 18, 6, 19, 20, 21, 22, 23, 24, 25, 26, 27, 28, 29, 30, 31, 32, 33, 34, 42, 43, 44, 45, 46] (by decide +kernel) (by decide +kernel)
set_option maxRecDepth 20000 in
theorem gX2_isOver_X2_allFree : GoodIn wsX2_isOver (wsV RX2 94 RX2 yX2_allFree wsX2_allFree) := goodIn_app (goodIn_of _ (by decide +kernel)) ggX2_isOver_X2_allFree
theorem dX2_isOver_0 : decode cX2_isOver 0 = .ok (.aload_n 0, 1) := by decide +kernel
theorem dX2_isOver_1 : decode cX2_isOver 1 = .ok (.getfield 53, 3) := by decide +kernel
theorem dX2_isOver_4 : decode cX2_isOver 4 = .ok (.sipush 180, 3) := by decide +kernel
theorem dX2_isOver_7 : decode cX2_isOver 7 = .ok (.if_icmp .ge 25, 3) := by decide +kernel
theorem dX2_isOver_10 : decode cX2_isOver 10 = .ok (.aload_n 0, 1) := by decide +kernel
theorem dX2_isOver_11 : decode cX2_isOver 11 = .ok (.getfield 50, 3) := by decide +kernel
theorem dX2_isOver_14 : decode cX2_isOver 14 = .ok (.ifCond .ne 22, 3) := by decide +kernel
theorem dX2_isOver_17 : decode cX2_isOver 17 = .ok (.aload_n 0, 1) := by decide +kernel
theorem dX2_isOver_18 : decode cX2_isOver 18 = .ok (.iconst 0, 1) := by decide +kernel
theorem dX2_isOver_19 : decode cX2_isOver 19 = .ok (.invokevirtual 90, 3) := by decide +kernel
theorem dX2_isOver_22 : decode cX2_isOver 22 = .ok (.ifCond .ne 14, 3) := by decide +kernel
theorem dX2_isOver_25 : decode cX2_isOver 25 = .ok (.aload_n 0, 1) := by decide +kernel
theorem dX2_isOver_26 : decode cX2_isOver 26 = .ok (.invokevirtual 94, 3) := by decide +kernel
theorem dX2_isOver_29 : decode cX2_isOver 29 = .ok (.ifCond .eq 7, 3) := by decide +kernel
theorem dX2_isOver_32 : decode cX2_isOver 32 = .ok (.iconst 1, 1) := by decide +kernel
theorem dX2_isOver_33 : decode cX2_isOver 33 = .ok (.goto 4, 3) := by decide +kernel
theorem dX2_isOver_36 : decode cX2_isOver 36 = .ok (.iconst 0, 1) := by decide +kernel
theorem dX2_isOver_37 : decode cX2_isOver 37 = .ok (.ireturn, 1) := by decide +kernel
set_option maxRecDepth 20000 in
theorem ggX2_allFree_X2_kettlesInUse : GoodIn wsX2_allFree wsX2_kettlesInUse := goodIn_r _ [7, 8, 15, 16, 17, 18, 19, 20, 21, 22] (by decide +kernel) (by decide +kernel)
set_option maxRecDepth 20000 in
theorem gX2_allFree_X2_kettlesInUse : GoodIn wsX2_allFree (wsV RX2 98 RX2 yX2_kettlesInUse wsX2_kettlesInUse) := goodIn_app (goodIn_of _ (by decide +kernel)) ggX2_allFree_X2_kettlesInUse
set_option maxRecDepth 20000 in
theorem ggX2_allFree_X3_isFree : GoodIn wsX2_allFree wsX3_isFree := goodIn_r _ [13, 14, 23, 24, 25, 26, 27] (by decide +kernel) (by decide +kernel)
set_option maxRecDepth 20000 in
theorem gX2_allFree_X3_isFree : GoodIn wsX2_allFree (wsV RX2 101 RX3 yX3_isFree wsX3_isFree) := goodIn_app (goodIn_of _ (by decide +kernel)) ggX2_allFree_X3_isFree
theorem dX2_allFree_0 : decode cX2_allFree 0 = .ok (.iconst 0, 1) := by decide +kernel
theorem dX2_allFree_1 : decode cX2_allFree 1 = .ok (.istore_n 1, 1) := by decide +kernel
theorem dX2_allFree_2 : decode cX2_allFree 2 = .ok (.iload_n 1, 1) := by decide +kernel
theorem dX2_allFree_3 : decode cX2_allFree 3 = .ok (.aload_n 0, 1) := by decide +kernel
theorem dX2_allFree_4 : decode cX2_allFree 4 = .ok (.invokevirtual 98, 3) := by decide +kernel
theorem dX2_allFree_7 : decode cX2_allFree 7 = .ok (.if_icmp .ge 27, 3) := by decide +kernel
theorem dX2_allFree_10 : decode cX2_allFree 10 = .ok (.aload_n 0, 1) := by decide +kernel
theorem dX2_allFree_11 : decode cX2_allFree 11 = .ok (.getfield 32, 3) := by decide +kernel
theorem dX2_allFree_14 : decode cX2_allFree 14 = .ok (.iload_n 1, 1) := by decide +kernel
theorem dX2_allFree_15 : decode cX2_allFree 15 = .ok (.aaload, 1) := by decide +kernel
theorem dX2_allFree_16 : decode cX2_allFree 16 = .ok (.aload_n 0, 1) := by decide +kernel
theorem dX2_allFree_17 : decode cX2_allFree 17 = .ok (.getfield 53, 3) := by decide +kernel
theorem dX2_allFree_20 : decode cX2_allFree 20 = .ok (.invokevirtual 101, 3) := by decide +kernel
theorem dX2_allFree_23 : decode cX2_allFree 23 = .ok (.ifCond .ne 5, 3) := by decide +kernel
theorem dX2_allFree_26 : decode cX2_allFree 26 = .ok (.iconst 0, 1) := by decide +kernel
theorem dX2_allFree_27 : decode cX2_allFree 27 = .ok (.ireturn, 1) := by decide +kernel
theorem dX2_allFree_28 : decode cX2_allFree 28 = .ok (.iinc 1 1, 3) := by decide +kernel
theorem dX2_allFree_31 : decode cX2_allFree 31 = .ok (.goto (-29), 3) := by decide +kernel
theorem dX2_allFree_34 : decode cX2_allFree 34 = .ok (.iconst 1, 1) := by decide +kernel
theorem dX2_allFree_35 : decode cX2_allFree 35 = .ok (.ireturn, 1) := by decide +kernel
set_option maxRecDepth 20000 in
theorem ggX2_pass_X2_isOver : GoodIn wsX2_pass wsX2_isOver := goodIn_r _ [5, 6, 7, 8, 9, 10, 4, 11, 12, 13, 14, 15, 16, 17, 18, 19, 20, 21, 22, 23, 24, 25, 26, 27, 28, 29, 30, 124, 125, 126, 127, 128, 129, 130, 131, 132, 133, 134, 135, 136, 137, 138, 139, 140, 141, 142, 143] (by decide +kernel) (by decide +kernel)
set_option maxRecDepth 20000 in
theorem gX2_pass_X2_isOver : GoodIn wsX2_pass (wsV RX2 105 RX2 yX2_isOver wsX2_isOver) := goodIn_app (goodIn_of _ (by decide +kernel)) ggX2_pass_X2_isOver
set_option maxRecDepth 20000 in
theorem ggX2_pass_X2_passMinute : GoodIn wsX2_pass wsX2_passMinute := goodIn_r _ [34, 7, 35, 6, 36, 37, 38, 4, 39, 12, 13, 14, 40, 41, 42, 43, 44, 45, 46, 47, 48, 49, 50, 51, 52, 53, 54, 55, 56, 57, 58, 59, 60, 19, 20, 21, 22, 23, 24, 61, 62, 63, 28, 64, 30, 65, 66, 67, 68, 69, 70, 71, 72, 73, 74, 75, 76, 25, 26, 27, 29, 77, 78, 79, 80, 81, 82, 83, 84, 85, 86, 87, 88, 89, 90, 91, 92, 93, 94, 95, 96, 97, 98, 99, 100, 101, 102, 103, 104, 105, 106, 107, 108, 109, 110, 111, 112, 113, 114, 115, 116, 117, 118, 119, 120, 121, 122, 123, 124, 125, 126, 127, 128, 129, 130, 131, 132, 133, 134, 135, 136, 137, 138, 139, 140, 141, 142, 143] (by decide +kernel) (by decide +kernel)
set_option maxRecDepth 20000 in
theorem gX2_pass_X2_passMinute : GoodIn wsX2_pass (wsV RX2 108 RX2 yX2_passMinute wsX2_passMinute) := goodIn_app (goodIn_of _ (by decide +kernel)) ggX2_pass_X2_passMinute
theorem dX2_pass_0 : decode cX2_pass 0 = .ok (.iconst 0, 1) := by decide +kernel
theorem dX2_pass_1 : decode cX2_pass 1 = .ok (.istore_n 2, 1) := by decide +kernel
theorem dX2_pass_2 : decode cX2_pass 2 = .ok (.iload_n 2, 1) := by decide +kernel
theorem dX2_pass_3 : decode cX2_pass 3 = .ok (.iload_n 1, 1) := by decide +kernel
theorem dX2_pass_4 : decode cX2_pass 4 = .ok (.if_icmp .ge 20, 3) := by decide +kernel
theorem dX2_pass_7 : decode cX2_pass 7 = .ok (.aload_n 0, 1) := by decide +kernel
theorem dX2_pass_8 : decode cX2_pass 8 = .ok (.invokevirtual 105, 3) := by decide +kernel
theorem dX2_pass_11 : decode cX2_pass 11 = .ok (.ifCond .ne 13, 3) := by decide +kernel
theorem dX2_pass_14 : decode cX2_pass 14 = .ok (.aload_n 0, 1) := by decide +kernel
theorem dX2_pass_15 : decode cX2_pass 15 = .ok (.invokevirtual 108, 3) := by decide +kernel
theorem dX2_pass_18 : decode cX2_pass 18 = .ok (.iinc 2 1, 3) := by decide +kernel
theorem dX2_pass_21 : decode cX2_pass 21 = .ok (.goto (-19), 3) := by decide +kernel
theorem dX2_pass_24 : decode cX2_pass 24 = .ok (.return_, 1) := by decide +kernel
set_option maxRecDepth 20000 in
theorem ggX2_passMinute_X2_lineUp : GoodIn wsX2_passMinute wsX2_lineUp := goodIn_r _ [8, 9, 10, 11, 12, 3, 1, 2, 108, 109, 110, 111, 112, 113, 114, 115, 116, 117, 118, 119, 120, 121, 122] (by decide +kernel) (by decide +kernel)
set_option maxRecDepth 20000 in
theorem gX2_passMinute_X2_lineUp : GoodIn wsX2_passMinute (wsV RX2 111 RX2 yX2_lineUp wsX2_lineUp) := goodIn_app (goodIn_of _ (by decide +kernel)) ggX2_passMinute_X2_lineUp
set_option maxRecDepth 20000 in
theorem ggX2_passMinute_X2_loseImpatient : GoodIn wsX2_passMinute wsX2_loseImpatient := goodIn_r _ [16, 1, 10, 2, 3, 12, 17, 11, 18, 19, 20, 7, 21, 108, 109, 110, 111, 112, 113, 114, 115, 116, 117, 118, 119, 120, 121, 122] (by decide +kernel) (by decide +kernel)
set_option maxRecDepth 20000 in
theorem gX2_passMinute_X2_loseImpatient : GoodIn wsX2_passMinute (wsV RX2 114 RX2 yX2_loseImpatient wsX2_loseImpatient) := goodIn_app (goodIn_of _ (by decide +kernel)) ggX2_passMinute_X2_loseImpatient
set_option maxRecDepth 20000 in
theorem ggX2_passMinute_X2_serve : GoodIn wsX2_passMinute wsX2_serve := goodIn_r _ [25, 10, 26, 27, 11, 3, 28, 29, 30, 31, 7, 32, 33, 34, 35, 36, 37, 38, 39, 40, 41, 42, 43, 44, 45, 46, 108, 109, 110, 111, 112, 113, 114, 115, 116, 117, 118, 119, 120, 121, 122, 123, 124, 125, 126, 127] (by decide +kernel) (by decide +kernel)
set_option maxRecDepth 20000 in
theorem gX2_passMinute_X2_serve : GoodIn wsX2_passMinute (wsV RX2 117 RX2 yX2_serve wsX2_serve) := goodIn_app (goodIn_of _ (by decide +kernel)) ggX2_passMinute_X2_serve
set_option maxRecDepth 20000 in
theorem ggX2_passMinute_X2_boil : GoodIn wsX2_passMinute wsX2_boil := goodIn_r _ [50, 10, 51, 3, 27, 38, 52, 53, 54, 55, 7, 56, 33, 34, 35, 36, 37, 57, 58, 59, 42, 60, 44, 61, 62, 63, 64, 65, 66, 67, 68, 69, 26, 70, 71, 72, 73, 74, 75, 76, 77, 78, 79, 80, 81, 9, 11, 82, 83, 84, 85, 12, 86, 87, 88, 89, 46, 45, 90, 91, 92, 93, 94, 95, 96, 97, 98, 108, 109, 110, 111, 112, 113, 114, 115, 116, 117, 118, 119, 120, 121, 122, 123, 124, 125, 126, 127] (by decide +kernel) (by decide +kernel)
set_option maxRecDepth 20000 in
theorem gX2_passMinute_X2_boil : GoodIn wsX2_passMinute (wsV RX2 120 RX2 yX2_boil wsX2_boil) := goodIn_app (goodIn_of _ (by decide +kernel)) ggX2_passMinute_X2_boil
set_option maxRecDepth 20000 in
theorem ggX2_passMinute_X2_closeUp : GoodIn wsX2_passMinute wsX2_closeUp := goodIn_r _ [21, 1, 10, 2, 11, 108, 109, 110, 111, 112, 113, 114, 115, 116, 117, 118, 119, 120, 121, 122] (by decide +kernel) (by decide +kernel)
set_option maxRecDepth 20000 in
theorem gX2_passMinute_X2_closeUp : GoodIn wsX2_passMinute (wsV RX2 124 RX2 yX2_closeUp wsX2_closeUp) := goodIn_app (goodIn_of _ (by decide +kernel)) ggX2_passMinute_X2_closeUp
set_option maxRecDepth 20000 in
theorem ggX2_passMinute_X2_coolDown : GoodIn wsX2_passMinute wsX2_coolDown := goodIn_r _ [102, 33, 27, 3, 38, 34, 35, 36, 7, 37, 57, 58, 59, 42, 60, 44, 103, 104, 105, 106, 94, 45, 107, 72, 73, 74, 108, 109, 110, 111, 112, 113, 114, 115, 123, 124, 125, 126, 127] (by decide +kernel) (by decide +kernel)
set_option maxRecDepth 20000 in
theorem gX2_passMinute_X2_coolDown : GoodIn wsX2_passMinute (wsV RX2 127 RX2 yX2_coolDown wsX2_coolDown) := goodIn_app (goodIn_of _ (by decide +kernel)) ggX2_passMinute_X2_coolDown
