theorem dX0_init_0 : decode cX0_init 0 = .ok (.aload_n 0, 1) := by decide +kernel
theorem dX0_init_1 : decode cX0_init 1 = .ok (.invokespecial 3, 3) := by decide +kernel
theorem dX0_init_4 : decode cX0_init 4 = .ok (.aload_n 0, 1) := by decide +kernel
theorem dX0_init_5 : decode cX0_init 5 = .ok (.bipush 8, 2) := by decide +kernel
theorem dX0_init_7 : decode cX0_init 7 = .ok (.newarray .int, 2) := by decide +kernel
theorem dX0_init_9 : decode cX0_init 9 = .ok (.putfield 9, 3) := by decide +kernel
theorem dX0_init_12 : decode cX0_init 12 = .ok (.aload_n 0, 1) := by decide +kernel
theorem dX0_init_13 : decode cX0_init 13 = .ok (.bipush 8, 2) := by decide +kernel
theorem dX0_init_15 : decode cX0_init 15 = .ok (.newarray .int, 2) := by decide +kernel
theorem dX0_init_17 : decode cX0_init 17 = .ok (.putfield 15, 3) := by decide +kernel
theorem dX0_init_20 : decode cX0_init 20 = .ok (.return_, 1) := by decide +kernel
theorem dX0_take_0 : decode cX0_take 0 = .ok (.aload_n 0, 1) := by decide +kernel
theorem dX0_take_1 : decode cX0_take 1 = .ok (.iconst 0, 1) := by decide +kernel
theorem dX0_take_2 : decode cX0_take 2 = .ok (.putfield 18, 3) := by decide +kernel
theorem dX0_take_5 : decode cX0_take 5 = .ok (.iconst 0, 1) := by decide +kernel
theorem dX0_take_6 : decode cX0_take 6 = .ok (.istore_n 2, 1) := by decide +kernel
theorem dX0_take_7 : decode cX0_take 7 = .ok (.iload_n 2, 1) := by decide +kernel
theorem dX0_take_8 : decode cX0_take 8 = .ok (.aload_n 1, 1) := by decide +kernel
theorem dX0_take_9 : decode cX0_take 9 = .ok (.getfield 22, 3) := by decide +kernel
theorem dX0_take_12 : decode cX0_take 12 = .ok (.if_icmp .ge 43, 3) := by decide +kernel
theorem dX0_take_15 : decode cX0_take 15 = .ok (.aload_n 0, 1) := by decide +kernel
theorem dX0_take_16 : decode cX0_take 16 = .ok (.getfield 18, 3) := by decide +kernel
theorem dX0_take_19 : decode cX0_take 19 = .ok (.aload_n 0, 1) := by decide +kernel
theorem dX0_take_20 : decode cX0_take 20 = .ok (.getfield 9, 3) := by decide +kernel
theorem dX0_take_23 : decode cX0_take 23 = .ok (.arraylength, 1) := by decide +kernel
theorem dX0_take_24 : decode cX0_take 24 = .ok (.if_icmp .ge 31, 3) := by decide +kernel
theorem dX0_take_27 : decode cX0_take 27 = .ok (.aload_n 0, 1) := by decide +kernel
theorem dX0_take_28 : decode cX0_take 28 = .ok (.aload_n 1, 1) := by decide +kernel
theorem dX0_take_29 : decode cX0_take 29 = .ok (.getfield 27, 3) := by decide +kernel
theorem dX0_take_32 : decode cX0_take 32 = .ok (.iload_n 2, 1) := by decide +kernel
theorem dX0_take_33 : decode cX0_take 33 = .ok (.aaload, 1) := by decide +kernel
theorem dX0_take_34 : decode cX0_take 34 = .ok (.getfield 31, 3) := by decide +kernel
theorem dX0_take_37 : decode cX0_take 37 = .ok (.aload_n 1, 1) := by decide +kernel
theorem dX0_take_38 : decode cX0_take 38 = .ok (.getfield 27, 3) := by decide +kernel
theorem dX0_take_41 : decode cX0_take 41 = .ok (.iload_n 2, 1) := by decide +kernel
theorem dX0_take_42 : decode cX0_take 42 = .ok (.aaload, 1) := by decide +kernel
theorem dX0_take_43 : decode cX0_take 43 = .ok (.getfield 36, 3) := by decide +kernel
theorem dX0_take_46 : decode cX0_take 46 = .ok (.invokevirtual 38, 3) := by decide +kernel
theorem dX0_take_49 : decode cX0_take 49 = .ok (.iinc 2 1, 3) := by decide +kernel
theorem dX0_take_52 : decode cX0_take 52 = .ok (.goto (-45), 3) := by decide +kernel
theorem dX0_take_55 : decode cX0_take 55 = .ok (.return_, 1) := by decide +kernel
theorem dX0_insert_0 : decode cX0_insert 0 = .ok (.aload_n 0, 1) := by decide +kernel
theorem dX0_insert_1 : decode cX0_insert 1 = .ok (.getfield 18, 3) := by decide +kernel
theorem dX0_insert_4 : decode cX0_insert 4 = .ok (.istore_n 3, 1) := by decide +kernel
theorem dX0_insert_5 : decode cX0_insert 5 = .ok (.iload_n 3, 1) := by decide +kernel
theorem dX0_insert_6 : decode cX0_insert 6 = .ok (.ifCond .le 49, 3) := by decide +kernel
theorem dX0_insert_9 : decode cX0_insert 9 = .ok (.aload_n 0, 1) := by decide +kernel
theorem dX0_insert_10 : decode cX0_insert 10 = .ok (.getfield 9, 3) := by decide +kernel
theorem dX0_insert_13 : decode cX0_insert 13 = .ok (.iload_n 3, 1) := by decide +kernel
theorem dX0_insert_14 : decode cX0_insert 14 = .ok (.iconst 1, 1) := by decide +kernel
theorem dX0_insert_15 : decode cX0_insert 15 = .ok (.isub, 1) := by decide +kernel
theorem dX0_insert_16 : decode cX0_insert 16 = .ok (.iaload, 1) := by decide +kernel
theorem dX0_insert_17 : decode cX0_insert 17 = .ok (.iload_n 1, 1) := by decide +kernel
theorem dX0_insert_18 : decode cX0_insert 18 = .ok (.if_icmp .le 37, 3) := by decide +kernel
theorem dX0_insert_21 : decode cX0_insert 21 = .ok (.aload_n 0, 1) := by decide +kernel
theorem dX0_insert_22 : decode cX0_insert 22 = .ok (.getfield 9, 3) := by decide +kernel
theorem dX0_insert_25 : decode cX0_insert 25 = .ok (.iload_n 3, 1) := by decide +kernel
theorem dX0_insert_26 : decode cX0_insert 26 = .ok (.aload_n 0, 1) := by decide +kernel
theorem dX0_insert_27 : decode cX0_insert 27 = .ok (.getfield 9, 3) := by decide +kernel
theorem dX0_insert_30 : decode cX0_insert 30 = .ok (.iload_n 3, 1) := by decide +kernel
theorem dX0_insert_31 : decode cX0_insert 31 = .ok (.iconst 1, 1) := by decide +kernel
theorem dX0_insert_32 : decode cX0_insert 32 = .ok (.isub, 1) := by decide +kernel
theorem dX0_insert_33 : decode cX0_insert 33 = .ok (.iaload, 1) := by decide +kernel
theorem dX0_insert_34 : decode cX0_insert 34 = .ok (.iastore, 1) := by decide +kernel
theorem dX0_insert_35 : decode cX0_insert 35 = .ok (.aload_n 0, 1) := by decide +kernel
theorem dX0_insert_36 : decode cX0_insert 36 = .ok (.getfield 15, 3) := by decide +kernel
theorem dX0_insert_39 : decode cX0_insert 39 = .ok (.iload_n 3, 1) := by decide +kernel
theorem dX0_insert_40 : decode cX0_insert 40 = .ok (.aload_n 0, 1) := by decide +kernel
theorem dX0_insert_41 : decode cX0_insert 41 = .ok (.getfield 15, 3) := by decide +kernel
theorem dX0_insert_44 : decode cX0_insert 44 = .ok (.iload_n 3, 1) := by decide +kernel
theorem dX0_insert_45 : decode cX0_insert 45 = .ok (.iconst 1, 1) := by decide +kernel
theorem dX0_insert_46 : decode cX0_insert 46 = .ok (.isub, 1) := by decide +kernel
theorem dX0_insert_47 : decode cX0_insert 47 = .ok (.iaload, 1) := by decide +kernel
theorem dX0_insert_48 : decode cX0_insert 48 = .ok (.iastore, 1) := by decide +kernel
theorem dX0_insert_49 : decode cX0_insert 49 = .ok (.iinc 3 (-1), 3) := by decide +kernel
theorem dX0_insert_52 : decode cX0_insert 52 = .ok (.goto (-47), 3) := by decide +kernel
theorem dX0_insert_55 : decode cX0_insert 55 = .ok (.aload_n 0, 1) := by decide +kernel
theorem dX0_insert_56 : decode cX0_insert 56 = .ok (.getfield 9, 3) := by decide +kernel
theorem dX0_insert_59 : decode cX0_insert 59 = .ok (.iload_n 3, 1) := by decide +kernel
theorem dX0_insert_60 : decode cX0_insert 60 = .ok (.iload_n 1, 1) := by decide +kernel
theorem dX0_insert_61 : decode cX0_insert 61 = .ok (.iastore, 1) := by decide +kernel
theorem dX0_insert_62 : decode cX0_insert 62 = .ok (.aload_n 0, 1) := by decide +kernel
theorem dX0_insert_63 : decode cX0_insert 63 = .ok (.getfield 15, 3) := by decide +kernel
theorem dX0_insert_66 : decode cX0_insert 66 = .ok (.iload_n 3, 1) := by decide +kernel
theorem dX0_insert_67 : decode cX0_insert 67 = .ok (.iload_n 2, 1) := by decide +kernel
theorem dX0_insert_68 : decode cX0_insert 68 = .ok (.iastore, 1) := by decide +kernel
theorem dX0_insert_69 : decode cX0_insert 69 = .ok (.aload_n 0, 1) := by decide +kernel
theorem dX0_insert_70 : decode cX0_insert 70 = .ok (.dup, 1) := by decide +kernel
theorem dX0_insert_71 : decode cX0_insert 71 = .ok (.getfield 18, 3) := by decide +kernel
theorem dX0_insert_74 : decode cX0_insert 74 = .ok (.iconst 1, 1) := by decide +kernel
theorem dX0_insert_75 : decode cX0_insert 75 = .ok (.iadd, 1) := by decide +kernel
theorem dX0_insert_76 : decode cX0_insert 76 = .ok (.putfield 18, 3) := by decide +kernel
theorem dX0_insert_79 : decode cX0_insert 79 = .ok (.return_, 1) := by decide +kernel
theorem dX0_hours_0 : decode cX0_hours 0 = .ok (.aload_n 0, 1) := by decide +kernel
theorem dX0_hours_1 : decode cX0_hours 1 = .ok (.getfield 18, 3) := by decide +kernel
theorem dX0_hours_4 : decode cX0_hours 4 = .ok (.ifCond .ne 5, 3) := by decide +kernel
theorem dX0_hours_7 : decode cX0_hours 7 = .ok (.iconst 0, 1) := by decide +kernel
theorem dX0_hours_8 : decode cX0_hours 8 = .ok (.ireturn, 1) := by decide +kernel
theorem dX0_hours_9 : decode cX0_hours 9 = .ok (.iconst 1, 1) := by decide +kernel
theorem dX0_hours_10 : decode cX0_hours 10 = .ok (.aload_n 0, 1) := by decide +kernel
theorem dX0_hours_11 : decode cX0_hours 11 = .ok (.getfield 9, 3) := by decide +kernel
theorem dX0_hours_14 : decode cX0_hours 14 = .ok (.aload_n 0, 1) := by decide +kernel
theorem dX0_hours_15 : decode cX0_hours 15 = .ok (.getfield 18, 3) := by decide +kernel
theorem dX0_hours_18 : decode cX0_hours 18 = .ok (.iconst 1, 1) := by decide +kernel
theorem dX0_hours_19 : decode cX0_hours 19 = .ok (.isub, 1) := by decide +kernel
theorem dX0_hours_20 : decode cX0_hours 20 = .ok (.iaload, 1) := by decide +kernel
theorem dX0_hours_21 : decode cX0_hours 21 = .ok (.aload_n 0, 1) := by decide +kernel
theorem dX0_hours_22 : decode cX0_hours 22 = .ok (.getfield 9, 3) := by decide +kernel
theorem dX0_hours_25 : decode cX0_hours 25 = .ok (.iconst 0, 1) := by decide +kernel
theorem dX0_hours_26 : decode cX0_hours 26 = .ok (.iaload, 1) := by decide +kernel
theorem dX0_hours_27 : decode cX0_hours 27 = .ok (.isub, 1) := by decide +kernel
theorem dX0_hours_28 : decode cX0_hours 28 = .ok (.bipush 60, 2) := by decide +kernel
theorem dX0_hours_30 : decode cX0_hours 30 = .ok (.iadd, 1) := by decide +kernel
theorem dX0_hours_31 : decode cX0_hours 31 = .ok (.iconst 1, 1) := by decide +kernel
theorem dX0_hours_32 : decode cX0_hours 32 = .ok (.isub, 1) := by decide +kernel
theorem dX0_hours_33 : decode cX0_hours 33 = .ok (.bipush 60, 2) := by decide +kernel
theorem dX0_hours_35 : decode cX0_hours 35 = .ok (.idiv, 1) := by decide +kernel
theorem dX0_hours_36 : decode cX0_hours 36 = .ok (.invokestatic 42, 3) := by decide +kernel
theorem dX0_hours_39 : decode cX0_hours 39 = .ok (.ireturn, 1) := by decide +kernel
theorem dX0_leastBoils_0 : decode cX0_leastBoils 0 = .ok (.iconst 0, 1) := by decide +kernel
theorem dX0_leastBoils_1 : decode cX0_leastBoils 1 = .ok (.istore_n 3, 1) := by decide +kernel
theorem dX0_leastBoils_2 : decode cX0_leastBoils 2 = .ok (.ldc 48, 2) := by decide +kernel
theorem dX0_leastBoils_4 : decode cX0_leastBoils 4 = .ok (.istore 4, 2) := by decide +kernel
theorem dX0_leastBoils_6 : decode cX0_leastBoils 6 = .ok (.iconst 0, 1) := by decide +kernel
theorem dX0_leastBoils_7 : decode cX0_leastBoils 7 = .ok (.istore 5, 2) := by decide +kernel
theorem dX0_leastBoils_9 : decode cX0_leastBoils 9 = .ok (.iload 5, 2) := by decide +kernel
theorem dX0_leastBoils_11 : decode cX0_leastBoils 11 = .ok (.iconst 1, 1) := by decide +kernel
theorem dX0_leastBoils_12 : decode cX0_leastBoils 12 = .ok (.aload_n 0, 1) := by decide +kernel
theorem dX0_leastBoils_13 : decode cX0_leastBoils 13 = .ok (.getfield 18, 3) := by decide +kernel
theorem dX0_leastBoils_16 : decode cX0_leastBoils 16 = .ok (.ishl, 1) := by decide +kernel
theorem dX0_leastBoils_17 : decode cX0_leastBoils 17 = .ok (.if_icmp .ge 35, 3) := by decide +kernel
theorem dX0_leastBoils_20 : decode cX0_leastBoils 20 = .ok (.aload_n 0, 1) := by decide +kernel
theorem dX0_leastBoils_21 : decode cX0_leastBoils 21 = .ok (.iload 5, 2) := by decide +kernel
theorem dX0_leastBoils_23 : decode cX0_leastBoils 23 = .ok (.aload_n 1, 1) := by decide +kernel
theorem dX0_leastBoils_24 : decode cX0_leastBoils 24 = .ok (.getfield 49, 3) := by decide +kernel
theorem dX0_leastBoils_27 : decode cX0_leastBoils 27 = .ok (.invokevirtual 52, 3) := by decide +kernel
theorem dX0_leastBoils_30 : decode cX0_leastBoils 30 = .ok (.istore 6, 2) := by decide +kernel
theorem dX0_leastBoils_32 : decode cX0_leastBoils 32 = .ok (.iload 6, 2) := by decide +kernel
theorem dX0_leastBoils_34 : decode cX0_leastBoils 34 = .ok (.iload 4, 2) := by decide +kernel
theorem dX0_leastBoils_36 : decode cX0_leastBoils 36 = .ok (.if_icmp .ge 10, 3) := by decide +kernel
theorem dX0_leastBoils_39 : decode cX0_leastBoils 39 = .ok (.iload 6, 2) := by decide +kernel
theorem dX0_leastBoils_41 : decode cX0_leastBoils 41 = .ok (.istore 4, 2) := by decide +kernel
theorem dX0_leastBoils_43 : decode cX0_leastBoils 43 = .ok (.iload 5, 2) := by decide +kernel
theorem dX0_leastBoils_45 : decode cX0_leastBoils 45 = .ok (.istore_n 3, 1) := by decide +kernel
theorem dX0_leastBoils_46 : decode cX0_leastBoils 46 = .ok (.iinc 5 1, 3) := by decide +kernel
theorem dX0_leastBoils_49 : decode cX0_leastBoils 49 = .ok (.goto (-40), 3) := by decide +kernel
theorem dX0_leastBoils_52 : decode cX0_leastBoils 52 = .ok (.iload_n 2, 1) := by decide +kernel
theorem dX0_leastBoils_53 : decode cX0_leastBoils 53 = .ok (.ifCond .eq 8, 3) := by decide +kernel
theorem dX0_leastBoils_56 : decode cX0_leastBoils 56 = .ok (.iload 4, 2) := by decide +kernel
theorem dX0_leastBoils_58 : decode cX0_leastBoils 58 = .ok (.goto 4, 3) := by decide +kernel
theorem dX0_leastBoils_61 : decode cX0_leastBoils 61 = .ok (.iload_n 3, 1) := by decide +kernel
theorem dX0_leastBoils_62 : decode cX0_leastBoils 62 = .ok (.ireturn, 1) := by decide +kernel
theorem dX0_boilsCost_0 : decode cX0_boilsCost 0 = .ok (.iconst 0, 1) := by decide +kernel
theorem dX0_boilsCost_1 : decode cX0_boilsCost 1 = .ok (.istore_n 3, 1) := by decide +kernel
theorem dX0_boilsCost_2 : decode cX0_boilsCost 2 = .ok (.iconst 0, 1) := by decide +kernel
theorem dX0_boilsCost_3 : decode cX0_boilsCost 3 = .ok (.istore 4, 2) := by decide +kernel
theorem dX0_boilsCost_5 : decode cX0_boilsCost 5 = .ok (.iconst 0, 1) := by decide +kernel
theorem dX0_boilsCost_6 : decode cX0_boilsCost 6 = .ok (.istore 5, 2) := by decide +kernel
theorem dX0_boilsCost_8 : decode cX0_boilsCost 8 = .ok (.iconst 0, 1) := by decide +kernel
theorem dX0_boilsCost_9 : decode cX0_boilsCost 9 = .ok (.istore 6, 2) := by decide +kernel
theorem dX0_boilsCost_11 : decode cX0_boilsCost 11 = .ok (.iconst 0, 1) := by decide +kernel
theorem dX0_boilsCost_12 : decode cX0_boilsCost 12 = .ok (.istore 7, 2) := by decide +kernel
theorem dX0_boilsCost_14 : decode cX0_boilsCost 14 = .ok (.iload 7, 2) := by decide +kernel
theorem dX0_boilsCost_16 : decode cX0_boilsCost 16 = .ok (.aload_n 0, 1) := by decide +kernel
theorem dX0_boilsCost_17 : decode cX0_boilsCost 17 = .ok (.getfield 18, 3) := by decide +kernel
theorem dX0_boilsCost_20 : decode cX0_boilsCost 20 = .ok (.if_icmp .ge 99, 3) := by decide +kernel
theorem dX0_boilsCost_23 : decode cX0_boilsCost 23 = .ok (.iload 6, 2) := by decide +kernel
theorem dX0_boilsCost_25 : decode cX0_boilsCost 25 = .ok (.aload_n 0, 1) := by decide +kernel
theorem dX0_boilsCost_26 : decode cX0_boilsCost 26 = .ok (.getfield 15, 3) := by decide +kernel
theorem dX0_boilsCost_29 : decode cX0_boilsCost 29 = .ok (.iload 7, 2) := by decide +kernel
theorem dX0_boilsCost_31 : decode cX0_boilsCost 31 = .ok (.iaload, 1) := by decide +kernel
theorem dX0_boilsCost_32 : decode cX0_boilsCost 32 = .ok (.iadd, 1) := by decide +kernel
theorem dX0_boilsCost_33 : decode cX0_boilsCost 33 = .ok (.istore 6, 2) := by decide +kernel
theorem dX0_boilsCost_35 : decode cX0_boilsCost 35 = .ok (.iload 6, 2) := by decide +kernel
theorem dX0_boilsCost_37 : decode cX0_boilsCost 37 = .ok (.aload_n 2, 1) := by decide +kernel
theorem dX0_boilsCost_38 : decode cX0_boilsCost 38 = .ok (.iconst 0, 1) := by decide +kernel
theorem dX0_boilsCost_39 : decode cX0_boilsCost 39 = .ok (.iaload, 1) := by decide +kernel
theorem dX0_boilsCost_40 : decode cX0_boilsCost 40 = .ok (.if_icmp .le 6, 3) := by decide +kernel
theorem dX0_boilsCost_43 : decode cX0_boilsCost 43 = .ok (.ldc 48, 2) := by decide +kernel
theorem dX0_boilsCost_45 : decode cX0_boilsCost 45 = .ok (.ireturn, 1) := by decide +kernel
theorem dX0_boilsCost_46 : decode cX0_boilsCost 46 = .ok (.iload_n 1, 1) := by decide +kernel
theorem dX0_boilsCost_47 : decode cX0_boilsCost 47 = .ok (.iload 7, 2) := by decide +kernel
theorem dX0_boilsCost_49 : decode cX0_boilsCost 49 = .ok (.ishr, 1) := by decide +kernel
theorem dX0_boilsCost_50 : decode cX0_boilsCost 50 = .ok (.iconst 1, 1) := by decide +kernel
theorem dX0_boilsCost_51 : decode cX0_boilsCost 51 = .ok (.iand, 1) := by decide +kernel
theorem dX0_boilsCost_52 : decode cX0_boilsCost 52 = .ok (.iconst 1, 1) := by decide +kernel
theorem dX0_boilsCost_53 : decode cX0_boilsCost 53 = .ok (.if_icmp .ne 60, 3) := by decide +kernel
theorem dX0_boilsCost_56 : decode cX0_boilsCost 56 = .ok (.iload 4, 2) := by decide +kernel
theorem dX0_boilsCost_58 : decode cX0_boilsCost 58 = .ok (.aload_n 0, 1) := by decide +kernel
theorem dX0_boilsCost_59 : decode cX0_boilsCost 59 = .ok (.getfield 9, 3) := by decide +kernel
theorem dX0_boilsCost_62 : decode cX0_boilsCost 62 = .ok (.iload 7, 2) := by decide +kernel
theorem dX0_boilsCost_64 : decode cX0_boilsCost 64 = .ok (.iaload, 1) := by decide +kernel
theorem dX0_boilsCost_65 : decode cX0_boilsCost 65 = .ok (.invokestatic 42, 3) := by decide +kernel
theorem dX0_boilsCost_68 : decode cX0_boilsCost 68 = .ok (.aload_n 2, 1) := by decide +kernel
theorem dX0_boilsCost_69 : decode cX0_boilsCost 69 = .ok (.iconst 1, 1) := by decide +kernel
theorem dX0_boilsCost_70 : decode cX0_boilsCost 70 = .ok (.iaload, 1) := by decide +kernel
theorem dX0_boilsCost_71 : decode cX0_boilsCost 71 = .ok (.iadd, 1) := by decide +kernel
theorem dX0_boilsCost_72 : decode cX0_boilsCost 72 = .ok (.iload 6, 2) := by decide +kernel
theorem dX0_boilsCost_74 : decode cX0_boilsCost 74 = .ok (.bipush 10, 2) := by decide +kernel
theorem dX0_boilsCost_76 : decode cX0_boilsCost 76 = .ok (.aload_n 2, 1) := by decide +kernel
theorem dX0_boilsCost_77 : decode cX0_boilsCost 77 = .ok (.iconst 2, 1) := by decide +kernel
theorem dX0_boilsCost_78 : decode cX0_boilsCost 78 = .ok (.iaload, 1) := by decide +kernel
theorem dX0_boilsCost_79 : decode cX0_boilsCost 79 = .ok (.invokestatic 56, 3) := by decide +kernel
theorem dX0_boilsCost_82 : decode cX0_boilsCost 82 = .ok (.iadd, 1) := by decide +kernel
theorem dX0_boilsCost_83 : decode cX0_boilsCost 83 = .ok (.istore 4, 2) := by decide +kernel
theorem dX0_boilsCost_85 : decode cX0_boilsCost 85 = .ok (.iload_n 3, 1) := by decide +kernel
theorem dX0_boilsCost_86 : decode cX0_boilsCost 86 = .ok (.aload_n 0, 1) := by decide +kernel
theorem dX0_boilsCost_87 : decode cX0_boilsCost 87 = .ok (.iload 4, 2) := by decide +kernel
theorem dX0_boilsCost_89 : decode cX0_boilsCost 89 = .ok (.iload 5, 2) := by decide +kernel
theorem dX0_boilsCost_91 : decode cX0_boilsCost 91 = .ok (.iload 7, 2) := by decide +kernel
theorem dX0_boilsCost_93 : decode cX0_boilsCost 93 = .ok (.invokevirtual 60, 3) := by decide +kernel
theorem dX0_boilsCost_96 : decode cX0_boilsCost 96 = .ok (.aload_n 2, 1) := by decide +kernel
theorem dX0_boilsCost_97 : decode cX0_boilsCost 97 = .ok (.iconst 4, 1) := by decide +kernel
theorem dX0_boilsCost_98 : decode cX0_boilsCost 98 = .ok (.iaload, 1) := by decide +kernel
theorem dX0_boilsCost_99 : decode cX0_boilsCost 99 = .ok (.imul, 1) := by decide +kernel
theorem dX0_boilsCost_100 : decode cX0_boilsCost 100 = .ok (.iconst 3, 1) := by decide +kernel
theorem dX0_boilsCost_101 : decode cX0_boilsCost 101 = .ok (.iadd, 1) := by decide +kernel
theorem dX0_boilsCost_102 : decode cX0_boilsCost 102 = .ok (.iadd, 1) := by decide +kernel
theorem dX0_boilsCost_103 : decode cX0_boilsCost 103 = .ok (.istore_n 3, 1) := by decide +kernel
theorem dX0_boilsCost_104 : decode cX0_boilsCost 104 = .ok (.iload 7, 2) := by decide +kernel
theorem dX0_boilsCost_106 : decode cX0_boilsCost 106 = .ok (.iconst 1, 1) := by decide +kernel
theorem dX0_boilsCost_107 : decode cX0_boilsCost 107 = .ok (.iadd, 1) := by decide +kernel
theorem dX0_boilsCost_108 : decode cX0_boilsCost 108 = .ok (.istore 5, 2) := by decide +kernel
theorem dX0_boilsCost_110 : decode cX0_boilsCost 110 = .ok (.iconst 0, 1) := by decide +kernel
theorem dX0_boilsCost_111 : decode cX0_boilsCost 111 = .ok (.istore 6, 2) := by decide +kernel
theorem dX0_boilsCost_113 : decode cX0_boilsCost 113 = .ok (.iinc 7 1, 3) := by decide +kernel
theorem dX0_boilsCost_116 : decode cX0_boilsCost 116 = .ok (.goto (-102), 3) := by decide +kernel
theorem dX0_boilsCost_119 : decode cX0_boilsCost 119 = .ok (.iload 5, 2) := by decide +kernel
theorem dX0_boilsCost_121 : decode cX0_boilsCost 121 = .ok (.aload_n 0, 1) := by decide +kernel
theorem dX0_boilsCost_122 : decode cX0_boilsCost 122 = .ok (.getfield 18, 3) := by decide +kernel
theorem dX0_boilsCost_125 : decode cX0_boilsCost 125 = .ok (.if_icmp .ne 7, 3) := by decide +kernel
theorem dX0_boilsCost_128 : decode cX0_boilsCost 128 = .ok (.iload_n 3, 1) := by decide +kernel
theorem dX0_boilsCost_129 : decode cX0_boilsCost 129 = .ok (.goto 5, 3) := by decide +kernel
theorem dX0_boilsCost_132 : decode cX0_boilsCost 132 = .ok (.ldc 48, 2) := by decide +kernel
theorem dX0_boilsCost_134 : decode cX0_boilsCost 134 = .ok (.ireturn, 1) := by decide +kernel
theorem dX0_waitedTill_0 : decode cX0_waitedTill 0 = .ok (.iconst 0, 1) := by decide +kernel
theorem dX0_waitedTill_1 : decode cX0_waitedTill 1 = .ok (.istore 4, 2) := by decide +kernel
theorem dX0_waitedTill_3 : decode cX0_waitedTill 3 = .ok (.iload_n 2, 1) := by decide +kernel
theorem dX0_waitedTill_4 : decode cX0_waitedTill 4 = .ok (.istore 5, 2) := by decide +kernel
theorem dX0_waitedTill_6 : decode cX0_waitedTill 6 = .ok (.iload 5, 2) := by decide +kernel
theorem dX0_waitedTill_8 : decode cX0_waitedTill 8 = .ok (.iload_n 3, 1) := by decide +kernel
theorem dX0_waitedTill_9 : decode cX0_waitedTill 9 = .ok (.if_icmp .gt 32, 3) := by decide +kernel
theorem dX0_waitedTill_12 : decode cX0_waitedTill 12 = .ok (.iload 5, 2) := by decide +kernel
theorem dX0_waitedTill_14 : decode cX0_waitedTill 14 = .ok (.aload_n 0, 1) := by decide +kernel
theorem dX0_waitedTill_15 : decode cX0_waitedTill 15 = .ok (.getfield 18, 3) := by decide +kernel
theorem dX0_waitedTill_18 : decode cX0_waitedTill 18 = .ok (.if_icmp .ge 23, 3) := by decide +kernel
theorem dX0_waitedTill_21 : decode cX0_waitedTill 21 = .ok (.iload 4, 2) := by decide +kernel
theorem dX0_waitedTill_23 : decode cX0_waitedTill 23 = .ok (.iload_n 1, 1) := by decide +kernel
theorem dX0_waitedTill_24 : decode cX0_waitedTill 24 = .ok (.aload_n 0, 1) := by decide +kernel
theorem dX0_waitedTill_25 : decode cX0_waitedTill 25 = .ok (.getfield 9, 3) := by decide +kernel
theorem dX0_waitedTill_28 : decode cX0_waitedTill 28 = .ok (.iload 5, 2) := by decide +kernel
theorem dX0_waitedTill_30 : decode cX0_waitedTill 30 = .ok (.iaload, 1) := by decide +kernel
theorem dX0_waitedTill_31 : decode cX0_waitedTill 31 = .ok (.isub, 1) := by decide +kernel
theorem dX0_waitedTill_32 : decode cX0_waitedTill 32 = .ok (.iadd, 1) := by decide +kernel
theorem dX0_waitedTill_33 : decode cX0_waitedTill 33 = .ok (.istore 4, 2) := by decide +kernel
theorem dX0_waitedTill_35 : decode cX0_waitedTill 35 = .ok (.iinc 5 1, 3) := by decide +kernel
theorem dX0_waitedTill_38 : decode cX0_waitedTill 38 = .ok (.goto (-32), 3) := by decide +kernel
theorem dX0_waitedTill_41 : decode cX0_waitedTill 41 = .ok (.iload 4, 2) := by decide +kernel
theorem dX0_waitedTill_43 : decode cX0_waitedTill 43 = .ok (.ireturn, 1) := by decide +kernel
theorem dX0_waitedForSeats_0 : decode cX0_waitedForSeats 0 = .ok (.iconst 0, 1) := by decide +kernel
theorem dX0_waitedForSeats_1 : decode cX0_waitedForSeats 1 = .ok (.istore_n 3, 1) := by decide +kernel
theorem dX0_waitedForSeats_2 : decode cX0_waitedForSeats 2 = .ok (.iconst 0, 1) := by decide +kernel
theorem dX0_waitedForSeats_3 : decode cX0_waitedForSeats 3 = .ok (.istore 4, 2) := by decide +kernel
theorem dX0_waitedForSeats_5 : decode cX0_waitedForSeats 5 = .ok (.iconst 0, 1) := by decide +kernel
theorem dX0_waitedForSeats_6 : decode cX0_waitedForSeats 6 = .ok (.istore 5, 2) := by decide +kernel
theorem dX0_waitedForSeats_8 : decode cX0_waitedForSeats 8 = .ok (.iload 5, 2) := by decide +kernel
theorem dX0_waitedForSeats_10 : decode cX0_waitedForSeats 10 = .ok (.aload_n 0, 1) := by decide +kernel
theorem dX0_waitedForSeats_11 : decode cX0_waitedForSeats 11 = .ok (.getfield 18, 3) := by decide +kernel
theorem dX0_waitedForSeats_14 : decode cX0_waitedForSeats 14 = .ok (.if_icmp .ge 44, 3) := by decide +kernel
theorem dX0_waitedForSeats_17 : decode cX0_waitedForSeats 17 = .ok (.iload 5, 2) := by decide +kernel
theorem dX0_waitedForSeats_19 : decode cX0_waitedForSeats 19 = .ok (.iload 4, 2) := by decide +kernel
theorem dX0_waitedForSeats_21 : decode cX0_waitedForSeats 21 = .ok (.isub, 1) := by decide +kernel
theorem dX0_waitedForSeats_22 : decode cX0_waitedForSeats 22 = .ok (.iconst 1, 1) := by decide +kernel
theorem dX0_waitedForSeats_23 : decode cX0_waitedForSeats 23 = .ok (.iadd, 1) := by decide +kernel
theorem dX0_waitedForSeats_24 : decode cX0_waitedForSeats 24 = .ok (.iload_n 1, 1) := by decide +kernel
theorem dX0_waitedForSeats_25 : decode cX0_waitedForSeats 25 = .ok (.if_icmp .ne 27, 3) := by decide +kernel
theorem dX0_waitedForSeats_28 : decode cX0_waitedForSeats 28 = .ok (.iload_n 3, 1) := by decide +kernel
theorem dX0_waitedForSeats_29 : decode cX0_waitedForSeats 29 = .ok (.aload_n 0, 1) := by decide +kernel
theorem dX0_waitedForSeats_30 : decode cX0_waitedForSeats 30 = .ok (.aload_n 0, 1) := by decide +kernel
theorem dX0_waitedForSeats_31 : decode cX0_waitedForSeats 31 = .ok (.getfield 9, 3) := by decide +kernel
theorem dX0_waitedForSeats_34 : decode cX0_waitedForSeats 34 = .ok (.iload 5, 2) := by decide +kernel
theorem dX0_waitedForSeats_36 : decode cX0_waitedForSeats 36 = .ok (.iaload, 1) := by decide +kernel
theorem dX0_waitedForSeats_37 : decode cX0_waitedForSeats 37 = .ok (.iload 4, 2) := by decide +kernel
theorem dX0_waitedForSeats_39 : decode cX0_waitedForSeats 39 = .ok (.iload 5, 2) := by decide +kernel
theorem dX0_waitedForSeats_41 : decode cX0_waitedForSeats 41 = .ok (.invokevirtual 60, 3) := by decide +kernel
theorem dX0_waitedForSeats_44 : decode cX0_waitedForSeats 44 = .ok (.iadd, 1) := by decide +kernel
theorem dX0_waitedForSeats_45 : decode cX0_waitedForSeats 45 = .ok (.istore_n 3, 1) := by decide +kernel
theorem dX0_waitedForSeats_46 : decode cX0_waitedForSeats 46 = .ok (.iload 5, 2) := by decide +kernel
theorem dX0_waitedForSeats_48 : decode cX0_waitedForSeats 48 = .ok (.iconst 1, 1) := by decide +kernel
theorem dX0_waitedForSeats_49 : decode cX0_waitedForSeats 49 = .ok (.iadd, 1) := by decide +kernel
theorem dX0_waitedForSeats_50 : decode cX0_waitedForSeats 50 = .ok (.istore 4, 2) := by decide +kernel
theorem dX0_waitedForSeats_52 : decode cX0_waitedForSeats 52 = .ok (.iinc 5 1, 3) := by decide +kernel
theorem dX0_waitedForSeats_55 : decode cX0_waitedForSeats 55 = .ok (.goto (-47), 3) := by decide +kernel
theorem dX0_waitedForSeats_58 : decode cX0_waitedForSeats 58 = .ok (.iload 4, 2) := by decide +kernel
theorem dX0_waitedForSeats_60 : decode cX0_waitedForSeats 60 = .ok (.aload_n 0, 1) := by decide +kernel
theorem dX0_waitedForSeats_61 : decode cX0_waitedForSeats 61 = .ok (.getfield 18, 3) := by decide +kernel
theorem dX0_waitedForSeats_64 : decode cX0_waitedForSeats 64 = .ok (.if_icmp .ge 31, 3) := by decide +kernel
theorem dX0_waitedForSeats_67 : decode cX0_waitedForSeats 67 = .ok (.iload_n 3, 1) := by decide +kernel
theorem dX0_waitedForSeats_68 : decode cX0_waitedForSeats 68 = .ok (.aload_n 0, 1) := by decide +kernel
theorem dX0_waitedForSeats_69 : decode cX0_waitedForSeats 69 = .ok (.aload_n 0, 1) := by decide +kernel
theorem dX0_waitedForSeats_70 : decode cX0_waitedForSeats 70 = .ok (.getfield 9, 3) := by decide +kernel
theorem dX0_waitedForSeats_73 : decode cX0_waitedForSeats 73 = .ok (.aload_n 0, 1) := by decide +kernel
theorem dX0_waitedForSeats_74 : decode cX0_waitedForSeats 74 = .ok (.getfield 18, 3) := by decide +kernel
theorem dX0_waitedForSeats_77 : decode cX0_waitedForSeats 77 = .ok (.iconst 1, 1) := by decide +kernel
theorem dX0_waitedForSeats_78 : decode cX0_waitedForSeats 78 = .ok (.isub, 1) := by decide +kernel
theorem dX0_waitedForSeats_79 : decode cX0_waitedForSeats 79 = .ok (.iaload, 1) := by decide +kernel
theorem dX0_waitedForSeats_80 : decode cX0_waitedForSeats 80 = .ok (.iload_n 2, 1) := by decide +kernel
theorem dX0_waitedForSeats_81 : decode cX0_waitedForSeats 81 = .ok (.iadd, 1) := by decide +kernel
theorem dX0_waitedForSeats_82 : decode cX0_waitedForSeats 82 = .ok (.iload 4, 2) := by decide +kernel
theorem dX0_waitedForSeats_84 : decode cX0_waitedForSeats 84 = .ok (.aload_n 0, 1) := by decide +kernel
theorem dX0_waitedForSeats_85 : decode cX0_waitedForSeats 85 = .ok (.getfield 18, 3) := by decide +kernel
theorem dX0_waitedForSeats_88 : decode cX0_waitedForSeats 88 = .ok (.iconst 1, 1) := by decide +kernel
theorem dX0_waitedForSeats_89 : decode cX0_waitedForSeats 89 = .ok (.isub, 1) := by decide +kernel
theorem dX0_waitedForSeats_90 : decode cX0_waitedForSeats 90 = .ok (.invokevirtual 60, 3) := by decide +kernel
theorem dX0_waitedForSeats_93 : decode cX0_waitedForSeats 93 = .ok (.iadd, 1) := by decide +kernel
theorem dX0_waitedForSeats_94 : decode cX0_waitedForSeats 94 = .ok (.istore_n 3, 1) := by decide +kernel
theorem dX0_waitedForSeats_95 : decode cX0_waitedForSeats 95 = .ok (.iload_n 3, 1) := by decide +kernel
theorem dX0_waitedForSeats_96 : decode cX0_waitedForSeats 96 = .ok (.ireturn, 1) := by decide +kernel
theorem dX0_waitedForTimes_0 : decode cX0_waitedForTimes 0 = .ok (.iconst 0, 1) := by decide +kernel
theorem dX0_waitedForTimes_1 : decode cX0_waitedForTimes 1 = .ok (.istore_n 2, 1) := by decide +kernel
theorem dX0_waitedForTimes_2 : decode cX0_waitedForTimes 2 = .ok (.iconst 0, 1) := by decide +kernel
theorem dX0_waitedForTimes_3 : decode cX0_waitedForTimes 3 = .ok (.istore_n 3, 1) := by decide +kernel
theorem dX0_waitedForTimes_4 : decode cX0_waitedForTimes 4 = .ok (.iload_n 3, 1) := by decide +kernel
theorem dX0_waitedForTimes_5 : decode cX0_waitedForTimes 5 = .ok (.aload_n 0, 1) := by decide +kernel
theorem dX0_waitedForTimes_6 : decode cX0_waitedForTimes 6 = .ok (.getfield 18, 3) := by decide +kernel
theorem dX0_waitedForTimes_9 : decode cX0_waitedForTimes 9 = .ok (.if_icmp .ge 27, 3) := by decide +kernel
theorem dX0_waitedForTimes_12 : decode cX0_waitedForTimes 12 = .ok (.iload_n 1, 1) := by decide +kernel
theorem dX0_waitedForTimes_13 : decode cX0_waitedForTimes 13 = .ok (.ifCond .le 23, 3) := by decide +kernel
theorem dX0_waitedForTimes_16 : decode cX0_waitedForTimes 16 = .ok (.iload_n 2, 1) := by decide +kernel
theorem dX0_waitedForTimes_17 : decode cX0_waitedForTimes 17 = .ok (.aload_n 0, 1) := by decide +kernel
theorem dX0_waitedForTimes_18 : decode cX0_waitedForTimes 18 = .ok (.getfield 9, 3) := by decide +kernel
theorem dX0_waitedForTimes_21 : decode cX0_waitedForTimes 21 = .ok (.iload_n 3, 1) := by decide +kernel
theorem dX0_waitedForTimes_22 : decode cX0_waitedForTimes 22 = .ok (.iaload, 1) := by decide +kernel
theorem dX0_waitedForTimes_23 : decode cX0_waitedForTimes 23 = .ok (.ineg, 1) := by decide +kernel
theorem dX0_waitedForTimes_24 : decode cX0_waitedForTimes 24 = .ok (.iload_n 1, 1) := by decide +kernel
theorem dX0_waitedForTimes_25 : decode cX0_waitedForTimes 25 = .ok (.invokestatic 63, 3) := by decide +kernel
theorem dX0_waitedForTimes_28 : decode cX0_waitedForTimes 28 = .ok (.iadd, 1) := by decide +kernel
theorem dX0_waitedForTimes_29 : decode cX0_waitedForTimes 29 = .ok (.istore_n 2, 1) := by decide +kernel
theorem dX0_waitedForTimes_30 : decode cX0_waitedForTimes 30 = .ok (.iinc 3 1, 3) := by decide +kernel
theorem dX0_waitedForTimes_33 : decode cX0_waitedForTimes 33 = .ok (.goto (-29), 3) := by decide +kernel
theorem dX0_waitedForTimes_36 : decode cX0_waitedForTimes 36 = .ok (.iload_n 2, 1) := by decide +kernel
theorem dX0_waitedForTimes_37 : decode cX0_waitedForTimes 37 = .ok (.ireturn, 1) := by decide +kernel
theorem dX0_bestSeats_0 : decode cX0_bestSeats 0 = .ok (.bipush (-9), 2) := by decide +kernel
theorem dX0_bestSeats_2 : decode cX0_bestSeats 2 = .ok (.istore_n 2, 1) := by decide +kernel
theorem dX0_bestSeats_3 : decode cX0_bestSeats 3 = .ok (.iconst 0, 1) := by decide +kernel
theorem dX0_bestSeats_4 : decode cX0_bestSeats 4 = .ok (.istore_n 3, 1) := by decide +kernel
theorem dX0_bestSeats_5 : decode cX0_bestSeats 5 = .ok (.iconst 1, 1) := by decide +kernel
theorem dX0_bestSeats_6 : decode cX0_bestSeats 6 = .ok (.istore 4, 2) := by decide +kernel
theorem dX0_bestSeats_8 : decode cX0_bestSeats 8 = .ok (.iload 4, 2) := by decide +kernel
theorem dX0_bestSeats_10 : decode cX0_bestSeats 10 = .ok (.bipush 8, 2) := by decide +kernel
theorem dX0_bestSeats_12 : decode cX0_bestSeats 12 = .ok (.if_icmp .gt 36, 3) := by decide +kernel
theorem dX0_bestSeats_15 : decode cX0_bestSeats 15 = .ok (.aload_n 0, 1) := by decide +kernel
theorem dX0_bestSeats_16 : decode cX0_bestSeats 16 = .ok (.iload_n 1, 1) := by decide +kernel
theorem dX0_bestSeats_17 : decode cX0_bestSeats 17 = .ok (.invokevirtual 66, 3) := by decide +kernel
theorem dX0_bestSeats_20 : decode cX0_bestSeats 20 = .ok (.aload_n 0, 1) := by decide +kernel
theorem dX0_bestSeats_21 : decode cX0_bestSeats 21 = .ok (.iload 4, 2) := by decide +kernel
theorem dX0_bestSeats_23 : decode cX0_bestSeats 23 = .ok (.iload_n 1, 1) := by decide +kernel
theorem dX0_bestSeats_24 : decode cX0_bestSeats 24 = .ok (.invokevirtual 70, 3) := by decide +kernel
theorem dX0_bestSeats_27 : decode cX0_bestSeats 27 = .ok (.isub, 1) := by decide +kernel
theorem dX0_bestSeats_28 : decode cX0_bestSeats 28 = .ok (.istore 5, 2) := by decide +kernel
theorem dX0_bestSeats_30 : decode cX0_bestSeats 30 = .ok (.iload 5, 2) := by decide +kernel
theorem dX0_bestSeats_32 : decode cX0_bestSeats 32 = .ok (.iload_n 3, 1) := by decide +kernel
theorem dX0_bestSeats_33 : decode cX0_bestSeats 33 = .ok (.if_icmp .le 9, 3) := by decide +kernel
theorem dX0_bestSeats_36 : decode cX0_bestSeats 36 = .ok (.iload 5, 2) := by decide +kernel
theorem dX0_bestSeats_38 : decode cX0_bestSeats 38 = .ok (.istore_n 3, 1) := by decide +kernel
theorem dX0_bestSeats_39 : decode cX0_bestSeats 39 = .ok (.iload 4, 2) := by decide +kernel
theorem dX0_bestSeats_41 : decode cX0_bestSeats 41 = .ok (.istore_n 2, 1) := by decide +kernel
theorem dX0_bestSeats_42 : decode cX0_bestSeats 42 = .ok (.iinc 4 1, 3) := by decide +kernel
theorem dX0_bestSeats_45 : decode cX0_bestSeats 45 = .ok (.goto (-37), 3) := by decide +kernel
theorem dX0_bestSeats_48 : decode cX0_bestSeats 48 = .ok (.iload_n 2, 1) := by decide +kernel
theorem dX0_bestSeats_49 : decode cX0_bestSeats 49 = .ok (.ireturn, 1) := by decide +kernel
theorem dX1_init_0 : decode cX1_init 0 = .ok (.aload_n 0, 1) := by decide +kernel
theorem dX1_init_1 : decode cX1_init 1 = .ok (.invokespecial 3, 3) := by decide +kernel
theorem dX1_init_4 : decode cX1_init 4 = .ok (.return_, 1) := by decide +kernel
theorem dX1_copy_0 : decode cX1_copy 0 = .ok (.aload_n 0, 1) := by decide +kernel
theorem dX1_copy_1 : decode cX1_copy 1 = .ok (.aload_n 1, 1) := by decide +kernel
theorem dX1_copy_2 : decode cX1_copy 2 = .ok (.getfield 9, 3) := by decide +kernel
theorem dX1_copy_5 : decode cX1_copy 5 = .ok (.aload_n 1, 1) := by decide +kernel
theorem dX1_copy_6 : decode cX1_copy 6 = .ok (.getfield 15, 3) := by decide +kernel
theorem dX1_copy_9 : decode cX1_copy 9 = .ok (.invokevirtual 18, 3) := by decide +kernel
theorem dX1_copy_12 : decode cX1_copy 12 = .ok (.aload_n 0, 1) := by decide +kernel
theorem dX1_copy_13 : decode cX1_copy 13 = .ok (.aload_n 1, 1) := by decide +kernel
theorem dX1_copy_14 : decode cX1_copy 14 = .ok (.getfield 22, 3) := by decide +kernel
theorem dX1_copy_17 : decode cX1_copy 17 = .ok (.putfield 22, 3) := by decide +kernel
theorem dX1_copy_20 : decode cX1_copy 20 = .ok (.aload_n 0, 1) := by decide +kernel
theorem dX1_copy_21 : decode cX1_copy 21 = .ok (.aload_n 1, 1) := by decide +kernel
theorem dX1_copy_22 : decode cX1_copy 22 = .ok (.getfield 25, 3) := by decide +kernel
theorem dX1_copy_25 : decode cX1_copy 25 = .ok (.putfield 25, 3) := by decide +kernel
theorem dX1_copy_28 : decode cX1_copy 28 = .ok (.aload_n 0, 1) := by decide +kernel
theorem dX1_copy_29 : decode cX1_copy 29 = .ok (.aload_n 1, 1) := by decide +kernel
theorem dX1_copy_30 : decode cX1_copy 30 = .ok (.getfield 28, 3) := by decide +kernel
theorem dX1_copy_33 : decode cX1_copy 33 = .ok (.putfield 28, 3) := by decide +kernel
theorem dX1_copy_36 : decode cX1_copy 36 = .ok (.aload_n 0, 1) := by decide +kernel
theorem dX1_copy_37 : decode cX1_copy 37 = .ok (.aload_n 1, 1) := by decide +kernel
theorem dX1_copy_38 : decode cX1_copy 38 = .ok (.getfield 31, 3) := by decide +kernel
theorem dX1_copy_41 : decode cX1_copy 41 = .ok (.putfield 31, 3) := by decide +kernel
theorem dX1_copy_44 : decode cX1_copy 44 = .ok (.aload_n 0, 1) := by decide +kernel
theorem dX1_copy_45 : decode cX1_copy 45 = .ok (.aload_n 1, 1) := by decide +kernel
theorem dX1_copy_46 : decode cX1_copy 46 = .ok (.getfield 34, 3) := by decide +kernel
theorem dX1_copy_49 : decode cX1_copy 49 = .ok (.putfield 34, 3) := by decide +kernel
theorem dX1_copy_52 : decode cX1_copy 52 = .ok (.return_, 1) := by decide +kernel
theorem dX1_become_0 : decode cX1_become 0 = .ok (.aload_n 0, 1) := by decide +kernel
theorem dX1_become_1 : decode cX1_become 1 = .ok (.iload_n 1, 1) := by decide +kernel
theorem dX1_become_2 : decode cX1_become 2 = .ok (.putfield 9, 3) := by decide +kernel
theorem dX1_become_5 : decode cX1_become 5 = .ok (.aload_n 0, 1) := by decide +kernel
theorem dX1_become_6 : decode cX1_become 6 = .ok (.iload_n 2, 1) := by decide +kernel
theorem dX1_become_7 : decode cX1_become 7 = .ok (.putfield 15, 3) := by decide +kernel
theorem dX1_become_10 : decode cX1_become 10 = .ok (.return_, 1) := by decide +kernel
theorem dX1_waited_0 : decode cX1_waited 0 = .ok (.aload_n 0, 1) := by decide +kernel
theorem dX1_waited_1 : decode cX1_waited 1 = .ok (.getfield 31, 3) := by decide +kernel
theorem dX1_waited_4 : decode cX1_waited 4 = .ok (.iconst 2, 1) := by decide +kernel
theorem dX1_waited_5 : decode cX1_waited 5 = .ok (.if_icmp .ne 13, 3) := by decide +kernel
theorem dX1_waited_8 : decode cX1_waited 8 = .ok (.aload_n 0, 1) := by decide +kernel
theorem dX1_waited_9 : decode cX1_waited 9 = .ok (.getfield 34, 3) := by decide +kernel
theorem dX1_waited_12 : decode cX1_waited 12 = .ok (.aload_n 0, 1) := by decide +kernel
theorem dX1_waited_13 : decode cX1_waited 13 = .ok (.getfield 22, 3) := by decide +kernel
theorem dX1_waited_16 : decode cX1_waited 16 = .ok (.isub, 1) := by decide +kernel
theorem dX1_waited_17 : decode cX1_waited 17 = .ok (.ireturn, 1) := by decide +kernel
theorem dX1_waited_18 : decode cX1_waited 18 = .ok (.aload_n 0, 1) := by decide +kernel
theorem dX1_waited_19 : decode cX1_waited 19 = .ok (.getfield 31, 3) := by decide +kernel
theorem dX1_waited_22 : decode cX1_waited 22 = .ok (.iconst 3, 1) := by decide +kernel
theorem dX1_waited_23 : decode cX1_waited 23 = .ok (.if_icmp .ne 10, 3) := by decide +kernel
theorem dX1_waited_26 : decode cX1_waited 26 = .ok (.aload_n 0, 1) := by decide +kernel
theorem dX1_waited_27 : decode cX1_waited 27 = .ok (.getfield 28, 3) := by decide +kernel
theorem dX1_waited_30 : decode cX1_waited 30 = .ok (.goto 4, 3) := by decide +kernel
theorem dX1_waited_33 : decode cX1_waited 33 = .ok (.iconst 0, 1) := by decide +kernel
theorem dX1_waited_34 : decode cX1_waited 34 = .ok (.ireturn, 1) := by decide +kernel
theorem dX1_tell_0 : decode cX1_tell 0 = .ok (.iload_n 1, 1) := by decide +kernel
theorem dX1_tell_1 : decode cX1_tell 1 = .ok (.tableswitch 69 0 5 #[39, 44, 49, 54, 59, 64], 39) := by decide +kernel
theorem dX1_tell_40 : decode cX1_tell 40 = .ok (.aload_n 0, 1) := by decide +kernel
theorem dX1_tell_41 : decode cX1_tell 41 = .ok (.getfield 9, 3) := by decide +kernel
theorem dX1_tell_44 : decode cX1_tell 44 = .ok (.ireturn, 1) := by decide +kernel
theorem dX1_tell_45 : decode cX1_tell 45 = .ok (.aload_n 0, 1) := by decide +kernel
theorem dX1_tell_46 : decode cX1_tell 46 = .ok (.getfield 15, 3) := by decide +kernel
theorem dX1_tell_49 : decode cX1_tell 49 = .ok (.ireturn, 1) := by decide +kernel
theorem dX1_tell_50 : decode cX1_tell 50 = .ok (.aload_n 0, 1) := by decide +kernel
theorem dX1_tell_51 : decode cX1_tell 51 = .ok (.getfield 22, 3) := by decide +kernel
theorem dX1_tell_54 : decode cX1_tell 54 = .ok (.ireturn, 1) := by decide +kernel
theorem dX1_tell_55 : decode cX1_tell 55 = .ok (.aload_n 0, 1) := by decide +kernel
theorem dX1_tell_56 : decode cX1_tell 56 = .ok (.getfield 25, 3) := by decide +kernel
theorem dX1_tell_59 : decode cX1_tell 59 = .ok (.ireturn, 1) := by decide +kernel
theorem dX1_tell_60 : decode cX1_tell 60 = .ok (.aload_n 0, 1) := by decide +kernel
theorem dX1_tell_61 : decode cX1_tell 61 = .ok (.getfield 28, 3) := by decide +kernel
theorem dX1_tell_64 : decode cX1_tell 64 = .ok (.ireturn, 1) := by decide +kernel
theorem dX1_tell_65 : decode cX1_tell 65 = .ok (.aload_n 0, 1) := by decide +kernel
theorem dX1_tell_66 : decode cX1_tell 66 = .ok (.getfield 31, 3) := by decide +kernel
theorem dX1_tell_69 : decode cX1_tell 69 = .ok (.ireturn, 1) := by decide +kernel
theorem dX1_tell_70 : decode cX1_tell 70 = .ok (.aload_n 0, 1) := by decide +kernel
theorem dX1_tell_71 : decode cX1_tell 71 = .ok (.invokevirtual 37, 3) := by decide +kernel
theorem dX1_tell_74 : decode cX1_tell 74 = .ok (.ireturn, 1) := by decide +kernel
theorem dX2_init_0 : decode cX2_init 0 = .ok (.aload_n 0, 1) := by decide +kernel
theorem dX2_init_1 : decode cX2_init 1 = .ok (.invokespecial 3, 3) := by decide +kernel
theorem dX2_init_4 : decode cX2_init 4 = .ok (.aload_n 0, 1) := by decide +kernel
theorem dX2_init_5 : decode cX2_init 5 = .ok (.getstatic 9, 3) := by decide +kernel
theorem dX2_init_8 : decode cX2_init 8 = .ok (.invokevirtual 13, 3) := by decide +kernel
theorem dX2_init_11 : decode cX2_init 11 = .ok (.checkcast 14, 3) := by decide +kernel
theorem dX2_init_14 : decode cX2_init 14 = .ok (.putfield 18, 3) := by decide +kernel
theorem dX2_init_17 : decode cX2_init 17 = .ok (.aload_n 0, 1) := by decide +kernel
theorem dX2_init_18 : decode cX2_init 18 = .ok (.bipush 8, 2) := by decide +kernel
theorem dX2_init_20 : decode cX2_init 20 = .ok (.anewarray 23, 3) := by decide +kernel
theorem dX2_init_23 : decode cX2_init 23 = .ok (.putfield 25, 3) := by decide +kernel
theorem dX2_init_26 : decode cX2_init 26 = .ok (.iconst 0, 1) := by decide +kernel
theorem dX2_init_27 : decode cX2_init 27 = .ok (.istore_n 1, 1) := by decide +kernel
theorem dX2_init_28 : decode cX2_init 28 = .ok (.iload_n 1, 1) := by decide +kernel
theorem dX2_init_29 : decode cX2_init 29 = .ok (.aload_n 0, 1) := by decide +kernel
theorem dX2_init_30 : decode cX2_init 30 = .ok (.getfield 25, 3) := by decide +kernel
theorem dX2_init_33 : decode cX2_init 33 = .ok (.arraylength, 1) := by decide +kernel
theorem dX2_init_34 : decode cX2_init 34 = .ok (.if_icmp .ge 22, 3) := by decide +kernel
theorem dX2_init_37 : decode cX2_init 37 = .ok (.aload_n 0, 1) := by decide +kernel
theorem dX2_init_38 : decode cX2_init 38 = .ok (.getfield 25, 3) := by decide +kernel
theorem dX2_init_41 : decode cX2_init 41 = .ok (.iload_n 1, 1) := by decide +kernel
theorem dX2_init_42 : decode cX2_init 42 = .ok (.new 23, 3) := by decide +kernel
theorem dX2_init_45 : decode cX2_init 45 = .ok (.dup, 1) := by decide +kernel
theorem dX2_init_46 : decode cX2_init 46 = .ok (.invokespecial 29, 3) := by decide +kernel
theorem dX2_init_49 : decode cX2_init 49 = .ok (.aastore, 1) := by decide +kernel
theorem dX2_init_50 : decode cX2_init 50 = .ok (.iinc 1 1, 3) := by decide +kernel
theorem dX2_init_53 : decode cX2_init 53 = .ok (.goto (-25), 3) := by decide +kernel
theorem dX2_init_56 : decode cX2_init 56 = .ok (.aload_n 0, 1) := by decide +kernel
theorem dX2_init_57 : decode cX2_init 57 = .ok (.iconst 2, 1) := by decide +kernel
theorem dX2_init_58 : decode cX2_init 58 = .ok (.anewarray 30, 3) := by decide +kernel
theorem dX2_init_61 : decode cX2_init 61 = .ok (.putfield 32, 3) := by decide +kernel
theorem dX2_init_64 : decode cX2_init 64 = .ok (.iconst 0, 1) := by decide +kernel
theorem dX2_init_65 : decode cX2_init 65 = .ok (.istore_n 1, 1) := by decide +kernel
theorem dX2_init_66 : decode cX2_init 66 = .ok (.iload_n 1, 1) := by decide +kernel
theorem dX2_init_67 : decode cX2_init 67 = .ok (.aload_n 0, 1) := by decide +kernel
theorem dX2_init_68 : decode cX2_init 68 = .ok (.getfield 32, 3) := by decide +kernel
theorem dX2_init_71 : decode cX2_init 71 = .ok (.arraylength, 1) := by decide +kernel
theorem dX2_init_72 : decode cX2_init 72 = .ok (.if_icmp .ge 22, 3) := by decide +kernel
theorem dX2_init_75 : decode cX2_init 75 = .ok (.aload_n 0, 1) := by decide +kernel
theorem dX2_init_76 : decode cX2_init 76 = .ok (.getfield 32, 3) := by decide +kernel
theorem dX2_init_79 : decode cX2_init 79 = .ok (.iload_n 1, 1) := by decide +kernel
theorem dX2_init_80 : decode cX2_init 80 = .ok (.new 30, 3) := by decide +kernel
theorem dX2_init_83 : decode cX2_init 83 = .ok (.dup, 1) := by decide +kernel
theorem dX2_init_84 : decode cX2_init 84 = .ok (.invokespecial 36, 3) := by decide +kernel
theorem dX2_init_87 : decode cX2_init 87 = .ok (.aastore, 1) := by decide +kernel
theorem dX2_init_88 : decode cX2_init 88 = .ok (.iinc 1 1, 3) := by decide +kernel
theorem dX2_init_91 : decode cX2_init 91 = .ok (.goto (-25), 3) := by decide +kernel
theorem dX2_init_94 : decode cX2_init 94 = .ok (.aload_n 0, 1) := by decide +kernel
theorem dX2_init_95 : decode cX2_init 95 = .ok (.bipush 8, 2) := by decide +kernel
theorem dX2_init_97 : decode cX2_init 97 = .ok (.newarray .int, 2) := by decide +kernel
theorem dX2_init_99 : decode cX2_init 99 = .ok (.putfield 37, 3) := by decide +kernel
theorem dX2_init_102 : decode cX2_init 102 = .ok (.return_, 1) := by decide +kernel
theorem dX2_copy_0 : decode cX2_copy 0 = .ok (.aload_n 1, 1) := by decide +kernel
theorem dX2_copy_1 : decode cX2_copy 1 = .ok (.getfield 18, 3) := by decide +kernel
theorem dX2_copy_4 : decode cX2_copy 4 = .ok (.iconst 0, 1) := by decide +kernel
theorem dX2_copy_5 : decode cX2_copy 5 = .ok (.aload_n 0, 1) := by decide +kernel
theorem dX2_copy_6 : decode cX2_copy 6 = .ok (.getfield 18, 3) := by decide +kernel
theorem dX2_copy_9 : decode cX2_copy 9 = .ok (.iconst 0, 1) := by decide +kernel
theorem dX2_copy_10 : decode cX2_copy 10 = .ok (.aload_n 0, 1) := by decide +kernel
theorem dX2_copy_11 : decode cX2_copy 11 = .ok (.getfield 18, 3) := by decide +kernel
theorem dX2_copy_14 : decode cX2_copy 14 = .ok (.arraylength, 1) := by decide +kernel
theorem dX2_copy_15 : decode cX2_copy 15 = .ok (.invokestatic 40, 3) := by decide +kernel
theorem dX2_copy_18 : decode cX2_copy 18 = .ok (.aload_n 1, 1) := by decide +kernel
theorem dX2_copy_19 : decode cX2_copy 19 = .ok (.getfield 37, 3) := by decide +kernel
theorem dX2_copy_22 : decode cX2_copy 22 = .ok (.iconst 0, 1) := by decide +kernel
theorem dX2_copy_23 : decode cX2_copy 23 = .ok (.aload_n 0, 1) := by decide +kernel
theorem dX2_copy_24 : decode cX2_copy 24 = .ok (.getfield 37, 3) := by decide +kernel
theorem dX2_copy_27 : decode cX2_copy 27 = .ok (.iconst 0, 1) := by decide +kernel
theorem dX2_copy_28 : decode cX2_copy 28 = .ok (.aload_n 0, 1) := by decide +kernel
theorem dX2_copy_29 : decode cX2_copy 29 = .ok (.getfield 37, 3) := by decide +kernel
theorem dX2_copy_32 : decode cX2_copy 32 = .ok (.arraylength, 1) := by decide +kernel
theorem dX2_copy_33 : decode cX2_copy 33 = .ok (.invokestatic 40, 3) := by decide +kernel
theorem dX2_copy_36 : decode cX2_copy 36 = .ok (.aload_n 0, 1) := by decide +kernel
theorem dX2_copy_37 : decode cX2_copy 37 = .ok (.aload_n 1, 1) := by decide +kernel
theorem dX2_copy_38 : decode cX2_copy 38 = .ok (.getfield 46, 3) := by decide +kernel
theorem dX2_copy_41 : decode cX2_copy 41 = .ok (.putfield 46, 3) := by decide +kernel
theorem dX2_copy_44 : decode cX2_copy 44 = .ok (.aload_n 0, 1) := by decide +kernel
theorem dX2_copy_45 : decode cX2_copy 45 = .ok (.aload_n 1, 1) := by decide +kernel
theorem dX2_copy_46 : decode cX2_copy 46 = .ok (.getfield 50, 3) := by decide +kernel
theorem dX2_copy_49 : decode cX2_copy 49 = .ok (.putfield 50, 3) := by decide +kernel
theorem dX2_copy_52 : decode cX2_copy 52 = .ok (.aload_n 0, 1) := by decide +kernel
theorem dX2_copy_53 : decode cX2_copy 53 = .ok (.aload_n 1, 1) := by decide +kernel
theorem dX2_copy_54 : decode cX2_copy 54 = .ok (.getfield 53, 3) := by decide +kernel
theorem dX2_copy_57 : decode cX2_copy 57 = .ok (.putfield 53, 3) := by decide +kernel
theorem dX2_copy_60 : decode cX2_copy 60 = .ok (.iconst 0, 1) := by decide +kernel
theorem dX2_copy_61 : decode cX2_copy 61 = .ok (.istore_n 2, 1) := by decide +kernel
theorem dX2_copy_62 : decode cX2_copy 62 = .ok (.iload_n 2, 1) := by decide +kernel
theorem dX2_copy_63 : decode cX2_copy 63 = .ok (.aload_n 0, 1) := by decide +kernel
theorem dX2_copy_64 : decode cX2_copy 64 = .ok (.getfield 46, 3) := by decide +kernel
theorem dX2_copy_67 : decode cX2_copy 67 = .ok (.if_icmp .ge 24, 3) := by decide +kernel
theorem dX2_copy_70 : decode cX2_copy 70 = .ok (.aload_n 0, 1) := by decide +kernel
theorem dX2_copy_71 : decode cX2_copy 71 = .ok (.getfield 25, 3) := by decide +kernel
theorem dX2_copy_74 : decode cX2_copy 74 = .ok (.iload_n 2, 1) := by decide +kernel
theorem dX2_copy_75 : decode cX2_copy 75 = .ok (.aaload, 1) := by decide +kernel
theorem dX2_copy_76 : decode cX2_copy 76 = .ok (.aload_n 1, 1) := by decide +kernel
theorem dX2_copy_77 : decode cX2_copy 77 = .ok (.getfield 25, 3) := by decide +kernel
theorem dX2_copy_80 : decode cX2_copy 80 = .ok (.iload_n 2, 1) := by decide +kernel
theorem dX2_copy_81 : decode cX2_copy 81 = .ok (.aaload, 1) := by decide +kernel
theorem dX2_copy_82 : decode cX2_copy 82 = .ok (.invokevirtual 56, 3) := by decide +kernel
theorem dX2_copy_85 : decode cX2_copy 85 = .ok (.iinc 2 1, 3) := by decide +kernel
theorem dX2_copy_88 : decode cX2_copy 88 = .ok (.goto (-26), 3) := by decide +kernel
theorem dX2_copy_91 : decode cX2_copy 91 = .ok (.iconst 0, 1) := by decide +kernel
theorem dX2_copy_92 : decode cX2_copy 92 = .ok (.istore_n 2, 1) := by decide +kernel
theorem dX2_copy_93 : decode cX2_copy 93 = .ok (.iload_n 2, 1) := by decide +kernel
theorem dX2_copy_94 : decode cX2_copy 94 = .ok (.aload_n 0, 1) := by decide +kernel
theorem dX2_copy_95 : decode cX2_copy 95 = .ok (.getfield 32, 3) := by decide +kernel
theorem dX2_copy_98 : decode cX2_copy 98 = .ok (.arraylength, 1) := by decide +kernel
theorem dX2_copy_99 : decode cX2_copy 99 = .ok (.if_icmp .ge 24, 3) := by decide +kernel
theorem dX2_copy_102 : decode cX2_copy 102 = .ok (.aload_n 0, 1) := by decide +kernel
theorem dX2_copy_103 : decode cX2_copy 103 = .ok (.getfield 32, 3) := by decide +kernel
theorem dX2_copy_106 : decode cX2_copy 106 = .ok (.iload_n 2, 1) := by decide +kernel
theorem dX2_copy_107 : decode cX2_copy 107 = .ok (.aaload, 1) := by decide +kernel
theorem dX2_copy_108 : decode cX2_copy 108 = .ok (.aload_n 1, 1) := by decide +kernel
theorem dX2_copy_109 : decode cX2_copy 109 = .ok (.getfield 32, 3) := by decide +kernel
theorem dX2_copy_112 : decode cX2_copy 112 = .ok (.iload_n 2, 1) := by decide +kernel
theorem dX2_copy_113 : decode cX2_copy 113 = .ok (.aaload, 1) := by decide +kernel
theorem dX2_copy_114 : decode cX2_copy 114 = .ok (.invokevirtual 60, 3) := by decide +kernel
theorem dX2_copy_117 : decode cX2_copy 117 = .ok (.iinc 2 1, 3) := by decide +kernel
theorem dX2_copy_120 : decode cX2_copy 120 = .ok (.goto (-27), 3) := by decide +kernel
theorem dX2_copy_123 : decode cX2_copy 123 = .ok (.return_, 1) := by decide +kernel
theorem dX2_begin_0 : decode cX2_begin 0 = .ok (.aload_n 0, 1) := by decide +kernel
theorem dX2_begin_1 : decode cX2_begin 1 = .ok (.iconst 0, 1) := by decide +kernel
theorem dX2_begin_2 : decode cX2_begin 2 = .ok (.putfield 53, 3) := by decide +kernel
theorem dX2_begin_5 : decode cX2_begin 5 = .ok (.aload_n 0, 1) := by decide +kernel
theorem dX2_begin_6 : decode cX2_begin 6 = .ok (.iconst 0, 1) := by decide +kernel
theorem dX2_begin_7 : decode cX2_begin 7 = .ok (.putfield 50, 3) := by decide +kernel
theorem dX2_begin_10 : decode cX2_begin 10 = .ok (.iconst 0, 1) := by decide +kernel
theorem dX2_begin_11 : decode cX2_begin 11 = .ok (.istore_n 1, 1) := by decide +kernel
theorem dX2_begin_12 : decode cX2_begin 12 = .ok (.iload_n 1, 1) := by decide +kernel
theorem dX2_begin_13 : decode cX2_begin 13 = .ok (.aload_n 0, 1) := by decide +kernel
theorem dX2_begin_14 : decode cX2_begin 14 = .ok (.getfield 46, 3) := by decide +kernel
theorem dX2_begin_17 : decode cX2_begin 17 = .ok (.if_icmp .ge 19, 3) := by decide +kernel
theorem dX2_begin_20 : decode cX2_begin 20 = .ok (.aload_n 0, 1) := by decide +kernel
theorem dX2_begin_21 : decode cX2_begin 21 = .ok (.getfield 25, 3) := by decide +kernel
theorem dX2_begin_24 : decode cX2_begin 24 = .ok (.iload_n 1, 1) := by decide +kernel
theorem dX2_begin_25 : decode cX2_begin 25 = .ok (.aaload, 1) := by decide +kernel
theorem dX2_begin_26 : decode cX2_begin 26 = .ok (.iconst 0, 1) := by decide +kernel
theorem dX2_begin_27 : decode cX2_begin 27 = .ok (.putfield 63, 3) := by decide +kernel
theorem dX2_begin_30 : decode cX2_begin 30 = .ok (.iinc 1 1, 3) := by decide +kernel
theorem dX2_begin_33 : decode cX2_begin 33 = .ok (.goto (-21), 3) := by decide +kernel
theorem dX2_begin_36 : decode cX2_begin 36 = .ok (.iconst 0, 1) := by decide +kernel
theorem dX2_begin_37 : decode cX2_begin 37 = .ok (.istore_n 1, 1) := by decide +kernel
theorem dX2_begin_38 : decode cX2_begin 38 = .ok (.iload_n 1, 1) := by decide +kernel
theorem dX2_begin_39 : decode cX2_begin 39 = .ok (.aload_n 0, 1) := by decide +kernel
theorem dX2_begin_40 : decode cX2_begin 40 = .ok (.getfield 32, 3) := by decide +kernel
theorem dX2_begin_43 : decode cX2_begin 43 = .ok (.arraylength, 1) := by decide +kernel
theorem dX2_begin_44 : decode cX2_begin 44 = .ok (.if_icmp .ge 18, 3) := by decide +kernel
theorem dX2_begin_47 : decode cX2_begin 47 = .ok (.aload_n 0, 1) := by decide +kernel
theorem dX2_begin_48 : decode cX2_begin 48 = .ok (.getfield 32, 3) := by decide +kernel
theorem dX2_begin_51 : decode cX2_begin 51 = .ok (.iload_n 1, 1) := by decide +kernel
theorem dX2_begin_52 : decode cX2_begin 52 = .ok (.aaload, 1) := by decide +kernel
theorem dX2_begin_53 : decode cX2_begin 53 = .ok (.invokevirtual 66, 3) := by decide +kernel
theorem dX2_begin_56 : decode cX2_begin 56 = .ok (.iinc 1 1, 3) := by decide +kernel
theorem dX2_begin_59 : decode cX2_begin 59 = .ok (.goto (-21), 3) := by decide +kernel
theorem dX2_begin_62 : decode cX2_begin 62 = .ok (.return_, 1) := by decide +kernel
theorem dX2_hasComer_0 : decode cX2_hasComer 0 = .ok (.iload_n 1, 1) := by decide +kernel
theorem dX2_hasComer_1 : decode cX2_hasComer 1 = .ok (.ifCond .lt 15, 3) := by decide +kernel
theorem dX2_hasComer_4 : decode cX2_hasComer 4 = .ok (.iload_n 1, 1) := by decide +kernel
theorem dX2_hasComer_5 : decode cX2_hasComer 5 = .ok (.aload_n 0, 1) := by decide +kernel
theorem dX2_hasComer_6 : decode cX2_hasComer 6 = .ok (.getfield 46, 3) := by decide +kernel
theorem dX2_hasComer_9 : decode cX2_hasComer 9 = .ok (.if_icmp .ge 7, 3) := by decide +kernel
theorem dX2_hasComer_12 : decode cX2_hasComer 12 = .ok (.iconst 1, 1) := by decide +kernel
theorem dX2_hasComer_13 : decode cX2_hasComer 13 = .ok (.goto 4, 3) := by decide +kernel
theorem dX2_hasComer_16 : decode cX2_hasComer 16 = .ok (.iconst 0, 1) := by decide +kernel
theorem dX2_hasComer_17 : decode cX2_hasComer 17 = .ok (.ireturn, 1) := by decide +kernel
theorem dX2_kettlesInUse_0 : decode cX2_kettlesInUse 0 = .ok (.aload_n 0, 1) := by decide +kernel
theorem dX2_kettlesInUse_1 : decode cX2_kettlesInUse 1 = .ok (.getfield 18, 3) := by decide +kernel
theorem dX2_kettlesInUse_4 : decode cX2_kettlesInUse 4 = .ok (.bipush 7, 2) := by decide +kernel
theorem dX2_kettlesInUse_6 : decode cX2_kettlesInUse 6 = .ok (.iaload, 1) := by decide +kernel
theorem dX2_kettlesInUse_7 : decode cX2_kettlesInUse 7 = .ok (.ireturn, 1) := by decide +kernel
theorem dX2_settingRefusal_0 : decode cX2_settingRefusal 0 = .ok (.iload_n 1, 1) := by decide +kernel
theorem dX2_settingRefusal_1 : decode cX2_settingRefusal 1 = .ok (.ifCond .lt 12, 3) := by decide +kernel
theorem dX2_settingRefusal_4 : decode cX2_settingRefusal 4 = .ok (.iload_n 1, 1) := by decide +kernel
theorem dX2_settingRefusal_5 : decode cX2_settingRefusal 5 = .ok (.aload_n 0, 1) := by decide +kernel
theorem dX2_settingRefusal_6 : decode cX2_settingRefusal 6 = .ok (.getfield 18, 3) := by decide +kernel
theorem dX2_settingRefusal_9 : decode cX2_settingRefusal 9 = .ok (.arraylength, 1) := by decide +kernel
theorem dX2_settingRefusal_10 : decode cX2_settingRefusal 10 = .ok (.if_icmp .lt 5, 3) := by decide +kernel
theorem dX2_settingRefusal_13 : decode cX2_settingRefusal 13 = .ok (.iconst (-1), 1) := by decide +kernel
theorem dX2_settingRefusal_14 : decode cX2_settingRefusal 14 = .ok (.ireturn, 1) := by decide +kernel
theorem dX2_settingRefusal_15 : decode cX2_settingRefusal 15 = .ok (.iload_n 2, 1) := by decide +kernel
theorem dX2_settingRefusal_16 : decode cX2_settingRefusal 16 = .ok (.getstatic 69, 3) := by decide +kernel
theorem dX2_settingRefusal_19 : decode cX2_settingRefusal 19 = .ok (.iload_n 1, 1) := by decide +kernel
theorem dX2_settingRefusal_20 : decode cX2_settingRefusal 20 = .ok (.iaload, 1) := by decide +kernel
theorem dX2_settingRefusal_21 : decode cX2_settingRefusal 21 = .ok (.if_icmp .ge 6, 3) := by decide +kernel
theorem dX2_settingRefusal_24 : decode cX2_settingRefusal 24 = .ok (.bipush (-4), 2) := by decide +kernel
theorem dX2_settingRefusal_26 : decode cX2_settingRefusal 26 = .ok (.ireturn, 1) := by decide +kernel
theorem dX2_settingRefusal_27 : decode cX2_settingRefusal 27 = .ok (.iload_n 2, 1) := by decide +kernel
theorem dX2_settingRefusal_28 : decode cX2_settingRefusal 28 = .ok (.getstatic 72, 3) := by decide +kernel
theorem dX2_settingRefusal_31 : decode cX2_settingRefusal 31 = .ok (.iload_n 1, 1) := by decide +kernel
theorem dX2_settingRefusal_32 : decode cX2_settingRefusal 32 = .ok (.iaload, 1) := by decide +kernel
theorem dX2_settingRefusal_33 : decode cX2_settingRefusal 33 = .ok (.if_icmp .le 6, 3) := by decide +kernel
theorem dX2_settingRefusal_36 : decode cX2_settingRefusal 36 = .ok (.bipush (-6), 2) := by decide +kernel
theorem dX2_settingRefusal_38 : decode cX2_settingRefusal 38 = .ok (.ireturn, 1) := by decide +kernel
theorem dX2_settingRefusal_39 : decode cX2_settingRefusal 39 = .ok (.iload_n 1, 1) := by decide +kernel
theorem dX2_settingRefusal_40 : decode cX2_settingRefusal 40 = .ok (.ifCond .ne 15, 3) := by decide +kernel
theorem dX2_settingRefusal_43 : decode cX2_settingRefusal 43 = .ok (.iload_n 2, 1) := by decide +kernel
theorem dX2_settingRefusal_44 : decode cX2_settingRefusal 44 = .ok (.aload_n 0, 1) := by decide +kernel
theorem dX2_settingRefusal_45 : decode cX2_settingRefusal 45 = .ok (.invokevirtual 75, 3) := by decide +kernel
theorem dX2_settingRefusal_48 : decode cX2_settingRefusal 48 = .ok (.if_icmp .ge 7, 3) := by decide +kernel
theorem dX2_settingRefusal_51 : decode cX2_settingRefusal 51 = .ok (.iconst 1, 1) := by decide +kernel
theorem dX2_settingRefusal_52 : decode cX2_settingRefusal 52 = .ok (.goto 4, 3) := by decide +kernel
theorem dX2_settingRefusal_55 : decode cX2_settingRefusal 55 = .ok (.iconst 0, 1) := by decide +kernel
theorem dX2_settingRefusal_56 : decode cX2_settingRefusal 56 = .ok (.istore_n 3, 1) := by decide +kernel
theorem dX2_settingRefusal_57 : decode cX2_settingRefusal 57 = .ok (.iload_n 1, 1) := by decide +kernel
theorem dX2_settingRefusal_58 : decode cX2_settingRefusal 58 = .ok (.bipush 7, 2) := by decide +kernel
theorem dX2_settingRefusal_60 : decode cX2_settingRefusal 60 = .ok (.if_icmp .ne 25, 3) := by decide +kernel
theorem dX2_settingRefusal_63 : decode cX2_settingRefusal 63 = .ok (.iload_n 2, 1) := by decide +kernel
theorem dX2_settingRefusal_64 : decode cX2_settingRefusal 64 = .ok (.aload_n 0, 1) := by decide +kernel
theorem dX2_settingRefusal_65 : decode cX2_settingRefusal 65 = .ok (.getfield 18, 3) := by decide +kernel
theorem dX2_settingRefusal_68 : decode cX2_settingRefusal 68 = .ok (.bipush 7, 2) := by decide +kernel
theorem dX2_settingRefusal_70 : decode cX2_settingRefusal 70 = .ok (.iaload, 1) := by decide +kernel
theorem dX2_settingRefusal_71 : decode cX2_settingRefusal 71 = .ok (.if_icmp .eq 14, 3) := by decide +kernel
theorem dX2_settingRefusal_74 : decode cX2_settingRefusal 74 = .ok (.aload_n 0, 1) := by decide +kernel
theorem dX2_settingRefusal_75 : decode cX2_settingRefusal 75 = .ok (.getfield 53, 3) := by decide +kernel
theorem dX2_settingRefusal_78 : decode cX2_settingRefusal 78 = .ok (.ifCond .eq 7, 3) := by decide +kernel
theorem dX2_settingRefusal_81 : decode cX2_settingRefusal 81 = .ok (.iconst 1, 1) := by decide +kernel
theorem dX2_settingRefusal_82 : decode cX2_settingRefusal 82 = .ok (.goto 4, 3) := by decide +kernel
theorem dX2_settingRefusal_85 : decode cX2_settingRefusal 85 = .ok (.iconst 0, 1) := by decide +kernel
theorem dX2_settingRefusal_86 : decode cX2_settingRefusal 86 = .ok (.istore 4, 2) := by decide +kernel
theorem dX2_settingRefusal_88 : decode cX2_settingRefusal 88 = .ok (.iload_n 3, 1) := by decide +kernel
theorem dX2_settingRefusal_89 : decode cX2_settingRefusal 89 = .ok (.ifCond .ne 8, 3) := by decide +kernel
theorem dX2_settingRefusal_92 : decode cX2_settingRefusal 92 = .ok (.iload 4, 2) := by decide +kernel
theorem dX2_settingRefusal_94 : decode cX2_settingRefusal 94 = .ok (.ifCond .eq 8, 3) := by decide +kernel
theorem dX2_settingRefusal_97 : decode cX2_settingRefusal 97 = .ok (.bipush (-3), 2) := by decide +kernel
theorem dX2_settingRefusal_99 : decode cX2_settingRefusal 99 = .ok (.goto 4, 3) := by decide +kernel
theorem dX2_settingRefusal_102 : decode cX2_settingRefusal 102 = .ok (.iconst 0, 1) := by decide +kernel
theorem dX2_settingRefusal_103 : decode cX2_settingRefusal 103 = .ok (.ireturn, 1) := by decide +kernel
theorem dX2_change_0 : decode cX2_change 0 = .ok (.aload_n 0, 1) := by decide +kernel
theorem dX2_change_1 : decode cX2_change 1 = .ok (.getfield 18, 3) := by decide +kernel
theorem dX2_change_4 : decode cX2_change 4 = .ok (.iload_n 1, 1) := by decide +kernel
theorem dX2_change_5 : decode cX2_change 5 = .ok (.iaload, 1) := by decide +kernel
theorem dX2_change_6 : decode cX2_change 6 = .ok (.istore_n 3, 1) := by decide +kernel
theorem dX2_change_7 : decode cX2_change 7 = .ok (.aload_n 0, 1) := by decide +kernel
theorem dX2_change_8 : decode cX2_change 8 = .ok (.getfield 18, 3) := by decide +kernel
theorem dX2_change_11 : decode cX2_change 11 = .ok (.iload_n 1, 1) := by decide +kernel
theorem dX2_change_12 : decode cX2_change 12 = .ok (.iload_n 2, 1) := by decide +kernel
theorem dX2_change_13 : decode cX2_change 13 = .ok (.iastore, 1) := by decide +kernel
theorem dX2_change_14 : decode cX2_change 14 = .ok (.iload_n 3, 1) := by decide +kernel
theorem dX2_change_15 : decode cX2_change 15 = .ok (.ireturn, 1) := by decide +kernel
theorem dX2_add_0 : decode cX2_add 0 = .ok (.aload_n 0, 1) := by decide +kernel
theorem dX2_add_1 : decode cX2_add 1 = .ok (.getfield 46, 3) := by decide +kernel
theorem dX2_add_4 : decode cX2_add 4 = .ok (.aload_n 0, 1) := by decide +kernel
theorem dX2_add_5 : decode cX2_add 5 = .ok (.getfield 25, 3) := by decide +kernel
theorem dX2_add_8 : decode cX2_add 8 = .ok (.arraylength, 1) := by decide +kernel
theorem dX2_add_9 : decode cX2_add 9 = .ok (.if_icmp .ge 46, 3) := by decide +kernel
theorem dX2_add_12 : decode cX2_add 12 = .ok (.iload_n 1, 1) := by decide +kernel
theorem dX2_add_13 : decode cX2_add 13 = .ok (.bipush 7, 2) := by decide +kernel
theorem dX2_add_15 : decode cX2_add 15 = .ok (.if_icmp .ge 40, 3) := by decide +kernel
theorem dX2_add_18 : decode cX2_add 18 = .ok (.iload_n 3, 1) := by decide +kernel
theorem dX2_add_19 : decode cX2_add 19 = .ok (.bipush 120, 2) := by decide +kernel
theorem dX2_add_21 : decode cX2_add 21 = .ok (.if_icmp .ge 34, 3) := by decide +kernel
theorem dX2_add_24 : decode cX2_add 24 = .ok (.iload_n 3, 1) := by decide +kernel
theorem dX2_add_25 : decode cX2_add 25 = .ok (.aload_n 0, 1) := by decide +kernel
theorem dX2_add_26 : decode cX2_add 26 = .ok (.getfield 53, 3) := by decide +kernel
theorem dX2_add_29 : decode cX2_add 29 = .ok (.if_icmp .lt 26, 3) := by decide +kernel
theorem dX2_add_32 : decode cX2_add 32 = .ok (.iload 4, 2) := by decide +kernel
theorem dX2_add_34 : decode cX2_add 34 = .ok (.iconst 1, 1) := by decide +kernel
theorem dX2_add_35 : decode cX2_add 35 = .ok (.if_icmp .lt 20, 3) := by decide +kernel
theorem dX2_add_38 : decode cX2_add 38 = .ok (.iload 4, 2) := by decide +kernel
theorem dX2_add_40 : decode cX2_add 40 = .ok (.iconst 3, 1) := by decide +kernel
theorem dX2_add_41 : decode cX2_add 41 = .ok (.if_icmp .gt 14, 3) := by decide +kernel
theorem dX2_add_44 : decode cX2_add 44 = .ok (.iload 5, 2) := by decide +kernel
theorem dX2_add_46 : decode cX2_add 46 = .ok (.bipush 30, 2) := by decide +kernel
theorem dX2_add_48 : decode cX2_add 48 = .ok (.if_icmp .gt 7, 3) := by decide +kernel
theorem dX2_add_51 : decode cX2_add 51 = .ok (.iconst 1, 1) := by decide +kernel
theorem dX2_add_52 : decode cX2_add 52 = .ok (.goto 4, 3) := by decide +kernel
theorem dX2_add_55 : decode cX2_add 55 = .ok (.iconst 0, 1) := by decide +kernel
theorem dX2_add_56 : decode cX2_add 56 = .ok (.istore 6, 2) := by decide +kernel
theorem dX2_add_58 : decode cX2_add 58 = .ok (.iload 6, 2) := by decide +kernel
theorem dX2_add_60 : decode cX2_add 60 = .ok (.ifCond .eq 57, 3) := by decide +kernel
theorem dX2_add_63 : decode cX2_add 63 = .ok (.aload_n 0, 1) := by decide +kernel
theorem dX2_add_64 : decode cX2_add 64 = .ok (.getfield 25, 3) := by decide +kernel
theorem dX2_add_67 : decode cX2_add 67 = .ok (.aload_n 0, 1) := by decide +kernel
theorem dX2_add_68 : decode cX2_add 68 = .ok (.getfield 46, 3) := by decide +kernel
theorem dX2_add_71 : decode cX2_add 71 = .ok (.aaload, 1) := by decide +kernel
theorem dX2_add_72 : decode cX2_add 72 = .ok (.astore 7, 2) := by decide +kernel
theorem dX2_add_74 : decode cX2_add 74 = .ok (.aload 7, 2) := by decide +kernel
theorem dX2_add_76 : decode cX2_add 76 = .ok (.iload_n 1, 1) := by decide +kernel
theorem dX2_add_77 : decode cX2_add 77 = .ok (.iload_n 2, 1) := by decide +kernel
theorem dX2_add_78 : decode cX2_add 78 = .ok (.invokevirtual 79, 3) := by decide +kernel
theorem dX2_add_81 : decode cX2_add 81 = .ok (.aload 7, 2) := by decide +kernel
theorem dX2_add_83 : decode cX2_add 83 = .ok (.iload_n 3, 1) := by decide +kernel
theorem dX2_add_84 : decode cX2_add 84 = .ok (.putfield 83, 3) := by decide +kernel
theorem dX2_add_87 : decode cX2_add 87 = .ok (.aload 7, 2) := by decide +kernel
theorem dX2_add_89 : decode cX2_add 89 = .ok (.iload 4, 2) := by decide +kernel
theorem dX2_add_91 : decode cX2_add 91 = .ok (.putfield 84, 3) := by decide +kernel
theorem dX2_add_94 : decode cX2_add 94 = .ok (.aload 7, 2) := by decide +kernel
theorem dX2_add_96 : decode cX2_add 96 = .ok (.iload 5, 2) := by decide +kernel
theorem dX2_add_98 : decode cX2_add 98 = .ok (.putfield 87, 3) := by decide +kernel
theorem dX2_add_101 : decode cX2_add 101 = .ok (.aload 7, 2) := by decide +kernel
theorem dX2_add_103 : decode cX2_add 103 = .ok (.iconst 0, 1) := by decide +kernel
theorem dX2_add_104 : decode cX2_add 104 = .ok (.putfield 63, 3) := by decide +kernel
theorem dX2_add_107 : decode cX2_add 107 = .ok (.aload_n 0, 1) := by decide +kernel
theorem dX2_add_108 : decode cX2_add 108 = .ok (.dup, 1) := by decide +kernel
theorem dX2_add_109 : decode cX2_add 109 = .ok (.getfield 46, 3) := by decide +kernel
theorem dX2_add_112 : decode cX2_add 112 = .ok (.iconst 1, 1) := by decide +kernel
theorem dX2_add_113 : decode cX2_add 113 = .ok (.iadd, 1) := by decide +kernel
theorem dX2_add_114 : decode cX2_add 114 = .ok (.putfield 46, 3) := by decide +kernel
theorem dX2_add_117 : decode cX2_add 117 = .ok (.iload 6, 2) := by decide +kernel
theorem dX2_add_119 : decode cX2_add 119 = .ok (.ireturn, 1) := by decide +kernel
theorem dX2_isOver_0 : decode cX2_isOver 0 = .ok (.aload_n 0, 1) := by decide +kernel
theorem dX2_isOver_1 : decode cX2_isOver 1 = .ok (.getfield 53, 3) := by decide +kernel
theorem dX2_isOver_4 : decode cX2_isOver 4 = .ok (.sipush 180, 3) := by decide +kernel
theorem dX2_isOver_7 : decode cX2_isOver 7 = .ok (.if_icmp .ge 25, 3) := by decide +kernel
theorem dX2_isOver_10 : decode cX2_isOver 10 = .ok (.aload_n 0, 1) := by decide +kernel
theorem dX2_isOver_11 : decode cX2_isOver 11 = .ok (.getfield 50, 3) := by decide +kernel
theorem dX2_isOver_14 : decode cX2_isOver 14 = .ok (.ifCond .ne 22, 3) := by decide +kernel
theorem dX2_isOver_17 : decode cX2_isOver 17 = .ok (.aload_n 0, 1) := by decide +kernel
theorem dX2_isOver_18 : decode cX2_isOver 18 = .ok (.iconst 0, 1) := by decide +kernel
theorem dX2_isOver_19 : decode cX2_isOver 19 = .ok (.invokevirtual 90, 3) := by decide +kernel
theorem dX2_isOver_22 : decode cX2_isOver 22 = .ok (.ifCond .ne 14, 3) := by decide +kernel
theorem dX2_isOver_25 : decode cX2_isOver 25 = .ok (.aload_n 0, 1) := by decide +kernel
theorem dX2_isOver_26 : decode cX2_isOver 26 = .ok (.invokevirtual 94, 3) := by decide +kernel
theorem dX2_isOver_29 : decode cX2_isOver 29 = .ok (.ifCond .eq 7, 3) := by decide +kernel
theorem dX2_isOver_32 : decode cX2_isOver 32 = .ok (.iconst 1, 1) := by decide +kernel
theorem dX2_isOver_33 : decode cX2_isOver 33 = .ok (.goto 4, 3) := by decide +kernel
theorem dX2_isOver_36 : decode cX2_isOver 36 = .ok (.iconst 0, 1) := by decide +kernel
theorem dX2_isOver_37 : decode cX2_isOver 37 = .ok (.ireturn, 1) := by decide +kernel
theorem dX2_allFree_0 : decode cX2_allFree 0 = .ok (.iconst 0, 1) := by decide +kernel
theorem dX2_allFree_1 : decode cX2_allFree 1 = .ok (.istore_n 1, 1) := by decide +kernel
theorem dX2_allFree_2 : decode cX2_allFree 2 = .ok (.iload_n 1, 1) := by decide +kernel
theorem dX2_allFree_3 : decode cX2_allFree 3 = .ok (.aload_n 0, 1) := by decide +kernel
theorem dX2_allFree_4 : decode cX2_allFree 4 = .ok (.invokevirtual 98, 3) := by decide +kernel
theorem dX2_allFree_7 : decode cX2_allFree 7 = .ok (.if_icmp .ge 27, 3) := by decide +kernel
theorem dX2_allFree_10 : decode cX2_allFree 10 = .ok (.aload_n 0, 1) := by decide +kernel
theorem dX2_allFree_11 : decode cX2_allFree 11 = .ok (.getfield 32, 3) := by decide +kernel
theorem dX2_allFree_14 : decode cX2_allFree 14 = .ok (.iload_n 1, 1) := by decide +kernel
theorem dX2_allFree_15 : decode cX2_allFree 15 = .ok (.aaload, 1) := by decide +kernel
theorem dX2_allFree_16 : decode cX2_allFree 16 = .ok (.aload_n 0, 1) := by decide +kernel
theorem dX2_allFree_17 : decode cX2_allFree 17 = .ok (.getfield 53, 3) := by decide +kernel
theorem dX2_allFree_20 : decode cX2_allFree 20 = .ok (.invokevirtual 101, 3) := by decide +kernel
theorem dX2_allFree_23 : decode cX2_allFree 23 = .ok (.ifCond .ne 5, 3) := by decide +kernel
theorem dX2_allFree_26 : decode cX2_allFree 26 = .ok (.iconst 0, 1) := by decide +kernel
theorem dX2_allFree_27 : decode cX2_allFree 27 = .ok (.ireturn, 1) := by decide +kernel
theorem dX2_allFree_28 : decode cX2_allFree 28 = .ok (.iinc 1 1, 3) := by decide +kernel
theorem dX2_allFree_31 : decode cX2_allFree 31 = .ok (.goto (-29), 3) := by decide +kernel
theorem dX2_allFree_34 : decode cX2_allFree 34 = .ok (.iconst 1, 1) := by decide +kernel
theorem dX2_allFree_35 : decode cX2_allFree 35 = .ok (.ireturn, 1) := by decide +kernel
theorem dX2_pass_0 : decode cX2_pass 0 = .ok (.iconst 0, 1) := by decide +kernel
theorem dX2_pass_1 : decode cX2_pass 1 = .ok (.istore_n 2, 1) := by decide +kernel
theorem dX2_pass_2 : decode cX2_pass 2 = .ok (.iload_n 2, 1) := by decide +kernel
theorem dX2_pass_3 : decode cX2_pass 3 = .ok (.iload_n 1, 1) := by decide +kernel
theorem dX2_pass_4 : decode cX2_pass 4 = .ok (.if_icmp .ge 20, 3) := by decide +kernel
theorem dX2_pass_7 : decode cX2_pass 7 = .ok (.aload_n 0, 1) := by decide +kernel
theorem dX2_pass_8 : decode cX2_pass 8 = .ok (.invokevirtual 105, 3) := by decide +kernel
theorem dX2_pass_11 : decode cX2_pass 11 = .ok (.ifCond .ne 13, 3) := by decide +kernel
theorem dX2_pass_14 : decode cX2_pass 14 = .ok (.aload_n 0, 1) := by decide +kernel
theorem dX2_pass_15 : decode cX2_pass 15 = .ok (.invokevirtual 108, 3) := by decide +kernel
theorem dX2_pass_18 : decode cX2_pass 18 = .ok (.iinc 2 1, 3) := by decide +kernel
theorem dX2_pass_21 : decode cX2_pass 21 = .ok (.goto (-19), 3) := by decide +kernel
theorem dX2_pass_24 : decode cX2_pass 24 = .ok (.return_, 1) := by decide +kernel
theorem dX2_passMinute_0 : decode cX2_passMinute 0 = .ok (.aload_n 0, 1) := by decide +kernel
theorem dX2_passMinute_1 : decode cX2_passMinute 1 = .ok (.invokevirtual 111, 3) := by decide +kernel
theorem dX2_passMinute_4 : decode cX2_passMinute 4 = .ok (.aload_n 0, 1) := by decide +kernel
theorem dX2_passMinute_5 : decode cX2_passMinute 5 = .ok (.invokevirtual 114, 3) := by decide +kernel
theorem dX2_passMinute_8 : decode cX2_passMinute 8 = .ok (.iconst 0, 1) := by decide +kernel
theorem dX2_passMinute_9 : decode cX2_passMinute 9 = .ok (.istore_n 1, 1) := by decide +kernel
theorem dX2_passMinute_10 : decode cX2_passMinute 10 = .ok (.iload_n 1, 1) := by decide +kernel
theorem dX2_passMinute_11 : decode cX2_passMinute 11 = .ok (.aload_n 0, 1) := by decide +kernel
theorem dX2_passMinute_12 : decode cX2_passMinute 12 = .ok (.getfield 50, 3) := by decide +kernel
theorem dX2_passMinute_15 : decode cX2_passMinute 15 = .ok (.if_icmp .ge 32, 3) := by decide +kernel
theorem dX2_passMinute_18 : decode cX2_passMinute 18 = .ok (.aload_n 0, 1) := by decide +kernel
theorem dX2_passMinute_19 : decode cX2_passMinute 19 = .ok (.aload_n 0, 1) := by decide +kernel
theorem dX2_passMinute_20 : decode cX2_passMinute 20 = .ok (.getfield 37, 3) := by decide +kernel
theorem dX2_passMinute_23 : decode cX2_passMinute 23 = .ok (.iload_n 1, 1) := by decide +kernel
theorem dX2_passMinute_24 : decode cX2_passMinute 24 = .ok (.iaload, 1) := by decide +kernel
theorem dX2_passMinute_25 : decode cX2_passMinute 25 = .ok (.invokevirtual 117, 3) := by decide +kernel
theorem dX2_passMinute_28 : decode cX2_passMinute 28 = .ok (.ifCond .ne 13, 3) := by decide +kernel
theorem dX2_passMinute_31 : decode cX2_passMinute 31 = .ok (.aload_n 0, 1) := by decide +kernel
theorem dX2_passMinute_32 : decode cX2_passMinute 32 = .ok (.aload_n 0, 1) := by decide +kernel
theorem dX2_passMinute_33 : decode cX2_passMinute 33 = .ok (.getfield 37, 3) := by decide +kernel
theorem dX2_passMinute_36 : decode cX2_passMinute 36 = .ok (.iload_n 1, 1) := by decide +kernel
theorem dX2_passMinute_37 : decode cX2_passMinute 37 = .ok (.iaload, 1) := by decide +kernel
theorem dX2_passMinute_38 : decode cX2_passMinute 38 = .ok (.invokevirtual 120, 3) := by decide +kernel
theorem dX2_passMinute_41 : decode cX2_passMinute 41 = .ok (.iinc 1 1, 3) := by decide +kernel
theorem dX2_passMinute_44 : decode cX2_passMinute 44 = .ok (.goto (-34), 3) := by decide +kernel
theorem dX2_passMinute_47 : decode cX2_passMinute 47 = .ok (.aload_n 0, 1) := by decide +kernel
theorem dX2_passMinute_48 : decode cX2_passMinute 48 = .ok (.invokevirtual 124, 3) := by decide +kernel
theorem dX2_passMinute_51 : decode cX2_passMinute 51 = .ok (.aload_n 0, 1) := by decide +kernel
theorem dX2_passMinute_52 : decode cX2_passMinute 52 = .ok (.invokevirtual 127, 3) := by decide +kernel
theorem dX2_passMinute_55 : decode cX2_passMinute 55 = .ok (.aload_n 0, 1) := by decide +kernel
theorem dX2_passMinute_56 : decode cX2_passMinute 56 = .ok (.dup, 1) := by decide +kernel
theorem dX2_passMinute_57 : decode cX2_passMinute 57 = .ok (.getfield 53, 3) := by decide +kernel
theorem dX2_passMinute_60 : decode cX2_passMinute 60 = .ok (.iconst 1, 1) := by decide +kernel
theorem dX2_passMinute_61 : decode cX2_passMinute 61 = .ok (.iadd, 1) := by decide +kernel
theorem dX2_passMinute_62 : decode cX2_passMinute 62 = .ok (.putfield 53, 3) := by decide +kernel
theorem dX2_passMinute_65 : decode cX2_passMinute 65 = .ok (.return_, 1) := by decide +kernel
theorem dX2_lineUp_0 : decode cX2_lineUp 0 = .ok (.iconst 0, 1) := by decide +kernel
theorem dX2_lineUp_1 : decode cX2_lineUp 1 = .ok (.istore_n 1, 1) := by decide +kernel
theorem dX2_lineUp_2 : decode cX2_lineUp 2 = .ok (.iload_n 1, 1) := by decide +kernel
theorem dX2_lineUp_3 : decode cX2_lineUp 3 = .ok (.aload_n 0, 1) := by decide +kernel
theorem dX2_lineUp_4 : decode cX2_lineUp 4 = .ok (.getfield 46, 3) := by decide +kernel
theorem dX2_lineUp_7 : decode cX2_lineUp 7 = .ok (.if_icmp .ge 79, 3) := by decide +kernel
theorem dX2_lineUp_10 : decode cX2_lineUp 10 = .ok (.aload_n 0, 1) := by decide +kernel
theorem dX2_lineUp_11 : decode cX2_lineUp 11 = .ok (.getfield 25, 3) := by decide +kernel
theorem dX2_lineUp_14 : decode cX2_lineUp 14 = .ok (.iload_n 1, 1) := by decide +kernel
theorem dX2_lineUp_15 : decode cX2_lineUp 15 = .ok (.aaload, 1) := by decide +kernel
theorem dX2_lineUp_16 : decode cX2_lineUp 16 = .ok (.getfield 63, 3) := by decide +kernel
theorem dX2_lineUp_19 : decode cX2_lineUp 19 = .ok (.ifCond .ne 61, 3) := by decide +kernel
theorem dX2_lineUp_22 : decode cX2_lineUp 22 = .ok (.aload_n 0, 1) := by decide +kernel
theorem dX2_lineUp_23 : decode cX2_lineUp 23 = .ok (.getfield 25, 3) := by decide +kernel
theorem dX2_lineUp_26 : decode cX2_lineUp 26 = .ok (.iload_n 1, 1) := by decide +kernel
theorem dX2_lineUp_27 : decode cX2_lineUp 27 = .ok (.aaload, 1) := by decide +kernel
theorem dX2_lineUp_28 : decode cX2_lineUp 28 = .ok (.getfield 83, 3) := by decide +kernel
theorem dX2_lineUp_31 : decode cX2_lineUp 31 = .ok (.aload_n 0, 1) := by decide +kernel
theorem dX2_lineUp_32 : decode cX2_lineUp 32 = .ok (.getfield 53, 3) := by decide +kernel
theorem dX2_lineUp_35 : decode cX2_lineUp 35 = .ok (.if_icmp .ne 45, 3) := by decide +kernel
theorem dX2_lineUp_38 : decode cX2_lineUp 38 = .ok (.aload_n 0, 1) := by decide +kernel
theorem dX2_lineUp_39 : decode cX2_lineUp 39 = .ok (.getfield 50, 3) := by decide +kernel
theorem dX2_lineUp_42 : decode cX2_lineUp 42 = .ok (.aload_n 0, 1) := by decide +kernel
theorem dX2_lineUp_43 : decode cX2_lineUp 43 = .ok (.getfield 37, 3) := by decide +kernel
theorem dX2_lineUp_46 : decode cX2_lineUp 46 = .ok (.arraylength, 1) := by decide +kernel
theorem dX2_lineUp_47 : decode cX2_lineUp 47 = .ok (.if_icmp .ge 33, 3) := by decide +kernel
theorem dX2_lineUp_50 : decode cX2_lineUp 50 = .ok (.aload_n 0, 1) := by decide +kernel
theorem dX2_lineUp_51 : decode cX2_lineUp 51 = .ok (.getfield 25, 3) := by decide +kernel
theorem dX2_lineUp_54 : decode cX2_lineUp 54 = .ok (.iload_n 1, 1) := by decide +kernel
theorem dX2_lineUp_55 : decode cX2_lineUp 55 = .ok (.aaload, 1) := by decide +kernel
theorem dX2_lineUp_56 : decode cX2_lineUp 56 = .ok (.iconst 1, 1) := by decide +kernel
theorem dX2_lineUp_57 : decode cX2_lineUp 57 = .ok (.putfield 63, 3) := by decide +kernel
theorem dX2_lineUp_60 : decode cX2_lineUp 60 = .ok (.aload_n 0, 1) := by decide +kernel
theorem dX2_lineUp_61 : decode cX2_lineUp 61 = .ok (.getfield 37, 3) := by decide +kernel
theorem dX2_lineUp_64 : decode cX2_lineUp 64 = .ok (.aload_n 0, 1) := by decide +kernel
theorem dX2_lineUp_65 : decode cX2_lineUp 65 = .ok (.getfield 50, 3) := by decide +kernel
theorem dX2_lineUp_68 : decode cX2_lineUp 68 = .ok (.iload_n 1, 1) := by decide +kernel
theorem dX2_lineUp_69 : decode cX2_lineUp 69 = .ok (.iastore, 1) := by decide +kernel
theorem dX2_lineUp_70 : decode cX2_lineUp 70 = .ok (.aload_n 0, 1) := by decide +kernel
theorem dX2_lineUp_71 : decode cX2_lineUp 71 = .ok (.dup, 1) := by decide +kernel
theorem dX2_lineUp_72 : decode cX2_lineUp 72 = .ok (.getfield 50, 3) := by decide +kernel
theorem dX2_lineUp_75 : decode cX2_lineUp 75 = .ok (.iconst 1, 1) := by decide +kernel
theorem dX2_lineUp_76 : decode cX2_lineUp 76 = .ok (.iadd, 1) := by decide +kernel
theorem dX2_lineUp_77 : decode cX2_lineUp 77 = .ok (.putfield 50, 3) := by decide +kernel
theorem dX2_lineUp_80 : decode cX2_lineUp 80 = .ok (.iinc 1 1, 3) := by decide +kernel
theorem dX2_lineUp_83 : decode cX2_lineUp 83 = .ok (.goto (-81), 3) := by decide +kernel
theorem dX2_lineUp_86 : decode cX2_lineUp 86 = .ok (.return_, 1) := by decide +kernel
theorem dX2_loseImpatient_0 : decode cX2_loseImpatient 0 = .ok (.iconst 0, 1) := by decide +kernel
theorem dX2_loseImpatient_1 : decode cX2_loseImpatient 1 = .ok (.istore_n 1, 1) := by decide +kernel
theorem dX2_loseImpatient_2 : decode cX2_loseImpatient 2 = .ok (.iload_n 1, 1) := by decide +kernel
theorem dX2_loseImpatient_3 : decode cX2_loseImpatient 3 = .ok (.aload_n 0, 1) := by decide +kernel
theorem dX2_loseImpatient_4 : decode cX2_loseImpatient 4 = .ok (.getfield 50, 3) := by decide +kernel
theorem dX2_loseImpatient_7 : decode cX2_loseImpatient 7 = .ok (.if_icmp .ge 42, 3) := by decide +kernel
theorem dX2_loseImpatient_10 : decode cX2_loseImpatient 10 = .ok (.aload_n 0, 1) := by decide +kernel
theorem dX2_loseImpatient_11 : decode cX2_loseImpatient 11 = .ok (.getfield 25, 3) := by decide +kernel
theorem dX2_loseImpatient_14 : decode cX2_loseImpatient 14 = .ok (.aload_n 0, 1) := by decide +kernel
theorem dX2_loseImpatient_15 : decode cX2_loseImpatient 15 = .ok (.getfield 37, 3) := by decide +kernel
theorem dX2_loseImpatient_18 : decode cX2_loseImpatient 18 = .ok (.iload_n 1, 1) := by decide +kernel
theorem dX2_loseImpatient_19 : decode cX2_loseImpatient 19 = .ok (.iaload, 1) := by decide +kernel
theorem dX2_loseImpatient_20 : decode cX2_loseImpatient 20 = .ok (.aaload, 1) := by decide +kernel
theorem dX2_loseImpatient_21 : decode cX2_loseImpatient 21 = .ok (.astore_n 2, 1) := by decide +kernel
theorem dX2_loseImpatient_22 : decode cX2_loseImpatient 22 = .ok (.aload_n 0, 1) := by decide +kernel
theorem dX2_loseImpatient_23 : decode cX2_loseImpatient 23 = .ok (.getfield 53, 3) := by decide +kernel
theorem dX2_loseImpatient_26 : decode cX2_loseImpatient 26 = .ok (.aload_n 2, 1) := by decide +kernel
theorem dX2_loseImpatient_27 : decode cX2_loseImpatient 27 = .ok (.getfield 83, 3) := by decide +kernel
theorem dX2_loseImpatient_30 : decode cX2_loseImpatient 30 = .ok (.isub, 1) := by decide +kernel
theorem dX2_loseImpatient_31 : decode cX2_loseImpatient 31 = .ok (.aload_n 2, 1) := by decide +kernel
theorem dX2_loseImpatient_32 : decode cX2_loseImpatient 32 = .ok (.getfield 87, 3) := by decide +kernel
theorem dX2_loseImpatient_35 : decode cX2_loseImpatient 35 = .ok (.if_icmp .le 8, 3) := by decide +kernel
theorem dX2_loseImpatient_38 : decode cX2_loseImpatient 38 = .ok (.aload_n 2, 1) := by decide +kernel
theorem dX2_loseImpatient_39 : decode cX2_loseImpatient 39 = .ok (.iconst 3, 1) := by decide +kernel
theorem dX2_loseImpatient_40 : decode cX2_loseImpatient 40 = .ok (.putfield 63, 3) := by decide +kernel
theorem dX2_loseImpatient_43 : decode cX2_loseImpatient 43 = .ok (.iinc 1 1, 3) := by decide +kernel
theorem dX2_loseImpatient_46 : decode cX2_loseImpatient 46 = .ok (.goto (-44), 3) := by decide +kernel
theorem dX2_loseImpatient_49 : decode cX2_loseImpatient 49 = .ok (.aload_n 0, 1) := by decide +kernel
theorem dX2_loseImpatient_50 : decode cX2_loseImpatient 50 = .ok (.invokevirtual 124, 3) := by decide +kernel
theorem dX2_loseImpatient_53 : decode cX2_loseImpatient 53 = .ok (.return_, 1) := by decide +kernel
theorem dX2_serve_0 : decode cX2_serve 0 = .ok (.aload_n 0, 1) := by decide +kernel
theorem dX2_serve_1 : decode cX2_serve 1 = .ok (.getfield 25, 3) := by decide +kernel
theorem dX2_serve_4 : decode cX2_serve 4 = .ok (.iload_n 1, 1) := by decide +kernel
theorem dX2_serve_5 : decode cX2_serve 5 = .ok (.aaload, 1) := by decide +kernel
theorem dX2_serve_6 : decode cX2_serve 6 = .ok (.astore_n 2, 1) := by decide +kernel
theorem dX2_serve_7 : decode cX2_serve 7 = .ok (.aload_n 0, 1) := by decide +kernel
theorem dX2_serve_8 : decode cX2_serve 8 = .ok (.aload_n 2, 1) := by decide +kernel
theorem dX2_serve_9 : decode cX2_serve 9 = .ok (.getfield 84, 3) := by decide +kernel
theorem dX2_serve_12 : decode cX2_serve 12 = .ok (.invokevirtual 130, 3) := by decide +kernel
theorem dX2_serve_15 : decode cX2_serve 15 = .ok (.astore_n 3, 1) := by decide +kernel
theorem dX2_serve_16 : decode cX2_serve 16 = .ok (.aload_n 3, 1) := by decide +kernel
theorem dX2_serve_17 : decode cX2_serve 17 = .ok (.ifnull 29, 3) := by decide +kernel
theorem dX2_serve_20 : decode cX2_serve 20 = .ok (.aload_n 3, 1) := by decide +kernel
theorem dX2_serve_21 : decode cX2_serve 21 = .ok (.dup, 1) := by decide +kernel
theorem dX2_serve_22 : decode cX2_serve 22 = .ok (.getfield 134, 3) := by decide +kernel
theorem dX2_serve_25 : decode cX2_serve 25 = .ok (.aload_n 2, 1) := by decide +kernel
theorem dX2_serve_26 : decode cX2_serve 26 = .ok (.getfield 84, 3) := by decide +kernel
theorem dX2_serve_29 : decode cX2_serve 29 = .ok (.isub, 1) := by decide +kernel
theorem dX2_serve_30 : decode cX2_serve 30 = .ok (.putfield 134, 3) := by decide +kernel
theorem dX2_serve_33 : decode cX2_serve 33 = .ok (.aload_n 2, 1) := by decide +kernel
theorem dX2_serve_34 : decode cX2_serve 34 = .ok (.iconst 2, 1) := by decide +kernel
theorem dX2_serve_35 : decode cX2_serve 35 = .ok (.putfield 63, 3) := by decide +kernel
theorem dX2_serve_38 : decode cX2_serve 38 = .ok (.aload_n 2, 1) := by decide +kernel
theorem dX2_serve_39 : decode cX2_serve 39 = .ok (.aload_n 0, 1) := by decide +kernel
theorem dX2_serve_40 : decode cX2_serve 40 = .ok (.getfield 53, 3) := by decide +kernel
theorem dX2_serve_43 : decode cX2_serve 43 = .ok (.putfield 137, 3) := by decide +kernel
theorem dX2_serve_46 : decode cX2_serve 46 = .ok (.aload_n 3, 1) := by decide +kernel
theorem dX2_serve_47 : decode cX2_serve 47 = .ok (.ifnull 7, 3) := by decide +kernel
theorem dX2_serve_50 : decode cX2_serve 50 = .ok (.iconst 1, 1) := by decide +kernel
theorem dX2_serve_51 : decode cX2_serve 51 = .ok (.goto 4, 3) := by decide +kernel
theorem dX2_serve_54 : decode cX2_serve 54 = .ok (.iconst 0, 1) := by decide +kernel
theorem dX2_serve_55 : decode cX2_serve 55 = .ok (.ireturn, 1) := by decide +kernel
theorem dX2_boil_0 : decode cX2_boil 0 = .ok (.aload_n 0, 1) := by decide +kernel
theorem dX2_boil_1 : decode cX2_boil 1 = .ok (.invokevirtual 140, 3) := by decide +kernel
theorem dX2_boil_4 : decode cX2_boil 4 = .ok (.astore_n 2, 1) := by decide +kernel
theorem dX2_boil_5 : decode cX2_boil 5 = .ok (.aload_n 2, 1) := by decide +kernel
theorem dX2_boil_6 : decode cX2_boil 6 = .ok (.ifnull 11, 3) := by decide +kernel
theorem dX2_boil_9 : decode cX2_boil 9 = .ok (.aload_n 0, 1) := by decide +kernel
theorem dX2_boil_10 : decode cX2_boil 10 = .ok (.iload_n 1, 1) := by decide +kernel
theorem dX2_boil_11 : decode cX2_boil 11 = .ok (.invokevirtual 144, 3) := by decide +kernel
theorem dX2_boil_14 : decode cX2_boil 14 = .ok (.ifCond .eq 4, 3) := by decide +kernel
theorem dX2_boil_17 : decode cX2_boil 17 = .ok (.return_, 1) := by decide +kernel
theorem dX2_boil_18 : decode cX2_boil 18 = .ok (.aload_n 0, 1) := by decide +kernel
theorem dX2_boil_19 : decode cX2_boil 19 = .ok (.aload_n 0, 1) := by decide +kernel
theorem dX2_boil_20 : decode cX2_boil 20 = .ok (.getfield 25, 3) := by decide +kernel
theorem dX2_boil_23 : decode cX2_boil 23 = .ok (.iload_n 1, 1) := by decide +kernel
theorem dX2_boil_24 : decode cX2_boil 24 = .ok (.aaload, 1) := by decide +kernel
theorem dX2_boil_25 : decode cX2_boil 25 = .ok (.aload_n 0, 1) := by decide +kernel
theorem dX2_boil_26 : decode cX2_boil 26 = .ok (.getfield 25, 3) := by decide +kernel
theorem dX2_boil_29 : decode cX2_boil 29 = .ok (.iload_n 1, 1) := by decide +kernel
theorem dX2_boil_30 : decode cX2_boil 30 = .ok (.aaload, 1) := by decide +kernel
theorem dX2_boil_31 : decode cX2_boil 31 = .ok (.getfield 147, 3) := by decide +kernel
theorem dX2_boil_34 : decode cX2_boil 34 = .ok (.invokevirtual 150, 3) := by decide +kernel
theorem dX2_boil_37 : decode cX2_boil 37 = .ok (.istore_n 3, 1) := by decide +kernel
theorem dX2_boil_38 : decode cX2_boil 38 = .ok (.aload_n 0, 1) := by decide +kernel
theorem dX2_boil_39 : decode cX2_boil 39 = .ok (.getfield 53, 3) := by decide +kernel
theorem dX2_boil_42 : decode cX2_boil 42 = .ok (.istore 4, 2) := by decide +kernel
theorem dX2_boil_44 : decode cX2_boil 44 = .ok (.aload_n 2, 1) := by decide +kernel
theorem dX2_boil_45 : decode cX2_boil 45 = .ok (.getfield 134, 3) := by decide +kernel
theorem dX2_boil_48 : decode cX2_boil 48 = .ok (.iload_n 3, 1) := by decide +kernel
theorem dX2_boil_49 : decode cX2_boil 49 = .ok (.if_icmp .ge 19, 3) := by decide +kernel
theorem dX2_boil_52 : decode cX2_boil 52 = .ok (.aload_n 2, 1) := by decide +kernel
theorem dX2_boil_53 : decode cX2_boil 53 = .ok (.iload_n 3, 1) := by decide +kernel
theorem dX2_boil_54 : decode cX2_boil 54 = .ok (.invokevirtual 154, 3) := by decide +kernel
theorem dX2_boil_57 : decode cX2_boil 57 = .ok (.iload 4, 2) := by decide +kernel
theorem dX2_boil_59 : decode cX2_boil 59 = .ok (.aload_n 0, 1) := by decide +kernel
theorem dX2_boil_60 : decode cX2_boil 60 = .ok (.getfield 18, 3) := by decide +kernel
theorem dX2_boil_63 : decode cX2_boil 63 = .ok (.iconst 1, 1) := by decide +kernel
theorem dX2_boil_64 : decode cX2_boil 64 = .ok (.iaload, 1) := by decide +kernel
theorem dX2_boil_65 : decode cX2_boil 65 = .ok (.iadd, 1) := by decide +kernel
theorem dX2_boil_66 : decode cX2_boil 66 = .ok (.istore 4, 2) := by decide +kernel
theorem dX2_boil_68 : decode cX2_boil 68 = .ok (.aload_n 2, 1) := by decide +kernel
theorem dX2_boil_69 : decode cX2_boil 69 = .ok (.iload_n 1, 1) := by decide +kernel
theorem dX2_boil_70 : decode cX2_boil 70 = .ok (.iload 4, 2) := by decide +kernel
theorem dX2_boil_72 : decode cX2_boil 72 = .ok (.aload_n 0, 1) := by decide +kernel
theorem dX2_boil_73 : decode cX2_boil 73 = .ok (.getfield 18, 3) := by decide +kernel
theorem dX2_boil_76 : decode cX2_boil 76 = .ok (.iconst 2, 1) := by decide +kernel
theorem dX2_boil_77 : decode cX2_boil 77 = .ok (.iaload, 1) := by decide +kernel
theorem dX2_boil_78 : decode cX2_boil 78 = .ok (.invokevirtual 157, 3) := by decide +kernel
theorem dX2_boil_81 : decode cX2_boil 81 = .ok (.aload_n 0, 1) := by decide +kernel
theorem dX2_boil_82 : decode cX2_boil 82 = .ok (.dup, 1) := by decide +kernel
theorem dX2_boil_83 : decode cX2_boil 83 = .ok (.getfield 161, 3) := by decide +kernel
theorem dX2_boil_86 : decode cX2_boil 86 = .ok (.iconst 1, 1) := by decide +kernel
theorem dX2_boil_87 : decode cX2_boil 87 = .ok (.iadd, 1) := by decide +kernel
theorem dX2_boil_88 : decode cX2_boil 88 = .ok (.putfield 161, 3) := by decide +kernel
theorem dX2_boil_91 : decode cX2_boil 91 = .ok (.return_, 1) := by decide +kernel
theorem dX2_firstReady_0 : decode cX2_firstReady 0 = .ok (.iconst 0, 1) := by decide +kernel
theorem dX2_firstReady_1 : decode cX2_firstReady 1 = .ok (.istore_n 2, 1) := by decide +kernel
theorem dX2_firstReady_2 : decode cX2_firstReady 2 = .ok (.iload_n 2, 1) := by decide +kernel
theorem dX2_firstReady_3 : decode cX2_firstReady 3 = .ok (.aload_n 0, 1) := by decide +kernel
theorem dX2_firstReady_4 : decode cX2_firstReady 4 = .ok (.invokevirtual 98, 3) := by decide +kernel
theorem dX2_firstReady_7 : decode cX2_firstReady 7 = .ok (.if_icmp .ge 33, 3) := by decide +kernel
theorem dX2_firstReady_10 : decode cX2_firstReady 10 = .ok (.aload_n 0, 1) := by decide +kernel
theorem dX2_firstReady_11 : decode cX2_firstReady 11 = .ok (.getfield 32, 3) := by decide +kernel
theorem dX2_firstReady_14 : decode cX2_firstReady 14 = .ok (.iload_n 2, 1) := by decide +kernel
theorem dX2_firstReady_15 : decode cX2_firstReady 15 = .ok (.aaload, 1) := by decide +kernel
theorem dX2_firstReady_16 : decode cX2_firstReady 16 = .ok (.aload_n 0, 1) := by decide +kernel
theorem dX2_firstReady_17 : decode cX2_firstReady 17 = .ok (.getfield 53, 3) := by decide +kernel
theorem dX2_firstReady_20 : decode cX2_firstReady 20 = .ok (.iload_n 1, 1) := by decide +kernel
theorem dX2_firstReady_21 : decode cX2_firstReady 21 = .ok (.invokevirtual 164, 3) := by decide +kernel
theorem dX2_firstReady_24 : decode cX2_firstReady 24 = .ok (.ifCond .eq 10, 3) := by decide +kernel
theorem dX2_firstReady_27 : decode cX2_firstReady 27 = .ok (.aload_n 0, 1) := by decide +kernel
theorem dX2_firstReady_28 : decode cX2_firstReady 28 = .ok (.getfield 32, 3) := by decide +kernel
theorem dX2_firstReady_31 : decode cX2_firstReady 31 = .ok (.iload_n 2, 1) := by decide +kernel
theorem dX2_firstReady_32 : decode cX2_firstReady 32 = .ok (.aaload, 1) := by decide +kernel
theorem dX2_firstReady_33 : decode cX2_firstReady 33 = .ok (.areturn, 1) := by decide +kernel
theorem dX2_firstReady_34 : decode cX2_firstReady 34 = .ok (.iinc 2 1, 3) := by decide +kernel
theorem dX2_firstReady_37 : decode cX2_firstReady 37 = .ok (.goto (-35), 3) := by decide +kernel
theorem dX2_firstReady_40 : decode cX2_firstReady 40 = .ok (.aconst_null, 1) := by decide +kernel
theorem dX2_firstReady_41 : decode cX2_firstReady 41 = .ok (.areturn, 1) := by decide +kernel
theorem dX2_firstFree_0 : decode cX2_firstFree 0 = .ok (.iconst 0, 1) := by decide +kernel
theorem dX2_firstFree_1 : decode cX2_firstFree 1 = .ok (.istore_n 1, 1) := by decide +kernel
theorem dX2_firstFree_2 : decode cX2_firstFree 2 = .ok (.iload_n 1, 1) := by decide +kernel
theorem dX2_firstFree_3 : decode cX2_firstFree 3 = .ok (.aload_n 0, 1) := by decide +kernel
theorem dX2_firstFree_4 : decode cX2_firstFree 4 = .ok (.invokevirtual 98, 3) := by decide +kernel
theorem dX2_firstFree_7 : decode cX2_firstFree 7 = .ok (.if_icmp .ge 32, 3) := by decide +kernel
theorem dX2_firstFree_10 : decode cX2_firstFree 10 = .ok (.aload_n 0, 1) := by decide +kernel
theorem dX2_firstFree_11 : decode cX2_firstFree 11 = .ok (.getfield 32, 3) := by decide +kernel
theorem dX2_firstFree_14 : decode cX2_firstFree 14 = .ok (.iload_n 1, 1) := by decide +kernel
theorem dX2_firstFree_15 : decode cX2_firstFree 15 = .ok (.aaload, 1) := by decide +kernel
theorem dX2_firstFree_16 : decode cX2_firstFree 16 = .ok (.aload_n 0, 1) := by decide +kernel
theorem dX2_firstFree_17 : decode cX2_firstFree 17 = .ok (.getfield 53, 3) := by decide +kernel
theorem dX2_firstFree_20 : decode cX2_firstFree 20 = .ok (.invokevirtual 101, 3) := by decide +kernel
theorem dX2_firstFree_23 : decode cX2_firstFree 23 = .ok (.ifCond .eq 10, 3) := by decide +kernel
theorem dX2_firstFree_26 : decode cX2_firstFree 26 = .ok (.aload_n 0, 1) := by decide +kernel
theorem dX2_firstFree_27 : decode cX2_firstFree 27 = .ok (.getfield 32, 3) := by decide +kernel
theorem dX2_firstFree_30 : decode cX2_firstFree 30 = .ok (.iload_n 1, 1) := by decide +kernel
theorem dX2_firstFree_31 : decode cX2_firstFree 31 = .ok (.aaload, 1) := by decide +kernel
theorem dX2_firstFree_32 : decode cX2_firstFree 32 = .ok (.areturn, 1) := by decide +kernel
theorem dX2_firstFree_33 : decode cX2_firstFree 33 = .ok (.iinc 1 1, 3) := by decide +kernel
theorem dX2_firstFree_36 : decode cX2_firstFree 36 = .ok (.goto (-34), 3) := by decide +kernel
theorem dX2_firstFree_39 : decode cX2_firstFree 39 = .ok (.aconst_null, 1) := by decide +kernel
theorem dX2_firstFree_40 : decode cX2_firstFree 40 = .ok (.areturn, 1) := by decide +kernel
theorem dX2_waitsForOwn_0 : decode cX2_waitsForOwn 0 = .ok (.iconst 0, 1) := by decide +kernel
theorem dX2_waitsForOwn_1 : decode cX2_waitsForOwn 1 = .ok (.istore_n 2, 1) := by decide +kernel
theorem dX2_waitsForOwn_2 : decode cX2_waitsForOwn 2 = .ok (.iload_n 2, 1) := by decide +kernel
theorem dX2_waitsForOwn_3 : decode cX2_waitsForOwn 3 = .ok (.aload_n 0, 1) := by decide +kernel
theorem dX2_waitsForOwn_4 : decode cX2_waitsForOwn 4 = .ok (.invokevirtual 98, 3) := by decide +kernel
theorem dX2_waitsForOwn_7 : decode cX2_waitsForOwn 7 = .ok (.if_icmp .ge 40, 3) := by decide +kernel
theorem dX2_waitsForOwn_10 : decode cX2_waitsForOwn 10 = .ok (.aload_n 0, 1) := by decide +kernel
theorem dX2_waitsForOwn_11 : decode cX2_waitsForOwn 11 = .ok (.getfield 32, 3) := by decide +kernel
theorem dX2_waitsForOwn_14 : decode cX2_waitsForOwn 14 = .ok (.iload_n 2, 1) := by decide +kernel
theorem dX2_waitsForOwn_15 : decode cX2_waitsForOwn 15 = .ok (.aaload, 1) := by decide +kernel
theorem dX2_waitsForOwn_16 : decode cX2_waitsForOwn 16 = .ok (.getfield 168, 3) := by decide +kernel
theorem dX2_waitsForOwn_19 : decode cX2_waitsForOwn 19 = .ok (.iload_n 1, 1) := by decide +kernel
theorem dX2_waitsForOwn_20 : decode cX2_waitsForOwn 20 = .ok (.if_icmp .ne 21, 3) := by decide +kernel
theorem dX2_waitsForOwn_23 : decode cX2_waitsForOwn 23 = .ok (.aload_n 0, 1) := by decide +kernel
theorem dX2_waitsForOwn_24 : decode cX2_waitsForOwn 24 = .ok (.getfield 32, 3) := by decide +kernel
theorem dX2_waitsForOwn_27 : decode cX2_waitsForOwn 27 = .ok (.iload_n 2, 1) := by decide +kernel
theorem dX2_waitsForOwn_28 : decode cX2_waitsForOwn 28 = .ok (.aaload, 1) := by decide +kernel
theorem dX2_waitsForOwn_29 : decode cX2_waitsForOwn 29 = .ok (.aload_n 0, 1) := by decide +kernel
theorem dX2_waitsForOwn_30 : decode cX2_waitsForOwn 30 = .ok (.getfield 53, 3) := by decide +kernel
theorem dX2_waitsForOwn_33 : decode cX2_waitsForOwn 33 = .ok (.invokevirtual 101, 3) := by decide +kernel
theorem dX2_waitsForOwn_36 : decode cX2_waitsForOwn 36 = .ok (.ifCond .ne 5, 3) := by decide +kernel
theorem dX2_waitsForOwn_39 : decode cX2_waitsForOwn 39 = .ok (.iconst 1, 1) := by decide +kernel
theorem dX2_waitsForOwn_40 : decode cX2_waitsForOwn 40 = .ok (.ireturn, 1) := by decide +kernel
theorem dX2_waitsForOwn_41 : decode cX2_waitsForOwn 41 = .ok (.iinc 2 1, 3) := by decide +kernel
theorem dX2_waitsForOwn_44 : decode cX2_waitsForOwn 44 = .ok (.goto (-42), 3) := by decide +kernel
theorem dX2_waitsForOwn_47 : decode cX2_waitsForOwn 47 = .ok (.iconst 0, 1) := by decide +kernel
theorem dX2_waitsForOwn_48 : decode cX2_waitsForOwn 48 = .ok (.ireturn, 1) := by decide +kernel
theorem dX2_closeUp_0 : decode cX2_closeUp 0 = .ok (.iconst 0, 1) := by decide +kernel
theorem dX2_closeUp_1 : decode cX2_closeUp 1 = .ok (.istore_n 1, 1) := by decide +kernel
theorem dX2_closeUp_2 : decode cX2_closeUp 2 = .ok (.iconst 0, 1) := by decide +kernel
theorem dX2_closeUp_3 : decode cX2_closeUp 3 = .ok (.istore_n 2, 1) := by decide +kernel
theorem dX2_closeUp_4 : decode cX2_closeUp 4 = .ok (.iload_n 2, 1) := by decide +kernel
theorem dX2_closeUp_5 : decode cX2_closeUp 5 = .ok (.aload_n 0, 1) := by decide +kernel
theorem dX2_closeUp_6 : decode cX2_closeUp 6 = .ok (.getfield 50, 3) := by decide +kernel
theorem dX2_closeUp_9 : decode cX2_closeUp 9 = .ok (.if_icmp .ge 42, 3) := by decide +kernel
theorem dX2_closeUp_12 : decode cX2_closeUp 12 = .ok (.aload_n 0, 1) := by decide +kernel
theorem dX2_closeUp_13 : decode cX2_closeUp 13 = .ok (.getfield 25, 3) := by decide +kernel
theorem dX2_closeUp_16 : decode cX2_closeUp 16 = .ok (.aload_n 0, 1) := by decide +kernel
theorem dX2_closeUp_17 : decode cX2_closeUp 17 = .ok (.getfield 37, 3) := by decide +kernel
theorem dX2_closeUp_20 : decode cX2_closeUp 20 = .ok (.iload_n 2, 1) := by decide +kernel
theorem dX2_closeUp_21 : decode cX2_closeUp 21 = .ok (.iaload, 1) := by decide +kernel
theorem dX2_closeUp_22 : decode cX2_closeUp 22 = .ok (.aaload, 1) := by decide +kernel
theorem dX2_closeUp_23 : decode cX2_closeUp 23 = .ok (.getfield 63, 3) := by decide +kernel
theorem dX2_closeUp_26 : decode cX2_closeUp 26 = .ok (.iconst 1, 1) := by decide +kernel
theorem dX2_closeUp_27 : decode cX2_closeUp 27 = .ok (.if_icmp .ne 18, 3) := by decide +kernel
theorem dX2_closeUp_30 : decode cX2_closeUp 30 = .ok (.aload_n 0, 1) := by decide +kernel
theorem dX2_closeUp_31 : decode cX2_closeUp 31 = .ok (.getfield 37, 3) := by decide +kernel
theorem dX2_closeUp_34 : decode cX2_closeUp 34 = .ok (.iload_n 1, 1) := by decide +kernel
theorem dX2_closeUp_35 : decode cX2_closeUp 35 = .ok (.aload_n 0, 1) := by decide +kernel
theorem dX2_closeUp_36 : decode cX2_closeUp 36 = .ok (.getfield 37, 3) := by decide +kernel
theorem dX2_closeUp_39 : decode cX2_closeUp 39 = .ok (.iload_n 2, 1) := by decide +kernel
theorem dX2_closeUp_40 : decode cX2_closeUp 40 = .ok (.iaload, 1) := by decide +kernel
theorem dX2_closeUp_41 : decode cX2_closeUp 41 = .ok (.iastore, 1) := by decide +kernel
theorem dX2_closeUp_42 : decode cX2_closeUp 42 = .ok (.iinc 1 1, 3) := by decide +kernel
theorem dX2_closeUp_45 : decode cX2_closeUp 45 = .ok (.iinc 2 1, 3) := by decide +kernel
theorem dX2_closeUp_48 : decode cX2_closeUp 48 = .ok (.goto (-44), 3) := by decide +kernel
theorem dX2_closeUp_51 : decode cX2_closeUp 51 = .ok (.aload_n 0, 1) := by decide +kernel
theorem dX2_closeUp_52 : decode cX2_closeUp 52 = .ok (.iload_n 1, 1) := by decide +kernel
theorem dX2_closeUp_53 : decode cX2_closeUp 53 = .ok (.putfield 50, 3) := by decide +kernel
theorem dX2_closeUp_56 : decode cX2_closeUp 56 = .ok (.return_, 1) := by decide +kernel
theorem dX2_coolDown_0 : decode cX2_coolDown 0 = .ok (.iconst 0, 1) := by decide +kernel
theorem dX2_coolDown_1 : decode cX2_coolDown 1 = .ok (.istore_n 1, 1) := by decide +kernel
theorem dX2_coolDown_2 : decode cX2_coolDown 2 = .ok (.iload_n 1, 1) := by decide +kernel
theorem dX2_coolDown_3 : decode cX2_coolDown 3 = .ok (.aload_n 0, 1) := by decide +kernel
theorem dX2_coolDown_4 : decode cX2_coolDown 4 = .ok (.invokevirtual 98, 3) := by decide +kernel
theorem dX2_coolDown_7 : decode cX2_coolDown 7 = .ok (.if_icmp .ge 52, 3) := by decide +kernel
theorem dX2_coolDown_10 : decode cX2_coolDown 10 = .ok (.aload_n 0, 1) := by decide +kernel
theorem dX2_coolDown_11 : decode cX2_coolDown 11 = .ok (.getfield 32, 3) := by decide +kernel
theorem dX2_coolDown_14 : decode cX2_coolDown 14 = .ok (.iload_n 1, 1) := by decide +kernel
theorem dX2_coolDown_15 : decode cX2_coolDown 15 = .ok (.aaload, 1) := by decide +kernel
theorem dX2_coolDown_16 : decode cX2_coolDown 16 = .ok (.getfield 134, 3) := by decide +kernel
theorem dX2_coolDown_19 : decode cX2_coolDown 19 = .ok (.ifCond .le 34, 3) := by decide +kernel
theorem dX2_coolDown_22 : decode cX2_coolDown 22 = .ok (.aload_n 0, 1) := by decide +kernel
theorem dX2_coolDown_23 : decode cX2_coolDown 23 = .ok (.getfield 32, 3) := by decide +kernel
theorem dX2_coolDown_26 : decode cX2_coolDown 26 = .ok (.iload_n 1, 1) := by decide +kernel
theorem dX2_coolDown_27 : decode cX2_coolDown 27 = .ok (.aaload, 1) := by decide +kernel
theorem dX2_coolDown_28 : decode cX2_coolDown 28 = .ok (.aload_n 0, 1) := by decide +kernel
theorem dX2_coolDown_29 : decode cX2_coolDown 29 = .ok (.getfield 53, 3) := by decide +kernel
theorem dX2_coolDown_32 : decode cX2_coolDown 32 = .ok (.invokevirtual 101, 3) := by decide +kernel
theorem dX2_coolDown_35 : decode cX2_coolDown 35 = .ok (.ifCond .eq 18, 3) := by decide +kernel
theorem dX2_coolDown_38 : decode cX2_coolDown 38 = .ok (.aload_n 0, 1) := by decide +kernel
theorem dX2_coolDown_39 : decode cX2_coolDown 39 = .ok (.getfield 32, 3) := by decide +kernel
theorem dX2_coolDown_42 : decode cX2_coolDown 42 = .ok (.iload_n 1, 1) := by decide +kernel
theorem dX2_coolDown_43 : decode cX2_coolDown 43 = .ok (.aaload, 1) := by decide +kernel
theorem dX2_coolDown_44 : decode cX2_coolDown 44 = .ok (.aload_n 0, 1) := by decide +kernel
theorem dX2_coolDown_45 : decode cX2_coolDown 45 = .ok (.getfield 18, 3) := by decide +kernel
theorem dX2_coolDown_48 : decode cX2_coolDown 48 = .ok (.iconst 3, 1) := by decide +kernel
theorem dX2_coolDown_49 : decode cX2_coolDown 49 = .ok (.iaload, 1) := by decide +kernel
theorem dX2_coolDown_50 : decode cX2_coolDown 50 = .ok (.invokevirtual 171, 3) := by decide +kernel
theorem dX2_coolDown_53 : decode cX2_coolDown 53 = .ok (.iinc 1 1, 3) := by decide +kernel
theorem dX2_coolDown_56 : decode cX2_coolDown 56 = .ok (.goto (-54), 3) := by decide +kernel
theorem dX2_coolDown_59 : decode cX2_coolDown 59 = .ok (.return_, 1) := by decide +kernel
theorem dX2_upTo_0 : decode cX2_upTo 0 = .ok (.iload_n 2, 1) := by decide +kernel
theorem dX2_upTo_1 : decode cX2_upTo 1 = .ok (.tableswitch 106 1 6 #[39, 47, 57, 65, 87, 98], 39) := by decide +kernel
theorem dX2_upTo_40 : decode cX2_upTo 40 = .ok (.aload_n 1, 1) := by decide +kernel
theorem dX2_upTo_41 : decode cX2_upTo 41 = .ok (.getfield 84, 3) := by decide +kernel
theorem dX2_upTo_44 : decode cX2_upTo 44 = .ok (.istore_n 3, 1) := by decide +kernel
theorem dX2_upTo_45 : decode cX2_upTo 45 = .ok (.goto 69, 3) := by decide +kernel
theorem dX2_upTo_48 : decode cX2_upTo 48 = .ok (.aload_n 0, 1) := by decide +kernel
theorem dX2_upTo_49 : decode cX2_upTo 49 = .ok (.getfield 18, 3) := by decide +kernel
theorem dX2_upTo_52 : decode cX2_upTo 52 = .ok (.iconst 0, 1) := by decide +kernel
theorem dX2_upTo_53 : decode cX2_upTo 53 = .ok (.iaload, 1) := by decide +kernel
theorem dX2_upTo_54 : decode cX2_upTo 54 = .ok (.istore_n 3, 1) := by decide +kernel
theorem dX2_upTo_55 : decode cX2_upTo 55 = .ok (.goto 59, 3) := by decide +kernel
theorem dX2_upTo_58 : decode cX2_upTo 58 = .ok (.aload_n 0, 1) := by decide +kernel
theorem dX2_upTo_59 : decode cX2_upTo 59 = .ok (.invokevirtual 174, 3) := by decide +kernel
theorem dX2_upTo_62 : decode cX2_upTo 62 = .ok (.istore_n 3, 1) := by decide +kernel
theorem dX2_upTo_63 : decode cX2_upTo 63 = .ok (.goto 51, 3) := by decide +kernel
theorem dX2_upTo_66 : decode cX2_upTo 66 = .ok (.aload_n 0, 1) := by decide +kernel
theorem dX2_upTo_67 : decode cX2_upTo 67 = .ok (.invokevirtual 174, 3) := by decide +kernel
theorem dX2_upTo_70 : decode cX2_upTo 70 = .ok (.aload_n 0, 1) := by decide +kernel
theorem dX2_upTo_71 : decode cX2_upTo 71 = .ok (.aload_n 0, 1) := by decide +kernel
theorem dX2_upTo_72 : decode cX2_upTo 72 = .ok (.getfield 53, 3) := by decide +kernel
theorem dX2_upTo_75 : decode cX2_upTo 75 = .ok (.aload_n 1, 1) := by decide +kernel
theorem dX2_upTo_76 : decode cX2_upTo 76 = .ok (.getfield 177, 3) := by decide +kernel
theorem dX2_upTo_79 : decode cX2_upTo 79 = .ok (.iadd, 1) := by decide +kernel
theorem dX2_upTo_80 : decode cX2_upTo 80 = .ok (.invokevirtual 180, 3) := by decide +kernel
theorem dX2_upTo_83 : decode cX2_upTo 83 = .ok (.iadd, 1) := by decide +kernel
theorem dX2_upTo_84 : decode cX2_upTo 84 = .ok (.istore_n 3, 1) := by decide +kernel
theorem dX2_upTo_85 : decode cX2_upTo 85 = .ok (.goto 29, 3) := by decide +kernel
theorem dX2_upTo_88 : decode cX2_upTo 88 = .ok (.aload_n 0, 1) := by decide +kernel
theorem dX2_upTo_89 : decode cX2_upTo 89 = .ok (.getfield 18, 3) := by decide +kernel
theorem dX2_upTo_92 : decode cX2_upTo 92 = .ok (.bipush 6, 2) := by decide +kernel
theorem dX2_upTo_94 : decode cX2_upTo 94 = .ok (.iaload, 1) := by decide +kernel
theorem dX2_upTo_95 : decode cX2_upTo 95 = .ok (.istore_n 3, 1) := by decide +kernel
theorem dX2_upTo_96 : decode cX2_upTo 96 = .ok (.goto 18, 3) := by decide +kernel
theorem dX2_upTo_99 : decode cX2_upTo 99 = .ok (.aload_n 1, 1) := by decide +kernel
theorem dX2_upTo_100 : decode cX2_upTo 100 = .ok (.getfield 177, 3) := by decide +kernel
theorem dX2_upTo_103 : decode cX2_upTo 103 = .ok (.istore_n 3, 1) := by decide +kernel
theorem dX2_upTo_104 : decode cX2_upTo 104 = .ok (.goto 10, 3) := by decide +kernel
theorem dX2_upTo_107 : decode cX2_upTo 107 = .ok (.aload_n 1, 1) := by decide +kernel
theorem dX2_upTo_108 : decode cX2_upTo 108 = .ok (.getfield 84, 3) := by decide +kernel
theorem dX2_upTo_111 : decode cX2_upTo 111 = .ok (.iconst 1, 1) := by decide +kernel
theorem dX2_upTo_112 : decode cX2_upTo 112 = .ok (.iadd, 1) := by decide +kernel
theorem dX2_upTo_113 : decode cX2_upTo 113 = .ok (.istore_n 3, 1) := by decide +kernel
theorem dX2_upTo_114 : decode cX2_upTo 114 = .ok (.aload_n 0, 1) := by decide +kernel
theorem dX2_upTo_115 : decode cX2_upTo 115 = .ok (.getfield 18, 3) := by decide +kernel
theorem dX2_upTo_118 : decode cX2_upTo 118 = .ok (.iconst 0, 1) := by decide +kernel
theorem dX2_upTo_119 : decode cX2_upTo 119 = .ok (.iaload, 1) := by decide +kernel
theorem dX2_upTo_120 : decode cX2_upTo 120 = .ok (.aload_n 1, 1) := by decide +kernel
theorem dX2_upTo_121 : decode cX2_upTo 121 = .ok (.getfield 84, 3) := by decide +kernel
theorem dX2_upTo_124 : decode cX2_upTo 124 = .ok (.iload_n 3, 1) := by decide +kernel
theorem dX2_upTo_125 : decode cX2_upTo 125 = .ok (.invokestatic 183, 3) := by decide +kernel
theorem dX2_upTo_128 : decode cX2_upTo 128 = .ok (.invokestatic 189, 3) := by decide +kernel
theorem dX2_upTo_131 : decode cX2_upTo 131 = .ok (.ireturn, 1) := by decide +kernel
theorem dX2_wantsInLine_0 : decode cX2_wantsInLine 0 = .ok (.iconst 0, 1) := by decide +kernel
theorem dX2_wantsInLine_1 : decode cX2_wantsInLine 1 = .ok (.istore_n 1, 1) := by decide +kernel
theorem dX2_wantsInLine_2 : decode cX2_wantsInLine 2 = .ok (.iconst 0, 1) := by decide +kernel
theorem dX2_wantsInLine_3 : decode cX2_wantsInLine 3 = .ok (.istore_n 2, 1) := by decide +kernel
theorem dX2_wantsInLine_4 : decode cX2_wantsInLine 4 = .ok (.iload_n 2, 1) := by decide +kernel
theorem dX2_wantsInLine_5 : decode cX2_wantsInLine 5 = .ok (.aload_n 0, 1) := by decide +kernel
theorem dX2_wantsInLine_6 : decode cX2_wantsInLine 6 = .ok (.getfield 46, 3) := by decide +kernel
theorem dX2_wantsInLine_9 : decode cX2_wantsInLine 9 = .ok (.if_icmp .ge 34, 3) := by decide +kernel
theorem dX2_wantsInLine_12 : decode cX2_wantsInLine 12 = .ok (.aload_n 0, 1) := by decide +kernel
theorem dX2_wantsInLine_13 : decode cX2_wantsInLine 13 = .ok (.getfield 25, 3) := by decide +kernel
theorem dX2_wantsInLine_16 : decode cX2_wantsInLine 16 = .ok (.iload_n 2, 1) := by decide +kernel
theorem dX2_wantsInLine_17 : decode cX2_wantsInLine 17 = .ok (.aaload, 1) := by decide +kernel
theorem dX2_wantsInLine_18 : decode cX2_wantsInLine 18 = .ok (.getfield 63, 3) := by decide +kernel
theorem dX2_wantsInLine_21 : decode cX2_wantsInLine 21 = .ok (.iconst 1, 1) := by decide +kernel
theorem dX2_wantsInLine_22 : decode cX2_wantsInLine 22 = .ok (.if_icmp .ne 15, 3) := by decide +kernel
theorem dX2_wantsInLine_25 : decode cX2_wantsInLine 25 = .ok (.iload_n 1, 1) := by decide +kernel
theorem dX2_wantsInLine_26 : decode cX2_wantsInLine 26 = .ok (.aload_n 0, 1) := by decide +kernel
theorem dX2_wantsInLine_27 : decode cX2_wantsInLine 27 = .ok (.getfield 25, 3) := by decide +kernel
theorem dX2_wantsInLine_30 : decode cX2_wantsInLine 30 = .ok (.iload_n 2, 1) := by decide +kernel
theorem dX2_wantsInLine_31 : decode cX2_wantsInLine 31 = .ok (.aaload, 1) := by decide +kernel
theorem dX2_wantsInLine_32 : decode cX2_wantsInLine 32 = .ok (.getfield 84, 3) := by decide +kernel
theorem dX2_wantsInLine_35 : decode cX2_wantsInLine 35 = .ok (.iadd, 1) := by decide +kernel
theorem dX2_wantsInLine_36 : decode cX2_wantsInLine 36 = .ok (.istore_n 1, 1) := by decide +kernel
theorem dX2_wantsInLine_37 : decode cX2_wantsInLine 37 = .ok (.iinc 2 1, 3) := by decide +kernel
theorem dX2_wantsInLine_40 : decode cX2_wantsInLine 40 = .ok (.goto (-36), 3) := by decide +kernel
theorem dX2_wantsInLine_43 : decode cX2_wantsInLine 43 = .ok (.iload_n 1, 1) := by decide +kernel
theorem dX2_wantsInLine_44 : decode cX2_wantsInLine 44 = .ok (.ireturn, 1) := by decide +kernel
theorem dX2_wantsToCome_0 : decode cX2_wantsToCome 0 = .ok (.iconst 0, 1) := by decide +kernel
theorem dX2_wantsToCome_1 : decode cX2_wantsToCome 1 = .ok (.istore_n 2, 1) := by decide +kernel
theorem dX2_wantsToCome_2 : decode cX2_wantsToCome 2 = .ok (.iconst 0, 1) := by decide +kernel
theorem dX2_wantsToCome_3 : decode cX2_wantsToCome 3 = .ok (.istore_n 3, 1) := by decide +kernel
theorem dX2_wantsToCome_4 : decode cX2_wantsToCome 4 = .ok (.iload_n 3, 1) := by decide +kernel
theorem dX2_wantsToCome_5 : decode cX2_wantsToCome 5 = .ok (.aload_n 0, 1) := by decide +kernel
theorem dX2_wantsToCome_6 : decode cX2_wantsToCome 6 = .ok (.getfield 46, 3) := by decide +kernel
theorem dX2_wantsToCome_9 : decode cX2_wantsToCome 9 = .ok (.if_icmp .ge 46, 3) := by decide +kernel
theorem dX2_wantsToCome_12 : decode cX2_wantsToCome 12 = .ok (.aload_n 0, 1) := by decide +kernel
theorem dX2_wantsToCome_13 : decode cX2_wantsToCome 13 = .ok (.getfield 25, 3) := by decide +kernel
theorem dX2_wantsToCome_16 : decode cX2_wantsToCome 16 = .ok (.iload_n 3, 1) := by decide +kernel
theorem dX2_wantsToCome_17 : decode cX2_wantsToCome 17 = .ok (.aaload, 1) := by decide +kernel
theorem dX2_wantsToCome_18 : decode cX2_wantsToCome 18 = .ok (.getfield 63, 3) := by decide +kernel
theorem dX2_wantsToCome_21 : decode cX2_wantsToCome 21 = .ok (.ifCond .ne 28, 3) := by decide +kernel
theorem dX2_wantsToCome_24 : decode cX2_wantsToCome 24 = .ok (.aload_n 0, 1) := by decide +kernel
theorem dX2_wantsToCome_25 : decode cX2_wantsToCome 25 = .ok (.getfield 25, 3) := by decide +kernel
theorem dX2_wantsToCome_28 : decode cX2_wantsToCome 28 = .ok (.iload_n 3, 1) := by decide +kernel
theorem dX2_wantsToCome_29 : decode cX2_wantsToCome 29 = .ok (.aaload, 1) := by decide +kernel
theorem dX2_wantsToCome_30 : decode cX2_wantsToCome 30 = .ok (.getfield 83, 3) := by decide +kernel
theorem dX2_wantsToCome_33 : decode cX2_wantsToCome 33 = .ok (.iload_n 1, 1) := by decide +kernel
theorem dX2_wantsToCome_34 : decode cX2_wantsToCome 34 = .ok (.if_icmp .gt 15, 3) := by decide +kernel
theorem dX2_wantsToCome_37 : decode cX2_wantsToCome 37 = .ok (.iload_n 2, 1) := by decide +kernel
theorem dX2_wantsToCome_38 : decode cX2_wantsToCome 38 = .ok (.aload_n 0, 1) := by decide +kernel
theorem dX2_wantsToCome_39 : decode cX2_wantsToCome 39 = .ok (.getfield 25, 3) := by decide +kernel
theorem dX2_wantsToCome_42 : decode cX2_wantsToCome 42 = .ok (.iload_n 3, 1) := by decide +kernel
theorem dX2_wantsToCome_43 : decode cX2_wantsToCome 43 = .ok (.aaload, 1) := by decide +kernel
theorem dX2_wantsToCome_44 : decode cX2_wantsToCome 44 = .ok (.getfield 84, 3) := by decide +kernel
theorem dX2_wantsToCome_47 : decode cX2_wantsToCome 47 = .ok (.iadd, 1) := by decide +kernel
theorem dX2_wantsToCome_48 : decode cX2_wantsToCome 48 = .ok (.istore_n 2, 1) := by decide +kernel
theorem dX2_wantsToCome_49 : decode cX2_wantsToCome 49 = .ok (.iinc 3 1, 3) := by decide +kernel
theorem dX2_wantsToCome_52 : decode cX2_wantsToCome 52 = .ok (.goto (-48), 3) := by decide +kernel
theorem dX2_wantsToCome_55 : decode cX2_wantsToCome 55 = .ok (.iload_n 2, 1) := by decide +kernel
theorem dX2_wantsToCome_56 : decode cX2_wantsToCome 56 = .ok (.ireturn, 1) := by decide +kernel
theorem dX2_kindsThatFill_0 : decode cX2_kindsThatFill 0 = .ok (.iconst 0, 1) := by decide +kernel
theorem dX2_kindsThatFill_1 : decode cX2_kindsThatFill 1 = .ok (.istore_n 2, 1) := by decide +kernel
theorem dX2_kindsThatFill_2 : decode cX2_kindsThatFill 2 = .ok (.iconst 0, 1) := by decide +kernel
theorem dX2_kindsThatFill_3 : decode cX2_kindsThatFill 3 = .ok (.istore_n 3, 1) := by decide +kernel
theorem dX2_kindsThatFill_4 : decode cX2_kindsThatFill 4 = .ok (.iload_n 3, 1) := by decide +kernel
theorem dX2_kindsThatFill_5 : decode cX2_kindsThatFill 5 = .ok (.bipush 7, 2) := by decide +kernel
theorem dX2_kindsThatFill_7 : decode cX2_kindsThatFill 7 = .ok (.if_icmp .ge 42, 3) := by decide +kernel
theorem dX2_kindsThatFill_10 : decode cX2_kindsThatFill 10 = .ok (.aload_n 0, 1) := by decide +kernel
theorem dX2_kindsThatFill_11 : decode cX2_kindsThatFill 11 = .ok (.getfield 50, 3) := by decide +kernel
theorem dX2_kindsThatFill_14 : decode cX2_kindsThatFill 14 = .ok (.ifCond .le 35, 3) := by decide +kernel
theorem dX2_kindsThatFill_17 : decode cX2_kindsThatFill 17 = .ok (.aload_n 0, 1) := by decide +kernel
theorem dX2_kindsThatFill_18 : decode cX2_kindsThatFill 18 = .ok (.aload_n 0, 1) := by decide +kernel
theorem dX2_kindsThatFill_19 : decode cX2_kindsThatFill 19 = .ok (.getfield 25, 3) := by decide +kernel
theorem dX2_kindsThatFill_22 : decode cX2_kindsThatFill 22 = .ok (.aload_n 0, 1) := by decide +kernel
theorem dX2_kindsThatFill_23 : decode cX2_kindsThatFill 23 = .ok (.getfield 37, 3) := by decide +kernel
theorem dX2_kindsThatFill_26 : decode cX2_kindsThatFill 26 = .ok (.iconst 0, 1) := by decide +kernel
theorem dX2_kindsThatFill_27 : decode cX2_kindsThatFill 27 = .ok (.iaload, 1) := by decide +kernel
theorem dX2_kindsThatFill_28 : decode cX2_kindsThatFill 28 = .ok (.aaload, 1) := by decide +kernel
theorem dX2_kindsThatFill_29 : decode cX2_kindsThatFill 29 = .ok (.iload_n 3, 1) := by decide +kernel
theorem dX2_kindsThatFill_30 : decode cX2_kindsThatFill 30 = .ok (.invokevirtual 150, 3) := by decide +kernel
theorem dX2_kindsThatFill_33 : decode cX2_kindsThatFill 33 = .ok (.iload_n 1, 1) := by decide +kernel
theorem dX2_kindsThatFill_34 : decode cX2_kindsThatFill 34 = .ok (.if_icmp .ne 9, 3) := by decide +kernel
theorem dX2_kindsThatFill_37 : decode cX2_kindsThatFill 37 = .ok (.iload_n 2, 1) := by decide +kernel
theorem dX2_kindsThatFill_38 : decode cX2_kindsThatFill 38 = .ok (.iconst 1, 1) := by decide +kernel
theorem dX2_kindsThatFill_39 : decode cX2_kindsThatFill 39 = .ok (.iload_n 3, 1) := by decide +kernel
theorem dX2_kindsThatFill_40 : decode cX2_kindsThatFill 40 = .ok (.ishl, 1) := by decide +kernel
theorem dX2_kindsThatFill_41 : decode cX2_kindsThatFill 41 = .ok (.ior, 1) := by decide +kernel
theorem dX2_kindsThatFill_42 : decode cX2_kindsThatFill 42 = .ok (.istore_n 2, 1) := by decide +kernel
theorem dX2_kindsThatFill_43 : decode cX2_kindsThatFill 43 = .ok (.iinc 3 1, 3) := by decide +kernel
theorem dX2_kindsThatFill_46 : decode cX2_kindsThatFill 46 = .ok (.goto (-42), 3) := by decide +kernel
theorem dX2_kindsThatFill_49 : decode cX2_kindsThatFill 49 = .ok (.iload_n 2, 1) := by decide +kernel
theorem dX2_kindsThatFill_50 : decode cX2_kindsThatFill 50 = .ok (.ireturn, 1) := by decide +kernel
theorem dX2_comersWith_0 : decode cX2_comersWith 0 = .ok (.iconst 0, 1) := by decide +kernel
theorem dX2_comersWith_1 : decode cX2_comersWith 1 = .ok (.istore_n 2, 1) := by decide +kernel
theorem dX2_comersWith_2 : decode cX2_comersWith 2 = .ok (.iconst 0, 1) := by decide +kernel
theorem dX2_comersWith_3 : decode cX2_comersWith 3 = .ok (.istore_n 3, 1) := by decide +kernel
theorem dX2_comersWith_4 : decode cX2_comersWith 4 = .ok (.iload_n 3, 1) := by decide +kernel
theorem dX2_comersWith_5 : decode cX2_comersWith 5 = .ok (.aload_n 0, 1) := by decide +kernel
theorem dX2_comersWith_6 : decode cX2_comersWith 6 = .ok (.getfield 46, 3) := by decide +kernel
theorem dX2_comersWith_9 : decode cX2_comersWith 9 = .ok (.if_icmp .ge 25, 3) := by decide +kernel
theorem dX2_comersWith_12 : decode cX2_comersWith 12 = .ok (.aload_n 0, 1) := by decide +kernel
theorem dX2_comersWith_13 : decode cX2_comersWith 13 = .ok (.getfield 25, 3) := by decide +kernel
theorem dX2_comersWith_16 : decode cX2_comersWith 16 = .ok (.iload_n 3, 1) := by decide +kernel
theorem dX2_comersWith_17 : decode cX2_comersWith 17 = .ok (.aaload, 1) := by decide +kernel
theorem dX2_comersWith_18 : decode cX2_comersWith 18 = .ok (.getfield 63, 3) := by decide +kernel
theorem dX2_comersWith_21 : decode cX2_comersWith 21 = .ok (.iload_n 1, 1) := by decide +kernel
theorem dX2_comersWith_22 : decode cX2_comersWith 22 = .ok (.if_icmp .ne 6, 3) := by decide +kernel
theorem dX2_comersWith_25 : decode cX2_comersWith 25 = .ok (.iinc 2 1, 3) := by decide +kernel
theorem dX2_comersWith_28 : decode cX2_comersWith 28 = .ok (.iinc 3 1, 3) := by decide +kernel
theorem dX2_comersWith_31 : decode cX2_comersWith 31 = .ok (.goto (-27), 3) := by decide +kernel
theorem dX2_comersWith_34 : decode cX2_comersWith 34 = .ok (.iload_n 2, 1) := by decide +kernel
theorem dX2_comersWith_35 : decode cX2_comersWith 35 = .ok (.ireturn, 1) := by decide +kernel
theorem dX2_someoneWantsTooMuch_0 : decode cX2_someoneWantsTooMuch 0 = .ok (.iconst 0, 1) := by decide +kernel
theorem dX2_someoneWantsTooMuch_1 : decode cX2_someoneWantsTooMuch 1 = .ok (.istore_n 1, 1) := by decide +kernel
theorem dX2_someoneWantsTooMuch_2 : decode cX2_someoneWantsTooMuch 2 = .ok (.iload_n 1, 1) := by decide +kernel
theorem dX2_someoneWantsTooMuch_3 : decode cX2_someoneWantsTooMuch 3 = .ok (.aload_n 0, 1) := by decide +kernel
theorem dX2_someoneWantsTooMuch_4 : decode cX2_someoneWantsTooMuch 4 = .ok (.getfield 46, 3) := by decide +kernel
theorem dX2_someoneWantsTooMuch_7 : decode cX2_someoneWantsTooMuch 7 = .ok (.if_icmp .ge 29, 3) := by decide +kernel
theorem dX2_someoneWantsTooMuch_10 : decode cX2_someoneWantsTooMuch 10 = .ok (.aload_n 0, 1) := by decide +kernel
theorem dX2_someoneWantsTooMuch_11 : decode cX2_someoneWantsTooMuch 11 = .ok (.getfield 25, 3) := by decide +kernel
theorem dX2_someoneWantsTooMuch_14 : decode cX2_someoneWantsTooMuch 14 = .ok (.iload_n 1, 1) := by decide +kernel
theorem dX2_someoneWantsTooMuch_15 : decode cX2_someoneWantsTooMuch 15 = .ok (.aaload, 1) := by decide +kernel
theorem dX2_someoneWantsTooMuch_16 : decode cX2_someoneWantsTooMuch 16 = .ok (.getfield 84, 3) := by decide +kernel
theorem dX2_someoneWantsTooMuch_19 : decode cX2_someoneWantsTooMuch 19 = .ok (.aload_n 0, 1) := by decide +kernel
theorem dX2_someoneWantsTooMuch_20 : decode cX2_someoneWantsTooMuch 20 = .ok (.getfield 18, 3) := by decide +kernel
theorem dX2_someoneWantsTooMuch_23 : decode cX2_someoneWantsTooMuch 23 = .ok (.iconst 0, 1) := by decide +kernel
theorem dX2_someoneWantsTooMuch_24 : decode cX2_someoneWantsTooMuch 24 = .ok (.iaload, 1) := by decide +kernel
theorem dX2_someoneWantsTooMuch_25 : decode cX2_someoneWantsTooMuch 25 = .ok (.if_icmp .le 5, 3) := by decide +kernel
theorem dX2_someoneWantsTooMuch_28 : decode cX2_someoneWantsTooMuch 28 = .ok (.iconst 1, 1) := by decide +kernel
theorem dX2_someoneWantsTooMuch_29 : decode cX2_someoneWantsTooMuch 29 = .ok (.ireturn, 1) := by decide +kernel
theorem dX2_someoneWantsTooMuch_30 : decode cX2_someoneWantsTooMuch 30 = .ok (.iinc 1 1, 3) := by decide +kernel
theorem dX2_someoneWantsTooMuch_33 : decode cX2_someoneWantsTooMuch 33 = .ok (.goto (-31), 3) := by decide +kernel
theorem dX2_someoneWantsTooMuch_36 : decode cX2_someoneWantsTooMuch 36 = .ok (.iconst 0, 1) := by decide +kernel
theorem dX2_someoneWantsTooMuch_37 : decode cX2_someoneWantsTooMuch 37 = .ok (.ireturn, 1) := by decide +kernel
theorem dX2_allWaited_0 : decode cX2_allWaited 0 = .ok (.iconst 0, 1) := by decide +kernel
theorem dX2_allWaited_1 : decode cX2_allWaited 1 = .ok (.istore_n 1, 1) := by decide +kernel
theorem dX2_allWaited_2 : decode cX2_allWaited 2 = .ok (.iconst 0, 1) := by decide +kernel
theorem dX2_allWaited_3 : decode cX2_allWaited 3 = .ok (.istore_n 2, 1) := by decide +kernel
theorem dX2_allWaited_4 : decode cX2_allWaited 4 = .ok (.iload_n 2, 1) := by decide +kernel
theorem dX2_allWaited_5 : decode cX2_allWaited 5 = .ok (.aload_n 0, 1) := by decide +kernel
theorem dX2_allWaited_6 : decode cX2_allWaited 6 = .ok (.getfield 46, 3) := by decide +kernel
theorem dX2_allWaited_9 : decode cX2_allWaited 9 = .ok (.if_icmp .ge 21, 3) := by decide +kernel
theorem dX2_allWaited_12 : decode cX2_allWaited 12 = .ok (.iload_n 1, 1) := by decide +kernel
theorem dX2_allWaited_13 : decode cX2_allWaited 13 = .ok (.aload_n 0, 1) := by decide +kernel
theorem dX2_allWaited_14 : decode cX2_allWaited 14 = .ok (.getfield 25, 3) := by decide +kernel
theorem dX2_allWaited_17 : decode cX2_allWaited 17 = .ok (.iload_n 2, 1) := by decide +kernel
theorem dX2_allWaited_18 : decode cX2_allWaited 18 = .ok (.aaload, 1) := by decide +kernel
theorem dX2_allWaited_19 : decode cX2_allWaited 19 = .ok (.invokevirtual 192, 3) := by decide +kernel
theorem dX2_allWaited_22 : decode cX2_allWaited 22 = .ok (.iadd, 1) := by decide +kernel
theorem dX2_allWaited_23 : decode cX2_allWaited 23 = .ok (.istore_n 1, 1) := by decide +kernel
theorem dX2_allWaited_24 : decode cX2_allWaited 24 = .ok (.iinc 2 1, 3) := by decide +kernel
theorem dX2_allWaited_27 : decode cX2_allWaited 27 = .ok (.goto (-23), 3) := by decide +kernel
theorem dX2_allWaited_30 : decode cX2_allWaited 30 = .ok (.iload_n 1, 1) := by decide +kernel
theorem dX2_allWaited_31 : decode cX2_allWaited 31 = .ok (.ireturn, 1) := by decide +kernel
theorem dX2_cupsLeft_0 : decode cX2_cupsLeft 0 = .ok (.iconst 0, 1) := by decide +kernel
theorem dX2_cupsLeft_1 : decode cX2_cupsLeft 1 = .ok (.istore_n 1, 1) := by decide +kernel
theorem dX2_cupsLeft_2 : decode cX2_cupsLeft 2 = .ok (.iconst 0, 1) := by decide +kernel
theorem dX2_cupsLeft_3 : decode cX2_cupsLeft 3 = .ok (.istore_n 2, 1) := by decide +kernel
theorem dX2_cupsLeft_4 : decode cX2_cupsLeft 4 = .ok (.iload_n 2, 1) := by decide +kernel
theorem dX2_cupsLeft_5 : decode cX2_cupsLeft 5 = .ok (.aload_n 0, 1) := by decide +kernel
theorem dX2_cupsLeft_6 : decode cX2_cupsLeft 6 = .ok (.invokevirtual 98, 3) := by decide +kernel
theorem dX2_cupsLeft_9 : decode cX2_cupsLeft 9 = .ok (.if_icmp .ge 21, 3) := by decide +kernel
theorem dX2_cupsLeft_12 : decode cX2_cupsLeft 12 = .ok (.iload_n 1, 1) := by decide +kernel
theorem dX2_cupsLeft_13 : decode cX2_cupsLeft 13 = .ok (.aload_n 0, 1) := by decide +kernel
theorem dX2_cupsLeft_14 : decode cX2_cupsLeft 14 = .ok (.getfield 32, 3) := by decide +kernel
theorem dX2_cupsLeft_17 : decode cX2_cupsLeft 17 = .ok (.iload_n 2, 1) := by decide +kernel
theorem dX2_cupsLeft_18 : decode cX2_cupsLeft 18 = .ok (.aaload, 1) := by decide +kernel
theorem dX2_cupsLeft_19 : decode cX2_cupsLeft 19 = .ok (.getfield 134, 3) := by decide +kernel
theorem dX2_cupsLeft_22 : decode cX2_cupsLeft 22 = .ok (.iadd, 1) := by decide +kernel
theorem dX2_cupsLeft_23 : decode cX2_cupsLeft 23 = .ok (.istore_n 1, 1) := by decide +kernel
theorem dX2_cupsLeft_24 : decode cX2_cupsLeft 24 = .ok (.iinc 2 1, 3) := by decide +kernel
theorem dX2_cupsLeft_27 : decode cX2_cupsLeft 27 = .ok (.goto (-23), 3) := by decide +kernel
theorem dX2_cupsLeft_30 : decode cX2_cupsLeft 30 = .ok (.iload_n 1, 1) := by decide +kernel
theorem dX2_cupsLeft_31 : decode cX2_cupsLeft 31 = .ok (.ireturn, 1) := by decide +kernel
theorem dX2_highestLevel_0 : decode cX2_highestLevel 0 = .ok (.iconst 0, 1) := by decide +kernel
theorem dX2_highestLevel_1 : decode cX2_highestLevel 1 = .ok (.istore_n 1, 1) := by decide +kernel
theorem dX2_highestLevel_2 : decode cX2_highestLevel 2 = .ok (.iconst 0, 1) := by decide +kernel
theorem dX2_highestLevel_3 : decode cX2_highestLevel 3 = .ok (.istore_n 2, 1) := by decide +kernel
theorem dX2_highestLevel_4 : decode cX2_highestLevel 4 = .ok (.iload_n 2, 1) := by decide +kernel
theorem dX2_highestLevel_5 : decode cX2_highestLevel 5 = .ok (.aload_n 0, 1) := by decide +kernel
theorem dX2_highestLevel_6 : decode cX2_highestLevel 6 = .ok (.invokevirtual 98, 3) := by decide +kernel
theorem dX2_highestLevel_9 : decode cX2_highestLevel 9 = .ok (.if_icmp .ge 23, 3) := by decide +kernel
theorem dX2_highestLevel_12 : decode cX2_highestLevel 12 = .ok (.iload_n 1, 1) := by decide +kernel
theorem dX2_highestLevel_13 : decode cX2_highestLevel 13 = .ok (.aload_n 0, 1) := by decide +kernel
theorem dX2_highestLevel_14 : decode cX2_highestLevel 14 = .ok (.getfield 32, 3) := by decide +kernel
theorem dX2_highestLevel_17 : decode cX2_highestLevel 17 = .ok (.iload_n 2, 1) := by decide +kernel
theorem dX2_highestLevel_18 : decode cX2_highestLevel 18 = .ok (.aaload, 1) := by decide +kernel
theorem dX2_highestLevel_19 : decode cX2_highestLevel 19 = .ok (.getfield 134, 3) := by decide +kernel
theorem dX2_highestLevel_22 : decode cX2_highestLevel 22 = .ok (.invokestatic 183, 3) := by decide +kernel
theorem dX2_highestLevel_25 : decode cX2_highestLevel 25 = .ok (.istore_n 1, 1) := by decide +kernel
theorem dX2_highestLevel_26 : decode cX2_highestLevel 26 = .ok (.iinc 2 1, 3) := by decide +kernel
theorem dX2_highestLevel_29 : decode cX2_highestLevel 29 = .ok (.goto (-25), 3) := by decide +kernel
theorem dX2_highestLevel_32 : decode cX2_highestLevel 32 = .ok (.iload_n 1, 1) := by decide +kernel
theorem dX2_highestLevel_33 : decode cX2_highestLevel 33 = .ok (.ireturn, 1) := by decide +kernel
theorem dX2_cost_0 : decode cX2_cost 0 = .ok (.aload_n 0, 1) := by decide +kernel
theorem dX2_cost_1 : decode cX2_cost 1 = .ok (.invokevirtual 195, 3) := by decide +kernel
theorem dX2_cost_4 : decode cX2_cost 4 = .ok (.aload_n 0, 1) := by decide +kernel
theorem dX2_cost_5 : decode cX2_cost 5 = .ok (.getfield 18, 3) := by decide +kernel
theorem dX2_cost_8 : decode cX2_cost 8 = .ok (.iconst 4, 1) := by decide +kernel
theorem dX2_cost_9 : decode cX2_cost 9 = .ok (.iaload, 1) := by decide +kernel
theorem dX2_cost_10 : decode cX2_cost 10 = .ok (.imul, 1) := by decide +kernel
theorem dX2_cost_11 : decode cX2_cost 11 = .ok (.aload_n 0, 1) := by decide +kernel
theorem dX2_cost_12 : decode cX2_cost 12 = .ok (.invokevirtual 198, 3) := by decide +kernel
theorem dX2_cost_15 : decode cX2_cost 15 = .ok (.aload_n 0, 1) := by decide +kernel
theorem dX2_cost_16 : decode cX2_cost 16 = .ok (.getfield 18, 3) := by decide +kernel
theorem dX2_cost_19 : decode cX2_cost 19 = .ok (.iconst 5, 1) := by decide +kernel
theorem dX2_cost_20 : decode cX2_cost 20 = .ok (.iaload, 1) := by decide +kernel
theorem dX2_cost_21 : decode cX2_cost 21 = .ok (.imul, 1) := by decide +kernel
theorem dX2_cost_22 : decode cX2_cost 22 = .ok (.iadd, 1) := by decide +kernel
theorem dX2_cost_23 : decode cX2_cost 23 = .ok (.aload_n 0, 1) := by decide +kernel
theorem dX2_cost_24 : decode cX2_cost 24 = .ok (.iconst 3, 1) := by decide +kernel
theorem dX2_cost_25 : decode cX2_cost 25 = .ok (.invokevirtual 90, 3) := by decide +kernel
theorem dX2_cost_28 : decode cX2_cost 28 = .ok (.bipush 9, 2) := by decide +kernel
theorem dX2_cost_30 : decode cX2_cost 30 = .ok (.imul, 1) := by decide +kernel
theorem dX2_cost_31 : decode cX2_cost 31 = .ok (.iadd, 1) := by decide +kernel
theorem dX2_cost_32 : decode cX2_cost 32 = .ok (.ireturn, 1) := by decide +kernel
theorem dX3_init_0 : decode cX3_init 0 = .ok (.aload_n 0, 1) := by decide +kernel
theorem dX3_init_1 : decode cX3_init 1 = .ok (.invokespecial 3, 3) := by decide +kernel
theorem dX3_init_4 : decode cX3_init 4 = .ok (.return_, 1) := by decide +kernel
theorem dX3_copy_0 : decode cX3_copy 0 = .ok (.aload_n 0, 1) := by decide +kernel
theorem dX3_copy_1 : decode cX3_copy 1 = .ok (.aload_n 1, 1) := by decide +kernel
theorem dX3_copy_2 : decode cX3_copy 2 = .ok (.getfield 9, 3) := by decide +kernel
theorem dX3_copy_5 : decode cX3_copy 5 = .ok (.putfield 9, 3) := by decide +kernel
theorem dX3_copy_8 : decode cX3_copy 8 = .ok (.aload_n 0, 1) := by decide +kernel
theorem dX3_copy_9 : decode cX3_copy 9 = .ok (.aload_n 1, 1) := by decide +kernel
theorem dX3_copy_10 : decode cX3_copy 10 = .ok (.getfield 15, 3) := by decide +kernel
theorem dX3_copy_13 : decode cX3_copy 13 = .ok (.putfield 15, 3) := by decide +kernel
theorem dX3_copy_16 : decode cX3_copy 16 = .ok (.aload_n 0, 1) := by decide +kernel
theorem dX3_copy_17 : decode cX3_copy 17 = .ok (.aload_n 1, 1) := by decide +kernel
theorem dX3_copy_18 : decode cX3_copy 18 = .ok (.getfield 18, 3) := by decide +kernel
theorem dX3_copy_21 : decode cX3_copy 21 = .ok (.putfield 18, 3) := by decide +kernel
theorem dX3_copy_24 : decode cX3_copy 24 = .ok (.aload_n 0, 1) := by decide +kernel
theorem dX3_copy_25 : decode cX3_copy 25 = .ok (.aload_n 1, 1) := by decide +kernel
theorem dX3_copy_26 : decode cX3_copy 26 = .ok (.getfield 21, 3) := by decide +kernel
theorem dX3_copy_29 : decode cX3_copy 29 = .ok (.putfield 21, 3) := by decide +kernel
theorem dX3_copy_32 : decode cX3_copy 32 = .ok (.aload_n 0, 1) := by decide +kernel
theorem dX3_copy_33 : decode cX3_copy 33 = .ok (.aload_n 1, 1) := by decide +kernel
theorem dX3_copy_34 : decode cX3_copy 34 = .ok (.getfield 24, 3) := by decide +kernel
theorem dX3_copy_37 : decode cX3_copy 37 = .ok (.putfield 24, 3) := by decide +kernel
theorem dX3_copy_40 : decode cX3_copy 40 = .ok (.return_, 1) := by decide +kernel
theorem dX3_begin_0 : decode cX3_begin 0 = .ok (.aload_n 0, 1) := by decide +kernel
theorem dX3_begin_1 : decode cX3_begin 1 = .ok (.iconst 0, 1) := by decide +kernel
theorem dX3_begin_2 : decode cX3_begin 2 = .ok (.putfield 9, 3) := by decide +kernel
theorem dX3_begin_5 : decode cX3_begin 5 = .ok (.aload_n 0, 1) := by decide +kernel
theorem dX3_begin_6 : decode cX3_begin 6 = .ok (.iconst 0, 1) := by decide +kernel
theorem dX3_begin_7 : decode cX3_begin 7 = .ok (.putfield 15, 3) := by decide +kernel
theorem dX3_begin_10 : decode cX3_begin 10 = .ok (.aload_n 0, 1) := by decide +kernel
theorem dX3_begin_11 : decode cX3_begin 11 = .ok (.iconst 0, 1) := by decide +kernel
theorem dX3_begin_12 : decode cX3_begin 12 = .ok (.putfield 18, 3) := by decide +kernel
theorem dX3_begin_15 : decode cX3_begin 15 = .ok (.aload_n 0, 1) := by decide +kernel
theorem dX3_begin_16 : decode cX3_begin 16 = .ok (.iconst 0, 1) := by decide +kernel
theorem dX3_begin_17 : decode cX3_begin 17 = .ok (.putfield 21, 3) := by decide +kernel
theorem dX3_begin_20 : decode cX3_begin 20 = .ok (.return_, 1) := by decide +kernel
theorem dX3_isFree_0 : decode cX3_isFree 0 = .ok (.aload_n 0, 1) := by decide +kernel
theorem dX3_isFree_1 : decode cX3_isFree 1 = .ok (.getfield 21, 3) := by decide +kernel
theorem dX3_isFree_4 : decode cX3_isFree 4 = .ok (.iload_n 1, 1) := by decide +kernel
theorem dX3_isFree_5 : decode cX3_isFree 5 = .ok (.if_icmp .gt 7, 3) := by decide +kernel
theorem dX3_isFree_8 : decode cX3_isFree 8 = .ok (.iconst 1, 1) := by decide +kernel
theorem dX3_isFree_9 : decode cX3_isFree 9 = .ok (.goto 4, 3) := by decide +kernel
theorem dX3_isFree_12 : decode cX3_isFree 12 = .ok (.iconst 0, 1) := by decide +kernel
theorem dX3_isFree_13 : decode cX3_isFree 13 = .ok (.ireturn, 1) := by decide +kernel
theorem dX3_isReady_0 : decode cX3_isReady 0 = .ok (.aload_n 0, 1) := by decide +kernel
theorem dX3_isReady_1 : decode cX3_isReady 1 = .ok (.getfield 21, 3) := by decide +kernel
theorem dX3_isReady_4 : decode cX3_isReady 4 = .ok (.iload_n 1, 1) := by decide +kernel
theorem dX3_isReady_5 : decode cX3_isReady 5 = .ok (.if_icmp .gt 24, 3) := by decide +kernel
theorem dX3_isReady_8 : decode cX3_isReady 8 = .ok (.aload_n 0, 1) := by decide +kernel
theorem dX3_isReady_9 : decode cX3_isReady 9 = .ok (.getfield 15, 3) := by decide +kernel
theorem dX3_isReady_12 : decode cX3_isReady 12 = .ok (.bipush 8, 2) := by decide +kernel
theorem dX3_isReady_14 : decode cX3_isReady 14 = .ok (.if_icmp .lt 15, 3) := by decide +kernel
theorem dX3_isReady_17 : decode cX3_isReady 17 = .ok (.aload_n 0, 1) := by decide +kernel
theorem dX3_isReady_18 : decode cX3_isReady 18 = .ok (.getfield 9, 3) := by decide +kernel
theorem dX3_isReady_21 : decode cX3_isReady 21 = .ok (.iload_n 2, 1) := by decide +kernel
theorem dX3_isReady_22 : decode cX3_isReady 22 = .ok (.if_icmp .lt 7, 3) := by decide +kernel
theorem dX3_isReady_25 : decode cX3_isReady 25 = .ok (.iconst 1, 1) := by decide +kernel
theorem dX3_isReady_26 : decode cX3_isReady 26 = .ok (.goto 4, 3) := by decide +kernel
theorem dX3_isReady_29 : decode cX3_isReady 29 = .ok (.iconst 0, 1) := by decide +kernel
theorem dX3_isReady_30 : decode cX3_isReady 30 = .ok (.ireturn, 1) := by decide +kernel
theorem dX3_fill_0 : decode cX3_fill 0 = .ok (.iload_n 1, 1) := by decide +kernel
theorem dX3_fill_1 : decode cX3_fill 1 = .ok (.ifCond .le 23, 3) := by decide +kernel
theorem dX3_fill_4 : decode cX3_fill 4 = .ok (.aload_n 0, 1) := by decide +kernel
theorem dX3_fill_5 : decode cX3_fill 5 = .ok (.aload_n 0, 1) := by decide +kernel
theorem dX3_fill_6 : decode cX3_fill 6 = .ok (.getfield 9, 3) := by decide +kernel
theorem dX3_fill_9 : decode cX3_fill 9 = .ok (.aload_n 0, 1) := by decide +kernel
theorem dX3_fill_10 : decode cX3_fill 10 = .ok (.getfield 15, 3) := by decide +kernel
theorem dX3_fill_13 : decode cX3_fill 13 = .ok (.imul, 1) := by decide +kernel
theorem dX3_fill_14 : decode cX3_fill 14 = .ok (.iload_n 1, 1) := by decide +kernel
theorem dX3_fill_15 : decode cX3_fill 15 = .ok (.idiv, 1) := by decide +kernel
theorem dX3_fill_16 : decode cX3_fill 16 = .ok (.putfield 15, 3) := by decide +kernel
theorem dX3_fill_19 : decode cX3_fill 19 = .ok (.aload_n 0, 1) := by decide +kernel
theorem dX3_fill_20 : decode cX3_fill 20 = .ok (.iload_n 1, 1) := by decide +kernel
theorem dX3_fill_21 : decode cX3_fill 21 = .ok (.putfield 9, 3) := by decide +kernel
theorem dX3_fill_24 : decode cX3_fill 24 = .ok (.return_, 1) := by decide +kernel
theorem dX3_putOn_0 : decode cX3_putOn 0 = .ok (.aload_n 0, 1) := by decide +kernel
theorem dX3_putOn_1 : decode cX3_putOn 1 = .ok (.iload_n 2, 1) := by decide +kernel
theorem dX3_putOn_2 : decode cX3_putOn 2 = .ok (.aload_n 0, 1) := by decide +kernel
theorem dX3_putOn_3 : decode cX3_putOn 3 = .ok (.getfield 9, 3) := by decide +kernel
theorem dX3_putOn_6 : decode cX3_putOn 6 = .ok (.bipush 10, 2) := by decide +kernel
theorem dX3_putOn_8 : decode cX3_putOn 8 = .ok (.aload_n 0, 1) := by decide +kernel
theorem dX3_putOn_9 : decode cX3_putOn 9 = .ok (.getfield 15, 3) := by decide +kernel
theorem dX3_putOn_12 : decode cX3_putOn 12 = .ok (.isub, 1) := by decide +kernel
theorem dX3_putOn_13 : decode cX3_putOn 13 = .ok (.iload_n 3, 1) := by decide +kernel
theorem dX3_putOn_14 : decode cX3_putOn 14 = .ok (.invokestatic 27, 3) := by decide +kernel
theorem dX3_putOn_17 : decode cX3_putOn 17 = .ok (.iadd, 1) := by decide +kernel
theorem dX3_putOn_18 : decode cX3_putOn 18 = .ok (.putfield 21, 3) := by decide +kernel
theorem dX3_putOn_21 : decode cX3_putOn 21 = .ok (.aload_n 0, 1) := by decide +kernel
theorem dX3_putOn_22 : decode cX3_putOn 22 = .ok (.bipush 10, 2) := by decide +kernel
theorem dX3_putOn_24 : decode cX3_putOn 24 = .ok (.putfield 15, 3) := by decide +kernel
theorem dX3_putOn_27 : decode cX3_putOn 27 = .ok (.aload_n 0, 1) := by decide +kernel
theorem dX3_putOn_28 : decode cX3_putOn 28 = .ok (.iconst 0, 1) := by decide +kernel
theorem dX3_putOn_29 : decode cX3_putOn 29 = .ok (.putfield 18, 3) := by decide +kernel
theorem dX3_putOn_32 : decode cX3_putOn 32 = .ok (.aload_n 0, 1) := by decide +kernel
theorem dX3_putOn_33 : decode cX3_putOn 33 = .ok (.iload_n 1, 1) := by decide +kernel
theorem dX3_putOn_34 : decode cX3_putOn 34 = .ok (.putfield 24, 3) := by decide +kernel
theorem dX3_putOn_37 : decode cX3_putOn 37 = .ok (.return_, 1) := by decide +kernel
theorem dX3_cool_0 : decode cX3_cool 0 = .ok (.aload_n 0, 1) := by decide +kernel
theorem dX3_cool_1 : decode cX3_cool 1 = .ok (.dup, 1) := by decide +kernel
theorem dX3_cool_2 : decode cX3_cool 2 = .ok (.getfield 18, 3) := by decide +kernel
theorem dX3_cool_5 : decode cX3_cool 5 = .ok (.iconst 1, 1) := by decide +kernel
theorem dX3_cool_6 : decode cX3_cool 6 = .ok (.iadd, 1) := by decide +kernel
theorem dX3_cool_7 : decode cX3_cool 7 = .ok (.putfield 18, 3) := by decide +kernel
theorem dX3_cool_10 : decode cX3_cool 10 = .ok (.aload_n 0, 1) := by decide +kernel
theorem dX3_cool_11 : decode cX3_cool 11 = .ok (.getfield 18, 3) := by decide +kernel
theorem dX3_cool_14 : decode cX3_cool 14 = .ok (.iload_n 1, 1) := by decide +kernel
theorem dX3_cool_15 : decode cX3_cool 15 = .ok (.if_icmp .lt 22, 3) := by decide +kernel
theorem dX3_cool_18 : decode cX3_cool 18 = .ok (.aload_n 0, 1) := by decide +kernel
theorem dX3_cool_19 : decode cX3_cool 19 = .ok (.iconst 0, 1) := by decide +kernel
theorem dX3_cool_20 : decode cX3_cool 20 = .ok (.aload_n 0, 1) := by decide +kernel
theorem dX3_cool_21 : decode cX3_cool 21 = .ok (.getfield 15, 3) := by decide +kernel
theorem dX3_cool_24 : decode cX3_cool 24 = .ok (.iconst 1, 1) := by decide +kernel
theorem dX3_cool_25 : decode cX3_cool 25 = .ok (.isub, 1) := by decide +kernel
theorem dX3_cool_26 : decode cX3_cool 26 = .ok (.invokestatic 31, 3) := by decide +kernel
theorem dX3_cool_29 : decode cX3_cool 29 = .ok (.putfield 15, 3) := by decide +kernel
theorem dX3_cool_32 : decode cX3_cool 32 = .ok (.aload_n 0, 1) := by decide +kernel
theorem dX3_cool_33 : decode cX3_cool 33 = .ok (.iconst 0, 1) := by decide +kernel
theorem dX3_cool_34 : decode cX3_cool 34 = .ok (.putfield 18, 3) := by decide +kernel
theorem dX3_cool_37 : decode cX3_cool 37 = .ok (.return_, 1) := by decide +kernel
theorem dX3_tell_0 : decode cX3_tell 0 = .ok (.iload_n 1, 1) := by decide +kernel
theorem dX3_tell_1 : decode cX3_tell 1 = .ok (.tableswitch 42 0 2 #[27, 32, 37], 27) := by decide +kernel
theorem dX3_tell_28 : decode cX3_tell 28 = .ok (.aload_n 0, 1) := by decide +kernel
theorem dX3_tell_29 : decode cX3_tell 29 = .ok (.getfield 9, 3) := by decide +kernel
theorem dX3_tell_32 : decode cX3_tell 32 = .ok (.ireturn, 1) := by decide +kernel
theorem dX3_tell_33 : decode cX3_tell 33 = .ok (.aload_n 0, 1) := by decide +kernel
theorem dX3_tell_34 : decode cX3_tell 34 = .ok (.getfield 15, 3) := by decide +kernel
theorem dX3_tell_37 : decode cX3_tell 37 = .ok (.ireturn, 1) := by decide +kernel
theorem dX3_tell_38 : decode cX3_tell 38 = .ok (.aload_n 0, 1) := by decide +kernel
theorem dX3_tell_39 : decode cX3_tell 39 = .ok (.getfield 18, 3) := by decide +kernel
theorem dX3_tell_42 : decode cX3_tell 42 = .ok (.ireturn, 1) := by decide +kernel
theorem dX3_tell_43 : decode cX3_tell 43 = .ok (.iconst 0, 1) := by decide +kernel
theorem dX3_tell_44 : decode cX3_tell 44 = .ok (.aload_n 0, 1) := by decide +kernel
theorem dX3_tell_45 : decode cX3_tell 45 = .ok (.getfield 21, 3) := by decide +kernel
theorem dX3_tell_48 : decode cX3_tell 48 = .ok (.iload_n 2, 1) := by decide +kernel
theorem dX3_tell_49 : decode cX3_tell 49 = .ok (.isub, 1) := by decide +kernel
theorem dX3_tell_50 : decode cX3_tell 50 = .ok (.invokestatic 31, 3) := by decide +kernel
theorem dX3_tell_53 : decode cX3_tell 53 = .ok (.ireturn, 1) := by decide +kernel
theorem dX4_init_0 : decode cX4_init 0 = .ok (.aload_n 0, 1) := by decide +kernel
theorem dX4_init_1 : decode cX4_init 1 = .ok (.invokespecial 3, 3) := by decide +kernel
theorem dX4_init_4 : decode cX4_init 4 = .ok (.aload_n 0, 1) := by decide +kernel
theorem dX4_init_5 : decode cX4_init 5 = .ok (.bipush 96, 2) := by decide +kernel
theorem dX4_init_7 : decode cX4_init 7 = .ok (.newarray .int, 2) := by decide +kernel
theorem dX4_init_9 : decode cX4_init 9 = .ok (.putfield 9, 3) := by decide +kernel
theorem dX4_init_12 : decode cX4_init 12 = .ok (.return_, 1) := by decide +kernel
theorem dX4_append_0 : decode cX4_append 0 = .ok (.aload_n 0, 1) := by decide +kernel
theorem dX4_append_1 : decode cX4_append 1 = .ok (.getfield 15, 3) := by decide +kernel
theorem dX4_append_4 : decode cX4_append 4 = .ok (.aload_n 0, 1) := by decide +kernel
theorem dX4_append_5 : decode cX4_append 5 = .ok (.getfield 9, 3) := by decide +kernel
theorem dX4_append_8 : decode cX4_append 8 = .ok (.arraylength, 1) := by decide +kernel
theorem dX4_append_9 : decode cX4_append 9 = .ok (.if_icmp .ge 23, 3) := by decide +kernel
theorem dX4_append_12 : decode cX4_append 12 = .ok (.aload_n 0, 1) := by decide +kernel
theorem dX4_append_13 : decode cX4_append 13 = .ok (.getfield 9, 3) := by decide +kernel
theorem dX4_append_16 : decode cX4_append 16 = .ok (.aload_n 0, 1) := by decide +kernel
theorem dX4_append_17 : decode cX4_append 17 = .ok (.getfield 15, 3) := by decide +kernel
theorem dX4_append_20 : decode cX4_append 20 = .ok (.iload_n 1, 1) := by decide +kernel
theorem dX4_append_21 : decode cX4_append 21 = .ok (.iastore, 1) := by decide +kernel
theorem dX4_append_22 : decode cX4_append 22 = .ok (.aload_n 0, 1) := by decide +kernel
theorem dX4_append_23 : decode cX4_append 23 = .ok (.dup, 1) := by decide +kernel
theorem dX4_append_24 : decode cX4_append 24 = .ok (.getfield 15, 3) := by decide +kernel
theorem dX4_append_27 : decode cX4_append 27 = .ok (.iconst 1, 1) := by decide +kernel
theorem dX4_append_28 : decode cX4_append 28 = .ok (.iadd, 1) := by decide +kernel
theorem dX4_append_29 : decode cX4_append 29 = .ok (.putfield 15, 3) := by decide +kernel
theorem dX4_append_32 : decode cX4_append 32 = .ok (.aload_n 0, 1) := by decide +kernel
theorem dX4_append_33 : decode cX4_append 33 = .ok (.getfield 15, 3) := by decide +kernel
theorem dX4_append_36 : decode cX4_append 36 = .ok (.ireturn, 1) := by decide +kernel
theorem dX4_read_0 : decode cX4_read 0 = .ok (.aload_n 0, 1) := by decide +kernel
theorem dX4_read_1 : decode cX4_read 1 = .ok (.iconst 0, 1) := by decide +kernel
theorem dX4_read_2 : decode cX4_read 2 = .ok (.putfield 19, 3) := by decide +kernel
theorem dX4_read_5 : decode cX4_read 5 = .ok (.iconst 0, 1) := by decide +kernel
theorem dX4_read_6 : decode cX4_read 6 = .ok (.istore_n 2, 1) := by decide +kernel
theorem dX4_read_7 : decode cX4_read 7 = .ok (.iload_n 2, 1) := by decide +kernel
theorem dX4_read_8 : decode cX4_read 8 = .ok (.bipush 96, 2) := by decide +kernel
theorem dX4_read_10 : decode cX4_read 10 = .ok (.if_icmp .ge 40, 3) := by decide +kernel
theorem dX4_read_13 : decode cX4_read 13 = .ok (.iload_n 2, 1) := by decide +kernel
theorem dX4_read_14 : decode cX4_read 14 = .ok (.ifCond .eq 14, 3) := by decide +kernel
theorem dX4_read_17 : decode cX4_read 17 = .ok (.aload_n 0, 1) := by decide +kernel
theorem dX4_read_18 : decode cX4_read 18 = .ok (.getfield 19, 3) := by decide +kernel
theorem dX4_read_21 : decode cX4_read 21 = .ok (.aload_n 0, 1) := by decide +kernel
theorem dX4_read_22 : decode cX4_read 22 = .ok (.getfield 15, 3) := by decide +kernel
theorem dX4_read_25 : decode cX4_read 25 = .ok (.if_icmp .ge 25, 3) := by decide +kernel
theorem dX4_read_28 : decode cX4_read 28 = .ok (.aload_n 0, 1) := by decide +kernel
theorem dX4_read_29 : decode cX4_read 29 = .ok (.invokevirtual 22, 3) := by decide +kernel
theorem dX4_read_32 : decode cX4_read 32 = .ok (.ifCond .ne 12, 3) := by decide +kernel
theorem dX4_read_35 : decode cX4_read 35 = .ok (.sipush (-1000), 3) := by decide +kernel
theorem dX4_read_38 : decode cX4_read 38 = .ok (.aload_n 0, 1) := by decide +kernel
theorem dX4_read_39 : decode cX4_read 39 = .ok (.getfield 19, 3) := by decide +kernel
theorem dX4_read_42 : decode cX4_read 42 = .ok (.isub, 1) := by decide +kernel
theorem dX4_read_43 : decode cX4_read 43 = .ok (.ireturn, 1) := by decide +kernel
theorem dX4_read_44 : decode cX4_read 44 = .ok (.iinc 2 1, 3) := by decide +kernel
theorem dX4_read_47 : decode cX4_read 47 = .ok (.goto (-40), 3) := by decide +kernel
theorem dX4_read_50 : decode cX4_read 50 = .ok (.aload_n 0, 1) := by decide +kernel
theorem dX4_read_51 : decode cX4_read 51 = .ok (.iconst 0, 1) := by decide +kernel
theorem dX4_read_52 : decode cX4_read 52 = .ok (.putfield 19, 3) := by decide +kernel
theorem dX4_read_55 : decode cX4_read 55 = .ok (.iconst 0, 1) := by decide +kernel
theorem dX4_read_56 : decode cX4_read 56 = .ok (.istore_n 2, 1) := by decide +kernel
theorem dX4_read_57 : decode cX4_read 57 = .ok (.aload_n 0, 1) := by decide +kernel
theorem dX4_read_58 : decode cX4_read 58 = .ok (.getfield 19, 3) := by decide +kernel
theorem dX4_read_61 : decode cX4_read 61 = .ok (.aload_n 0, 1) := by decide +kernel
theorem dX4_read_62 : decode cX4_read 62 = .ok (.getfield 15, 3) := by decide +kernel
theorem dX4_read_65 : decode cX4_read 65 = .ok (.if_icmp .ge 42, 3) := by decide +kernel
theorem dX4_read_68 : decode cX4_read 68 = .ok (.iload_n 2, 1) := by decide +kernel
theorem dX4_read_69 : decode cX4_read 69 = .ok (.bipush 96, 2) := by decide +kernel
theorem dX4_read_71 : decode cX4_read 71 = .ok (.if_icmp .ge 36, 3) := by decide +kernel
theorem dX4_read_74 : decode cX4_read 74 = .ok (.aload_n 0, 1) := by decide +kernel
theorem dX4_read_75 : decode cX4_read 75 = .ok (.getfield 19, 3) := by decide +kernel
theorem dX4_read_78 : decode cX4_read 78 = .ok (.istore_n 3, 1) := by decide +kernel
theorem dX4_read_79 : decode cX4_read 79 = .ok (.aload_n 0, 1) := by decide +kernel
theorem dX4_read_80 : decode cX4_read 80 = .ok (.invokevirtual 22, 3) := by decide +kernel
theorem dX4_read_83 : decode cX4_read 83 = .ok (.ifCond .eq 12, 3) := by decide +kernel
theorem dX4_read_86 : decode cX4_read 86 = .ok (.aload_n 0, 1) := by decide +kernel
theorem dX4_read_87 : decode cX4_read 87 = .ok (.aload_n 1, 1) := by decide +kernel
theorem dX4_read_88 : decode cX4_read 88 = .ok (.iload_n 3, 1) := by decide +kernel
theorem dX4_read_89 : decode cX4_read 89 = .ok (.invokevirtual 26, 3) := by decide +kernel
theorem dX4_read_92 : decode cX4_read 92 = .ok (.ifCond .ne 9, 3) := by decide +kernel
theorem dX4_read_95 : decode cX4_read 95 = .ok (.sipush (-2000), 3) := by decide +kernel
theorem dX4_read_98 : decode cX4_read 98 = .ok (.iload_n 3, 1) := by decide +kernel
theorem dX4_read_99 : decode cX4_read 99 = .ok (.isub, 1) := by decide +kernel
theorem dX4_read_100 : decode cX4_read 100 = .ok (.ireturn, 1) := by decide +kernel
theorem dX4_read_101 : decode cX4_read 101 = .ok (.iinc 2 1, 3) := by decide +kernel
theorem dX4_read_104 : decode cX4_read 104 = .ok (.goto (-47), 3) := by decide +kernel
theorem dX4_read_107 : decode cX4_read 107 = .ok (.iload_n 2, 1) := by decide +kernel
theorem dX4_read_108 : decode cX4_read 108 = .ok (.ireturn, 1) := by decide +kernel
theorem dX4_skipStatement_0 : decode cX4_skipStatement 0 = .ok (.aload_n 0, 1) := by decide +kernel
theorem dX4_skipStatement_1 : decode cX4_skipStatement 1 = .ok (.bipush 115, 2) := by decide +kernel
theorem dX4_skipStatement_3 : decode cX4_skipStatement 3 = .ok (.invokevirtual 30, 3) := by decide +kernel
theorem dX4_skipStatement_6 : decode cX4_skipStatement 6 = .ok (.ifCond .eq 60, 3) := by decide +kernel
theorem dX4_skipStatement_9 : decode cX4_skipStatement 9 = .ok (.aload_n 0, 1) := by decide +kernel
theorem dX4_skipStatement_10 : decode cX4_skipStatement 10 = .ok (.iconst 1, 1) := by decide +kernel
theorem dX4_skipStatement_11 : decode cX4_skipStatement 11 = .ok (.invokevirtual 34, 3) := by decide +kernel
theorem dX4_skipStatement_14 : decode cX4_skipStatement 14 = .ok (.ifCond .eq 50, 3) := by decide +kernel
theorem dX4_skipStatement_17 : decode cX4_skipStatement 17 = .ok (.aload_n 0, 1) := by decide +kernel
theorem dX4_skipStatement_18 : decode cX4_skipStatement 18 = .ok (.bipush 61, 2) := by decide +kernel
theorem dX4_skipStatement_20 : decode cX4_skipStatement 20 = .ok (.invokevirtual 30, 3) := by decide +kernel
theorem dX4_skipStatement_23 : decode cX4_skipStatement 23 = .ok (.ifCond .eq 41, 3) := by decide +kernel
theorem dX4_skipStatement_26 : decode cX4_skipStatement 26 = .ok (.aload_n 0, 1) := by decide +kernel
theorem dX4_skipStatement_27 : decode cX4_skipStatement 27 = .ok (.iconst 1, 1) := by decide +kernel
theorem dX4_skipStatement_28 : decode cX4_skipStatement 28 = .ok (.invokevirtual 34, 3) := by decide +kernel
theorem dX4_skipStatement_31 : decode cX4_skipStatement 31 = .ok (.ifCond .eq 33, 3) := by decide +kernel
theorem dX4_skipStatement_34 : decode cX4_skipStatement 34 = .ok (.aload_n 0, 1) := by decide +kernel
theorem dX4_skipStatement_35 : decode cX4_skipStatement 35 = .ok (.bipush 59, 2) := by decide +kernel
theorem dX4_skipStatement_37 : decode cX4_skipStatement 37 = .ok (.invokevirtual 30, 3) := by decide +kernel
theorem dX4_skipStatement_40 : decode cX4_skipStatement 40 = .ok (.ifCond .ne 20, 3) := by decide +kernel
theorem dX4_skipStatement_43 : decode cX4_skipStatement 43 = .ok (.aload_n 0, 1) := by decide +kernel
theorem dX4_skipStatement_44 : decode cX4_skipStatement 44 = .ok (.iconst 1, 1) := by decide +kernel
theorem dX4_skipStatement_45 : decode cX4_skipStatement 45 = .ok (.invokevirtual 34, 3) := by decide +kernel
theorem dX4_skipStatement_48 : decode cX4_skipStatement 48 = .ok (.ifCond .eq 16, 3) := by decide +kernel
theorem dX4_skipStatement_51 : decode cX4_skipStatement 51 = .ok (.aload_n 0, 1) := by decide +kernel
theorem dX4_skipStatement_52 : decode cX4_skipStatement 52 = .ok (.bipush 59, 2) := by decide +kernel
theorem dX4_skipStatement_54 : decode cX4_skipStatement 54 = .ok (.invokevirtual 30, 3) := by decide +kernel
theorem dX4_skipStatement_57 : decode cX4_skipStatement 57 = .ok (.ifCond .eq 7, 3) := by decide +kernel
theorem dX4_skipStatement_60 : decode cX4_skipStatement 60 = .ok (.iconst 1, 1) := by decide +kernel
theorem dX4_skipStatement_61 : decode cX4_skipStatement 61 = .ok (.goto 4, 3) := by decide +kernel
theorem dX4_skipStatement_64 : decode cX4_skipStatement 64 = .ok (.iconst 0, 1) := by decide +kernel
theorem dX4_skipStatement_65 : decode cX4_skipStatement 65 = .ok (.ireturn, 1) := by decide +kernel
theorem dX4_skipStatement_66 : decode cX4_skipStatement 66 = .ok (.aload_n 0, 1) := by decide +kernel
theorem dX4_skipStatement_67 : decode cX4_skipStatement 67 = .ok (.bipush 99, 2) := by decide +kernel
theorem dX4_skipStatement_69 : decode cX4_skipStatement 69 = .ok (.invokevirtual 30, 3) := by decide +kernel
theorem dX4_skipStatement_72 : decode cX4_skipStatement 72 = .ok (.ifCond .eq 27, 3) := by decide +kernel
theorem dX4_skipStatement_75 : decode cX4_skipStatement 75 = .ok (.aload_n 0, 1) := by decide +kernel
theorem dX4_skipStatement_76 : decode cX4_skipStatement 76 = .ok (.bipush 8, 2) := by decide +kernel
theorem dX4_skipStatement_78 : decode cX4_skipStatement 78 = .ok (.invokevirtual 34, 3) := by decide +kernel
theorem dX4_skipStatement_81 : decode cX4_skipStatement 81 = .ok (.ifCond .eq 16, 3) := by decide +kernel
theorem dX4_skipStatement_84 : decode cX4_skipStatement 84 = .ok (.aload_n 0, 1) := by decide +kernel
theorem dX4_skipStatement_85 : decode cX4_skipStatement 85 = .ok (.bipush 59, 2) := by decide +kernel
theorem dX4_skipStatement_87 : decode cX4_skipStatement 87 = .ok (.invokevirtual 30, 3) := by decide +kernel
theorem dX4_skipStatement_90 : decode cX4_skipStatement 90 = .ok (.ifCond .eq 7, 3) := by decide +kernel
theorem dX4_skipStatement_93 : decode cX4_skipStatement 93 = .ok (.iconst 1, 1) := by decide +kernel
theorem dX4_skipStatement_94 : decode cX4_skipStatement 94 = .ok (.goto 4, 3) := by decide +kernel
theorem dX4_skipStatement_97 : decode cX4_skipStatement 97 = .ok (.iconst 0, 1) := by decide +kernel
theorem dX4_skipStatement_98 : decode cX4_skipStatement 98 = .ok (.ireturn, 1) := by decide +kernel
theorem dX4_skipStatement_99 : decode cX4_skipStatement 99 = .ok (.aload_n 0, 1) := by decide +kernel
theorem dX4_skipStatement_100 : decode cX4_skipStatement 100 = .ok (.bipush 107, 2) := by decide +kernel
theorem dX4_skipStatement_102 : decode cX4_skipStatement 102 = .ok (.invokevirtual 30, 3) := by decide +kernel
theorem dX4_skipStatement_105 : decode cX4_skipStatement 105 = .ok (.ifCond .eq 24, 3) := by decide +kernel
theorem dX4_skipStatement_108 : decode cX4_skipStatement 108 = .ok (.aload_n 0, 1) := by decide +kernel
theorem dX4_skipStatement_109 : decode cX4_skipStatement 109 = .ok (.iconst 3, 1) := by decide +kernel
theorem dX4_skipStatement_110 : decode cX4_skipStatement 110 = .ok (.invokevirtual 34, 3) := by decide +kernel
theorem dX4_skipStatement_113 : decode cX4_skipStatement 113 = .ok (.ifCond .eq 16, 3) := by decide +kernel
theorem dX4_skipStatement_116 : decode cX4_skipStatement 116 = .ok (.aload_n 0, 1) := by decide +kernel
theorem dX4_skipStatement_117 : decode cX4_skipStatement 117 = .ok (.bipush 59, 2) := by decide +kernel
theorem dX4_skipStatement_119 : decode cX4_skipStatement 119 = .ok (.invokevirtual 30, 3) := by decide +kernel
theorem dX4_skipStatement_122 : decode cX4_skipStatement 122 = .ok (.ifCond .eq 7, 3) := by decide +kernel
theorem dX4_skipStatement_125 : decode cX4_skipStatement 125 = .ok (.iconst 1, 1) := by decide +kernel
theorem dX4_skipStatement_126 : decode cX4_skipStatement 126 = .ok (.goto 4, 3) := by decide +kernel
theorem dX4_skipStatement_129 : decode cX4_skipStatement 129 = .ok (.iconst 0, 1) := by decide +kernel
theorem dX4_skipStatement_130 : decode cX4_skipStatement 130 = .ok (.ireturn, 1) := by decide +kernel
theorem dX4_skip_0 : decode cX4_skip 0 = .ok (.aload_n 0, 1) := by decide +kernel
theorem dX4_skip_1 : decode cX4_skip 1 = .ok (.aload_n 0, 1) := by decide +kernel
theorem dX4_skip_2 : decode cX4_skip 2 = .ok (.getfield 19, 3) := by decide +kernel
theorem dX4_skip_5 : decode cX4_skip 5 = .ok (.invokevirtual 38, 3) := by decide +kernel
theorem dX4_skip_8 : decode cX4_skip 8 = .ok (.iload_n 1, 1) := by decide +kernel
theorem dX4_skip_9 : decode cX4_skip 9 = .ok (.if_icmp .ne 7, 3) := by decide +kernel
theorem dX4_skip_12 : decode cX4_skip 12 = .ok (.iconst 1, 1) := by decide +kernel
theorem dX4_skip_13 : decode cX4_skip 13 = .ok (.goto 4, 3) := by decide +kernel
theorem dX4_skip_16 : decode cX4_skip 16 = .ok (.iconst 0, 1) := by decide +kernel
theorem dX4_skip_17 : decode cX4_skip 17 = .ok (.istore_n 2, 1) := by decide +kernel
theorem dX4_skip_18 : decode cX4_skip 18 = .ok (.aload_n 0, 1) := by decide +kernel
theorem dX4_skip_19 : decode cX4_skip 19 = .ok (.dup, 1) := by decide +kernel
theorem dX4_skip_20 : decode cX4_skip 20 = .ok (.getfield 19, 3) := by decide +kernel
theorem dX4_skip_23 : decode cX4_skip 23 = .ok (.iload_n 2, 1) := by decide +kernel
theorem dX4_skip_24 : decode cX4_skip 24 = .ok (.ifCond .eq 7, 3) := by decide +kernel
theorem dX4_skip_27 : decode cX4_skip 27 = .ok (.iconst 1, 1) := by decide +kernel
theorem dX4_skip_28 : decode cX4_skip 28 = .ok (.goto 4, 3) := by decide +kernel
theorem dX4_skip_31 : decode cX4_skip 31 = .ok (.iconst 0, 1) := by decide +kernel
theorem dX4_skip_32 : decode cX4_skip 32 = .ok (.iadd, 1) := by decide +kernel
theorem dX4_skip_33 : decode cX4_skip 33 = .ok (.putfield 19, 3) := by decide +kernel
theorem dX4_skip_36 : decode cX4_skip 36 = .ok (.iload_n 2, 1) := by decide +kernel
theorem dX4_skip_37 : decode cX4_skip 37 = .ok (.ireturn, 1) := by decide +kernel
theorem dX4_skipDigits_0 : decode cX4_skipDigits 0 = .ok (.iconst 0, 1) := by decide +kernel
theorem dX4_skipDigits_1 : decode cX4_skipDigits 1 = .ok (.istore_n 2, 1) := by decide +kernel
theorem dX4_skipDigits_2 : decode cX4_skipDigits 2 = .ok (.iload_n 2, 1) := by decide +kernel
theorem dX4_skipDigits_3 : decode cX4_skipDigits 3 = .ok (.iload_n 1, 1) := by decide +kernel
theorem dX4_skipDigits_4 : decode cX4_skipDigits 4 = .ok (.if_icmp .ge 47, 3) := by decide +kernel
theorem dX4_skipDigits_7 : decode cX4_skipDigits 7 = .ok (.aload_n 0, 1) := by decide +kernel
theorem dX4_skipDigits_8 : decode cX4_skipDigits 8 = .ok (.aload_n 0, 1) := by decide +kernel
theorem dX4_skipDigits_9 : decode cX4_skipDigits 9 = .ok (.getfield 19, 3) := by decide +kernel
theorem dX4_skipDigits_12 : decode cX4_skipDigits 12 = .ok (.invokevirtual 38, 3) := by decide +kernel
theorem dX4_skipDigits_15 : decode cX4_skipDigits 15 = .ok (.bipush 48, 2) := by decide +kernel
theorem dX4_skipDigits_17 : decode cX4_skipDigits 17 = .ok (.if_icmp .lt 16, 3) := by decide +kernel
theorem dX4_skipDigits_20 : decode cX4_skipDigits 20 = .ok (.aload_n 0, 1) := by decide +kernel
theorem dX4_skipDigits_21 : decode cX4_skipDigits 21 = .ok (.aload_n 0, 1) := by decide +kernel
theorem dX4_skipDigits_22 : decode cX4_skipDigits 22 = .ok (.getfield 19, 3) := by decide +kernel
theorem dX4_skipDigits_25 : decode cX4_skipDigits 25 = .ok (.invokevirtual 38, 3) := by decide +kernel
theorem dX4_skipDigits_28 : decode cX4_skipDigits 28 = .ok (.bipush 57, 2) := by decide +kernel
theorem dX4_skipDigits_30 : decode cX4_skipDigits 30 = .ok (.if_icmp .le 5, 3) := by decide +kernel
theorem dX4_skipDigits_33 : decode cX4_skipDigits 33 = .ok (.iconst 0, 1) := by decide +kernel
theorem dX4_skipDigits_34 : decode cX4_skipDigits 34 = .ok (.ireturn, 1) := by decide +kernel
theorem dX4_skipDigits_35 : decode cX4_skipDigits 35 = .ok (.aload_n 0, 1) := by decide +kernel
theorem dX4_skipDigits_36 : decode cX4_skipDigits 36 = .ok (.dup, 1) := by decide +kernel
theorem dX4_skipDigits_37 : decode cX4_skipDigits 37 = .ok (.getfield 19, 3) := by decide +kernel
theorem dX4_skipDigits_40 : decode cX4_skipDigits 40 = .ok (.iconst 1, 1) := by decide +kernel
theorem dX4_skipDigits_41 : decode cX4_skipDigits 41 = .ok (.iadd, 1) := by decide +kernel
theorem dX4_skipDigits_42 : decode cX4_skipDigits 42 = .ok (.putfield 19, 3) := by decide +kernel
theorem dX4_skipDigits_45 : decode cX4_skipDigits 45 = .ok (.iinc 2 1, 3) := by decide +kernel
theorem dX4_skipDigits_48 : decode cX4_skipDigits 48 = .ok (.goto (-46), 3) := by decide +kernel
theorem dX4_skipDigits_51 : decode cX4_skipDigits 51 = .ok (.iconst 1, 1) := by decide +kernel
theorem dX4_skipDigits_52 : decode cX4_skipDigits 52 = .ok (.ireturn, 1) := by decide +kernel
theorem dX4_carryOut_0 : decode cX4_carryOut 0 = .ok (.aload_n 0, 1) := by decide +kernel
theorem dX4_carryOut_1 : decode cX4_carryOut 1 = .ok (.iload_n 2, 1) := by decide +kernel
theorem dX4_carryOut_2 : decode cX4_carryOut 2 = .ok (.invokevirtual 38, 3) := by decide +kernel
theorem dX4_carryOut_5 : decode cX4_carryOut 5 = .ok (.bipush 115, 2) := by decide +kernel
theorem dX4_carryOut_7 : decode cX4_carryOut 7 = .ok (.if_icmp .ne 62, 3) := by decide +kernel
theorem dX4_carryOut_10 : decode cX4_carryOut 10 = .ok (.aload_n 0, 1) := by decide +kernel
theorem dX4_carryOut_11 : decode cX4_carryOut 11 = .ok (.iload_n 2, 1) := by decide +kernel
theorem dX4_carryOut_12 : decode cX4_carryOut 12 = .ok (.iconst 1, 1) := by decide +kernel
theorem dX4_carryOut_13 : decode cX4_carryOut 13 = .ok (.iadd, 1) := by decide +kernel
theorem dX4_carryOut_14 : decode cX4_carryOut 14 = .ok (.iconst 1, 1) := by decide +kernel
theorem dX4_carryOut_15 : decode cX4_carryOut 15 = .ok (.invokevirtual 42, 3) := by decide +kernel
theorem dX4_carryOut_18 : decode cX4_carryOut 18 = .ok (.istore_n 3, 1) := by decide +kernel
theorem dX4_carryOut_19 : decode cX4_carryOut 19 = .ok (.aload_n 0, 1) := by decide +kernel
theorem dX4_carryOut_20 : decode cX4_carryOut 20 = .ok (.iload_n 2, 1) := by decide +kernel
theorem dX4_carryOut_21 : decode cX4_carryOut 21 = .ok (.iconst 3, 1) := by decide +kernel
theorem dX4_carryOut_22 : decode cX4_carryOut 22 = .ok (.iadd, 1) := by decide +kernel
theorem dX4_carryOut_23 : decode cX4_carryOut 23 = .ok (.aload_n 0, 1) := by decide +kernel
theorem dX4_carryOut_24 : decode cX4_carryOut 24 = .ok (.getfield 19, 3) := by decide +kernel
theorem dX4_carryOut_27 : decode cX4_carryOut 27 = .ok (.iload_n 2, 1) := by decide +kernel
theorem dX4_carryOut_28 : decode cX4_carryOut 28 = .ok (.isub, 1) := by decide +kernel
theorem dX4_carryOut_29 : decode cX4_carryOut 29 = .ok (.iconst 4, 1) := by decide +kernel
theorem dX4_carryOut_30 : decode cX4_carryOut 30 = .ok (.isub, 1) := by decide +kernel
theorem dX4_carryOut_31 : decode cX4_carryOut 31 = .ok (.invokevirtual 42, 3) := by decide +kernel
theorem dX4_carryOut_34 : decode cX4_carryOut 34 = .ok (.istore 4, 2) := by decide +kernel
theorem dX4_carryOut_36 : decode cX4_carryOut 36 = .ok (.aload_n 1, 1) := by decide +kernel
theorem dX4_carryOut_37 : decode cX4_carryOut 37 = .ok (.iload_n 3, 1) := by decide +kernel
theorem dX4_carryOut_38 : decode cX4_carryOut 38 = .ok (.iload 4, 2) := by decide +kernel
theorem dX4_carryOut_40 : decode cX4_carryOut 40 = .ok (.invokevirtual 46, 3) := by decide +kernel
theorem dX4_carryOut_43 : decode cX4_carryOut 43 = .ok (.ifCond .ne 7, 3) := by decide +kernel
theorem dX4_carryOut_46 : decode cX4_carryOut 46 = .ok (.iconst 1, 1) := by decide +kernel
theorem dX4_carryOut_47 : decode cX4_carryOut 47 = .ok (.goto 4, 3) := by decide +kernel
theorem dX4_carryOut_50 : decode cX4_carryOut 50 = .ok (.iconst 0, 1) := by decide +kernel
theorem dX4_carryOut_51 : decode cX4_carryOut 51 = .ok (.istore 5, 2) := by decide +kernel
theorem dX4_carryOut_53 : decode cX4_carryOut 53 = .ok (.iload 5, 2) := by decide +kernel
theorem dX4_carryOut_55 : decode cX4_carryOut 55 = .ok (.ifCond .eq 11, 3) := by decide +kernel
theorem dX4_carryOut_58 : decode cX4_carryOut 58 = .ok (.aload_n 1, 1) := by decide +kernel
theorem dX4_carryOut_59 : decode cX4_carryOut 59 = .ok (.iload_n 3, 1) := by decide +kernel
theorem dX4_carryOut_60 : decode cX4_carryOut 60 = .ok (.iload 4, 2) := by decide +kernel
theorem dX4_carryOut_62 : decode cX4_carryOut 62 = .ok (.invokevirtual 51, 3) := by decide +kernel
theorem dX4_carryOut_65 : decode cX4_carryOut 65 = .ok (.pop, 1) := by decide +kernel
theorem dX4_carryOut_66 : decode cX4_carryOut 66 = .ok (.iload 5, 2) := by decide +kernel
theorem dX4_carryOut_68 : decode cX4_carryOut 68 = .ok (.ireturn, 1) := by decide +kernel
theorem dX4_carryOut_69 : decode cX4_carryOut 69 = .ok (.aload_n 0, 1) := by decide +kernel
theorem dX4_carryOut_70 : decode cX4_carryOut 70 = .ok (.iload_n 2, 1) := by decide +kernel
theorem dX4_carryOut_71 : decode cX4_carryOut 71 = .ok (.invokevirtual 38, 3) := by decide +kernel
theorem dX4_carryOut_74 : decode cX4_carryOut 74 = .ok (.bipush 99, 2) := by decide +kernel
theorem dX4_carryOut_76 : decode cX4_carryOut 76 = .ok (.if_icmp .ne 50, 3) := by decide +kernel
theorem dX4_carryOut_79 : decode cX4_carryOut 79 = .ok (.aload_n 1, 1) := by decide +kernel
theorem dX4_carryOut_80 : decode cX4_carryOut 80 = .ok (.aload_n 0, 1) := by decide +kernel
theorem dX4_carryOut_81 : decode cX4_carryOut 81 = .ok (.iload_n 2, 1) := by decide +kernel
theorem dX4_carryOut_82 : decode cX4_carryOut 82 = .ok (.iconst 1, 1) := by decide +kernel
theorem dX4_carryOut_83 : decode cX4_carryOut 83 = .ok (.iadd, 1) := by decide +kernel
theorem dX4_carryOut_84 : decode cX4_carryOut 84 = .ok (.iconst 1, 1) := by decide +kernel
theorem dX4_carryOut_85 : decode cX4_carryOut 85 = .ok (.invokevirtual 42, 3) := by decide +kernel
