theorem dX7_leastOfOneKind_26 : decode cX7_leastOfOneKind 26 = .ok (.iload_n 2, 1) := by decide +kernel
theorem dX7_leastOfOneKind_27 : decode cX7_leastOfOneKind 27 = .ok (.iastore, 1) := by decide +kernel
theorem dX7_leastOfOneKind_28 : decode cX7_leastOfOneKind 28 = .ok (.iinc 3 1, 3) := by decide +kernel
theorem dX7_leastOfOneKind_31 : decode cX7_leastOfOneKind 31 = .ok (.goto (-18), 3) := by decide +kernel
theorem dX7_leastOfOneKind_34 : decode cX7_leastOfOneKind 34 = .ok (.aload_n 0, 1) := by decide +kernel
theorem dX7_leastOfOneKind_35 : decode cX7_leastOfOneKind 35 = .ok (.invokevirtual 228, 3) := by decide +kernel
theorem dX7_leastOfOneKind_38 : decode cX7_leastOfOneKind 38 = .ok (.istore_n 3, 1) := by decide +kernel
theorem dX7_leastOfOneKind_39 : decode cX7_leastOfOneKind 39 = .ok (.iload_n 3, 1) := by decide +kernel
theorem dX7_leastOfOneKind_40 : decode cX7_leastOfOneKind 40 = .ok (.iload_n 1, 1) := by decide +kernel
theorem dX7_leastOfOneKind_41 : decode cX7_leastOfOneKind 41 = .ok (.if_icmp .ge 7, 3) := by decide +kernel
theorem dX7_leastOfOneKind_44 : decode cX7_leastOfOneKind 44 = .ok (.iload_n 3, 1) := by decide +kernel
theorem dX7_leastOfOneKind_45 : decode cX7_leastOfOneKind 45 = .ok (.goto 4, 3) := by decide +kernel
theorem dX7_leastOfOneKind_48 : decode cX7_leastOfOneKind 48 = .ok (.iload_n 1, 1) := by decide +kernel
theorem dX7_leastOfOneKind_49 : decode cX7_leastOfOneKind 49 = .ok (.istore_n 1, 1) := by decide +kernel
theorem dX7_leastOfOneKind_50 : decode cX7_leastOfOneKind 50 = .ok (.iinc 2 1, 3) := by decide +kernel
theorem dX7_leastOfOneKind_53 : decode cX7_leastOfOneKind 53 = .ok (.goto (-48), 3) := by decide +kernel
theorem dX7_leastOfOneKind_56 : decode cX7_leastOfOneKind 56 = .ok (.iload_n 1, 1) := by decide +kernel
theorem dX7_leastOfOneKind_57 : decode cX7_leastOfOneKind 57 = .ok (.ireturn, 1) := by decide +kernel
theorem dX7_rounds_0 : decode cX7_rounds 0 = .ok (.iload_n 1, 1) := by decide +kernel
theorem dX7_rounds_1 : decode cX7_rounds 1 = .ok (.iconst 0, 1) := by decide +kernel
theorem dX7_rounds_2 : decode cX7_rounds 2 = .ok (.iconst 3, 1) := by decide +kernel
theorem dX7_rounds_3 : decode cX7_rounds 3 = .ok (.invokestatic 99, 3) := by decide +kernel
theorem dX7_rounds_6 : decode cX7_rounds 6 = .ok (.ifCond .ne 10, 3) := by decide +kernel
theorem dX7_rounds_9 : decode cX7_rounds 9 = .ok (.aload_n 0, 1) := by decide +kernel
theorem dX7_rounds_10 : decode cX7_rounds 10 = .ok (.bipush (-2), 2) := by decide +kernel
theorem dX7_rounds_12 : decode cX7_rounds 12 = .ok (.invokevirtual 234, 3) := by decide +kernel
theorem dX7_rounds_15 : decode cX7_rounds 15 = .ok (.ireturn, 1) := by decide +kernel
theorem dX7_rounds_16 : decode cX7_rounds 16 = .ok (.aload_n 0, 1) := by decide +kernel
theorem dX7_rounds_17 : decode cX7_rounds 17 = .ok (.iconst 1, 1) := by decide +kernel
theorem dX7_rounds_18 : decode cX7_rounds 18 = .ok (.iconst 1, 1) := by decide +kernel
theorem dX7_rounds_19 : decode cX7_rounds 19 = .ok (.invokevirtual 139, 3) := by decide +kernel
theorem dX7_rounds_22 : decode cX7_rounds 22 = .ok (.aload_n 0, 1) := by decide +kernel
theorem dX7_rounds_23 : decode cX7_rounds 23 = .ok (.invokevirtual 237, 3) := by decide +kernel
theorem dX7_rounds_26 : decode cX7_rounds 26 = .ok (.istore_n 2, 1) := by decide +kernel
theorem dX7_rounds_27 : decode cX7_rounds 27 = .ok (.iload_n 1, 1) := by decide +kernel
theorem dX7_rounds_28 : decode cX7_rounds 28 = .ok (.iconst 1, 1) := by decide +kernel
theorem dX7_rounds_29 : decode cX7_rounds 29 = .ok (.if_icmp .ne 8, 3) := by decide +kernel
theorem dX7_rounds_32 : decode cX7_rounds 32 = .ok (.aload_n 0, 1) := by decide +kernel
theorem dX7_rounds_33 : decode cX7_rounds 33 = .ok (.invokevirtual 240, 3) := by decide +kernel
theorem dX7_rounds_36 : decode cX7_rounds 36 = .ok (.istore_n 2, 1) := by decide +kernel
theorem dX7_rounds_37 : decode cX7_rounds 37 = .ok (.iload_n 1, 1) := by decide +kernel
theorem dX7_rounds_38 : decode cX7_rounds 38 = .ok (.iconst 1, 1) := by decide +kernel
theorem dX7_rounds_39 : decode cX7_rounds 39 = .ok (.if_icmp .le 8, 3) := by decide +kernel
theorem dX7_rounds_42 : decode cX7_rounds 42 = .ok (.aload_n 0, 1) := by decide +kernel
theorem dX7_rounds_43 : decode cX7_rounds 43 = .ok (.invokevirtual 228, 3) := by decide +kernel
theorem dX7_rounds_46 : decode cX7_rounds 46 = .ok (.istore_n 2, 1) := by decide +kernel
theorem dX7_rounds_47 : decode cX7_rounds 47 = .ok (.iload_n 1, 1) := by decide +kernel
theorem dX7_rounds_48 : decode cX7_rounds 48 = .ok (.iconst 3, 1) := by decide +kernel
theorem dX7_rounds_49 : decode cX7_rounds 49 = .ok (.if_icmp .ne 10, 3) := by decide +kernel
theorem dX7_rounds_52 : decode cX7_rounds 52 = .ok (.iload_n 2, 1) := by decide +kernel
theorem dX7_rounds_53 : decode cX7_rounds 53 = .ok (.aload_n 0, 1) := by decide +kernel
theorem dX7_rounds_54 : decode cX7_rounds 54 = .ok (.invokevirtual 243, 3) := by decide +kernel
theorem dX7_rounds_57 : decode cX7_rounds 57 = .ok (.isub, 1) := by decide +kernel
theorem dX7_rounds_58 : decode cX7_rounds 58 = .ok (.istore_n 2, 1) := by decide +kernel
theorem dX7_rounds_59 : decode cX7_rounds 59 = .ok (.aload_n 0, 1) := by decide +kernel
theorem dX7_rounds_60 : decode cX7_rounds 60 = .ok (.iconst 1, 1) := by decide +kernel
theorem dX7_rounds_61 : decode cX7_rounds 61 = .ok (.iconst 0, 1) := by decide +kernel
theorem dX7_rounds_62 : decode cX7_rounds 62 = .ok (.invokevirtual 139, 3) := by decide +kernel
theorem dX7_rounds_65 : decode cX7_rounds 65 = .ok (.iload_n 2, 1) := by decide +kernel
theorem dX7_rounds_66 : decode cX7_rounds 66 = .ok (.ireturn, 1) := by decide +kernel
theorem dX7_marks_0 : decode cX7_marks 0 = .ok (.iload_n 1, 1) := by decide +kernel
theorem dX7_marks_1 : decode cX7_marks 1 = .ok (.iconst 0, 1) := by decide +kernel
theorem dX7_marks_2 : decode cX7_marks 2 = .ok (.iconst 1, 1) := by decide +kernel
theorem dX7_marks_3 : decode cX7_marks 3 = .ok (.invokestatic 99, 3) := by decide +kernel
theorem dX7_marks_6 : decode cX7_marks 6 = .ok (.ifCond .ne 10, 3) := by decide +kernel
theorem dX7_marks_9 : decode cX7_marks 9 = .ok (.aload_n 0, 1) := by decide +kernel
theorem dX7_marks_10 : decode cX7_marks 10 = .ok (.bipush (-2), 2) := by decide +kernel
theorem dX7_marks_12 : decode cX7_marks 12 = .ok (.invokevirtual 88, 3) := by decide +kernel
theorem dX7_marks_15 : decode cX7_marks 15 = .ok (.ireturn, 1) := by decide +kernel
theorem dX7_marks_16 : decode cX7_marks 16 = .ok (.aload_n 0, 1) := by decide +kernel
theorem dX7_marks_17 : decode cX7_marks 17 = .ok (.iconst 1, 1) := by decide +kernel
theorem dX7_marks_18 : decode cX7_marks 18 = .ok (.iconst 1, 1) := by decide +kernel
theorem dX7_marks_19 : decode cX7_marks 19 = .ok (.invokevirtual 139, 3) := by decide +kernel
theorem dX7_marks_22 : decode cX7_marks 22 = .ok (.iconst 0, 1) := by decide +kernel
theorem dX7_marks_23 : decode cX7_marks 23 = .ok (.istore_n 2, 1) := by decide +kernel
theorem dX7_marks_24 : decode cX7_marks 24 = .ok (.ldc 76, 2) := by decide +kernel
theorem dX7_marks_26 : decode cX7_marks 26 = .ok (.istore_n 3, 1) := by decide +kernel
theorem dX7_marks_27 : decode cX7_marks 27 = .ok (.iconst 0, 1) := by decide +kernel
theorem dX7_marks_28 : decode cX7_marks 28 = .ok (.istore 4, 2) := by decide +kernel
theorem dX7_marks_30 : decode cX7_marks 30 = .ok (.iload 4, 2) := by decide +kernel
theorem dX7_marks_32 : decode cX7_marks 32 = .ok (.aload_n 0, 1) := by decide +kernel
theorem dX7_marks_33 : decode cX7_marks 33 = .ok (.getfield 13, 3) := by decide +kernel
theorem dX7_marks_36 : decode cX7_marks 36 = .ok (.iconst 0, 1) := by decide +kernel
theorem dX7_marks_37 : decode cX7_marks 37 = .ok (.iaload, 1) := by decide +kernel
theorem dX7_marks_38 : decode cX7_marks 38 = .ok (.if_icmp .gt 39, 3) := by decide +kernel
theorem dX7_marks_41 : decode cX7_marks 41 = .ok (.aload_n 0, 1) := by decide +kernel
theorem dX7_marks_42 : decode cX7_marks 42 = .ok (.getfield 13, 3) := by decide +kernel
theorem dX7_marks_45 : decode cX7_marks 45 = .ok (.bipush 6, 2) := by decide +kernel
theorem dX7_marks_47 : decode cX7_marks 47 = .ok (.iload 4, 2) := by decide +kernel
theorem dX7_marks_49 : decode cX7_marks 49 = .ok (.iastore, 1) := by decide +kernel
theorem dX7_marks_50 : decode cX7_marks 50 = .ok (.aload_n 0, 1) := by decide +kernel
theorem dX7_marks_51 : decode cX7_marks 51 = .ok (.invokevirtual 228, 3) := by decide +kernel
theorem dX7_marks_54 : decode cX7_marks 54 = .ok (.istore 5, 2) := by decide +kernel
theorem dX7_marks_56 : decode cX7_marks 56 = .ok (.iload 5, 2) := by decide +kernel
theorem dX7_marks_58 : decode cX7_marks 58 = .ok (.iload_n 3, 1) := by decide +kernel
theorem dX7_marks_59 : decode cX7_marks 59 = .ok (.if_icmp .lt 6, 3) := by decide +kernel
theorem dX7_marks_62 : decode cX7_marks 62 = .ok (.goto 9, 3) := by decide +kernel
theorem dX7_marks_65 : decode cX7_marks 65 = .ok (.iload 4, 2) := by decide +kernel
theorem dX7_marks_67 : decode cX7_marks 67 = .ok (.istore_n 2, 1) := by decide +kernel
theorem dX7_marks_68 : decode cX7_marks 68 = .ok (.iload 5, 2) := by decide +kernel
theorem dX7_marks_70 : decode cX7_marks 70 = .ok (.istore_n 3, 1) := by decide +kernel
theorem dX7_marks_71 : decode cX7_marks 71 = .ok (.iinc 4 1, 3) := by decide +kernel
theorem dX7_marks_74 : decode cX7_marks 74 = .ok (.goto (-44), 3) := by decide +kernel
theorem dX7_marks_77 : decode cX7_marks 77 = .ok (.aload_n 0, 1) := by decide +kernel
theorem dX7_marks_78 : decode cX7_marks 78 = .ok (.iconst 1, 1) := by decide +kernel
theorem dX7_marks_79 : decode cX7_marks 79 = .ok (.iconst 0, 1) := by decide +kernel
theorem dX7_marks_80 : decode cX7_marks 80 = .ok (.invokevirtual 139, 3) := by decide +kernel
theorem dX7_marks_83 : decode cX7_marks 83 = .ok (.iload_n 1, 1) := by decide +kernel
theorem dX7_marks_84 : decode cX7_marks 84 = .ok (.ifCond .ne 7, 3) := by decide +kernel
theorem dX7_marks_87 : decode cX7_marks 87 = .ok (.iload_n 2, 1) := by decide +kernel
theorem dX7_marks_88 : decode cX7_marks 88 = .ok (.goto 4, 3) := by decide +kernel
theorem dX7_marks_91 : decode cX7_marks 91 = .ok (.iload_n 3, 1) := by decide +kernel
theorem dX7_marks_92 : decode cX7_marks 92 = .ok (.ireturn, 1) := by decide +kernel
theorem dX7_second_0 : decode cX7_second 0 = .ok (.aload_n 0, 1) := by decide +kernel
theorem dX7_second_1 : decode cX7_second 1 = .ok (.iconst 1, 1) := by decide +kernel
theorem dX7_second_2 : decode cX7_second 2 = .ok (.iconst 1, 1) := by decide +kernel
theorem dX7_second_3 : decode cX7_second 3 = .ok (.invokevirtual 139, 3) := by decide +kernel
theorem dX7_second_6 : decode cX7_second 6 = .ok (.aload_n 0, 1) := by decide +kernel
theorem dX7_second_7 : decode cX7_second 7 = .ok (.getfield 13, 3) := by decide +kernel
theorem dX7_second_10 : decode cX7_second 10 = .ok (.bipush 7, 2) := by decide +kernel
theorem dX7_second_12 : decode cX7_second 12 = .ok (.iconst 1, 1) := by decide +kernel
theorem dX7_second_13 : decode cX7_second 13 = .ok (.iastore, 1) := by decide +kernel
theorem dX7_second_14 : decode cX7_second 14 = .ok (.aload_n 0, 1) := by decide +kernel
theorem dX7_second_15 : decode cX7_second 15 = .ok (.invokevirtual 228, 3) := by decide +kernel
theorem dX7_second_18 : decode cX7_second 18 = .ok (.istore_n 1, 1) := by decide +kernel
theorem dX7_second_19 : decode cX7_second 19 = .ok (.aload_n 0, 1) := by decide +kernel
theorem dX7_second_20 : decode cX7_second 20 = .ok (.getfield 13, 3) := by decide +kernel
theorem dX7_second_23 : decode cX7_second 23 = .ok (.bipush 7, 2) := by decide +kernel
theorem dX7_second_25 : decode cX7_second 25 = .ok (.iconst 2, 1) := by decide +kernel
theorem dX7_second_26 : decode cX7_second 26 = .ok (.iastore, 1) := by decide +kernel
theorem dX7_second_27 : decode cX7_second 27 = .ok (.iload_n 1, 1) := by decide +kernel
theorem dX7_second_28 : decode cX7_second 28 = .ok (.aload_n 0, 1) := by decide +kernel
theorem dX7_second_29 : decode cX7_second 29 = .ok (.invokevirtual 228, 3) := by decide +kernel
theorem dX7_second_32 : decode cX7_second 32 = .ok (.isub, 1) := by decide +kernel
theorem dX7_second_33 : decode cX7_second 33 = .ok (.istore_n 1, 1) := by decide +kernel
theorem dX7_second_34 : decode cX7_second 34 = .ok (.aload_n 0, 1) := by decide +kernel
theorem dX7_second_35 : decode cX7_second 35 = .ok (.iconst 1, 1) := by decide +kernel
theorem dX7_second_36 : decode cX7_second 36 = .ok (.iconst 0, 1) := by decide +kernel
theorem dX7_second_37 : decode cX7_second 37 = .ok (.invokevirtual 139, 3) := by decide +kernel
theorem dX7_second_40 : decode cX7_second 40 = .ok (.iload_n 1, 1) := by decide +kernel
theorem dX7_second_41 : decode cX7_second 41 = .ok (.ireturn, 1) := by decide +kernel
theorem dX7_hours_0 : decode cX7_hours 0 = .ok (.sipush 180, 3) := by decide +kernel
theorem dX7_hours_3 : decode cX7_hours 3 = .ok (.istore_n 1, 1) := by decide +kernel
theorem dX7_hours_4 : decode cX7_hours 4 = .ok (.iconst 0, 1) := by decide +kernel
theorem dX7_hours_5 : decode cX7_hours 5 = .ok (.istore_n 2, 1) := by decide +kernel
theorem dX7_hours_6 : decode cX7_hours 6 = .ok (.iconst 0, 1) := by decide +kernel
theorem dX7_hours_7 : decode cX7_hours 7 = .ok (.istore_n 3, 1) := by decide +kernel
theorem dX7_hours_8 : decode cX7_hours 8 = .ok (.iload_n 3, 1) := by decide +kernel
theorem dX7_hours_9 : decode cX7_hours 9 = .ok (.aload_n 0, 1) := by decide +kernel
theorem dX7_hours_10 : decode cX7_hours 10 = .ok (.getfield 77, 3) := by decide +kernel
theorem dX7_hours_13 : decode cX7_hours 13 = .ok (.if_icmp .ge 51, 3) := by decide +kernel
theorem dX7_hours_16 : decode cX7_hours 16 = .ok (.aload_n 0, 1) := by decide +kernel
theorem dX7_hours_17 : decode cX7_hours 17 = .ok (.getfield 22, 3) := by decide +kernel
theorem dX7_hours_20 : decode cX7_hours 20 = .ok (.iload_n 3, 1) := by decide +kernel
theorem dX7_hours_21 : decode cX7_hours 21 = .ok (.iaload, 1) := by decide +kernel
theorem dX7_hours_22 : decode cX7_hours 22 = .ok (.iload_n 1, 1) := by decide +kernel
theorem dX7_hours_23 : decode cX7_hours 23 = .ok (.if_icmp .ge 12, 3) := by decide +kernel
theorem dX7_hours_26 : decode cX7_hours 26 = .ok (.aload_n 0, 1) := by decide +kernel
theorem dX7_hours_27 : decode cX7_hours 27 = .ok (.getfield 22, 3) := by decide +kernel
theorem dX7_hours_30 : decode cX7_hours 30 = .ok (.iload_n 3, 1) := by decide +kernel
theorem dX7_hours_31 : decode cX7_hours 31 = .ok (.iaload, 1) := by decide +kernel
theorem dX7_hours_32 : decode cX7_hours 32 = .ok (.goto 4, 3) := by decide +kernel
theorem dX7_hours_35 : decode cX7_hours 35 = .ok (.iload_n 1, 1) := by decide +kernel
theorem dX7_hours_36 : decode cX7_hours 36 = .ok (.istore_n 1, 1) := by decide +kernel
theorem dX7_hours_37 : decode cX7_hours 37 = .ok (.aload_n 0, 1) := by decide +kernel
theorem dX7_hours_38 : decode cX7_hours 38 = .ok (.getfield 22, 3) := by decide +kernel
theorem dX7_hours_41 : decode cX7_hours 41 = .ok (.iload_n 3, 1) := by decide +kernel
theorem dX7_hours_42 : decode cX7_hours 42 = .ok (.iaload, 1) := by decide +kernel
theorem dX7_hours_43 : decode cX7_hours 43 = .ok (.iload_n 2, 1) := by decide +kernel
theorem dX7_hours_44 : decode cX7_hours 44 = .ok (.if_icmp .le 12, 3) := by decide +kernel
theorem dX7_hours_47 : decode cX7_hours 47 = .ok (.aload_n 0, 1) := by decide +kernel
theorem dX7_hours_48 : decode cX7_hours 48 = .ok (.getfield 22, 3) := by decide +kernel
theorem dX7_hours_51 : decode cX7_hours 51 = .ok (.iload_n 3, 1) := by decide +kernel
theorem dX7_hours_52 : decode cX7_hours 52 = .ok (.iaload, 1) := by decide +kernel
theorem dX7_hours_53 : decode cX7_hours 53 = .ok (.goto 4, 3) := by decide +kernel
theorem dX7_hours_56 : decode cX7_hours 56 = .ok (.iload_n 2, 1) := by decide +kernel
theorem dX7_hours_57 : decode cX7_hours 57 = .ok (.istore_n 2, 1) := by decide +kernel
theorem dX7_hours_58 : decode cX7_hours 58 = .ok (.iinc 3 1, 3) := by decide +kernel
theorem dX7_hours_61 : decode cX7_hours 61 = .ok (.goto (-53), 3) := by decide +kernel
theorem dX7_hours_64 : decode cX7_hours 64 = .ok (.aload_n 0, 1) := by decide +kernel
theorem dX7_hours_65 : decode cX7_hours 65 = .ok (.getfield 77, 3) := by decide +kernel
theorem dX7_hours_68 : decode cX7_hours 68 = .ok (.ifCond .ne 7, 3) := by decide +kernel
theorem dX7_hours_71 : decode cX7_hours 71 = .ok (.iconst 0, 1) := by decide +kernel
theorem dX7_hours_72 : decode cX7_hours 72 = .ok (.goto 24, 3) := by decide +kernel
theorem dX7_hours_75 : decode cX7_hours 75 = .ok (.iload_n 2, 1) := by decide +kernel
theorem dX7_hours_76 : decode cX7_hours 76 = .ok (.iload_n 1, 1) := by decide +kernel
theorem dX7_hours_77 : decode cX7_hours 77 = .ok (.isub, 1) := by decide +kernel
theorem dX7_hours_78 : decode cX7_hours 78 = .ok (.bipush 60, 2) := by decide +kernel
theorem dX7_hours_80 : decode cX7_hours 80 = .ok (.if_icmp .gt 7, 3) := by decide +kernel
theorem dX7_hours_83 : decode cX7_hours 83 = .ok (.iconst 1, 1) := by decide +kernel
theorem dX7_hours_84 : decode cX7_hours 84 = .ok (.goto 12, 3) := by decide +kernel
theorem dX7_hours_87 : decode cX7_hours 87 = .ok (.iload_n 2, 1) := by decide +kernel
theorem dX7_hours_88 : decode cX7_hours 88 = .ok (.iload_n 1, 1) := by decide +kernel
theorem dX7_hours_89 : decode cX7_hours 89 = .ok (.isub, 1) := by decide +kernel
theorem dX7_hours_90 : decode cX7_hours 90 = .ok (.bipush 59, 2) := by decide +kernel
theorem dX7_hours_92 : decode cX7_hours 92 = .ok (.iadd, 1) := by decide +kernel
theorem dX7_hours_93 : decode cX7_hours 93 = .ok (.bipush 60, 2) := by decide +kernel
theorem dX7_hours_95 : decode cX7_hours 95 = .ok (.idiv, 1) := by decide +kernel
theorem dX7_hours_96 : decode cX7_hours 96 = .ok (.ireturn, 1) := by decide +kernel
theorem dX7_urn_0 : decode cX7_urn 0 = .ok (.iload_n 1, 1) := by decide +kernel
theorem dX7_urn_1 : decode cX7_urn 1 = .ok (.iconst 0, 1) := by decide +kernel
theorem dX7_urn_2 : decode cX7_urn 2 = .ok (.bipush 99, 2) := by decide +kernel
theorem dX7_urn_4 : decode cX7_urn 4 = .ok (.invokestatic 81, 3) := by decide +kernel
theorem dX7_urn_7 : decode cX7_urn 7 = .ok (.istore_n 2, 1) := by decide +kernel
theorem dX7_urn_8 : decode cX7_urn 8 = .ok (.iload_n 2, 1) := by decide +kernel
theorem dX7_urn_9 : decode cX7_urn 9 = .ok (.ifCond .eq 9, 3) := by decide +kernel
theorem dX7_urn_12 : decode cX7_urn 12 = .ok (.aload_n 0, 1) := by decide +kernel
theorem dX7_urn_13 : decode cX7_urn 13 = .ok (.iload_n 2, 1) := by decide +kernel
theorem dX7_urn_14 : decode cX7_urn 14 = .ok (.invokevirtual 88, 3) := by decide +kernel
theorem dX7_urn_17 : decode cX7_urn 17 = .ok (.ireturn, 1) := by decide +kernel
theorem dX7_urn_18 : decode cX7_urn 18 = .ok (.aload_n 0, 1) := by decide +kernel
theorem dX7_urn_19 : decode cX7_urn 19 = .ok (.iconst 1, 1) := by decide +kernel
theorem dX7_urn_20 : decode cX7_urn 20 = .ok (.iconst 1, 1) := by decide +kernel
theorem dX7_urn_21 : decode cX7_urn 21 = .ok (.invokevirtual 139, 3) := by decide +kernel
theorem dX7_urn_24 : decode cX7_urn 24 = .ok (.aload_n 0, 1) := by decide +kernel
theorem dX7_urn_25 : decode cX7_urn 25 = .ok (.invokevirtual 228, 3) := by decide +kernel
theorem dX7_urn_28 : decode cX7_urn 28 = .ok (.istore_n 3, 1) := by decide +kernel
theorem dX7_urn_29 : decode cX7_urn 29 = .ok (.aload_n 0, 1) := by decide +kernel
theorem dX7_urn_30 : decode cX7_urn 30 = .ok (.iconst 1, 1) := by decide +kernel
theorem dX7_urn_31 : decode cX7_urn 31 = .ok (.iconst 0, 1) := by decide +kernel
theorem dX7_urn_32 : decode cX7_urn 32 = .ok (.invokevirtual 139, 3) := by decide +kernel
theorem dX7_urn_35 : decode cX7_urn 35 = .ok (.aload_n 0, 1) := by decide +kernel
theorem dX7_urn_36 : decode cX7_urn 36 = .ok (.invokevirtual 246, 3) := by decide +kernel
theorem dX7_urn_39 : decode cX7_urn 39 = .ok (.iload_n 1, 1) := by decide +kernel
theorem dX7_urn_40 : decode cX7_urn 40 = .ok (.imul, 1) := by decide +kernel
theorem dX7_urn_41 : decode cX7_urn 41 = .ok (.iload_n 3, 1) := by decide +kernel
theorem dX7_urn_42 : decode cX7_urn 42 = .ok (.if_icmp .ge 7, 3) := by decide +kernel
theorem dX7_urn_45 : decode cX7_urn 45 = .ok (.iconst 1, 1) := by decide +kernel
theorem dX7_urn_46 : decode cX7_urn 46 = .ok (.goto 4, 3) := by decide +kernel
theorem dX7_urn_49 : decode cX7_urn 49 = .ok (.iconst 0, 1) := by decide +kernel
theorem dX7_urn_50 : decode cX7_urn 50 = .ok (.ireturn, 1) := by decide +kernel
theorem dX7_sorts_0 : decode cX7_sorts 0 = .ok (.iconst 0, 1) := by decide +kernel
theorem dX7_sorts_1 : decode cX7_sorts 1 = .ok (.istore_n 1, 1) := by decide +kernel
theorem dX7_sorts_2 : decode cX7_sorts 2 = .ok (.iload_n 1, 1) := by decide +kernel
theorem dX7_sorts_3 : decode cX7_sorts 3 = .ok (.aload_n 0, 1) := by decide +kernel
theorem dX7_sorts_4 : decode cX7_sorts 4 = .ok (.getfield 77, 3) := by decide +kernel
theorem dX7_sorts_7 : decode cX7_sorts 7 = .ok (.if_icmp .ge 64, 3) := by decide +kernel
theorem dX7_sorts_10 : decode cX7_sorts 10 = .ok (.iload_n 1, 1) := by decide +kernel
theorem dX7_sorts_11 : decode cX7_sorts 11 = .ok (.istore_n 2, 1) := by decide +kernel
theorem dX7_sorts_12 : decode cX7_sorts 12 = .ok (.iload_n 2, 1) := by decide +kernel
theorem dX7_sorts_13 : decode cX7_sorts 13 = .ok (.ifCond .le 45, 3) := by decide +kernel
theorem dX7_sorts_16 : decode cX7_sorts 16 = .ok (.aload_n 0, 1) := by decide +kernel
theorem dX7_sorts_17 : decode cX7_sorts 17 = .ok (.getfield 22, 3) := by decide +kernel
theorem dX7_sorts_20 : decode cX7_sorts 20 = .ok (.aload_n 0, 1) := by decide +kernel
theorem dX7_sorts_21 : decode cX7_sorts 21 = .ok (.getfield 70, 3) := by decide +kernel
theorem dX7_sorts_24 : decode cX7_sorts 24 = .ok (.iload_n 2, 1) := by decide +kernel
theorem dX7_sorts_25 : decode cX7_sorts 25 = .ok (.iconst 1, 1) := by decide +kernel
theorem dX7_sorts_26 : decode cX7_sorts 26 = .ok (.isub, 1) := by decide +kernel
theorem dX7_sorts_27 : decode cX7_sorts 27 = .ok (.iaload, 1) := by decide +kernel
theorem dX7_sorts_28 : decode cX7_sorts 28 = .ok (.iaload, 1) := by decide +kernel
theorem dX7_sorts_29 : decode cX7_sorts 29 = .ok (.aload_n 0, 1) := by decide +kernel
theorem dX7_sorts_30 : decode cX7_sorts 30 = .ok (.getfield 22, 3) := by decide +kernel
theorem dX7_sorts_33 : decode cX7_sorts 33 = .ok (.iload_n 1, 1) := by decide +kernel
theorem dX7_sorts_34 : decode cX7_sorts 34 = .ok (.iaload, 1) := by decide +kernel
theorem dX7_sorts_35 : decode cX7_sorts 35 = .ok (.if_icmp .le 23, 3) := by decide +kernel
theorem dX7_sorts_38 : decode cX7_sorts 38 = .ok (.aload_n 0, 1) := by decide +kernel
theorem dX7_sorts_39 : decode cX7_sorts 39 = .ok (.getfield 70, 3) := by decide +kernel
theorem dX7_sorts_42 : decode cX7_sorts 42 = .ok (.iload_n 2, 1) := by decide +kernel
theorem dX7_sorts_43 : decode cX7_sorts 43 = .ok (.aload_n 0, 1) := by decide +kernel
theorem dX7_sorts_44 : decode cX7_sorts 44 = .ok (.getfield 70, 3) := by decide +kernel
theorem dX7_sorts_47 : decode cX7_sorts 47 = .ok (.iload_n 2, 1) := by decide +kernel
theorem dX7_sorts_48 : decode cX7_sorts 48 = .ok (.iconst 1, 1) := by decide +kernel
theorem dX7_sorts_49 : decode cX7_sorts 49 = .ok (.isub, 1) := by decide +kernel
theorem dX7_sorts_50 : decode cX7_sorts 50 = .ok (.iaload, 1) := by decide +kernel
theorem dX7_sorts_51 : decode cX7_sorts 51 = .ok (.iastore, 1) := by decide +kernel
theorem dX7_sorts_52 : decode cX7_sorts 52 = .ok (.iinc 2 (-1), 3) := by decide +kernel
theorem dX7_sorts_55 : decode cX7_sorts 55 = .ok (.goto (-43), 3) := by decide +kernel
theorem dX7_sorts_58 : decode cX7_sorts 58 = .ok (.aload_n 0, 1) := by decide +kernel
theorem dX7_sorts_59 : decode cX7_sorts 59 = .ok (.getfield 70, 3) := by decide +kernel
theorem dX7_sorts_62 : decode cX7_sorts 62 = .ok (.iload_n 2, 1) := by decide +kernel
theorem dX7_sorts_63 : decode cX7_sorts 63 = .ok (.iload_n 1, 1) := by decide +kernel
theorem dX7_sorts_64 : decode cX7_sorts 64 = .ok (.iastore, 1) := by decide +kernel
theorem dX7_sorts_65 : decode cX7_sorts 65 = .ok (.iinc 1 1, 3) := by decide +kernel
theorem dX7_sorts_68 : decode cX7_sorts 68 = .ok (.goto (-66), 3) := by decide +kernel
theorem dX7_sorts_71 : decode cX7_sorts 71 = .ok (.return_, 1) := by decide +kernel
theorem dX7_costOfRows_0 : decode cX7_costOfRows 0 = .ok (.iconst 0, 1) := by decide +kernel
theorem dX7_costOfRows_1 : decode cX7_costOfRows 1 = .ok (.istore_n 2, 1) := by decide +kernel
theorem dX7_costOfRows_2 : decode cX7_costOfRows 2 = .ok (.iconst 0, 1) := by decide +kernel
theorem dX7_costOfRows_3 : decode cX7_costOfRows 3 = .ok (.istore_n 3, 1) := by decide +kernel
theorem dX7_costOfRows_4 : decode cX7_costOfRows 4 = .ok (.iconst 0, 1) := by decide +kernel
theorem dX7_costOfRows_5 : decode cX7_costOfRows 5 = .ok (.istore 4, 2) := by decide +kernel
theorem dX7_costOfRows_7 : decode cX7_costOfRows 7 = .ok (.iconst 0, 1) := by decide +kernel
theorem dX7_costOfRows_8 : decode cX7_costOfRows 8 = .ok (.istore 5, 2) := by decide +kernel
theorem dX7_costOfRows_10 : decode cX7_costOfRows 10 = .ok (.iconst 0, 1) := by decide +kernel
theorem dX7_costOfRows_11 : decode cX7_costOfRows 11 = .ok (.istore 6, 2) := by decide +kernel
theorem dX7_costOfRows_13 : decode cX7_costOfRows 13 = .ok (.iload 6, 2) := by decide +kernel
theorem dX7_costOfRows_15 : decode cX7_costOfRows 15 = .ok (.aload_n 0, 1) := by decide +kernel
theorem dX7_costOfRows_16 : decode cX7_costOfRows 16 = .ok (.getfield 77, 3) := by decide +kernel
theorem dX7_costOfRows_19 : decode cX7_costOfRows 19 = .ok (.if_icmp .ge 158, 3) := by decide +kernel
theorem dX7_costOfRows_22 : decode cX7_costOfRows 22 = .ok (.iload 5, 2) := by decide +kernel
theorem dX7_costOfRows_24 : decode cX7_costOfRows 24 = .ok (.aload_n 0, 1) := by decide +kernel
theorem dX7_costOfRows_25 : decode cX7_costOfRows 25 = .ok (.getfield 25, 3) := by decide +kernel
theorem dX7_costOfRows_28 : decode cX7_costOfRows 28 = .ok (.aload_n 0, 1) := by decide +kernel
theorem dX7_costOfRows_29 : decode cX7_costOfRows 29 = .ok (.getfield 70, 3) := by decide +kernel
theorem dX7_costOfRows_32 : decode cX7_costOfRows 32 = .ok (.iload 6, 2) := by decide +kernel
theorem dX7_costOfRows_34 : decode cX7_costOfRows 34 = .ok (.iaload, 1) := by decide +kernel
theorem dX7_costOfRows_35 : decode cX7_costOfRows 35 = .ok (.iaload, 1) := by decide +kernel
theorem dX7_costOfRows_36 : decode cX7_costOfRows 36 = .ok (.iadd, 1) := by decide +kernel
theorem dX7_costOfRows_37 : decode cX7_costOfRows 37 = .ok (.istore 5, 2) := by decide +kernel
theorem dX7_costOfRows_39 : decode cX7_costOfRows 39 = .ok (.iload_n 1, 1) := by decide +kernel
theorem dX7_costOfRows_40 : decode cX7_costOfRows 40 = .ok (.iload 6, 2) := by decide +kernel
theorem dX7_costOfRows_42 : decode cX7_costOfRows 42 = .ok (.ishr, 1) := by decide +kernel
theorem dX7_costOfRows_43 : decode cX7_costOfRows 43 = .ok (.iconst 1, 1) := by decide +kernel
theorem dX7_costOfRows_44 : decode cX7_costOfRows 44 = .ok (.iand, 1) := by decide +kernel
theorem dX7_costOfRows_45 : decode cX7_costOfRows 45 = .ok (.ifCond .ne 6, 3) := by decide +kernel
theorem dX7_costOfRows_48 : decode cX7_costOfRows 48 = .ok (.goto 123, 3) := by decide +kernel
theorem dX7_costOfRows_51 : decode cX7_costOfRows 51 = .ok (.iload 5, 2) := by decide +kernel
theorem dX7_costOfRows_53 : decode cX7_costOfRows 53 = .ok (.aload_n 0, 1) := by decide +kernel
theorem dX7_costOfRows_54 : decode cX7_costOfRows 54 = .ok (.getfield 13, 3) := by decide +kernel
theorem dX7_costOfRows_57 : decode cX7_costOfRows 57 = .ok (.iconst 0, 1) := by decide +kernel
theorem dX7_costOfRows_58 : decode cX7_costOfRows 58 = .ok (.iaload, 1) := by decide +kernel
theorem dX7_costOfRows_59 : decode cX7_costOfRows 59 = .ok (.if_icmp .le 6, 3) := by decide +kernel
theorem dX7_costOfRows_62 : decode cX7_costOfRows 62 = .ok (.ldc 76, 2) := by decide +kernel
theorem dX7_costOfRows_64 : decode cX7_costOfRows 64 = .ok (.ireturn, 1) := by decide +kernel
theorem dX7_costOfRows_65 : decode cX7_costOfRows 65 = .ok (.aload_n 0, 1) := by decide +kernel
theorem dX7_costOfRows_66 : decode cX7_costOfRows 66 = .ok (.getfield 22, 3) := by decide +kernel
theorem dX7_costOfRows_69 : decode cX7_costOfRows 69 = .ok (.aload_n 0, 1) := by decide +kernel
theorem dX7_costOfRows_70 : decode cX7_costOfRows 70 = .ok (.getfield 70, 3) := by decide +kernel
theorem dX7_costOfRows_73 : decode cX7_costOfRows 73 = .ok (.iload 6, 2) := by decide +kernel
theorem dX7_costOfRows_75 : decode cX7_costOfRows 75 = .ok (.iaload, 1) := by decide +kernel
theorem dX7_costOfRows_76 : decode cX7_costOfRows 76 = .ok (.iaload, 1) := by decide +kernel
theorem dX7_costOfRows_77 : decode cX7_costOfRows 77 = .ok (.iload_n 3, 1) := by decide +kernel
theorem dX7_costOfRows_78 : decode cX7_costOfRows 78 = .ok (.if_icmp .le 18, 3) := by decide +kernel
theorem dX7_costOfRows_81 : decode cX7_costOfRows 81 = .ok (.aload_n 0, 1) := by decide +kernel
theorem dX7_costOfRows_82 : decode cX7_costOfRows 82 = .ok (.getfield 22, 3) := by decide +kernel
theorem dX7_costOfRows_85 : decode cX7_costOfRows 85 = .ok (.aload_n 0, 1) := by decide +kernel
theorem dX7_costOfRows_86 : decode cX7_costOfRows 86 = .ok (.getfield 70, 3) := by decide +kernel
theorem dX7_costOfRows_89 : decode cX7_costOfRows 89 = .ok (.iload 6, 2) := by decide +kernel
theorem dX7_costOfRows_91 : decode cX7_costOfRows 91 = .ok (.iaload, 1) := by decide +kernel
theorem dX7_costOfRows_92 : decode cX7_costOfRows 92 = .ok (.iaload, 1) := by decide +kernel
theorem dX7_costOfRows_93 : decode cX7_costOfRows 93 = .ok (.goto 4, 3) := by decide +kernel
theorem dX7_costOfRows_96 : decode cX7_costOfRows 96 = .ok (.iload_n 3, 1) := by decide +kernel
theorem dX7_costOfRows_97 : decode cX7_costOfRows 97 = .ok (.istore 7, 2) := by decide +kernel
theorem dX7_costOfRows_99 : decode cX7_costOfRows 99 = .ok (.iload 7, 2) := by decide +kernel
theorem dX7_costOfRows_101 : decode cX7_costOfRows 101 = .ok (.aload_n 0, 1) := by decide +kernel
theorem dX7_costOfRows_102 : decode cX7_costOfRows 102 = .ok (.getfield 13, 3) := by decide +kernel
theorem dX7_costOfRows_105 : decode cX7_costOfRows 105 = .ok (.iconst 1, 1) := by decide +kernel
theorem dX7_costOfRows_106 : decode cX7_costOfRows 106 = .ok (.iaload, 1) := by decide +kernel
theorem dX7_costOfRows_107 : decode cX7_costOfRows 107 = .ok (.iadd, 1) := by decide +kernel
theorem dX7_costOfRows_108 : decode cX7_costOfRows 108 = .ok (.aload_n 0, 1) := by decide +kernel
theorem dX7_costOfRows_109 : decode cX7_costOfRows 109 = .ok (.iload 5, 2) := by decide +kernel
theorem dX7_costOfRows_111 : decode cX7_costOfRows 111 = .ok (.bipush 10, 2) := by decide +kernel
theorem dX7_costOfRows_113 : decode cX7_costOfRows 113 = .ok (.invokevirtual 178, 3) := by decide +kernel
theorem dX7_costOfRows_116 : decode cX7_costOfRows 116 = .ok (.iadd, 1) := by decide +kernel
theorem dX7_costOfRows_117 : decode cX7_costOfRows 117 = .ok (.istore_n 3, 1) := by decide +kernel
theorem dX7_costOfRows_118 : decode cX7_costOfRows 118 = .ok (.iinc 2 3, 3) := by decide +kernel
theorem dX7_costOfRows_121 : decode cX7_costOfRows 121 = .ok (.iload 4, 2) := by decide +kernel
theorem dX7_costOfRows_123 : decode cX7_costOfRows 123 = .ok (.istore 8, 2) := by decide +kernel
theorem dX7_costOfRows_125 : decode cX7_costOfRows 125 = .ok (.iload 8, 2) := by decide +kernel
theorem dX7_costOfRows_127 : decode cX7_costOfRows 127 = .ok (.iload 6, 2) := by decide +kernel
theorem dX7_costOfRows_129 : decode cX7_costOfRows 129 = .ok (.if_icmp .gt 33, 3) := by decide +kernel
theorem dX7_costOfRows_132 : decode cX7_costOfRows 132 = .ok (.iload_n 2, 1) := by decide +kernel
theorem dX7_costOfRows_133 : decode cX7_costOfRows 133 = .ok (.iload_n 3, 1) := by decide +kernel
theorem dX7_costOfRows_134 : decode cX7_costOfRows 134 = .ok (.aload_n 0, 1) := by decide +kernel
theorem dX7_costOfRows_135 : decode cX7_costOfRows 135 = .ok (.getfield 22, 3) := by decide +kernel
theorem dX7_costOfRows_138 : decode cX7_costOfRows 138 = .ok (.aload_n 0, 1) := by decide +kernel
theorem dX7_costOfRows_139 : decode cX7_costOfRows 139 = .ok (.getfield 70, 3) := by decide +kernel
theorem dX7_costOfRows_142 : decode cX7_costOfRows 142 = .ok (.iload 8, 2) := by decide +kernel
theorem dX7_costOfRows_144 : decode cX7_costOfRows 144 = .ok (.iaload, 1) := by decide +kernel
theorem dX7_costOfRows_145 : decode cX7_costOfRows 145 = .ok (.iaload, 1) := by decide +kernel
theorem dX7_costOfRows_146 : decode cX7_costOfRows 146 = .ok (.isub, 1) := by decide +kernel
theorem dX7_costOfRows_147 : decode cX7_costOfRows 147 = .ok (.aload_n 0, 1) := by decide +kernel
theorem dX7_costOfRows_148 : decode cX7_costOfRows 148 = .ok (.getfield 13, 3) := by decide +kernel
theorem dX7_costOfRows_151 : decode cX7_costOfRows 151 = .ok (.iconst 4, 1) := by decide +kernel
theorem dX7_costOfRows_152 : decode cX7_costOfRows 152 = .ok (.iaload, 1) := by decide +kernel
theorem dX7_costOfRows_153 : decode cX7_costOfRows 153 = .ok (.imul, 1) := by decide +kernel
theorem dX7_costOfRows_154 : decode cX7_costOfRows 154 = .ok (.iadd, 1) := by decide +kernel
theorem dX7_costOfRows_155 : decode cX7_costOfRows 155 = .ok (.istore_n 2, 1) := by decide +kernel
theorem dX7_costOfRows_156 : decode cX7_costOfRows 156 = .ok (.iinc 8 1, 3) := by decide +kernel
theorem dX7_costOfRows_159 : decode cX7_costOfRows 159 = .ok (.goto (-34), 3) := by decide +kernel
theorem dX7_costOfRows_162 : decode cX7_costOfRows 162 = .ok (.iload 6, 2) := by decide +kernel
theorem dX7_costOfRows_164 : decode cX7_costOfRows 164 = .ok (.iconst 1, 1) := by decide +kernel
theorem dX7_costOfRows_165 : decode cX7_costOfRows 165 = .ok (.iadd, 1) := by decide +kernel
theorem dX7_costOfRows_166 : decode cX7_costOfRows 166 = .ok (.istore 4, 2) := by decide +kernel
theorem dX7_costOfRows_168 : decode cX7_costOfRows 168 = .ok (.iconst 0, 1) := by decide +kernel
theorem dX7_costOfRows_169 : decode cX7_costOfRows 169 = .ok (.istore 5, 2) := by decide +kernel
theorem dX7_costOfRows_171 : decode cX7_costOfRows 171 = .ok (.iinc 6 1, 3) := by decide +kernel
theorem dX7_costOfRows_174 : decode cX7_costOfRows 174 = .ok (.goto (-161), 3) := by decide +kernel
theorem dX7_costOfRows_177 : decode cX7_costOfRows 177 = .ok (.iload_n 2, 1) := by decide +kernel
theorem dX7_costOfRows_178 : decode cX7_costOfRows 178 = .ok (.ireturn, 1) := by decide +kernel
theorem dX7_least_0 : decode cX7_least 0 = .ok (.iload_n 1, 1) := by decide +kernel
theorem dX7_least_1 : decode cX7_least 1 = .ok (.iconst 0, 1) := by decide +kernel
theorem dX7_least_2 : decode cX7_least 2 = .ok (.iconst 1, 1) := by decide +kernel
theorem dX7_least_3 : decode cX7_least 3 = .ok (.invokestatic 99, 3) := by decide +kernel
theorem dX7_least_6 : decode cX7_least 6 = .ok (.ifCond .ne 10, 3) := by decide +kernel
theorem dX7_least_9 : decode cX7_least 9 = .ok (.aload_n 0, 1) := by decide +kernel
theorem dX7_least_10 : decode cX7_least 10 = .ok (.bipush (-2), 2) := by decide +kernel
theorem dX7_least_12 : decode cX7_least 12 = .ok (.invokevirtual 88, 3) := by decide +kernel
theorem dX7_least_15 : decode cX7_least 15 = .ok (.ireturn, 1) := by decide +kernel
theorem dX7_least_16 : decode cX7_least 16 = .ok (.iconst 0, 1) := by decide +kernel
theorem dX7_least_17 : decode cX7_least 17 = .ok (.istore_n 2, 1) := by decide +kernel
theorem dX7_least_18 : decode cX7_least 18 = .ok (.iload_n 2, 1) := by decide +kernel
theorem dX7_least_19 : decode cX7_least 19 = .ok (.aload_n 0, 1) := by decide +kernel
theorem dX7_least_20 : decode cX7_least 20 = .ok (.getfield 77, 3) := by decide +kernel
theorem dX7_least_23 : decode cX7_least 23 = .ok (.if_icmp .ge 31, 3) := by decide +kernel
theorem dX7_least_26 : decode cX7_least 26 = .ok (.aload_n 0, 1) := by decide +kernel
theorem dX7_least_27 : decode cX7_least 27 = .ok (.getfield 25, 3) := by decide +kernel
theorem dX7_least_30 : decode cX7_least 30 = .ok (.iload_n 2, 1) := by decide +kernel
theorem dX7_least_31 : decode cX7_least 31 = .ok (.iaload, 1) := by decide +kernel
theorem dX7_least_32 : decode cX7_least 32 = .ok (.aload_n 0, 1) := by decide +kernel
theorem dX7_least_33 : decode cX7_least 33 = .ok (.getfield 13, 3) := by decide +kernel
theorem dX7_least_36 : decode cX7_least 36 = .ok (.iconst 0, 1) := by decide +kernel
theorem dX7_least_37 : decode cX7_least 37 = .ok (.iaload, 1) := by decide +kernel
theorem dX7_least_38 : decode cX7_least 38 = .ok (.if_icmp .le 10, 3) := by decide +kernel
theorem dX7_least_41 : decode cX7_least 41 = .ok (.aload_n 0, 1) := by decide +kernel
theorem dX7_least_42 : decode cX7_least 42 = .ok (.bipush (-3), 2) := by decide +kernel
theorem dX7_least_44 : decode cX7_least 44 = .ok (.invokevirtual 88, 3) := by decide +kernel
theorem dX7_least_47 : decode cX7_least 47 = .ok (.ireturn, 1) := by decide +kernel
theorem dX7_least_48 : decode cX7_least 48 = .ok (.iinc 2 1, 3) := by decide +kernel
theorem dX7_least_51 : decode cX7_least 51 = .ok (.goto (-33), 3) := by decide +kernel
theorem dX7_least_54 : decode cX7_least 54 = .ok (.aload_n 0, 1) := by decide +kernel
theorem dX7_least_55 : decode cX7_least 55 = .ok (.getfield 77, 3) := by decide +kernel
theorem dX7_least_58 : decode cX7_least 58 = .ok (.ifCond .ne 5, 3) := by decide +kernel
theorem dX7_least_61 : decode cX7_least 61 = .ok (.iconst 0, 1) := by decide +kernel
theorem dX7_least_62 : decode cX7_least 62 = .ok (.ireturn, 1) := by decide +kernel
theorem dX7_least_63 : decode cX7_least 63 = .ok (.aload_n 0, 1) := by decide +kernel
theorem dX7_least_64 : decode cX7_least 64 = .ok (.invokevirtual 249, 3) := by decide +kernel
theorem dX7_least_67 : decode cX7_least 67 = .ok (.iconst 0, 1) := by decide +kernel
theorem dX7_least_68 : decode cX7_least 68 = .ok (.istore_n 2, 1) := by decide +kernel
theorem dX7_least_69 : decode cX7_least 69 = .ok (.ldc 76, 2) := by decide +kernel
theorem dX7_least_71 : decode cX7_least 71 = .ok (.istore_n 3, 1) := by decide +kernel
theorem dX7_least_72 : decode cX7_least 72 = .ok (.iconst 1, 1) := by decide +kernel
theorem dX7_least_73 : decode cX7_least 73 = .ok (.aload_n 0, 1) := by decide +kernel
theorem dX7_least_74 : decode cX7_least 74 = .ok (.getfield 77, 3) := by decide +kernel
theorem dX7_least_77 : decode cX7_least 77 = .ok (.iconst 1, 1) := by decide +kernel
theorem dX7_least_78 : decode cX7_least 78 = .ok (.isub, 1) := by decide +kernel
theorem dX7_least_79 : decode cX7_least 79 = .ok (.ishl, 1) := by decide +kernel
theorem dX7_least_80 : decode cX7_least 80 = .ok (.istore 4, 2) := by decide +kernel
theorem dX7_least_82 : decode cX7_least 82 = .ok (.iload 4, 2) := by decide +kernel
theorem dX7_least_84 : decode cX7_least 84 = .ok (.iconst 1, 1) := by decide +kernel
theorem dX7_least_85 : decode cX7_least 85 = .ok (.aload_n 0, 1) := by decide +kernel
theorem dX7_least_86 : decode cX7_least 86 = .ok (.getfield 77, 3) := by decide +kernel
theorem dX7_least_89 : decode cX7_least 89 = .ok (.ishl, 1) := by decide +kernel
theorem dX7_least_90 : decode cX7_least 90 = .ok (.if_icmp .ge 32, 3) := by decide +kernel
theorem dX7_least_93 : decode cX7_least 93 = .ok (.aload_n 0, 1) := by decide +kernel
theorem dX7_least_94 : decode cX7_least 94 = .ok (.iload 4, 2) := by decide +kernel
theorem dX7_least_96 : decode cX7_least 96 = .ok (.invokevirtual 252, 3) := by decide +kernel
theorem dX7_least_99 : decode cX7_least 99 = .ok (.istore 5, 2) := by decide +kernel
theorem dX7_least_101 : decode cX7_least 101 = .ok (.iload 5, 2) := by decide +kernel
theorem dX7_least_103 : decode cX7_least 103 = .ok (.iload_n 3, 1) := by decide +kernel
theorem dX7_least_104 : decode cX7_least 104 = .ok (.if_icmp .lt 6, 3) := by decide +kernel
theorem dX7_least_107 : decode cX7_least 107 = .ok (.goto 9, 3) := by decide +kernel
theorem dX7_least_110 : decode cX7_least 110 = .ok (.iload 4, 2) := by decide +kernel
theorem dX7_least_112 : decode cX7_least 112 = .ok (.istore_n 2, 1) := by decide +kernel
theorem dX7_least_113 : decode cX7_least 113 = .ok (.iload 5, 2) := by decide +kernel
theorem dX7_least_115 : decode cX7_least 115 = .ok (.istore_n 3, 1) := by decide +kernel
theorem dX7_least_116 : decode cX7_least 116 = .ok (.iinc 4 1, 3) := by decide +kernel
theorem dX7_least_119 : decode cX7_least 119 = .ok (.goto (-37), 3) := by decide +kernel
theorem dX7_least_122 : decode cX7_least 122 = .ok (.iload_n 1, 1) := by decide +kernel
theorem dX7_least_123 : decode cX7_least 123 = .ok (.ifCond .ne 7, 3) := by decide +kernel
theorem dX7_least_126 : decode cX7_least 126 = .ok (.iload_n 3, 1) := by decide +kernel
theorem dX7_least_127 : decode cX7_least 127 = .ok (.goto 4, 3) := by decide +kernel
theorem dX7_least_130 : decode cX7_least 130 = .ok (.iload_n 2, 1) := by decide +kernel
theorem dX7_least_131 : decode cX7_least 131 = .ok (.ireturn, 1) := by decide +kernel
theorem dX7_ferryBy_0 : decode cX7_ferryBy 0 = .ok (.aload_n 0, 1) := by decide +kernel
theorem dX7_ferryBy_1 : decode cX7_ferryBy 1 = .ok (.invokevirtual 249, 3) := by decide +kernel
theorem dX7_ferryBy_4 : decode cX7_ferryBy 4 = .ok (.iconst 0, 1) := by decide +kernel
theorem dX7_ferryBy_5 : decode cX7_ferryBy 5 = .ok (.istore_n 3, 1) := by decide +kernel
theorem dX7_ferryBy_6 : decode cX7_ferryBy 6 = .ok (.iconst 0, 1) := by decide +kernel
theorem dX7_ferryBy_7 : decode cX7_ferryBy 7 = .ok (.istore 4, 2) := by decide +kernel
theorem dX7_ferryBy_9 : decode cX7_ferryBy 9 = .ok (.iload 4, 2) := by decide +kernel
theorem dX7_ferryBy_11 : decode cX7_ferryBy 11 = .ok (.aload_n 0, 1) := by decide +kernel
theorem dX7_ferryBy_12 : decode cX7_ferryBy 12 = .ok (.getfield 77, 3) := by decide +kernel
theorem dX7_ferryBy_15 : decode cX7_ferryBy 15 = .ok (.if_icmp .ge 83, 3) := by decide +kernel
theorem dX7_ferryBy_18 : decode cX7_ferryBy 18 = .ok (.iload 4, 2) := by decide +kernel
theorem dX7_ferryBy_20 : decode cX7_ferryBy 20 = .ok (.iload_n 1, 1) := by decide +kernel
theorem dX7_ferryBy_21 : decode cX7_ferryBy 21 = .ok (.idiv, 1) := by decide +kernel
theorem dX7_ferryBy_22 : decode cX7_ferryBy 22 = .ok (.iload_n 1, 1) := by decide +kernel
theorem dX7_ferryBy_23 : decode cX7_ferryBy 23 = .ok (.imul, 1) := by decide +kernel
theorem dX7_ferryBy_24 : decode cX7_ferryBy 24 = .ok (.iload_n 1, 1) := by decide +kernel
theorem dX7_ferryBy_25 : decode cX7_ferryBy 25 = .ok (.iadd, 1) := by decide +kernel
theorem dX7_ferryBy_26 : decode cX7_ferryBy 26 = .ok (.iconst 1, 1) := by decide +kernel
theorem dX7_ferryBy_27 : decode cX7_ferryBy 27 = .ok (.isub, 1) := by decide +kernel
theorem dX7_ferryBy_28 : decode cX7_ferryBy 28 = .ok (.istore 5, 2) := by decide +kernel
theorem dX7_ferryBy_30 : decode cX7_ferryBy 30 = .ok (.iload 5, 2) := by decide +kernel
theorem dX7_ferryBy_32 : decode cX7_ferryBy 32 = .ok (.aload_n 0, 1) := by decide +kernel
theorem dX7_ferryBy_33 : decode cX7_ferryBy 33 = .ok (.getfield 77, 3) := by decide +kernel
theorem dX7_ferryBy_36 : decode cX7_ferryBy 36 = .ok (.if_icmp .ge 18, 3) := by decide +kernel
theorem dX7_ferryBy_39 : decode cX7_ferryBy 39 = .ok (.aload_n 0, 1) := by decide +kernel
theorem dX7_ferryBy_40 : decode cX7_ferryBy 40 = .ok (.getfield 22, 3) := by decide +kernel
theorem dX7_ferryBy_43 : decode cX7_ferryBy 43 = .ok (.aload_n 0, 1) := by decide +kernel
theorem dX7_ferryBy_44 : decode cX7_ferryBy 44 = .ok (.getfield 70, 3) := by decide +kernel
theorem dX7_ferryBy_47 : decode cX7_ferryBy 47 = .ok (.iload 5, 2) := by decide +kernel
theorem dX7_ferryBy_49 : decode cX7_ferryBy 49 = .ok (.iaload, 1) := by decide +kernel
theorem dX7_ferryBy_50 : decode cX7_ferryBy 50 = .ok (.iaload, 1) := by decide +kernel
theorem dX7_ferryBy_51 : decode cX7_ferryBy 51 = .ok (.goto 21, 3) := by decide +kernel
theorem dX7_ferryBy_54 : decode cX7_ferryBy 54 = .ok (.aload_n 0, 1) := by decide +kernel
theorem dX7_ferryBy_55 : decode cX7_ferryBy 55 = .ok (.getfield 22, 3) := by decide +kernel
theorem dX7_ferryBy_58 : decode cX7_ferryBy 58 = .ok (.aload_n 0, 1) := by decide +kernel
theorem dX7_ferryBy_59 : decode cX7_ferryBy 59 = .ok (.getfield 70, 3) := by decide +kernel
theorem dX7_ferryBy_62 : decode cX7_ferryBy 62 = .ok (.aload_n 0, 1) := by decide +kernel
theorem dX7_ferryBy_63 : decode cX7_ferryBy 63 = .ok (.getfield 77, 3) := by decide +kernel
theorem dX7_ferryBy_66 : decode cX7_ferryBy 66 = .ok (.iconst 1, 1) := by decide +kernel
theorem dX7_ferryBy_67 : decode cX7_ferryBy 67 = .ok (.isub, 1) := by decide +kernel
theorem dX7_ferryBy_68 : decode cX7_ferryBy 68 = .ok (.iaload, 1) := by decide +kernel
theorem dX7_ferryBy_69 : decode cX7_ferryBy 69 = .ok (.iaload, 1) := by decide +kernel
theorem dX7_ferryBy_70 : decode cX7_ferryBy 70 = .ok (.iload_n 2, 1) := by decide +kernel
theorem dX7_ferryBy_71 : decode cX7_ferryBy 71 = .ok (.iadd, 1) := by decide +kernel
theorem dX7_ferryBy_72 : decode cX7_ferryBy 72 = .ok (.istore 6, 2) := by decide +kernel
theorem dX7_ferryBy_74 : decode cX7_ferryBy 74 = .ok (.iload_n 3, 1) := by decide +kernel
theorem dX7_ferryBy_75 : decode cX7_ferryBy 75 = .ok (.iload 6, 2) := by decide +kernel
theorem dX7_ferryBy_77 : decode cX7_ferryBy 77 = .ok (.aload_n 0, 1) := by decide +kernel
theorem dX7_ferryBy_78 : decode cX7_ferryBy 78 = .ok (.getfield 22, 3) := by decide +kernel
theorem dX7_ferryBy_81 : decode cX7_ferryBy 81 = .ok (.aload_n 0, 1) := by decide +kernel
theorem dX7_ferryBy_82 : decode cX7_ferryBy 82 = .ok (.getfield 70, 3) := by decide +kernel
theorem dX7_ferryBy_85 : decode cX7_ferryBy 85 = .ok (.iload 4, 2) := by decide +kernel
theorem dX7_ferryBy_87 : decode cX7_ferryBy 87 = .ok (.iaload, 1) := by decide +kernel
theorem dX7_ferryBy_88 : decode cX7_ferryBy 88 = .ok (.iaload, 1) := by decide +kernel
theorem dX7_ferryBy_89 : decode cX7_ferryBy 89 = .ok (.isub, 1) := by decide +kernel
theorem dX7_ferryBy_90 : decode cX7_ferryBy 90 = .ok (.iadd, 1) := by decide +kernel
theorem dX7_ferryBy_91 : decode cX7_ferryBy 91 = .ok (.istore_n 3, 1) := by decide +kernel
theorem dX7_ferryBy_92 : decode cX7_ferryBy 92 = .ok (.iinc 4 1, 3) := by decide +kernel
theorem dX7_ferryBy_95 : decode cX7_ferryBy 95 = .ok (.goto (-86), 3) := by decide +kernel
theorem dX7_ferryBy_98 : decode cX7_ferryBy 98 = .ok (.iload_n 3, 1) := by decide +kernel
theorem dX7_ferryBy_99 : decode cX7_ferryBy 99 = .ok (.ireturn, 1) := by decide +kernel
theorem dX7_timesBy_0 : decode cX7_timesBy 0 = .ok (.iconst 0, 1) := by decide +kernel
theorem dX7_timesBy_1 : decode cX7_timesBy 1 = .ok (.istore_n 2, 1) := by decide +kernel
theorem dX7_timesBy_2 : decode cX7_timesBy 2 = .ok (.iconst 0, 1) := by decide +kernel
theorem dX7_timesBy_3 : decode cX7_timesBy 3 = .ok (.istore_n 3, 1) := by decide +kernel
theorem dX7_timesBy_4 : decode cX7_timesBy 4 = .ok (.iload_n 3, 1) := by decide +kernel
theorem dX7_timesBy_5 : decode cX7_timesBy 5 = .ok (.aload_n 0, 1) := by decide +kernel
theorem dX7_timesBy_6 : decode cX7_timesBy 6 = .ok (.getfield 77, 3) := by decide +kernel
theorem dX7_timesBy_9 : decode cX7_timesBy 9 = .ok (.if_icmp .ge 24, 3) := by decide +kernel
theorem dX7_timesBy_12 : decode cX7_timesBy 12 = .ok (.iload_n 2, 1) := by decide +kernel
theorem dX7_timesBy_13 : decode cX7_timesBy 13 = .ok (.iload_n 1, 1) := by decide +kernel
theorem dX7_timesBy_14 : decode cX7_timesBy 14 = .ok (.aload_n 0, 1) := by decide +kernel
theorem dX7_timesBy_15 : decode cX7_timesBy 15 = .ok (.getfield 22, 3) := by decide +kernel
theorem dX7_timesBy_18 : decode cX7_timesBy 18 = .ok (.iload_n 3, 1) := by decide +kernel
theorem dX7_timesBy_19 : decode cX7_timesBy 19 = .ok (.iaload, 1) := by decide +kernel
theorem dX7_timesBy_20 : decode cX7_timesBy 20 = .ok (.iload_n 1, 1) := by decide +kernel
theorem dX7_timesBy_21 : decode cX7_timesBy 21 = .ok (.irem, 1) := by decide +kernel
theorem dX7_timesBy_22 : decode cX7_timesBy 22 = .ok (.isub, 1) := by decide +kernel
theorem dX7_timesBy_23 : decode cX7_timesBy 23 = .ok (.iload_n 1, 1) := by decide +kernel
theorem dX7_timesBy_24 : decode cX7_timesBy 24 = .ok (.irem, 1) := by decide +kernel
theorem dX7_timesBy_25 : decode cX7_timesBy 25 = .ok (.iadd, 1) := by decide +kernel
theorem dX7_timesBy_26 : decode cX7_timesBy 26 = .ok (.istore_n 2, 1) := by decide +kernel
theorem dX7_timesBy_27 : decode cX7_timesBy 27 = .ok (.iinc 3 1, 3) := by decide +kernel
theorem dX7_timesBy_30 : decode cX7_timesBy 30 = .ok (.goto (-26), 3) := by decide +kernel
theorem dX7_timesBy_33 : decode cX7_timesBy 33 = .ok (.iload_n 2, 1) := by decide +kernel
theorem dX7_timesBy_34 : decode cX7_timesBy 34 = .ok (.ireturn, 1) := by decide +kernel
theorem dX7_ferry_0 : decode cX7_ferry 0 = .ok (.iload_n 1, 1) := by decide +kernel
theorem dX7_ferry_1 : decode cX7_ferry 1 = .ok (.iconst 1, 1) := by decide +kernel
theorem dX7_ferry_2 : decode cX7_ferry 2 = .ok (.if_icmp .lt 7, 3) := by decide +kernel
theorem dX7_ferry_5 : decode cX7_ferry 5 = .ok (.iload_n 2, 1) := by decide +kernel
theorem dX7_ferry_6 : decode cX7_ferry 6 = .ok (.ifCond .ge 8, 3) := by decide +kernel
theorem dX7_ferry_9 : decode cX7_ferry 9 = .ok (.bipush (-4), 2) := by decide +kernel
theorem dX7_ferry_11 : decode cX7_ferry 11 = .ok (.goto 21, 3) := by decide +kernel
theorem dX7_ferry_14 : decode cX7_ferry 14 = .ok (.iload_n 1, 1) := by decide +kernel
theorem dX7_ferry_15 : decode cX7_ferry 15 = .ok (.bipush 8, 2) := by decide +kernel
theorem dX7_ferry_17 : decode cX7_ferry 17 = .ok (.if_icmp .gt 9, 3) := by decide +kernel
theorem dX7_ferry_20 : decode cX7_ferry 20 = .ok (.iload_n 2, 1) := by decide +kernel
theorem dX7_ferry_21 : decode cX7_ferry 21 = .ok (.bipush 60, 2) := by decide +kernel
theorem dX7_ferry_23 : decode cX7_ferry 23 = .ok (.if_icmp .le 8, 3) := by decide +kernel
theorem dX7_ferry_26 : decode cX7_ferry 26 = .ok (.bipush (-6), 2) := by decide +kernel
theorem dX7_ferry_28 : decode cX7_ferry 28 = .ok (.goto 4, 3) := by decide +kernel
theorem dX7_ferry_31 : decode cX7_ferry 31 = .ok (.iconst 0, 1) := by decide +kernel
theorem dX7_ferry_32 : decode cX7_ferry 32 = .ok (.istore_n 3, 1) := by decide +kernel
theorem dX7_ferry_33 : decode cX7_ferry 33 = .ok (.iload_n 3, 1) := by decide +kernel
theorem dX7_ferry_34 : decode cX7_ferry 34 = .ok (.ifCond .eq 11, 3) := by decide +kernel
theorem dX7_ferry_37 : decode cX7_ferry 37 = .ok (.aload_n 0, 1) := by decide +kernel
theorem dX7_ferry_38 : decode cX7_ferry 38 = .ok (.iload_n 3, 1) := by decide +kernel
theorem dX7_ferry_39 : decode cX7_ferry 39 = .ok (.invokevirtual 88, 3) := by decide +kernel
theorem dX7_ferry_42 : decode cX7_ferry 42 = .ok (.goto 9, 3) := by decide +kernel
theorem dX7_ferry_45 : decode cX7_ferry 45 = .ok (.aload_n 0, 1) := by decide +kernel
theorem dX7_ferry_46 : decode cX7_ferry 46 = .ok (.iload_n 1, 1) := by decide +kernel
theorem dX7_ferry_47 : decode cX7_ferry 47 = .ok (.iload_n 2, 1) := by decide +kernel
theorem dX7_ferry_48 : decode cX7_ferry 48 = .ok (.invokevirtual 255, 3) := by decide +kernel
theorem dX7_ferry_51 : decode cX7_ferry 51 = .ok (.ireturn, 1) := by decide +kernel
theorem dX7_times_0 : decode cX7_times 0 = .ok (.iload_n 1, 1) := by decide +kernel
theorem dX7_times_1 : decode cX7_times 1 = .ok (.iconst 1, 1) := by decide +kernel
theorem dX7_times_2 : decode cX7_times 2 = .ok (.bipush 60, 2) := by decide +kernel
theorem dX7_times_4 : decode cX7_times 4 = .ok (.invokestatic 81, 3) := by decide +kernel
theorem dX7_times_7 : decode cX7_times 7 = .ok (.istore_n 2, 1) := by decide +kernel
theorem dX7_times_8 : decode cX7_times 8 = .ok (.iload_n 2, 1) := by decide +kernel
theorem dX7_times_9 : decode cX7_times 9 = .ok (.ifCond .eq 11, 3) := by decide +kernel
theorem dX7_times_12 : decode cX7_times 12 = .ok (.aload_n 0, 1) := by decide +kernel
theorem dX7_times_13 : decode cX7_times 13 = .ok (.iload_n 2, 1) := by decide +kernel
theorem dX7_times_14 : decode cX7_times 14 = .ok (.invokevirtual 88, 3) := by decide +kernel
theorem dX7_times_17 : decode cX7_times 17 = .ok (.goto 8, 3) := by decide +kernel
theorem dX7_times_20 : decode cX7_times 20 = .ok (.aload_n 0, 1) := by decide +kernel
theorem dX7_times_21 : decode cX7_times 21 = .ok (.iload_n 1, 1) := by decide +kernel
theorem dX7_times_22 : decode cX7_times 22 = .ok (.invokevirtual 258, 3) := by decide +kernel
theorem dX7_times_25 : decode cX7_times 25 = .ok (.ireturn, 1) := by decide +kernel
theorem dX7_better_0 : decode cX7_better 0 = .ok (.iload_n 1, 1) := by decide +kernel
theorem dX7_better_1 : decode cX7_better 1 = .ok (.iconst 1, 1) := by decide +kernel
theorem dX7_better_2 : decode cX7_better 2 = .ok (.bipush 60, 2) := by decide +kernel
theorem dX7_better_4 : decode cX7_better 4 = .ok (.invokestatic 81, 3) := by decide +kernel
theorem dX7_better_7 : decode cX7_better 7 = .ok (.istore_n 2, 1) := by decide +kernel
theorem dX7_better_8 : decode cX7_better 8 = .ok (.iload_n 2, 1) := by decide +kernel
theorem dX7_better_9 : decode cX7_better 9 = .ok (.ifCond .eq 9, 3) := by decide +kernel
theorem dX7_better_12 : decode cX7_better 12 = .ok (.aload_n 0, 1) := by decide +kernel
theorem dX7_better_13 : decode cX7_better 13 = .ok (.iload_n 2, 1) := by decide +kernel
theorem dX7_better_14 : decode cX7_better 14 = .ok (.invokevirtual 88, 3) := by decide +kernel
theorem dX7_better_17 : decode cX7_better 17 = .ok (.ireturn, 1) := by decide +kernel
theorem dX7_better_18 : decode cX7_better 18 = .ok (.bipush (-9), 2) := by decide +kernel
theorem dX7_better_20 : decode cX7_better 20 = .ok (.istore_n 3, 1) := by decide +kernel
theorem dX7_better_21 : decode cX7_better 21 = .ok (.aload_n 0, 1) := by decide +kernel
theorem dX7_better_22 : decode cX7_better 22 = .ok (.iload_n 1, 1) := by decide +kernel
theorem dX7_better_23 : decode cX7_better 23 = .ok (.invokevirtual 258, 3) := by decide +kernel
theorem dX7_better_26 : decode cX7_better 26 = .ok (.istore 4, 2) := by decide +kernel
theorem dX7_better_28 : decode cX7_better 28 = .ok (.iconst 1, 1) := by decide +kernel
theorem dX7_better_29 : decode cX7_better 29 = .ok (.istore 5, 2) := by decide +kernel
theorem dX7_better_31 : decode cX7_better 31 = .ok (.iload 5, 2) := by decide +kernel
theorem dX7_better_33 : decode cX7_better 33 = .ok (.bipush 9, 2) := by decide +kernel
theorem dX7_better_35 : decode cX7_better 35 = .ok (.if_icmp .ge 35, 3) := by decide +kernel
theorem dX7_better_38 : decode cX7_better 38 = .ok (.aload_n 0, 1) := by decide +kernel
theorem dX7_better_39 : decode cX7_better 39 = .ok (.iload 5, 2) := by decide +kernel
theorem dX7_better_41 : decode cX7_better 41 = .ok (.iload_n 1, 1) := by decide +kernel
theorem dX7_better_42 : decode cX7_better 42 = .ok (.invokevirtual 255, 3) := by decide +kernel
theorem dX7_better_45 : decode cX7_better 45 = .ok (.istore 6, 2) := by decide +kernel
theorem dX7_better_47 : decode cX7_better 47 = .ok (.iload 6, 2) := by decide +kernel
theorem dX7_better_49 : decode cX7_better 49 = .ok (.iload 4, 2) := by decide +kernel
theorem dX7_better_51 : decode cX7_better 51 = .ok (.if_icmp .lt 6, 3) := by decide +kernel
theorem dX7_better_54 : decode cX7_better 54 = .ok (.goto 10, 3) := by decide +kernel
theorem dX7_better_57 : decode cX7_better 57 = .ok (.iload 5, 2) := by decide +kernel
theorem dX7_better_59 : decode cX7_better 59 = .ok (.istore_n 3, 1) := by decide +kernel
theorem dX7_better_60 : decode cX7_better 60 = .ok (.iload 6, 2) := by decide +kernel
theorem dX7_better_62 : decode cX7_better 62 = .ok (.istore 4, 2) := by decide +kernel
theorem dX7_better_64 : decode cX7_better 64 = .ok (.iinc 5 1, 3) := by decide +kernel
theorem dX7_better_67 : decode cX7_better 67 = .ok (.goto (-36), 3) := by decide +kernel
theorem dX7_better_70 : decode cX7_better 70 = .ok (.iload_n 3, 1) := by decide +kernel
theorem dX7_better_71 : decode cX7_better 71 = .ok (.ireturn, 1) := by decide +kernel
theorem dX7_follow_0 : decode cX7_follow 0 = .ok (.aload_n 0, 1) := by decide +kernel
theorem dX7_follow_1 : decode cX7_follow 1 = .ok (.iconst 1, 1) := by decide +kernel
theorem dX7_follow_2 : decode cX7_follow 2 = .ok (.iconst 1, 1) := by decide +kernel
theorem dX7_follow_3 : decode cX7_follow 3 = .ok (.invokevirtual 139, 3) := by decide +kernel
theorem dX7_follow_6 : decode cX7_follow 6 = .ok (.bipush (-9), 2) := by decide +kernel
theorem dX7_follow_8 : decode cX7_follow 8 = .ok (.istore_n 1, 1) := by decide +kernel
theorem dX7_follow_9 : decode cX7_follow 9 = .ok (.ldc 76, 2) := by decide +kernel
theorem dX7_follow_11 : decode cX7_follow 11 = .ok (.istore_n 2, 1) := by decide +kernel
theorem dX7_follow_12 : decode cX7_follow 12 = .ok (.iconst 0, 1) := by decide +kernel
theorem dX7_follow_13 : decode cX7_follow 13 = .ok (.istore_n 3, 1) := by decide +kernel
theorem dX7_follow_14 : decode cX7_follow 14 = .ok (.iload_n 3, 1) := by decide +kernel
theorem dX7_follow_15 : decode cX7_follow 15 = .ok (.aload_n 0, 1) := by decide +kernel
theorem dX7_follow_16 : decode cX7_follow 16 = .ok (.getfield 77, 3) := by decide +kernel
theorem dX7_follow_19 : decode cX7_follow 19 = .ok (.if_icmp .ge 87, 3) := by decide +kernel
theorem dX7_follow_22 : decode cX7_follow 22 = .ok (.aload_n 0, 1) := by decide +kernel
theorem dX7_follow_23 : decode cX7_follow 23 = .ok (.iconst 1, 1) := by decide +kernel
theorem dX7_follow_24 : decode cX7_follow 24 = .ok (.iconst 0, 1) := by decide +kernel
theorem dX7_follow_25 : decode cX7_follow 25 = .ok (.invokevirtual 139, 3) := by decide +kernel
theorem dX7_follow_28 : decode cX7_follow 28 = .ok (.aload_n 0, 1) := by decide +kernel
theorem dX7_follow_29 : decode cX7_follow 29 = .ok (.getfield 16, 3) := by decide +kernel
theorem dX7_follow_32 : decode cX7_follow 32 = .ok (.iload_n 3, 1) := by decide +kernel
theorem dX7_follow_33 : decode cX7_follow 33 = .ok (.iaload, 1) := by decide +kernel
theorem dX7_follow_34 : decode cX7_follow 34 = .ok (.istore 4, 2) := by decide +kernel
theorem dX7_follow_36 : decode cX7_follow 36 = .ok (.aload_n 0, 1) := by decide +kernel
theorem dX7_follow_37 : decode cX7_follow 37 = .ok (.getfield 19, 3) := by decide +kernel
theorem dX7_follow_40 : decode cX7_follow 40 = .ok (.iload_n 3, 1) := by decide +kernel
theorem dX7_follow_41 : decode cX7_follow 41 = .ok (.iaload, 1) := by decide +kernel
theorem dX7_follow_42 : decode cX7_follow 42 = .ok (.istore 5, 2) := by decide +kernel
theorem dX7_follow_44 : decode cX7_follow 44 = .ok (.iconst 0, 1) := by decide +kernel
theorem dX7_follow_45 : decode cX7_follow 45 = .ok (.istore 6, 2) := by decide +kernel
theorem dX7_follow_47 : decode cX7_follow 47 = .ok (.iload 6, 2) := by decide +kernel
theorem dX7_follow_49 : decode cX7_follow 49 = .ok (.aload_n 0, 1) := by decide +kernel
theorem dX7_follow_50 : decode cX7_follow 50 = .ok (.getfield 77, 3) := by decide +kernel
theorem dX7_follow_53 : decode cX7_follow 53 = .ok (.if_icmp .ge 27, 3) := by decide +kernel
theorem dX7_follow_56 : decode cX7_follow 56 = .ok (.aload_n 0, 1) := by decide +kernel
theorem dX7_follow_57 : decode cX7_follow 57 = .ok (.getfield 16, 3) := by decide +kernel
theorem dX7_follow_60 : decode cX7_follow 60 = .ok (.iload 6, 2) := by decide +kernel
theorem dX7_follow_62 : decode cX7_follow 62 = .ok (.iload 4, 2) := by decide +kernel
theorem dX7_follow_64 : decode cX7_follow 64 = .ok (.iastore, 1) := by decide +kernel
theorem dX7_follow_65 : decode cX7_follow 65 = .ok (.aload_n 0, 1) := by decide +kernel
theorem dX7_follow_66 : decode cX7_follow 66 = .ok (.getfield 19, 3) := by decide +kernel
theorem dX7_follow_69 : decode cX7_follow 69 = .ok (.iload 6, 2) := by decide +kernel
theorem dX7_follow_71 : decode cX7_follow 71 = .ok (.iload 5, 2) := by decide +kernel
theorem dX7_follow_73 : decode cX7_follow 73 = .ok (.iastore, 1) := by decide +kernel
theorem dX7_follow_74 : decode cX7_follow 74 = .ok (.iinc 6 1, 3) := by decide +kernel
theorem dX7_follow_77 : decode cX7_follow 77 = .ok (.goto (-30), 3) := by decide +kernel
theorem dX7_follow_80 : decode cX7_follow 80 = .ok (.aload_n 0, 1) := by decide +kernel
theorem dX7_follow_81 : decode cX7_follow 81 = .ok (.invokevirtual 228, 3) := by decide +kernel
theorem dX7_follow_84 : decode cX7_follow 84 = .ok (.istore 6, 2) := by decide +kernel
theorem dX7_follow_86 : decode cX7_follow 86 = .ok (.iload 6, 2) := by decide +kernel
theorem dX7_follow_88 : decode cX7_follow 88 = .ok (.iload_n 2, 1) := by decide +kernel
theorem dX7_follow_89 : decode cX7_follow 89 = .ok (.if_icmp .lt 6, 3) := by decide +kernel
theorem dX7_follow_92 : decode cX7_follow 92 = .ok (.goto 8, 3) := by decide +kernel
theorem dX7_follow_95 : decode cX7_follow 95 = .ok (.iload_n 3, 1) := by decide +kernel
theorem dX7_follow_96 : decode cX7_follow 96 = .ok (.istore_n 1, 1) := by decide +kernel
theorem dX7_follow_97 : decode cX7_follow 97 = .ok (.iload 6, 2) := by decide +kernel
theorem dX7_follow_99 : decode cX7_follow 99 = .ok (.istore_n 2, 1) := by decide +kernel
theorem dX7_follow_100 : decode cX7_follow 100 = .ok (.iinc 3 1, 3) := by decide +kernel
theorem dX7_follow_103 : decode cX7_follow 103 = .ok (.goto (-89), 3) := by decide +kernel
theorem dX7_follow_106 : decode cX7_follow 106 = .ok (.aload_n 0, 1) := by decide +kernel
theorem dX7_follow_107 : decode cX7_follow 107 = .ok (.iconst 1, 1) := by decide +kernel
theorem dX7_follow_108 : decode cX7_follow 108 = .ok (.iconst 0, 1) := by decide +kernel
theorem dX7_follow_109 : decode cX7_follow 109 = .ok (.invokevirtual 139, 3) := by decide +kernel
theorem dX7_follow_112 : decode cX7_follow 112 = .ok (.iload_n 1, 1) := by decide +kernel
theorem dX7_follow_113 : decode cX7_follow 113 = .ok (.ireturn, 1) := by decide +kernel
theorem dX7_row_0 : decode cX7_row 0 = .ok (.iload_n 1, 1) := by decide +kernel
theorem dX7_row_1 : decode cX7_row 1 = .ok (.iconst 0, 1) := by decide +kernel
theorem dX7_row_2 : decode cX7_row 2 = .ok (.bipush 99, 2) := by decide +kernel
theorem dX7_row_4 : decode cX7_row 4 = .ok (.invokestatic 81, 3) := by decide +kernel
theorem dX7_row_7 : decode cX7_row 7 = .ok (.istore_n 2, 1) := by decide +kernel
theorem dX7_row_8 : decode cX7_row 8 = .ok (.iload_n 2, 1) := by decide +kernel
theorem dX7_row_9 : decode cX7_row 9 = .ok (.ifCond .ne 15, 3) := by decide +kernel
theorem dX7_row_12 : decode cX7_row 12 = .ok (.aload_n 0, 1) := by decide +kernel
theorem dX7_row_13 : decode cX7_row 13 = .ok (.getfield 261, 3) := by decide +kernel
theorem dX7_row_16 : decode cX7_row 16 = .ok (.bipush 12, 2) := by decide +kernel
theorem dX7_row_18 : decode cX7_row 18 = .ok (.if_icmp .ne 6, 3) := by decide +kernel
theorem dX7_row_21 : decode cX7_row 21 = .ok (.bipush (-6), 2) := by decide +kernel
theorem dX7_row_23 : decode cX7_row 23 = .ok (.istore_n 2, 1) := by decide +kernel
theorem dX7_row_24 : decode cX7_row 24 = .ok (.iload_n 2, 1) := by decide +kernel
theorem dX7_row_25 : decode cX7_row 25 = .ok (.ifCond .eq 9, 3) := by decide +kernel
theorem dX7_row_28 : decode cX7_row 28 = .ok (.aload_n 0, 1) := by decide +kernel
theorem dX7_row_29 : decode cX7_row 29 = .ok (.iload_n 2, 1) := by decide +kernel
theorem dX7_row_30 : decode cX7_row 30 = .ok (.invokevirtual 88, 3) := by decide +kernel
theorem dX7_row_33 : decode cX7_row 33 = .ok (.ireturn, 1) := by decide +kernel
theorem dX7_row_34 : decode cX7_row 34 = .ok (.aload_n 0, 1) := by decide +kernel
theorem dX7_row_35 : decode cX7_row 35 = .ok (.getfield 73, 3) := by decide +kernel
theorem dX7_row_38 : decode cX7_row 38 = .ok (.aload_n 0, 1) := by decide +kernel
theorem dX7_row_39 : decode cX7_row 39 = .ok (.getfield 261, 3) := by decide +kernel
theorem dX7_row_42 : decode cX7_row 42 = .ok (.iload_n 1, 1) := by decide +kernel
theorem dX7_row_43 : decode cX7_row 43 = .ok (.iastore, 1) := by decide +kernel
theorem dX7_row_44 : decode cX7_row 44 = .ok (.aload_n 0, 1) := by decide +kernel
theorem dX7_row_45 : decode cX7_row 45 = .ok (.dup, 1) := by decide +kernel
theorem dX7_row_46 : decode cX7_row 46 = .ok (.getfield 261, 3) := by decide +kernel
theorem dX7_row_49 : decode cX7_row 49 = .ok (.iconst 1, 1) := by decide +kernel
theorem dX7_row_50 : decode cX7_row 50 = .ok (.iadd, 1) := by decide +kernel
theorem dX7_row_51 : decode cX7_row 51 = .ok (.putfield 261, 3) := by decide +kernel
theorem dX7_row_54 : decode cX7_row 54 = .ok (.aload_n 0, 1) := by decide +kernel
theorem dX7_row_55 : decode cX7_row 55 = .ok (.getfield 261, 3) := by decide +kernel
theorem dX7_row_58 : decode cX7_row 58 = .ok (.ireturn, 1) := by decide +kernel
theorem dX7_judge_0 : decode cX7_judge 0 = .ok (.aload_n 0, 1) := by decide +kernel
theorem dX7_judge_1 : decode cX7_judge 1 = .ok (.getfield 261, 3) := by decide +kernel
theorem dX7_judge_4 : decode cX7_judge 4 = .ok (.istore_n 1, 1) := by decide +kernel
theorem dX7_judge_5 : decode cX7_judge 5 = .ok (.aload_n 0, 1) := by decide +kernel
theorem dX7_judge_6 : decode cX7_judge 6 = .ok (.iconst 0, 1) := by decide +kernel
theorem dX7_judge_7 : decode cX7_judge 7 = .ok (.putfield 261, 3) := by decide +kernel
theorem dX7_judge_10 : decode cX7_judge 10 = .ok (.aload_n 0, 1) := by decide +kernel
theorem dX7_judge_11 : decode cX7_judge 11 = .ok (.iconst 1, 1) := by decide +kernel
theorem dX7_judge_12 : decode cX7_judge 12 = .ok (.iconst 1, 1) := by decide +kernel
theorem dX7_judge_13 : decode cX7_judge 13 = .ok (.invokevirtual 139, 3) := by decide +kernel
theorem dX7_judge_16 : decode cX7_judge 16 = .ok (.bipush (-9), 2) := by decide +kernel
theorem dX7_judge_18 : decode cX7_judge 18 = .ok (.istore_n 2, 1) := by decide +kernel
theorem dX7_judge_19 : decode cX7_judge 19 = .ok (.iconst 0, 1) := by decide +kernel
theorem dX7_judge_20 : decode cX7_judge 20 = .ok (.istore_n 3, 1) := by decide +kernel
theorem dX7_judge_21 : decode cX7_judge 21 = .ok (.iload_n 3, 1) := by decide +kernel
theorem dX7_judge_22 : decode cX7_judge 22 = .ok (.iload_n 1, 1) := by decide +kernel
theorem dX7_judge_23 : decode cX7_judge 23 = .ok (.if_icmp .ge 46, 3) := by decide +kernel
theorem dX7_judge_26 : decode cX7_judge 26 = .ok (.iload_n 2, 1) := by decide +kernel
theorem dX7_judge_27 : decode cX7_judge 27 = .ok (.ifCond .ge 42, 3) := by decide +kernel
theorem dX7_judge_30 : decode cX7_judge 30 = .ok (.aload_n 0, 1) := by decide +kernel
theorem dX7_judge_31 : decode cX7_judge 31 = .ok (.invokevirtual 207, 3) := by decide +kernel
theorem dX7_judge_34 : decode cX7_judge 34 = .ok (.ifCond .ne 7, 3) := by decide +kernel
theorem dX7_judge_37 : decode cX7_judge 37 = .ok (.aload_n 0, 1) := by decide +kernel
theorem dX7_judge_38 : decode cX7_judge 38 = .ok (.invokevirtual 210, 3) := by decide +kernel
theorem dX7_judge_41 : decode cX7_judge 41 = .ok (.aload_n 0, 1) := by decide +kernel
theorem dX7_judge_42 : decode cX7_judge 42 = .ok (.getfield 40, 3) := by decide +kernel
theorem dX7_judge_45 : decode cX7_judge 45 = .ok (.iconst 0, 1) := by decide +kernel
theorem dX7_judge_46 : decode cX7_judge 46 = .ok (.iaload, 1) := by decide +kernel
theorem dX7_judge_47 : decode cX7_judge 47 = .ok (.aload_n 0, 1) := by decide +kernel
theorem dX7_judge_48 : decode cX7_judge 48 = .ok (.getfield 73, 3) := by decide +kernel
theorem dX7_judge_51 : decode cX7_judge 51 = .ok (.iload_n 3, 1) := by decide +kernel
theorem dX7_judge_52 : decode cX7_judge 52 = .ok (.iaload, 1) := by decide +kernel
theorem dX7_judge_53 : decode cX7_judge 53 = .ok (.if_icmp .eq 7, 3) := by decide +kernel
theorem dX7_judge_56 : decode cX7_judge 56 = .ok (.iload_n 3, 1) := by decide +kernel
theorem dX7_judge_57 : decode cX7_judge 57 = .ok (.goto 5, 3) := by decide +kernel
theorem dX7_judge_60 : decode cX7_judge 60 = .ok (.bipush (-9), 2) := by decide +kernel
theorem dX7_judge_62 : decode cX7_judge 62 = .ok (.istore_n 2, 1) := by decide +kernel
theorem dX7_judge_63 : decode cX7_judge 63 = .ok (.iinc 3 1, 3) := by decide +kernel
theorem dX7_judge_66 : decode cX7_judge 66 = .ok (.goto (-45), 3) := by decide +kernel
theorem dX7_judge_69 : decode cX7_judge 69 = .ok (.aload_n 0, 1) := by decide +kernel
theorem dX7_judge_70 : decode cX7_judge 70 = .ok (.iconst 1, 1) := by decide +kernel
theorem dX7_judge_71 : decode cX7_judge 71 = .ok (.iconst 0, 1) := by decide +kernel
theorem dX7_judge_72 : decode cX7_judge 72 = .ok (.invokevirtual 139, 3) := by decide +kernel
theorem dX7_judge_75 : decode cX7_judge 75 = .ok (.iload_n 2, 1) := by decide +kernel
theorem dX7_judge_76 : decode cX7_judge 76 = .ok (.ireturn, 1) := by decide +kernel
theorem dX7_fits_0 : decode cX7_fits 0 = .ok (.iload_n 1, 1) := by decide +kernel
theorem dX7_fits_1 : decode cX7_fits 1 = .ok (.iconst 0, 1) := by decide +kernel
theorem dX7_fits_2 : decode cX7_fits 2 = .ok (.bipush 11, 2) := by decide +kernel
theorem dX7_fits_4 : decode cX7_fits 4 = .ok (.invokestatic 81, 3) := by decide +kernel
theorem dX7_fits_7 : decode cX7_fits 7 = .ok (.istore_n 2, 1) := by decide +kernel
theorem dX7_fits_8 : decode cX7_fits 8 = .ok (.iload_n 2, 1) := by decide +kernel
theorem dX7_fits_9 : decode cX7_fits 9 = .ok (.ifCond .eq 9, 3) := by decide +kernel
theorem dX7_fits_12 : decode cX7_fits 12 = .ok (.aload_n 0, 1) := by decide +kernel
theorem dX7_fits_13 : decode cX7_fits 13 = .ok (.iload_n 2, 1) := by decide +kernel
theorem dX7_fits_14 : decode cX7_fits 14 = .ok (.invokevirtual 88, 3) := by decide +kernel
theorem dX7_fits_17 : decode cX7_fits 17 = .ok (.ireturn, 1) := by decide +kernel
theorem dX7_fits_18 : decode cX7_fits 18 = .ok (.iconst 0, 1) := by decide +kernel
theorem dX7_fits_19 : decode cX7_fits 19 = .ok (.istore_n 3, 1) := by decide +kernel
theorem dX7_fits_20 : decode cX7_fits 20 = .ok (.iconst 0, 1) := by decide +kernel
theorem dX7_fits_21 : decode cX7_fits 21 = .ok (.istore 4, 2) := by decide +kernel
theorem dX7_fits_23 : decode cX7_fits 23 = .ok (.iload 4, 2) := by decide +kernel
theorem dX7_fits_25 : decode cX7_fits 25 = .ok (.bipush 7, 2) := by decide +kernel
theorem dX7_fits_27 : decode cX7_fits 27 = .ok (.if_icmp .ge 43, 3) := by decide +kernel
theorem dX7_fits_30 : decode cX7_fits 30 = .ok (.aload_n 0, 1) := by decide +kernel
theorem dX7_fits_31 : decode cX7_fits 31 = .ok (.getfield 160, 3) := by decide +kernel
theorem dX7_fits_34 : decode cX7_fits 34 = .ok (.ifCond .le 36, 3) := by decide +kernel
theorem dX7_fits_37 : decode cX7_fits 37 = .ok (.iload_n 3, 1) := by decide +kernel
theorem dX7_fits_38 : decode cX7_fits 38 = .ok (.aload_n 0, 1) := by decide +kernel
theorem dX7_fits_39 : decode cX7_fits 39 = .ok (.aload_n 0, 1) := by decide +kernel
theorem dX7_fits_40 : decode cX7_fits 40 = .ok (.getfield 37, 3) := by decide +kernel
theorem dX7_fits_43 : decode cX7_fits 43 = .ok (.iconst 0, 1) := by decide +kernel
theorem dX7_fits_44 : decode cX7_fits 44 = .ok (.iaload, 1) := by decide +kernel
theorem dX7_fits_45 : decode cX7_fits 45 = .ok (.iload 4, 2) := by decide +kernel
theorem dX7_fits_47 : decode cX7_fits 47 = .ok (.invokevirtual 175, 3) := by decide +kernel
theorem dX7_fits_50 : decode cX7_fits 50 = .ok (.iload_n 1, 1) := by decide +kernel
theorem dX7_fits_51 : decode cX7_fits 51 = .ok (.if_icmp .ne 10, 3) := by decide +kernel
theorem dX7_fits_54 : decode cX7_fits 54 = .ok (.iconst 1, 1) := by decide +kernel
theorem dX7_fits_55 : decode cX7_fits 55 = .ok (.iload 4, 2) := by decide +kernel
theorem dX7_fits_57 : decode cX7_fits 57 = .ok (.ishl, 1) := by decide +kernel
theorem dX7_fits_58 : decode cX7_fits 58 = .ok (.goto 4, 3) := by decide +kernel
theorem dX7_fits_61 : decode cX7_fits 61 = .ok (.iconst 0, 1) := by decide +kernel
theorem dX7_fits_62 : decode cX7_fits 62 = .ok (.ior, 1) := by decide +kernel
theorem dX7_fits_63 : decode cX7_fits 63 = .ok (.istore_n 3, 1) := by decide +kernel
theorem dX7_fits_64 : decode cX7_fits 64 = .ok (.iinc 4 1, 3) := by decide +kernel
theorem dX7_fits_67 : decode cX7_fits 67 = .ok (.goto (-44), 3) := by decide +kernel
theorem dX7_fits_70 : decode cX7_fits 70 = .ok (.iload_n 3, 1) := by decide +kernel
theorem dX7_fits_71 : decode cX7_fits 71 = .ok (.ireturn, 1) := by decide +kernel
theorem dX7_seeds_0 : decode cX7_seeds 0 = .ok (.iload_n 1, 1) := by decide +kernel
theorem dX7_seeds_1 : decode cX7_seeds 1 = .ok (.iconst 1, 1) := by decide +kernel
theorem dX7_seeds_2 : decode cX7_seeds 2 = .ok (.bipush 20, 2) := by decide +kernel
theorem dX7_seeds_4 : decode cX7_seeds 4 = .ok (.invokestatic 81, 3) := by decide +kernel
theorem dX7_seeds_7 : decode cX7_seeds 7 = .ok (.istore 4, 2) := by decide +kernel
theorem dX7_seeds_9 : decode cX7_seeds 9 = .ok (.iload 4, 2) := by decide +kernel
theorem dX7_seeds_11 : decode cX7_seeds 11 = .ok (.ifCond .ne 16, 3) := by decide +kernel
theorem dX7_seeds_14 : decode cX7_seeds 14 = .ok (.iload_n 3, 1) := by decide +kernel
theorem dX7_seeds_15 : decode cX7_seeds 15 = .ok (.iconst 0, 1) := by decide +kernel
theorem dX7_seeds_16 : decode cX7_seeds 16 = .ok (.iconst 1, 1) := by decide +kernel
theorem dX7_seeds_17 : decode cX7_seeds 17 = .ok (.invokestatic 99, 3) := by decide +kernel
theorem dX7_seeds_20 : decode cX7_seeds 20 = .ok (.ifCond .ne 7, 3) := by decide +kernel
theorem dX7_seeds_23 : decode cX7_seeds 23 = .ok (.bipush (-2), 2) := by decide +kernel
theorem dX7_seeds_25 : decode cX7_seeds 25 = .ok (.istore 4, 2) := by decide +kernel
theorem dX7_seeds_27 : decode cX7_seeds 27 = .ok (.iload 4, 2) := by decide +kernel
theorem dX7_seeds_29 : decode cX7_seeds 29 = .ok (.ifCond .eq 10, 3) := by decide +kernel
theorem dX7_seeds_32 : decode cX7_seeds 32 = .ok (.aload_n 0, 1) := by decide +kernel
theorem dX7_seeds_33 : decode cX7_seeds 33 = .ok (.iload 4, 2) := by decide +kernel
theorem dX7_seeds_35 : decode cX7_seeds 35 = .ok (.invokevirtual 88, 3) := by decide +kernel
theorem dX7_seeds_38 : decode cX7_seeds 38 = .ok (.ireturn, 1) := by decide +kernel
theorem dX7_seeds_39 : decode cX7_seeds 39 = .ok (.aload_n 0, 1) := by decide +kernel
theorem dX7_seeds_40 : decode cX7_seeds 40 = .ok (.iconst 1, 1) := by decide +kernel
theorem dX7_seeds_41 : decode cX7_seeds 41 = .ok (.iconst 1, 1) := by decide +kernel
theorem dX7_seeds_42 : decode cX7_seeds 42 = .ok (.invokevirtual 139, 3) := by decide +kernel
theorem dX7_seeds_45 : decode cX7_seeds 45 = .ok (.iload_n 2, 1) := by decide +kernel
theorem dX7_seeds_46 : decode cX7_seeds 46 = .ok (.istore 5, 2) := by decide +kernel
theorem dX7_seeds_48 : decode cX7_seeds 48 = .ok (.iconst 0, 1) := by decide +kernel
theorem dX7_seeds_49 : decode cX7_seeds 49 = .ok (.istore 6, 2) := by decide +kernel
theorem dX7_seeds_51 : decode cX7_seeds 51 = .ok (.iconst 0, 1) := by decide +kernel
theorem dX7_seeds_52 : decode cX7_seeds 52 = .ok (.istore 7, 2) := by decide +kernel
theorem dX7_seeds_54 : decode cX7_seeds 54 = .ok (.iconst 0, 1) := by decide +kernel
theorem dX7_seeds_55 : decode cX7_seeds 55 = .ok (.istore 8, 2) := by decide +kernel
theorem dX7_seeds_57 : decode cX7_seeds 57 = .ok (.iload 8, 2) := by decide +kernel
theorem dX7_seeds_59 : decode cX7_seeds 59 = .ok (.iload_n 1, 1) := by decide +kernel
theorem dX7_seeds_60 : decode cX7_seeds 60 = .ok (.if_icmp .ge 78, 3) := by decide +kernel
theorem dX7_seeds_63 : decode cX7_seeds 63 = .ok (.iconst 0, 1) := by decide +kernel
theorem dX7_seeds_64 : decode cX7_seeds 64 = .ok (.istore 9, 2) := by decide +kernel
theorem dX7_seeds_66 : decode cX7_seeds 66 = .ok (.iload 9, 2) := by decide +kernel
theorem dX7_seeds_68 : decode cX7_seeds 68 = .ok (.aload_n 0, 1) := by decide +kernel
theorem dX7_seeds_69 : decode cX7_seeds 69 = .ok (.getfield 77, 3) := by decide +kernel
theorem dX7_seeds_72 : decode cX7_seeds 72 = .ok (.if_icmp .ge 41, 3) := by decide +kernel
theorem dX7_seeds_75 : decode cX7_seeds 75 = .ok (.iload 5, 2) := by decide +kernel
theorem dX7_seeds_77 : decode cX7_seeds 77 = .ok (.ldc_w 264, 3) := by decide +kernel
theorem dX7_seeds_80 : decode cX7_seeds 80 = .ok (.imul, 1) := by decide +kernel
theorem dX7_seeds_81 : decode cX7_seeds 81 = .ok (.sipush 12345, 3) := by decide +kernel
theorem dX7_seeds_84 : decode cX7_seeds 84 = .ok (.iadd, 1) := by decide +kernel
theorem dX7_seeds_85 : decode cX7_seeds 85 = .ok (.istore 5, 2) := by decide +kernel
theorem dX7_seeds_87 : decode cX7_seeds 87 = .ok (.aload_n 0, 1) := by decide +kernel
theorem dX7_seeds_88 : decode cX7_seeds 88 = .ok (.getfield 22, 3) := by decide +kernel
theorem dX7_seeds_91 : decode cX7_seeds 91 = .ok (.iload 9, 2) := by decide +kernel
theorem dX7_seeds_93 : decode cX7_seeds 93 = .ok (.iload 5, 2) := by decide +kernel
theorem dX7_seeds_95 : decode cX7_seeds 95 = .ok (.ldc_w 265, 3) := by decide +kernel
theorem dX7_seeds_98 : decode cX7_seeds 98 = .ok (.iand, 1) := by decide +kernel
theorem dX7_seeds_99 : decode cX7_seeds 99 = .ok (.ldc_w 266, 3) := by decide +kernel
theorem dX7_seeds_102 : decode cX7_seeds 102 = .ok (.idiv, 1) := by decide +kernel
theorem dX7_seeds_103 : decode cX7_seeds 103 = .ok (.bipush 120, 2) := by decide +kernel
theorem dX7_seeds_105 : decode cX7_seeds 105 = .ok (.irem, 1) := by decide +kernel
theorem dX7_seeds_106 : decode cX7_seeds 106 = .ok (.iastore, 1) := by decide +kernel
theorem dX7_seeds_107 : decode cX7_seeds 107 = .ok (.iinc 9 1, 3) := by decide +kernel
theorem dX7_seeds_110 : decode cX7_seeds 110 = .ok (.goto (-44), 3) := by decide +kernel
theorem dX7_seeds_113 : decode cX7_seeds 113 = .ok (.iload 6, 2) := by decide +kernel
theorem dX7_seeds_115 : decode cX7_seeds 115 = .ok (.aload_n 0, 1) := by decide +kernel
theorem dX7_seeds_116 : decode cX7_seeds 116 = .ok (.invokevirtual 228, 3) := by decide +kernel
theorem dX7_seeds_119 : decode cX7_seeds 119 = .ok (.iadd, 1) := by decide +kernel
theorem dX7_seeds_120 : decode cX7_seeds 120 = .ok (.istore 6, 2) := by decide +kernel
theorem dX7_seeds_122 : decode cX7_seeds 122 = .ok (.iload 7, 2) := by decide +kernel
theorem dX7_seeds_124 : decode cX7_seeds 124 = .ok (.aload_n 0, 1) := by decide +kernel
theorem dX7_seeds_125 : decode cX7_seeds 125 = .ok (.iconst 3, 1) := by decide +kernel
theorem dX7_seeds_126 : decode cX7_seeds 126 = .ok (.invokevirtual 216, 3) := by decide +kernel
theorem dX7_seeds_129 : decode cX7_seeds 129 = .ok (.iadd, 1) := by decide +kernel
theorem dX7_seeds_130 : decode cX7_seeds 130 = .ok (.istore 7, 2) := by decide +kernel
theorem dX7_seeds_132 : decode cX7_seeds 132 = .ok (.iinc 8 1, 3) := by decide +kernel
theorem dX7_seeds_135 : decode cX7_seeds 135 = .ok (.goto (-78), 3) := by decide +kernel
theorem dX7_seeds_138 : decode cX7_seeds 138 = .ok (.aload_n 0, 1) := by decide +kernel
theorem dX7_seeds_139 : decode cX7_seeds 139 = .ok (.iconst 1, 1) := by decide +kernel
theorem dX7_seeds_140 : decode cX7_seeds 140 = .ok (.iconst 0, 1) := by decide +kernel
theorem dX7_seeds_141 : decode cX7_seeds 141 = .ok (.invokevirtual 139, 3) := by decide +kernel
theorem dX7_seeds_144 : decode cX7_seeds 144 = .ok (.iload_n 3, 1) := by decide +kernel
theorem dX7_seeds_145 : decode cX7_seeds 145 = .ok (.ifCond .ne 8, 3) := by decide +kernel
theorem dX7_seeds_148 : decode cX7_seeds 148 = .ok (.iload 6, 2) := by decide +kernel
theorem dX7_seeds_150 : decode cX7_seeds 150 = .ok (.goto 5, 3) := by decide +kernel
theorem dX7_seeds_153 : decode cX7_seeds 153 = .ok (.iload 7, 2) := by decide +kernel
theorem dX7_seeds_155 : decode cX7_seeds 155 = .ok (.ireturn, 1) := by decide +kernel
theorem dX7_count_0 : decode cX7_count 0 = .ok (.iload_n 1, 1) := by decide +kernel
theorem dX7_count_1 : decode cX7_count 1 = .ok (.bipush 11, 2) := by decide +kernel
theorem dX7_count_3 : decode cX7_count 3 = .ok (.bipush 16, 2) := by decide +kernel
theorem dX7_count_5 : decode cX7_count 5 = .ok (.invokestatic 99, 3) := by decide +kernel
theorem dX7_count_8 : decode cX7_count 8 = .ok (.ifCond .eq 13, 3) := by decide +kernel
theorem dX7_count_11 : decode cX7_count 11 = .ok (.aload_n 0, 1) := by decide +kernel
theorem dX7_count_12 : decode cX7_count 12 = .ok (.getfield 7, 3) := by decide +kernel
theorem dX7_count_15 : decode cX7_count 15 = .ok (.iload_n 1, 1) := by decide +kernel
theorem dX7_count_16 : decode cX7_count 16 = .ok (.bipush 10, 2) := by decide +kernel
theorem dX7_count_18 : decode cX7_count 18 = .ok (.isub, 1) := by decide +kernel
theorem dX7_count_19 : decode cX7_count 19 = .ok (.iaload, 1) := by decide +kernel
theorem dX7_count_20 : decode cX7_count 20 = .ok (.ireturn, 1) := by decide +kernel
theorem dX7_count_21 : decode cX7_count 21 = .ok (.iload_n 1, 1) := by decide +kernel
theorem dX7_count_22 : decode cX7_count 22 = .ok (.bipush 20, 2) := by decide +kernel
theorem dX7_count_24 : decode cX7_count 24 = .ok (.bipush 27, 2) := by decide +kernel
theorem dX7_count_26 : decode cX7_count 26 = .ok (.invokestatic 99, 3) := by decide +kernel
theorem dX7_count_29 : decode cX7_count 29 = .ok (.ifCond .eq 13, 3) := by decide +kernel
theorem dX7_count_32 : decode cX7_count 32 = .ok (.aload_n 0, 1) := by decide +kernel
theorem dX7_count_33 : decode cX7_count 33 = .ok (.getfield 13, 3) := by decide +kernel
theorem dX7_count_36 : decode cX7_count 36 = .ok (.iload_n 1, 1) := by decide +kernel
theorem dX7_count_37 : decode cX7_count 37 = .ok (.bipush 20, 2) := by decide +kernel
theorem dX7_count_39 : decode cX7_count 39 = .ok (.isub, 1) := by decide +kernel
theorem dX7_count_40 : decode cX7_count 40 = .ok (.iaload, 1) := by decide +kernel
theorem dX7_count_41 : decode cX7_count 41 = .ok (.ireturn, 1) := by decide +kernel
theorem dX7_count_42 : decode cX7_count 42 = .ok (.iload_n 1, 1) := by decide +kernel
theorem dX7_count_43 : decode cX7_count 43 = .ok (.tableswitch 104 0 8 #[49, 54, 59, 64, 70, 76, 89, 94, 99], 49) := by decide +kernel
theorem dX7_count_92 : decode cX7_count 92 = .ok (.aload_n 0, 1) := by decide +kernel
theorem dX7_count_93 : decode cX7_count 93 = .ok (.getfield 77, 3) := by decide +kernel
theorem dX7_count_96 : decode cX7_count 96 = .ok (.ireturn, 1) := by decide +kernel
theorem dX7_count_97 : decode cX7_count 97 = .ok (.aload_n 0, 1) := by decide +kernel
theorem dX7_count_98 : decode cX7_count 98 = .ok (.getfield 122, 3) := by decide +kernel
theorem dX7_count_101 : decode cX7_count 101 = .ok (.ireturn, 1) := by decide +kernel
theorem dX7_count_102 : decode cX7_count 102 = .ok (.aload_n 0, 1) := by decide +kernel
theorem dX7_count_103 : decode cX7_count 103 = .ok (.getfield 160, 3) := by decide +kernel
theorem dX7_count_106 : decode cX7_count 106 = .ok (.ireturn, 1) := by decide +kernel
theorem dX7_count_107 : decode cX7_count 107 = .ok (.aload_n 0, 1) := by decide +kernel
theorem dX7_count_108 : decode cX7_count 108 = .ok (.iconst 2, 1) := by decide +kernel
theorem dX7_count_109 : decode cX7_count 109 = .ok (.invokevirtual 216, 3) := by decide +kernel
theorem dX7_count_112 : decode cX7_count 112 = .ok (.ireturn, 1) := by decide +kernel
theorem dX7_count_113 : decode cX7_count 113 = .ok (.aload_n 0, 1) := by decide +kernel
theorem dX7_count_114 : decode cX7_count 114 = .ok (.iconst 3, 1) := by decide +kernel
theorem dX7_count_115 : decode cX7_count 115 = .ok (.invokevirtual 216, 3) := by decide +kernel
theorem dX7_count_118 : decode cX7_count 118 = .ok (.ireturn, 1) := by decide +kernel
theorem dX7_count_119 : decode cX7_count 119 = .ok (.aload_n 0, 1) := by decide +kernel
theorem dX7_count_120 : decode cX7_count 120 = .ok (.invokevirtual 207, 3) := by decide +kernel
theorem dX7_count_123 : decode cX7_count 123 = .ok (.ifCond .eq 7, 3) := by decide +kernel
theorem dX7_count_126 : decode cX7_count 126 = .ok (.iconst 1, 1) := by decide +kernel
theorem dX7_count_127 : decode cX7_count 127 = .ok (.goto 4, 3) := by decide +kernel
theorem dX7_count_130 : decode cX7_count 130 = .ok (.iconst 0, 1) := by decide +kernel
theorem dX7_count_131 : decode cX7_count 131 = .ok (.ireturn, 1) := by decide +kernel
theorem dX7_count_132 : decode cX7_count 132 = .ok (.aload_n 0, 1) := by decide +kernel
theorem dX7_count_133 : decode cX7_count 133 = .ok (.invokevirtual 213, 3) := by decide +kernel
theorem dX7_count_136 : decode cX7_count 136 = .ok (.ireturn, 1) := by decide +kernel
theorem dX7_count_137 : decode cX7_count 137 = .ok (.aload_n 0, 1) := by decide +kernel
theorem dX7_count_138 : decode cX7_count 138 = .ok (.getfield 85, 3) := by decide +kernel
theorem dX7_count_141 : decode cX7_count 141 = .ok (.ireturn, 1) := by decide +kernel
theorem dX7_count_142 : decode cX7_count 142 = .ok (.aload_n 0, 1) := by decide +kernel
theorem dX7_count_143 : decode cX7_count 143 = .ok (.getfield 261, 3) := by decide +kernel
theorem dX7_count_146 : decode cX7_count 146 = .ok (.ireturn, 1) := by decide +kernel
theorem dX7_count_147 : decode cX7_count 147 = .ok (.bipush (-9), 2) := by decide +kernel
theorem dX7_count_149 : decode cX7_count 149 = .ok (.ireturn, 1) := by decide +kernel
theorem dJ9_floorMod_7cf53_0 : decode cJ9_floorMod_7cf53 0 = .ok (.iload_n 0, 1) := by decide +kernel
theorem dJ9_floorMod_7cf53_1 : decode cJ9_floorMod_7cf53 1 = .ok (.iload_n 1, 1) := by decide +kernel
theorem dJ9_floorMod_7cf53_2 : decode cJ9_floorMod_7cf53 2 = .ok (.irem, 1) := by decide +kernel
theorem dJ9_floorMod_7cf53_3 : decode cJ9_floorMod_7cf53 3 = .ok (.istore_n 2, 1) := by decide +kernel
theorem dJ9_floorMod_7cf53_4 : decode cJ9_floorMod_7cf53 4 = .ok (.iload_n 0, 1) := by decide +kernel
theorem dJ9_floorMod_7cf53_5 : decode cJ9_floorMod_7cf53 5 = .ok (.iload_n 1, 1) := by decide +kernel
theorem dJ9_floorMod_7cf53_6 : decode cJ9_floorMod_7cf53 6 = .ok (.ixor, 1) := by decide +kernel
theorem dJ9_floorMod_7cf53_7 : decode cJ9_floorMod_7cf53 7 = .ok (.ifCond .ge 11, 3) := by decide +kernel
theorem dJ9_floorMod_7cf53_10 : decode cJ9_floorMod_7cf53 10 = .ok (.iload_n 2, 1) := by decide +kernel
theorem dJ9_floorMod_7cf53_11 : decode cJ9_floorMod_7cf53 11 = .ok (.ifCond .eq 7, 3) := by decide +kernel
theorem dJ9_floorMod_7cf53_14 : decode cJ9_floorMod_7cf53 14 = .ok (.iload_n 2, 1) := by decide +kernel
theorem dJ9_floorMod_7cf53_15 : decode cJ9_floorMod_7cf53 15 = .ok (.iload_n 1, 1) := by decide +kernel
theorem dJ9_floorMod_7cf53_16 : decode cJ9_floorMod_7cf53 16 = .ok (.iadd, 1) := by decide +kernel
theorem dJ9_floorMod_7cf53_17 : decode cJ9_floorMod_7cf53 17 = .ok (.ireturn, 1) := by decide +kernel
theorem dJ9_floorMod_7cf53_18 : decode cJ9_floorMod_7cf53 18 = .ok (.iload_n 2, 1) := by decide +kernel
theorem dJ9_floorMod_7cf53_19 : decode cJ9_floorMod_7cf53 19 = .ok (.ireturn, 1) := by decide +kernel
theorem dJ9_max_7cf53_0 : decode cJ9_max_7cf53 0 = .ok (.iload_n 0, 1) := by decide +kernel
theorem dJ9_max_7cf53_1 : decode cJ9_max_7cf53 1 = .ok (.iload_n 1, 1) := by decide +kernel
theorem dJ9_max_7cf53_2 : decode cJ9_max_7cf53 2 = .ok (.if_icmp .lt 7, 3) := by decide +kernel
theorem dJ9_max_7cf53_5 : decode cJ9_max_7cf53 5 = .ok (.iload_n 0, 1) := by decide +kernel
theorem dJ9_max_7cf53_6 : decode cJ9_max_7cf53 6 = .ok (.goto 4, 3) := by decide +kernel
theorem dJ9_max_7cf53_9 : decode cJ9_max_7cf53 9 = .ok (.iload_n 1, 1) := by decide +kernel
theorem dJ9_max_7cf53_10 : decode cJ9_max_7cf53 10 = .ok (.ireturn, 1) := by decide +kernel
theorem dJ9_min_7cf53_0 : decode cJ9_min_7cf53 0 = .ok (.iload_n 0, 1) := by decide +kernel
theorem dJ9_min_7cf53_1 : decode cJ9_min_7cf53 1 = .ok (.iload_n 1, 1) := by decide +kernel
theorem dJ9_min_7cf53_2 : decode cJ9_min_7cf53 2 = .ok (.if_icmp .gt 7, 3) := by decide +kernel
theorem dJ9_min_7cf53_5 : decode cJ9_min_7cf53 5 = .ok (.iload_n 0, 1) := by decide +kernel
theorem dJ9_min_7cf53_6 : decode cJ9_min_7cf53 6 = .ok (.goto 4, 3) := by decide +kernel
theorem dJ9_min_7cf53_9 : decode cJ9_min_7cf53 9 = .ok (.iload_n 1, 1) := by decide +kernel
theorem dJ9_min_7cf53_10 : decode cJ9_min_7cf53 10 = .ok (.ireturn, 1) := by decide +kernel
theorem dL_law_0 : decode cL_law 0 = .ok (.new 7, 3) := by decide +kernel
theorem dL_law_3 : decode cL_law 3 = .ok (.dup, 1) := by decide +kernel
theorem dL_law_4 : decode cL_law 4 = .ok (.invokespecial 9, 3) := by decide +kernel
theorem dL_law_7 : decode cL_law 7 = .ok (.astore_n 1, 1) := by decide +kernel
theorem dL_law_8 : decode cL_law 8 = .ok (.new 10, 3) := by decide +kernel
theorem dL_law_11 : decode cL_law 11 = .ok (.dup, 1) := by decide +kernel
theorem dL_law_12 : decode cL_law 12 = .ok (.invokespecial 12, 3) := by decide +kernel
theorem dL_law_15 : decode cL_law 15 = .ok (.astore_n 2, 1) := by decide +kernel
theorem dL_law_16 : decode cL_law 16 = .ok (.iconst 0, 1) := by decide +kernel
theorem dL_law_17 : decode cL_law 17 = .ok (.istore_n 3, 1) := by decide +kernel
theorem dL_law_18 : decode cL_law 18 = .ok (.iload_n 3, 1) := by decide +kernel
theorem dL_law_19 : decode cL_law 19 = .ok (.aload_n 0, 1) := by decide +kernel
theorem dL_law_20 : decode cL_law 20 = .ok (.arraylength, 1) := by decide +kernel
theorem dL_law_21 : decode cL_law 21 = .ok (.iconst 4, 1) := by decide +kernel
theorem dL_law_22 : decode cL_law 22 = .ok (.isub, 1) := by decide +kernel
theorem dL_law_23 : decode cL_law 23 = .ok (.if_icmp .gt 807, 3) := by decide +kernel
theorem dL_law_26 : decode cL_law 26 = .ok (.aload_n 0, 1) := by decide +kernel
theorem dL_law_27 : decode cL_law 27 = .ok (.iload_n 3, 1) := by decide +kernel
theorem dL_law_28 : decode cL_law 28 = .ok (.iaload, 1) := by decide +kernel
theorem dL_law_29 : decode cL_law 29 = .ok (.bipush 31, 2) := by decide +kernel
theorem dL_law_31 : decode cL_law 31 = .ok (.iand, 1) := by decide +kernel
theorem dL_law_32 : decode cL_law 32 = .ok (.tableswitch 792 0 27 #[128, 151, 164, 197, 240, 273, 306, 329, 342, 365, 388, 411, 444, 467, 490, 503, 526, 549, 582, 605, 628, 641, 664, 677, 700, 743, 756, 769], 128) := by decide +kernel
theorem dL_law_160 : decode cL_law 160 = .ok (.aload_n 1, 1) := by decide +kernel
theorem dL_law_161 : decode cL_law 161 = .ok (.aload_n 0, 1) := by decide +kernel
theorem dL_law_162 : decode cL_law 162 = .ok (.iload_n 3, 1) := by decide +kernel
theorem dL_law_163 : decode cL_law 163 = .ok (.iconst 1, 1) := by decide +kernel
theorem dL_law_164 : decode cL_law 164 = .ok (.iadd, 1) := by decide +kernel
theorem dL_law_165 : decode cL_law 165 = .ok (.iaload, 1) := by decide +kernel
theorem dL_law_166 : decode cL_law 166 = .ok (.invokevirtual 13, 3) := by decide +kernel
theorem dL_law_169 : decode cL_law 169 = .ok (.aload_n 2, 1) := by decide +kernel
theorem dL_law_170 : decode cL_law 170 = .ok (.aload_n 0, 1) := by decide +kernel
theorem dL_law_171 : decode cL_law 171 = .ok (.iload_n 3, 1) := by decide +kernel
theorem dL_law_172 : decode cL_law 172 = .ok (.iconst 1, 1) := by decide +kernel
theorem dL_law_173 : decode cL_law 173 = .ok (.iadd, 1) := by decide +kernel
theorem dL_law_174 : decode cL_law 174 = .ok (.iaload, 1) := by decide +kernel
theorem dL_law_175 : decode cL_law 175 = .ok (.invokevirtual 17, 3) := by decide +kernel
theorem dL_law_178 : decode cL_law 178 = .ok (.if_icmp .eq 646, 3) := by decide +kernel
theorem dL_law_181 : decode cL_law 181 = .ok (.iconst 0, 1) := by decide +kernel
theorem dL_law_182 : decode cL_law 182 = .ok (.ireturn, 1) := by decide +kernel
theorem dL_law_183 : decode cL_law 183 = .ok (.aload_n 1, 1) := by decide +kernel
theorem dL_law_184 : decode cL_law 184 = .ok (.invokevirtual 18, 3) := by decide +kernel
theorem dL_law_187 : decode cL_law 187 = .ok (.aload_n 2, 1) := by decide +kernel
theorem dL_law_188 : decode cL_law 188 = .ok (.invokevirtual 22, 3) := by decide +kernel
theorem dL_law_191 : decode cL_law 191 = .ok (.if_icmp .eq 633, 3) := by decide +kernel
theorem dL_law_194 : decode cL_law 194 = .ok (.iconst 0, 1) := by decide +kernel
theorem dL_law_195 : decode cL_law 195 = .ok (.ireturn, 1) := by decide +kernel
theorem dL_law_196 : decode cL_law 196 = .ok (.aload_n 1, 1) := by decide +kernel
theorem dL_law_197 : decode cL_law 197 = .ok (.aload_n 0, 1) := by decide +kernel
theorem dL_law_198 : decode cL_law 198 = .ok (.iload_n 3, 1) := by decide +kernel
theorem dL_law_199 : decode cL_law 199 = .ok (.iconst 1, 1) := by decide +kernel
theorem dL_law_200 : decode cL_law 200 = .ok (.iadd, 1) := by decide +kernel
theorem dL_law_201 : decode cL_law 201 = .ok (.iaload, 1) := by decide +kernel
theorem dL_law_202 : decode cL_law 202 = .ok (.aload_n 0, 1) := by decide +kernel
theorem dL_law_203 : decode cL_law 203 = .ok (.iload_n 3, 1) := by decide +kernel
theorem dL_law_204 : decode cL_law 204 = .ok (.iconst 2, 1) := by decide +kernel
theorem dL_law_205 : decode cL_law 205 = .ok (.iadd, 1) := by decide +kernel
theorem dL_law_206 : decode cL_law 206 = .ok (.iaload, 1) := by decide +kernel
theorem dL_law_207 : decode cL_law 207 = .ok (.invokevirtual 23, 3) := by decide +kernel
theorem dL_law_210 : decode cL_law 210 = .ok (.aload_n 2, 1) := by decide +kernel
theorem dL_law_211 : decode cL_law 211 = .ok (.aload_n 0, 1) := by decide +kernel
theorem dL_law_212 : decode cL_law 212 = .ok (.iload_n 3, 1) := by decide +kernel
theorem dL_law_213 : decode cL_law 213 = .ok (.iconst 1, 1) := by decide +kernel
theorem dL_law_214 : decode cL_law 214 = .ok (.iadd, 1) := by decide +kernel
theorem dL_law_215 : decode cL_law 215 = .ok (.iaload, 1) := by decide +kernel
theorem dL_law_216 : decode cL_law 216 = .ok (.aload_n 0, 1) := by decide +kernel
theorem dL_law_217 : decode cL_law 217 = .ok (.iload_n 3, 1) := by decide +kernel
theorem dL_law_218 : decode cL_law 218 = .ok (.iconst 2, 1) := by decide +kernel
theorem dL_law_219 : decode cL_law 219 = .ok (.iadd, 1) := by decide +kernel
theorem dL_law_220 : decode cL_law 220 = .ok (.iaload, 1) := by decide +kernel
theorem dL_law_221 : decode cL_law 221 = .ok (.invokevirtual 27, 3) := by decide +kernel
theorem dL_law_224 : decode cL_law 224 = .ok (.if_icmp .eq 600, 3) := by decide +kernel
theorem dL_law_227 : decode cL_law 227 = .ok (.iconst 0, 1) := by decide +kernel
theorem dL_law_228 : decode cL_law 228 = .ok (.ireturn, 1) := by decide +kernel
theorem dL_law_229 : decode cL_law 229 = .ok (.aload_n 1, 1) := by decide +kernel
theorem dL_law_230 : decode cL_law 230 = .ok (.aload_n 0, 1) := by decide +kernel
theorem dL_law_231 : decode cL_law 231 = .ok (.iload_n 3, 1) := by decide +kernel
theorem dL_law_232 : decode cL_law 232 = .ok (.iconst 1, 1) := by decide +kernel
theorem dL_law_233 : decode cL_law 233 = .ok (.iadd, 1) := by decide +kernel
theorem dL_law_234 : decode cL_law 234 = .ok (.iaload, 1) := by decide +kernel
theorem dL_law_235 : decode cL_law 235 = .ok (.aload_n 0, 1) := by decide +kernel
theorem dL_law_236 : decode cL_law 236 = .ok (.iload_n 3, 1) := by decide +kernel
theorem dL_law_237 : decode cL_law 237 = .ok (.iconst 2, 1) := by decide +kernel
theorem dL_law_238 : decode cL_law 238 = .ok (.iadd, 1) := by decide +kernel
theorem dL_law_239 : decode cL_law 239 = .ok (.iaload, 1) := by decide +kernel
theorem dL_law_240 : decode cL_law 240 = .ok (.aload_n 0, 1) := by decide +kernel
theorem dL_law_241 : decode cL_law 241 = .ok (.iload_n 3, 1) := by decide +kernel
theorem dL_law_242 : decode cL_law 242 = .ok (.iconst 3, 1) := by decide +kernel
theorem dL_law_243 : decode cL_law 243 = .ok (.iadd, 1) := by decide +kernel
theorem dL_law_244 : decode cL_law 244 = .ok (.iaload, 1) := by decide +kernel
theorem dL_law_245 : decode cL_law 245 = .ok (.invokevirtual 28, 3) := by decide +kernel
theorem dL_law_248 : decode cL_law 248 = .ok (.aload_n 2, 1) := by decide +kernel
theorem dL_law_249 : decode cL_law 249 = .ok (.aload_n 0, 1) := by decide +kernel
theorem dL_law_250 : decode cL_law 250 = .ok (.iload_n 3, 1) := by decide +kernel
theorem dL_law_251 : decode cL_law 251 = .ok (.iconst 1, 1) := by decide +kernel
theorem dL_law_252 : decode cL_law 252 = .ok (.iadd, 1) := by decide +kernel
theorem dL_law_253 : decode cL_law 253 = .ok (.iaload, 1) := by decide +kernel
theorem dL_law_254 : decode cL_law 254 = .ok (.aload_n 0, 1) := by decide +kernel
theorem dL_law_255 : decode cL_law 255 = .ok (.iload_n 3, 1) := by decide +kernel
theorem dL_law_256 : decode cL_law 256 = .ok (.iconst 2, 1) := by decide +kernel
theorem dL_law_257 : decode cL_law 257 = .ok (.iadd, 1) := by decide +kernel
theorem dL_law_258 : decode cL_law 258 = .ok (.iaload, 1) := by decide +kernel
theorem dL_law_259 : decode cL_law 259 = .ok (.aload_n 0, 1) := by decide +kernel
theorem dL_law_260 : decode cL_law 260 = .ok (.iload_n 3, 1) := by decide +kernel
theorem dL_law_261 : decode cL_law 261 = .ok (.iconst 3, 1) := by decide +kernel
theorem dL_law_262 : decode cL_law 262 = .ok (.iadd, 1) := by decide +kernel
theorem dL_law_263 : decode cL_law 263 = .ok (.iaload, 1) := by decide +kernel
theorem dL_law_264 : decode cL_law 264 = .ok (.invokevirtual 32, 3) := by decide +kernel
theorem dL_law_267 : decode cL_law 267 = .ok (.if_icmp .eq 557, 3) := by decide +kernel
theorem dL_law_270 : decode cL_law 270 = .ok (.iconst 0, 1) := by decide +kernel
theorem dL_law_271 : decode cL_law 271 = .ok (.ireturn, 1) := by decide +kernel
theorem dL_law_272 : decode cL_law 272 = .ok (.aload_n 1, 1) := by decide +kernel
theorem dL_law_273 : decode cL_law 273 = .ok (.aload_n 0, 1) := by decide +kernel
theorem dL_law_274 : decode cL_law 274 = .ok (.iload_n 3, 1) := by decide +kernel
theorem dL_law_275 : decode cL_law 275 = .ok (.iconst 1, 1) := by decide +kernel
theorem dL_law_276 : decode cL_law 276 = .ok (.iadd, 1) := by decide +kernel
theorem dL_law_277 : decode cL_law 277 = .ok (.iaload, 1) := by decide +kernel
theorem dL_law_278 : decode cL_law 278 = .ok (.aload_n 0, 1) := by decide +kernel
theorem dL_law_279 : decode cL_law 279 = .ok (.iload_n 3, 1) := by decide +kernel
theorem dL_law_280 : decode cL_law 280 = .ok (.iconst 2, 1) := by decide +kernel
theorem dL_law_281 : decode cL_law 281 = .ok (.iadd, 1) := by decide +kernel
theorem dL_law_282 : decode cL_law 282 = .ok (.iaload, 1) := by decide +kernel
theorem dL_law_283 : decode cL_law 283 = .ok (.invokevirtual 33, 3) := by decide +kernel
theorem dL_law_286 : decode cL_law 286 = .ok (.aload_n 2, 1) := by decide +kernel
theorem dL_law_287 : decode cL_law 287 = .ok (.aload_n 0, 1) := by decide +kernel
theorem dL_law_288 : decode cL_law 288 = .ok (.iload_n 3, 1) := by decide +kernel
theorem dL_law_289 : decode cL_law 289 = .ok (.iconst 1, 1) := by decide +kernel
theorem dL_law_290 : decode cL_law 290 = .ok (.iadd, 1) := by decide +kernel
theorem dL_law_291 : decode cL_law 291 = .ok (.iaload, 1) := by decide +kernel
theorem dL_law_292 : decode cL_law 292 = .ok (.aload_n 0, 1) := by decide +kernel
theorem dL_law_293 : decode cL_law 293 = .ok (.iload_n 3, 1) := by decide +kernel
theorem dL_law_294 : decode cL_law 294 = .ok (.iconst 2, 1) := by decide +kernel
theorem dL_law_295 : decode cL_law 295 = .ok (.iadd, 1) := by decide +kernel
theorem dL_law_296 : decode cL_law 296 = .ok (.iaload, 1) := by decide +kernel
theorem dL_law_297 : decode cL_law 297 = .ok (.invokevirtual 36, 3) := by decide +kernel
theorem dL_law_300 : decode cL_law 300 = .ok (.if_icmp .eq 524, 3) := by decide +kernel
theorem dL_law_303 : decode cL_law 303 = .ok (.iconst 0, 1) := by decide +kernel
theorem dL_law_304 : decode cL_law 304 = .ok (.ireturn, 1) := by decide +kernel
theorem dL_law_305 : decode cL_law 305 = .ok (.aload_n 1, 1) := by decide +kernel
theorem dL_law_306 : decode cL_law 306 = .ok (.aload_n 0, 1) := by decide +kernel
theorem dL_law_307 : decode cL_law 307 = .ok (.iload_n 3, 1) := by decide +kernel
theorem dL_law_308 : decode cL_law 308 = .ok (.iconst 1, 1) := by decide +kernel
theorem dL_law_309 : decode cL_law 309 = .ok (.iadd, 1) := by decide +kernel
theorem dL_law_310 : decode cL_law 310 = .ok (.iaload, 1) := by decide +kernel
theorem dL_law_311 : decode cL_law 311 = .ok (.aload_n 0, 1) := by decide +kernel
theorem dL_law_312 : decode cL_law 312 = .ok (.iload_n 3, 1) := by decide +kernel
theorem dL_law_313 : decode cL_law 313 = .ok (.iconst 2, 1) := by decide +kernel
theorem dL_law_314 : decode cL_law 314 = .ok (.iadd, 1) := by decide +kernel
theorem dL_law_315 : decode cL_law 315 = .ok (.iaload, 1) := by decide +kernel
theorem dL_law_316 : decode cL_law 316 = .ok (.invokevirtual 37, 3) := by decide +kernel
theorem dL_law_319 : decode cL_law 319 = .ok (.aload_n 2, 1) := by decide +kernel
theorem dL_law_320 : decode cL_law 320 = .ok (.aload_n 0, 1) := by decide +kernel
theorem dL_law_321 : decode cL_law 321 = .ok (.iload_n 3, 1) := by decide +kernel
theorem dL_law_322 : decode cL_law 322 = .ok (.iconst 1, 1) := by decide +kernel
theorem dL_law_323 : decode cL_law 323 = .ok (.iadd, 1) := by decide +kernel
theorem dL_law_324 : decode cL_law 324 = .ok (.iaload, 1) := by decide +kernel
theorem dL_law_325 : decode cL_law 325 = .ok (.aload_n 0, 1) := by decide +kernel
theorem dL_law_326 : decode cL_law 326 = .ok (.iload_n 3, 1) := by decide +kernel
theorem dL_law_327 : decode cL_law 327 = .ok (.iconst 2, 1) := by decide +kernel
theorem dL_law_328 : decode cL_law 328 = .ok (.iadd, 1) := by decide +kernel
theorem dL_law_329 : decode cL_law 329 = .ok (.iaload, 1) := by decide +kernel
theorem dL_law_330 : decode cL_law 330 = .ok (.invokevirtual 40, 3) := by decide +kernel
theorem dL_law_333 : decode cL_law 333 = .ok (.if_icmp .eq 491, 3) := by decide +kernel
theorem dL_law_336 : decode cL_law 336 = .ok (.iconst 0, 1) := by decide +kernel
theorem dL_law_337 : decode cL_law 337 = .ok (.ireturn, 1) := by decide +kernel
theorem dL_law_338 : decode cL_law 338 = .ok (.aload_n 1, 1) := by decide +kernel
theorem dL_law_339 : decode cL_law 339 = .ok (.aload_n 0, 1) := by decide +kernel
theorem dL_law_340 : decode cL_law 340 = .ok (.iload_n 3, 1) := by decide +kernel
theorem dL_law_341 : decode cL_law 341 = .ok (.iconst 1, 1) := by decide +kernel
theorem dL_law_342 : decode cL_law 342 = .ok (.iadd, 1) := by decide +kernel
theorem dL_law_343 : decode cL_law 343 = .ok (.iaload, 1) := by decide +kernel
theorem dL_law_344 : decode cL_law 344 = .ok (.invokevirtual 41, 3) := by decide +kernel
theorem dL_law_347 : decode cL_law 347 = .ok (.aload_n 2, 1) := by decide +kernel
theorem dL_law_348 : decode cL_law 348 = .ok (.aload_n 0, 1) := by decide +kernel
theorem dL_law_349 : decode cL_law 349 = .ok (.iload_n 3, 1) := by decide +kernel
theorem dL_law_350 : decode cL_law 350 = .ok (.iconst 1, 1) := by decide +kernel
theorem dL_law_351 : decode cL_law 351 = .ok (.iadd, 1) := by decide +kernel
theorem dL_law_352 : decode cL_law 352 = .ok (.iaload, 1) := by decide +kernel
theorem dL_law_353 : decode cL_law 353 = .ok (.invokevirtual 44, 3) := by decide +kernel
theorem dL_law_356 : decode cL_law 356 = .ok (.if_icmp .eq 468, 3) := by decide +kernel
theorem dL_law_359 : decode cL_law 359 = .ok (.iconst 0, 1) := by decide +kernel
theorem dL_law_360 : decode cL_law 360 = .ok (.ireturn, 1) := by decide +kernel
theorem dL_law_361 : decode cL_law 361 = .ok (.aload_n 1, 1) := by decide +kernel
theorem dL_law_362 : decode cL_law 362 = .ok (.invokevirtual 45, 3) := by decide +kernel
theorem dL_law_365 : decode cL_law 365 = .ok (.aload_n 2, 1) := by decide +kernel
theorem dL_law_366 : decode cL_law 366 = .ok (.invokevirtual 48, 3) := by decide +kernel
theorem dL_law_369 : decode cL_law 369 = .ok (.if_icmp .eq 455, 3) := by decide +kernel
theorem dL_law_372 : decode cL_law 372 = .ok (.iconst 0, 1) := by decide +kernel
theorem dL_law_373 : decode cL_law 373 = .ok (.ireturn, 1) := by decide +kernel
theorem dL_law_374 : decode cL_law 374 = .ok (.aload_n 1, 1) := by decide +kernel
theorem dL_law_375 : decode cL_law 375 = .ok (.aload_n 0, 1) := by decide +kernel
theorem dL_law_376 : decode cL_law 376 = .ok (.iload_n 3, 1) := by decide +kernel
theorem dL_law_377 : decode cL_law 377 = .ok (.iconst 1, 1) := by decide +kernel
theorem dL_law_378 : decode cL_law 378 = .ok (.iadd, 1) := by decide +kernel
theorem dL_law_379 : decode cL_law 379 = .ok (.iaload, 1) := by decide +kernel
theorem dL_law_380 : decode cL_law 380 = .ok (.invokevirtual 49, 3) := by decide +kernel
theorem dL_law_383 : decode cL_law 383 = .ok (.aload_n 2, 1) := by decide +kernel
theorem dL_law_384 : decode cL_law 384 = .ok (.aload_n 0, 1) := by decide +kernel
theorem dL_law_385 : decode cL_law 385 = .ok (.iload_n 3, 1) := by decide +kernel
theorem dL_law_386 : decode cL_law 386 = .ok (.iconst 1, 1) := by decide +kernel
theorem dL_law_387 : decode cL_law 387 = .ok (.iadd, 1) := by decide +kernel
theorem dL_law_388 : decode cL_law 388 = .ok (.iaload, 1) := by decide +kernel
theorem dL_law_389 : decode cL_law 389 = .ok (.invokevirtual 52, 3) := by decide +kernel
theorem dL_law_392 : decode cL_law 392 = .ok (.if_icmp .eq 432, 3) := by decide +kernel
theorem dL_law_395 : decode cL_law 395 = .ok (.iconst 0, 1) := by decide +kernel
theorem dL_law_396 : decode cL_law 396 = .ok (.ireturn, 1) := by decide +kernel
theorem dL_law_397 : decode cL_law 397 = .ok (.aload_n 1, 1) := by decide +kernel
theorem dL_law_398 : decode cL_law 398 = .ok (.aload_n 0, 1) := by decide +kernel
theorem dL_law_399 : decode cL_law 399 = .ok (.iload_n 3, 1) := by decide +kernel
theorem dL_law_400 : decode cL_law 400 = .ok (.iconst 1, 1) := by decide +kernel
theorem dL_law_401 : decode cL_law 401 = .ok (.iadd, 1) := by decide +kernel
theorem dL_law_402 : decode cL_law 402 = .ok (.iaload, 1) := by decide +kernel
theorem dL_law_403 : decode cL_law 403 = .ok (.invokevirtual 53, 3) := by decide +kernel
theorem dL_law_406 : decode cL_law 406 = .ok (.aload_n 2, 1) := by decide +kernel
theorem dL_law_407 : decode cL_law 407 = .ok (.aload_n 0, 1) := by decide +kernel
theorem dL_law_408 : decode cL_law 408 = .ok (.iload_n 3, 1) := by decide +kernel
theorem dL_law_409 : decode cL_law 409 = .ok (.iconst 1, 1) := by decide +kernel
theorem dL_law_410 : decode cL_law 410 = .ok (.iadd, 1) := by decide +kernel
theorem dL_law_411 : decode cL_law 411 = .ok (.iaload, 1) := by decide +kernel
theorem dL_law_412 : decode cL_law 412 = .ok (.invokevirtual 56, 3) := by decide +kernel
theorem dL_law_415 : decode cL_law 415 = .ok (.if_icmp .eq 409, 3) := by decide +kernel
theorem dL_law_418 : decode cL_law 418 = .ok (.iconst 0, 1) := by decide +kernel
theorem dL_law_419 : decode cL_law 419 = .ok (.ireturn, 1) := by decide +kernel
theorem dL_law_420 : decode cL_law 420 = .ok (.aload_n 1, 1) := by decide +kernel
theorem dL_law_421 : decode cL_law 421 = .ok (.aload_n 0, 1) := by decide +kernel
theorem dL_law_422 : decode cL_law 422 = .ok (.iload_n 3, 1) := by decide +kernel
theorem dL_law_423 : decode cL_law 423 = .ok (.iconst 1, 1) := by decide +kernel
theorem dL_law_424 : decode cL_law 424 = .ok (.iadd, 1) := by decide +kernel
theorem dL_law_425 : decode cL_law 425 = .ok (.iaload, 1) := by decide +kernel
theorem dL_law_426 : decode cL_law 426 = .ok (.invokevirtual 57, 3) := by decide +kernel
theorem dL_law_429 : decode cL_law 429 = .ok (.aload_n 2, 1) := by decide +kernel
theorem dL_law_430 : decode cL_law 430 = .ok (.aload_n 0, 1) := by decide +kernel
theorem dL_law_431 : decode cL_law 431 = .ok (.iload_n 3, 1) := by decide +kernel
theorem dL_law_432 : decode cL_law 432 = .ok (.iconst 1, 1) := by decide +kernel
theorem dL_law_433 : decode cL_law 433 = .ok (.iadd, 1) := by decide +kernel
theorem dL_law_434 : decode cL_law 434 = .ok (.iaload, 1) := by decide +kernel
theorem dL_law_435 : decode cL_law 435 = .ok (.invokevirtual 60, 3) := by decide +kernel
theorem dL_law_438 : decode cL_law 438 = .ok (.if_icmp .eq 386, 3) := by decide +kernel
theorem dL_law_441 : decode cL_law 441 = .ok (.iconst 0, 1) := by decide +kernel
theorem dL_law_442 : decode cL_law 442 = .ok (.ireturn, 1) := by decide +kernel
theorem dL_law_443 : decode cL_law 443 = .ok (.aload_n 1, 1) := by decide +kernel
theorem dL_law_444 : decode cL_law 444 = .ok (.aload_n 0, 1) := by decide +kernel
theorem dL_law_445 : decode cL_law 445 = .ok (.iload_n 3, 1) := by decide +kernel
theorem dL_law_446 : decode cL_law 446 = .ok (.iconst 1, 1) := by decide +kernel
theorem dL_law_447 : decode cL_law 447 = .ok (.iadd, 1) := by decide +kernel
theorem dL_law_448 : decode cL_law 448 = .ok (.iaload, 1) := by decide +kernel
theorem dL_law_449 : decode cL_law 449 = .ok (.aload_n 0, 1) := by decide +kernel
theorem dL_law_450 : decode cL_law 450 = .ok (.iload_n 3, 1) := by decide +kernel
theorem dL_law_451 : decode cL_law 451 = .ok (.iconst 2, 1) := by decide +kernel
theorem dL_law_452 : decode cL_law 452 = .ok (.iadd, 1) := by decide +kernel
theorem dL_law_453 : decode cL_law 453 = .ok (.iaload, 1) := by decide +kernel
theorem dL_law_454 : decode cL_law 454 = .ok (.invokevirtual 61, 3) := by decide +kernel
theorem dL_law_457 : decode cL_law 457 = .ok (.aload_n 2, 1) := by decide +kernel
theorem dL_law_458 : decode cL_law 458 = .ok (.aload_n 0, 1) := by decide +kernel
theorem dL_law_459 : decode cL_law 459 = .ok (.iload_n 3, 1) := by decide +kernel
theorem dL_law_460 : decode cL_law 460 = .ok (.iconst 1, 1) := by decide +kernel
theorem dL_law_461 : decode cL_law 461 = .ok (.iadd, 1) := by decide +kernel
theorem dL_law_462 : decode cL_law 462 = .ok (.iaload, 1) := by decide +kernel
theorem dL_law_463 : decode cL_law 463 = .ok (.aload_n 0, 1) := by decide +kernel
theorem dL_law_464 : decode cL_law 464 = .ok (.iload_n 3, 1) := by decide +kernel
theorem dL_law_465 : decode cL_law 465 = .ok (.iconst 2, 1) := by decide +kernel
theorem dL_law_466 : decode cL_law 466 = .ok (.iadd, 1) := by decide +kernel
theorem dL_law_467 : decode cL_law 467 = .ok (.iaload, 1) := by decide +kernel
theorem dL_law_468 : decode cL_law 468 = .ok (.invokevirtual 64, 3) := by decide +kernel
theorem dL_law_471 : decode cL_law 471 = .ok (.if_icmp .eq 353, 3) := by decide +kernel
theorem dL_law_474 : decode cL_law 474 = .ok (.iconst 0, 1) := by decide +kernel
theorem dL_law_475 : decode cL_law 475 = .ok (.ireturn, 1) := by decide +kernel
theorem dL_law_476 : decode cL_law 476 = .ok (.aload_n 1, 1) := by decide +kernel
theorem dL_law_477 : decode cL_law 477 = .ok (.aload_n 0, 1) := by decide +kernel
theorem dL_law_478 : decode cL_law 478 = .ok (.iload_n 3, 1) := by decide +kernel
theorem dL_law_479 : decode cL_law 479 = .ok (.iconst 1, 1) := by decide +kernel
theorem dL_law_480 : decode cL_law 480 = .ok (.iadd, 1) := by decide +kernel
theorem dL_law_481 : decode cL_law 481 = .ok (.iaload, 1) := by decide +kernel
theorem dL_law_482 : decode cL_law 482 = .ok (.invokevirtual 65, 3) := by decide +kernel
theorem dL_law_485 : decode cL_law 485 = .ok (.aload_n 2, 1) := by decide +kernel
theorem dL_law_486 : decode cL_law 486 = .ok (.aload_n 0, 1) := by decide +kernel
theorem dL_law_487 : decode cL_law 487 = .ok (.iload_n 3, 1) := by decide +kernel
theorem dL_law_488 : decode cL_law 488 = .ok (.iconst 1, 1) := by decide +kernel
theorem dL_law_489 : decode cL_law 489 = .ok (.iadd, 1) := by decide +kernel
theorem dL_law_490 : decode cL_law 490 = .ok (.iaload, 1) := by decide +kernel
theorem dL_law_491 : decode cL_law 491 = .ok (.invokevirtual 68, 3) := by decide +kernel
theorem dL_law_494 : decode cL_law 494 = .ok (.if_icmp .eq 330, 3) := by decide +kernel
theorem dL_law_497 : decode cL_law 497 = .ok (.iconst 0, 1) := by decide +kernel
theorem dL_law_498 : decode cL_law 498 = .ok (.ireturn, 1) := by decide +kernel
theorem dL_law_499 : decode cL_law 499 = .ok (.aload_n 1, 1) := by decide +kernel
theorem dL_law_500 : decode cL_law 500 = .ok (.aload_n 0, 1) := by decide +kernel
theorem dL_law_501 : decode cL_law 501 = .ok (.iload_n 3, 1) := by decide +kernel
theorem dL_law_502 : decode cL_law 502 = .ok (.iconst 1, 1) := by decide +kernel
theorem dL_law_503 : decode cL_law 503 = .ok (.iadd, 1) := by decide +kernel
theorem dL_law_504 : decode cL_law 504 = .ok (.iaload, 1) := by decide +kernel
theorem dL_law_505 : decode cL_law 505 = .ok (.invokevirtual 69, 3) := by decide +kernel
theorem dL_law_508 : decode cL_law 508 = .ok (.aload_n 2, 1) := by decide +kernel
theorem dL_law_509 : decode cL_law 509 = .ok (.aload_n 0, 1) := by decide +kernel
theorem dL_law_510 : decode cL_law 510 = .ok (.iload_n 3, 1) := by decide +kernel
theorem dL_law_511 : decode cL_law 511 = .ok (.iconst 1, 1) := by decide +kernel
theorem dL_law_512 : decode cL_law 512 = .ok (.iadd, 1) := by decide +kernel
theorem dL_law_513 : decode cL_law 513 = .ok (.iaload, 1) := by decide +kernel
theorem dL_law_514 : decode cL_law 514 = .ok (.invokevirtual 72, 3) := by decide +kernel
theorem dL_law_517 : decode cL_law 517 = .ok (.if_icmp .eq 307, 3) := by decide +kernel
theorem dL_law_520 : decode cL_law 520 = .ok (.iconst 0, 1) := by decide +kernel
theorem dL_law_521 : decode cL_law 521 = .ok (.ireturn, 1) := by decide +kernel
theorem dL_law_522 : decode cL_law 522 = .ok (.aload_n 1, 1) := by decide +kernel
theorem dL_law_523 : decode cL_law 523 = .ok (.invokevirtual 73, 3) := by decide +kernel
theorem dL_law_526 : decode cL_law 526 = .ok (.aload_n 2, 1) := by decide +kernel
theorem dL_law_527 : decode cL_law 527 = .ok (.invokevirtual 76, 3) := by decide +kernel
theorem dL_law_530 : decode cL_law 530 = .ok (.if_icmp .eq 294, 3) := by decide +kernel
theorem dL_law_533 : decode cL_law 533 = .ok (.iconst 0, 1) := by decide +kernel
theorem dL_law_534 : decode cL_law 534 = .ok (.ireturn, 1) := by decide +kernel
theorem dL_law_535 : decode cL_law 535 = .ok (.aload_n 1, 1) := by decide +kernel
theorem dL_law_536 : decode cL_law 536 = .ok (.aload_n 0, 1) := by decide +kernel
theorem dL_law_537 : decode cL_law 537 = .ok (.iload_n 3, 1) := by decide +kernel
theorem dL_law_538 : decode cL_law 538 = .ok (.iconst 1, 1) := by decide +kernel
theorem dL_law_539 : decode cL_law 539 = .ok (.iadd, 1) := by decide +kernel
theorem dL_law_540 : decode cL_law 540 = .ok (.iaload, 1) := by decide +kernel
theorem dL_law_541 : decode cL_law 541 = .ok (.invokevirtual 77, 3) := by decide +kernel
theorem dL_law_544 : decode cL_law 544 = .ok (.aload_n 2, 1) := by decide +kernel
theorem dL_law_545 : decode cL_law 545 = .ok (.aload_n 0, 1) := by decide +kernel
theorem dL_law_546 : decode cL_law 546 = .ok (.iload_n 3, 1) := by decide +kernel
theorem dL_law_547 : decode cL_law 547 = .ok (.iconst 1, 1) := by decide +kernel
theorem dL_law_548 : decode cL_law 548 = .ok (.iadd, 1) := by decide +kernel
theorem dL_law_549 : decode cL_law 549 = .ok (.iaload, 1) := by decide +kernel
theorem dL_law_550 : decode cL_law 550 = .ok (.invokevirtual 80, 3) := by decide +kernel
theorem dL_law_553 : decode cL_law 553 = .ok (.if_icmp .eq 271, 3) := by decide +kernel
theorem dL_law_556 : decode cL_law 556 = .ok (.iconst 0, 1) := by decide +kernel
theorem dL_law_557 : decode cL_law 557 = .ok (.ireturn, 1) := by decide +kernel
theorem dL_law_558 : decode cL_law 558 = .ok (.aload_n 1, 1) := by decide +kernel
theorem dL_law_559 : decode cL_law 559 = .ok (.aload_n 0, 1) := by decide +kernel
theorem dL_law_560 : decode cL_law 560 = .ok (.iload_n 3, 1) := by decide +kernel
theorem dL_law_561 : decode cL_law 561 = .ok (.iconst 1, 1) := by decide +kernel
theorem dL_law_562 : decode cL_law 562 = .ok (.iadd, 1) := by decide +kernel
theorem dL_law_563 : decode cL_law 563 = .ok (.iaload, 1) := by decide +kernel
theorem dL_law_564 : decode cL_law 564 = .ok (.invokevirtual 81, 3) := by decide +kernel
theorem dL_law_567 : decode cL_law 567 = .ok (.aload_n 2, 1) := by decide +kernel
theorem dL_law_568 : decode cL_law 568 = .ok (.aload_n 0, 1) := by decide +kernel
theorem dL_law_569 : decode cL_law 569 = .ok (.iload_n 3, 1) := by decide +kernel
theorem dL_law_570 : decode cL_law 570 = .ok (.iconst 1, 1) := by decide +kernel
theorem dL_law_571 : decode cL_law 571 = .ok (.iadd, 1) := by decide +kernel
theorem dL_law_572 : decode cL_law 572 = .ok (.iaload, 1) := by decide +kernel
theorem dL_law_573 : decode cL_law 573 = .ok (.invokevirtual 84, 3) := by decide +kernel
theorem dL_law_576 : decode cL_law 576 = .ok (.if_icmp .eq 248, 3) := by decide +kernel
theorem dL_law_579 : decode cL_law 579 = .ok (.iconst 0, 1) := by decide +kernel
theorem dL_law_580 : decode cL_law 580 = .ok (.ireturn, 1) := by decide +kernel
theorem dL_law_581 : decode cL_law 581 = .ok (.aload_n 1, 1) := by decide +kernel
theorem dL_law_582 : decode cL_law 582 = .ok (.aload_n 0, 1) := by decide +kernel
theorem dL_law_583 : decode cL_law 583 = .ok (.iload_n 3, 1) := by decide +kernel
theorem dL_law_584 : decode cL_law 584 = .ok (.iconst 1, 1) := by decide +kernel
theorem dL_law_585 : decode cL_law 585 = .ok (.iadd, 1) := by decide +kernel
theorem dL_law_586 : decode cL_law 586 = .ok (.iaload, 1) := by decide +kernel
theorem dL_law_587 : decode cL_law 587 = .ok (.aload_n 0, 1) := by decide +kernel
theorem dL_law_588 : decode cL_law 588 = .ok (.iload_n 3, 1) := by decide +kernel
theorem dL_law_589 : decode cL_law 589 = .ok (.iconst 2, 1) := by decide +kernel
theorem dL_law_590 : decode cL_law 590 = .ok (.iadd, 1) := by decide +kernel
theorem dL_law_591 : decode cL_law 591 = .ok (.iaload, 1) := by decide +kernel
theorem dL_law_592 : decode cL_law 592 = .ok (.invokevirtual 85, 3) := by decide +kernel
theorem dL_law_595 : decode cL_law 595 = .ok (.aload_n 2, 1) := by decide +kernel
theorem dL_law_596 : decode cL_law 596 = .ok (.aload_n 0, 1) := by decide +kernel
theorem dL_law_597 : decode cL_law 597 = .ok (.iload_n 3, 1) := by decide +kernel
theorem dL_law_598 : decode cL_law 598 = .ok (.iconst 1, 1) := by decide +kernel
theorem dL_law_599 : decode cL_law 599 = .ok (.iadd, 1) := by decide +kernel
theorem dL_law_600 : decode cL_law 600 = .ok (.iaload, 1) := by decide +kernel
theorem dL_law_601 : decode cL_law 601 = .ok (.aload_n 0, 1) := by decide +kernel
theorem dL_law_602 : decode cL_law 602 = .ok (.iload_n 3, 1) := by decide +kernel
theorem dL_law_603 : decode cL_law 603 = .ok (.iconst 2, 1) := by decide +kernel
theorem dL_law_604 : decode cL_law 604 = .ok (.iadd, 1) := by decide +kernel
theorem dL_law_605 : decode cL_law 605 = .ok (.iaload, 1) := by decide +kernel
theorem dL_law_606 : decode cL_law 606 = .ok (.invokevirtual 88, 3) := by decide +kernel
theorem dL_law_609 : decode cL_law 609 = .ok (.if_icmp .eq 215, 3) := by decide +kernel
theorem dL_law_612 : decode cL_law 612 = .ok (.iconst 0, 1) := by decide +kernel
theorem dL_law_613 : decode cL_law 613 = .ok (.ireturn, 1) := by decide +kernel
theorem dL_law_614 : decode cL_law 614 = .ok (.aload_n 1, 1) := by decide +kernel
theorem dL_law_615 : decode cL_law 615 = .ok (.aload_n 0, 1) := by decide +kernel
theorem dL_law_616 : decode cL_law 616 = .ok (.iload_n 3, 1) := by decide +kernel
theorem dL_law_617 : decode cL_law 617 = .ok (.iconst 1, 1) := by decide +kernel
theorem dL_law_618 : decode cL_law 618 = .ok (.iadd, 1) := by decide +kernel
theorem dL_law_619 : decode cL_law 619 = .ok (.iaload, 1) := by decide +kernel
theorem dL_law_620 : decode cL_law 620 = .ok (.invokevirtual 89, 3) := by decide +kernel
theorem dL_law_623 : decode cL_law 623 = .ok (.aload_n 2, 1) := by decide +kernel
theorem dL_law_624 : decode cL_law 624 = .ok (.aload_n 0, 1) := by decide +kernel
theorem dL_law_625 : decode cL_law 625 = .ok (.iload_n 3, 1) := by decide +kernel
theorem dL_law_626 : decode cL_law 626 = .ok (.iconst 1, 1) := by decide +kernel
theorem dL_law_627 : decode cL_law 627 = .ok (.iadd, 1) := by decide +kernel
theorem dL_law_628 : decode cL_law 628 = .ok (.iaload, 1) := by decide +kernel
theorem dL_law_629 : decode cL_law 629 = .ok (.invokevirtual 92, 3) := by decide +kernel
theorem dL_law_632 : decode cL_law 632 = .ok (.if_icmp .eq 192, 3) := by decide +kernel
theorem dL_law_635 : decode cL_law 635 = .ok (.iconst 0, 1) := by decide +kernel
theorem dL_law_636 : decode cL_law 636 = .ok (.ireturn, 1) := by decide +kernel
theorem dL_law_637 : decode cL_law 637 = .ok (.aload_n 1, 1) := by decide +kernel
theorem dL_law_638 : decode cL_law 638 = .ok (.aload_n 0, 1) := by decide +kernel
theorem dL_law_639 : decode cL_law 639 = .ok (.iload_n 3, 1) := by decide +kernel
theorem dL_law_640 : decode cL_law 640 = .ok (.iconst 1, 1) := by decide +kernel
theorem dL_law_641 : decode cL_law 641 = .ok (.iadd, 1) := by decide +kernel
theorem dL_law_642 : decode cL_law 642 = .ok (.iaload, 1) := by decide +kernel
theorem dL_law_643 : decode cL_law 643 = .ok (.invokevirtual 93, 3) := by decide +kernel
theorem dL_law_646 : decode cL_law 646 = .ok (.aload_n 2, 1) := by decide +kernel
theorem dL_law_647 : decode cL_law 647 = .ok (.aload_n 0, 1) := by decide +kernel
theorem dL_law_648 : decode cL_law 648 = .ok (.iload_n 3, 1) := by decide +kernel
theorem dL_law_649 : decode cL_law 649 = .ok (.iconst 1, 1) := by decide +kernel
theorem dL_law_650 : decode cL_law 650 = .ok (.iadd, 1) := by decide +kernel
theorem dL_law_651 : decode cL_law 651 = .ok (.iaload, 1) := by decide +kernel
theorem dL_law_652 : decode cL_law 652 = .ok (.invokevirtual 96, 3) := by decide +kernel
theorem dL_law_655 : decode cL_law 655 = .ok (.if_icmp .eq 169, 3) := by decide +kernel
theorem dL_law_658 : decode cL_law 658 = .ok (.iconst 0, 1) := by decide +kernel
theorem dL_law_659 : decode cL_law 659 = .ok (.ireturn, 1) := by decide +kernel
theorem dL_law_660 : decode cL_law 660 = .ok (.aload_n 1, 1) := by decide +kernel
theorem dL_law_661 : decode cL_law 661 = .ok (.invokevirtual 97, 3) := by decide +kernel
theorem dL_law_664 : decode cL_law 664 = .ok (.aload_n 2, 1) := by decide +kernel
theorem dL_law_665 : decode cL_law 665 = .ok (.invokevirtual 100, 3) := by decide +kernel
theorem dL_law_668 : decode cL_law 668 = .ok (.if_icmp .eq 156, 3) := by decide +kernel
theorem dL_law_671 : decode cL_law 671 = .ok (.iconst 0, 1) := by decide +kernel
theorem dL_law_672 : decode cL_law 672 = .ok (.ireturn, 1) := by decide +kernel
theorem dL_law_673 : decode cL_law 673 = .ok (.aload_n 1, 1) := by decide +kernel
theorem dL_law_674 : decode cL_law 674 = .ok (.aload_n 0, 1) := by decide +kernel
theorem dL_law_675 : decode cL_law 675 = .ok (.iload_n 3, 1) := by decide +kernel
theorem dL_law_676 : decode cL_law 676 = .ok (.iconst 1, 1) := by decide +kernel
theorem dL_law_677 : decode cL_law 677 = .ok (.iadd, 1) := by decide +kernel
theorem dL_law_678 : decode cL_law 678 = .ok (.iaload, 1) := by decide +kernel
theorem dL_law_679 : decode cL_law 679 = .ok (.invokevirtual 101, 3) := by decide +kernel
theorem dL_law_682 : decode cL_law 682 = .ok (.aload_n 2, 1) := by decide +kernel
theorem dL_law_683 : decode cL_law 683 = .ok (.aload_n 0, 1) := by decide +kernel
theorem dL_law_684 : decode cL_law 684 = .ok (.iload_n 3, 1) := by decide +kernel
theorem dL_law_685 : decode cL_law 685 = .ok (.iconst 1, 1) := by decide +kernel
theorem dL_law_686 : decode cL_law 686 = .ok (.iadd, 1) := by decide +kernel
theorem dL_law_687 : decode cL_law 687 = .ok (.iaload, 1) := by decide +kernel
theorem dL_law_688 : decode cL_law 688 = .ok (.invokevirtual 104, 3) := by decide +kernel
theorem dL_law_691 : decode cL_law 691 = .ok (.if_icmp .eq 133, 3) := by decide +kernel
theorem dL_law_694 : decode cL_law 694 = .ok (.iconst 0, 1) := by decide +kernel
theorem dL_law_695 : decode cL_law 695 = .ok (.ireturn, 1) := by decide +kernel
theorem dL_law_696 : decode cL_law 696 = .ok (.aload_n 1, 1) := by decide +kernel
theorem dL_law_697 : decode cL_law 697 = .ok (.invokevirtual 105, 3) := by decide +kernel
theorem dL_law_700 : decode cL_law 700 = .ok (.aload_n 2, 1) := by decide +kernel
theorem dL_law_701 : decode cL_law 701 = .ok (.invokevirtual 108, 3) := by decide +kernel
theorem dL_law_704 : decode cL_law 704 = .ok (.if_icmp .eq 120, 3) := by decide +kernel
theorem dL_law_707 : decode cL_law 707 = .ok (.iconst 0, 1) := by decide +kernel
theorem dL_law_708 : decode cL_law 708 = .ok (.ireturn, 1) := by decide +kernel
theorem dL_law_709 : decode cL_law 709 = .ok (.aload_n 1, 1) := by decide +kernel
theorem dL_law_710 : decode cL_law 710 = .ok (.aload_n 0, 1) := by decide +kernel
theorem dL_law_711 : decode cL_law 711 = .ok (.iload_n 3, 1) := by decide +kernel
theorem dL_law_712 : decode cL_law 712 = .ok (.iconst 1, 1) := by decide +kernel
theorem dL_law_713 : decode cL_law 713 = .ok (.iadd, 1) := by decide +kernel
theorem dL_law_714 : decode cL_law 714 = .ok (.iaload, 1) := by decide +kernel
theorem dL_law_715 : decode cL_law 715 = .ok (.invokevirtual 109, 3) := by decide +kernel
theorem dL_law_718 : decode cL_law 718 = .ok (.aload_n 2, 1) := by decide +kernel
theorem dL_law_719 : decode cL_law 719 = .ok (.aload_n 0, 1) := by decide +kernel
theorem dL_law_720 : decode cL_law 720 = .ok (.iload_n 3, 1) := by decide +kernel
theorem dL_law_721 : decode cL_law 721 = .ok (.iconst 1, 1) := by decide +kernel
theorem dL_law_722 : decode cL_law 722 = .ok (.iadd, 1) := by decide +kernel
theorem dL_law_723 : decode cL_law 723 = .ok (.iaload, 1) := by decide +kernel
theorem dL_law_724 : decode cL_law 724 = .ok (.invokevirtual 112, 3) := by decide +kernel
theorem dL_law_727 : decode cL_law 727 = .ok (.if_icmp .eq 97, 3) := by decide +kernel
theorem dL_law_730 : decode cL_law 730 = .ok (.iconst 0, 1) := by decide +kernel
theorem dL_law_731 : decode cL_law 731 = .ok (.ireturn, 1) := by decide +kernel
theorem dL_law_732 : decode cL_law 732 = .ok (.aload_n 1, 1) := by decide +kernel
theorem dL_law_733 : decode cL_law 733 = .ok (.aload_n 0, 1) := by decide +kernel
theorem dL_law_734 : decode cL_law 734 = .ok (.iload_n 3, 1) := by decide +kernel
theorem dL_law_735 : decode cL_law 735 = .ok (.iconst 1, 1) := by decide +kernel
theorem dL_law_736 : decode cL_law 736 = .ok (.iadd, 1) := by decide +kernel
theorem dL_law_737 : decode cL_law 737 = .ok (.iaload, 1) := by decide +kernel
theorem dL_law_738 : decode cL_law 738 = .ok (.aload_n 0, 1) := by decide +kernel
theorem dL_law_739 : decode cL_law 739 = .ok (.iload_n 3, 1) := by decide +kernel
theorem dL_law_740 : decode cL_law 740 = .ok (.iconst 2, 1) := by decide +kernel
theorem dL_law_741 : decode cL_law 741 = .ok (.iadd, 1) := by decide +kernel
theorem dL_law_742 : decode cL_law 742 = .ok (.iaload, 1) := by decide +kernel
theorem dL_law_743 : decode cL_law 743 = .ok (.aload_n 0, 1) := by decide +kernel
theorem dL_law_744 : decode cL_law 744 = .ok (.iload_n 3, 1) := by decide +kernel
theorem dL_law_745 : decode cL_law 745 = .ok (.iconst 3, 1) := by decide +kernel
theorem dL_law_746 : decode cL_law 746 = .ok (.iadd, 1) := by decide +kernel
theorem dL_law_747 : decode cL_law 747 = .ok (.iaload, 1) := by decide +kernel
theorem dL_law_748 : decode cL_law 748 = .ok (.invokevirtual 113, 3) := by decide +kernel
theorem dL_law_751 : decode cL_law 751 = .ok (.aload_n 2, 1) := by decide +kernel
theorem dL_law_752 : decode cL_law 752 = .ok (.aload_n 0, 1) := by decide +kernel
theorem dL_law_753 : decode cL_law 753 = .ok (.iload_n 3, 1) := by decide +kernel
theorem dL_law_754 : decode cL_law 754 = .ok (.iconst 1, 1) := by decide +kernel
theorem dL_law_755 : decode cL_law 755 = .ok (.iadd, 1) := by decide +kernel
theorem dL_law_756 : decode cL_law 756 = .ok (.iaload, 1) := by decide +kernel
theorem dL_law_757 : decode cL_law 757 = .ok (.aload_n 0, 1) := by decide +kernel
theorem dL_law_758 : decode cL_law 758 = .ok (.iload_n 3, 1) := by decide +kernel
theorem dL_law_759 : decode cL_law 759 = .ok (.iconst 2, 1) := by decide +kernel
theorem dL_law_760 : decode cL_law 760 = .ok (.iadd, 1) := by decide +kernel
theorem dL_law_761 : decode cL_law 761 = .ok (.iaload, 1) := by decide +kernel
theorem dL_law_762 : decode cL_law 762 = .ok (.aload_n 0, 1) := by decide +kernel
theorem dL_law_763 : decode cL_law 763 = .ok (.iload_n 3, 1) := by decide +kernel
theorem dL_law_764 : decode cL_law 764 = .ok (.iconst 3, 1) := by decide +kernel
theorem dL_law_765 : decode cL_law 765 = .ok (.iadd, 1) := by decide +kernel
theorem dL_law_766 : decode cL_law 766 = .ok (.iaload, 1) := by decide +kernel
theorem dL_law_767 : decode cL_law 767 = .ok (.invokevirtual 116, 3) := by decide +kernel
theorem dL_law_770 : decode cL_law 770 = .ok (.if_icmp .eq 54, 3) := by decide +kernel
theorem dL_law_773 : decode cL_law 773 = .ok (.iconst 0, 1) := by decide +kernel
theorem dL_law_774 : decode cL_law 774 = .ok (.ireturn, 1) := by decide +kernel
theorem dL_law_775 : decode cL_law 775 = .ok (.aload_n 1, 1) := by decide +kernel
theorem dL_law_776 : decode cL_law 776 = .ok (.invokevirtual 117, 3) := by decide +kernel
theorem dL_law_779 : decode cL_law 779 = .ok (.aload_n 2, 1) := by decide +kernel
theorem dL_law_780 : decode cL_law 780 = .ok (.invokevirtual 120, 3) := by decide +kernel
theorem dL_law_783 : decode cL_law 783 = .ok (.if_icmp .eq 41, 3) := by decide +kernel
theorem dL_law_786 : decode cL_law 786 = .ok (.iconst 0, 1) := by decide +kernel
theorem dL_law_787 : decode cL_law 787 = .ok (.ireturn, 1) := by decide +kernel
theorem dL_law_788 : decode cL_law 788 = .ok (.aload_n 1, 1) := by decide +kernel
theorem dL_law_789 : decode cL_law 789 = .ok (.invokevirtual 121, 3) := by decide +kernel
theorem dL_law_792 : decode cL_law 792 = .ok (.aload_n 2, 1) := by decide +kernel
theorem dL_law_793 : decode cL_law 793 = .ok (.invokevirtual 124, 3) := by decide +kernel
theorem dL_law_796 : decode cL_law 796 = .ok (.if_icmp .eq 28, 3) := by decide +kernel
theorem dL_law_799 : decode cL_law 799 = .ok (.iconst 0, 1) := by decide +kernel
theorem dL_law_800 : decode cL_law 800 = .ok (.ireturn, 1) := by decide +kernel
theorem dL_law_801 : decode cL_law 801 = .ok (.aload_n 1, 1) := by decide +kernel
theorem dL_law_802 : decode cL_law 802 = .ok (.aload_n 0, 1) := by decide +kernel
theorem dL_law_803 : decode cL_law 803 = .ok (.iload_n 3, 1) := by decide +kernel
theorem dL_law_804 : decode cL_law 804 = .ok (.iconst 1, 1) := by decide +kernel
theorem dL_law_805 : decode cL_law 805 = .ok (.iadd, 1) := by decide +kernel
theorem dL_law_806 : decode cL_law 806 = .ok (.iaload, 1) := by decide +kernel
theorem dL_law_807 : decode cL_law 807 = .ok (.invokevirtual 125, 3) := by decide +kernel
theorem dL_law_810 : decode cL_law 810 = .ok (.aload_n 2, 1) := by decide +kernel
theorem dL_law_811 : decode cL_law 811 = .ok (.aload_n 0, 1) := by decide +kernel
theorem dL_law_812 : decode cL_law 812 = .ok (.iload_n 3, 1) := by decide +kernel
theorem dL_law_813 : decode cL_law 813 = .ok (.iconst 1, 1) := by decide +kernel
theorem dL_law_814 : decode cL_law 814 = .ok (.iadd, 1) := by decide +kernel
theorem dL_law_815 : decode cL_law 815 = .ok (.iaload, 1) := by decide +kernel
theorem dL_law_816 : decode cL_law 816 = .ok (.invokevirtual 128, 3) := by decide +kernel
theorem dL_law_819 : decode cL_law 819 = .ok (.if_icmp .eq 5, 3) := by decide +kernel
theorem dL_law_822 : decode cL_law 822 = .ok (.iconst 0, 1) := by decide +kernel
theorem dL_law_823 : decode cL_law 823 = .ok (.ireturn, 1) := by decide +kernel
theorem dL_law_824 : decode cL_law 824 = .ok (.iinc 3 4, 3) := by decide +kernel
theorem dL_law_827 : decode cL_law 827 = .ok (.goto (-809), 3) := by decide +kernel
theorem dL_law_830 : decode cL_law 830 = .ok (.iconst 1, 1) := by decide +kernel
theorem dL_law_831 : decode cL_law 831 = .ok (.ireturn, 1) := by decide +kernel
