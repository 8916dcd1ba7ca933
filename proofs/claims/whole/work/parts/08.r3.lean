theorem dR_actsRow_0 : decode bR_actsRow 0 = .ok (.iconst 0, 1) := by decide +kernel
theorem dR_actsRow_1 : decode bR_actsRow 1 = .ok (.istore_n 3, 1) := by decide +kernel
theorem dR_actsRow_2 : decode bR_actsRow 2 = .ok (.iload_n 3, 1) := by decide +kernel
theorem dR_actsRow_3 : decode bR_actsRow 3 = .ok (.iload_n 2, 1) := by decide +kernel
theorem dR_actsRow_4 : decode bR_actsRow 4 = .ok (.if_icmp .ge 22, 3) := by decide +kernel
theorem dR_actsRow_7 : decode bR_actsRow 7 = .ok (.aload_n 0, 1) := by decide +kernel
theorem dR_actsRow_8 : decode bR_actsRow 8 = .ok (.getfield 19, 3) := by decide +kernel
theorem dR_actsRow_11 : decode bR_actsRow 11 = .ok (.iload_n 3, 1) := by decide +kernel
theorem dR_actsRow_12 : decode bR_actsRow 12 = .ok (.aload_n 0, 1) := by decide +kernel
theorem dR_actsRow_13 : decode bR_actsRow 13 = .ok (.iload_n 1, 1) := by decide +kernel
theorem dR_actsRow_14 : decode bR_actsRow 14 = .ok (.iload_n 2, 1) := by decide +kernel
theorem dR_actsRow_15 : decode bR_actsRow 15 = .ok (.iload_n 3, 1) := by decide +kernel
theorem dR_actsRow_16 : decode bR_actsRow 16 = .ok (.invokevirtual 88, 3) := by decide +kernel
theorem dR_actsRow_19 : decode bR_actsRow 19 = .ok (.iastore, 1) := by decide +kernel
theorem dR_actsRow_20 : decode bR_actsRow 20 = .ok (.iinc 3 1, 3) := by decide +kernel
theorem dR_actsRow_23 : decode bR_actsRow 23 = .ok (.goto (-21), 3) := by decide +kernel
theorem dR_actsRow_26 : decode bR_actsRow 26 = .ok (.iconst 0, 1) := by decide +kernel
theorem dR_actsRow_27 : decode bR_actsRow 27 = .ok (.istore_n 3, 1) := by decide +kernel
theorem dR_actsRow_28 : decode bR_actsRow 28 = .ok (.iload_n 3, 1) := by decide +kernel
theorem dR_actsRow_29 : decode bR_actsRow 29 = .ok (.iload_n 2, 1) := by decide +kernel
theorem dR_actsRow_30 : decode bR_actsRow 30 = .ok (.if_icmp .ge 24, 3) := by decide +kernel
theorem dR_actsRow_33 : decode bR_actsRow 33 = .ok (.aload_n 0, 1) := by decide +kernel
theorem dR_actsRow_34 : decode bR_actsRow 34 = .ok (.aload_n 0, 1) := by decide +kernel
theorem dR_actsRow_35 : decode bR_actsRow 35 = .ok (.getfield 19, 3) := by decide +kernel
theorem dR_actsRow_38 : decode bR_actsRow 38 = .ok (.iload_n 3, 1) := by decide +kernel
theorem dR_actsRow_39 : decode bR_actsRow 39 = .ok (.iaload, 1) := by decide +kernel
theorem dR_actsRow_40 : decode bR_actsRow 40 = .ok (.invokevirtual 85, 3) := by decide +kernel
theorem dR_actsRow_43 : decode bR_actsRow 43 = .ok (.ifCond .ne 5, 3) := by decide +kernel
theorem dR_actsRow_46 : decode bR_actsRow 46 = .ok (.iconst 0, 1) := by decide +kernel
theorem dR_actsRow_47 : decode bR_actsRow 47 = .ok (.ireturn, 1) := by decide +kernel
theorem dR_actsRow_48 : decode bR_actsRow 48 = .ok (.iinc 3 1, 3) := by decide +kernel
theorem dR_actsRow_51 : decode bR_actsRow 51 = .ok (.goto (-23), 3) := by decide +kernel
theorem dR_actsRow_54 : decode bR_actsRow 54 = .ok (.iconst 1, 1) := by decide +kernel
theorem dR_actsRow_55 : decode bR_actsRow 55 = .ok (.ireturn, 1) := by decide +kernel
theorem dR_allRows_0 : decode bR_allRows 0 = .ok (.iconst 1, 1) := by decide +kernel
theorem dR_allRows_1 : decode bR_allRows 1 = .ok (.istore_n 2, 1) := by decide +kernel
theorem dR_allRows_2 : decode bR_allRows 2 = .ok (.iconst 0, 1) := by decide +kernel
theorem dR_allRows_3 : decode bR_allRows 3 = .ok (.istore_n 3, 1) := by decide +kernel
theorem dR_allRows_4 : decode bR_allRows 4 = .ok (.iload_n 3, 1) := by decide +kernel
theorem dR_allRows_5 : decode bR_allRows 5 = .ok (.iload_n 1, 1) := by decide +kernel
theorem dR_allRows_6 : decode bR_allRows 6 = .ok (.if_icmp .ge 18, 3) := by decide +kernel
theorem dR_allRows_9 : decode bR_allRows 9 = .ok (.iload_n 2, 1) := by decide +kernel
theorem dR_allRows_10 : decode bR_allRows 10 = .ok (.aload_n 0, 1) := by decide +kernel
theorem dR_allRows_11 : decode bR_allRows 11 = .ok (.getfield 7, 3) := by decide +kernel
theorem dR_allRows_14 : decode bR_allRows 14 = .ok (.iconst 1, 1) := by decide +kernel
theorem dR_allRows_15 : decode bR_allRows 15 = .ok (.iaload, 1) := by decide +kernel
theorem dR_allRows_16 : decode bR_allRows 16 = .ok (.imul, 1) := by decide +kernel
theorem dR_allRows_17 : decode bR_allRows 17 = .ok (.istore_n 2, 1) := by decide +kernel
theorem dR_allRows_18 : decode bR_allRows 18 = .ok (.iinc 3 1, 3) := by decide +kernel
theorem dR_allRows_21 : decode bR_allRows 21 = .ok (.goto (-17), 3) := by decide +kernel
theorem dR_allRows_24 : decode bR_allRows 24 = .ok (.iload_n 2, 1) := by decide +kernel
theorem dR_allRows_25 : decode bR_allRows 25 = .ok (.ireturn, 1) := by decide +kernel
theorem dR_rows_0 : decode bR_rows 0 = .ok (.iload_n 1, 1) := by decide +kernel
theorem dR_rows_1 : decode bR_rows 1 = .ok (.iconst 0, 1) := by decide +kernel
theorem dR_rows_2 : decode bR_rows 2 = .ok (.iconst 3, 1) := by decide +kernel
theorem dR_rows_3 : decode bR_rows 3 = .ok (.invokestatic 22, 3) := by decide +kernel
theorem dR_rows_6 : decode bR_rows 6 = .ok (.ifCond .ne 6, 3) := by decide +kernel
theorem dR_rows_9 : decode bR_rows 9 = .ok (.bipush (-2), 2) := by decide +kernel
theorem dR_rows_11 : decode bR_rows 11 = .ok (.ireturn, 1) := by decide +kernel
theorem dR_rows_12 : decode bR_rows 12 = .ok (.aload_n 0, 1) := by decide +kernel
theorem dR_rows_13 : decode bR_rows 13 = .ok (.iload_n 1, 1) := by decide +kernel
theorem dR_rows_14 : decode bR_rows 14 = .ok (.invokevirtual 91, 3) := by decide +kernel
theorem dR_rows_17 : decode bR_rows 17 = .ok (.istore_n 2, 1) := by decide +kernel
theorem dR_rows_18 : decode bR_rows 18 = .ok (.iconst 0, 1) := by decide +kernel
theorem dR_rows_19 : decode bR_rows 19 = .ok (.istore_n 3, 1) := by decide +kernel
theorem dR_rows_20 : decode bR_rows 20 = .ok (.aload_n 0, 1) := by decide +kernel
theorem dR_rows_21 : decode bR_rows 21 = .ok (.iconst 0, 1) := by decide +kernel
theorem dR_rows_22 : decode bR_rows 22 = .ok (.invokevirtual 94, 3) := by decide +kernel
theorem dR_rows_25 : decode bR_rows 25 = .ok (.iconst 0, 1) := by decide +kernel
theorem dR_rows_26 : decode bR_rows 26 = .ok (.istore 4, 2) := by decide +kernel
theorem dR_rows_28 : decode bR_rows 28 = .ok (.iload 4, 2) := by decide +kernel
theorem dR_rows_30 : decode bR_rows 30 = .ok (.iload_n 2, 1) := by decide +kernel
theorem dR_rows_31 : decode bR_rows 31 = .ok (.if_icmp .ge 32, 3) := by decide +kernel
theorem dR_rows_34 : decode bR_rows 34 = .ok (.iload_n 3, 1) := by decide +kernel
theorem dR_rows_35 : decode bR_rows 35 = .ok (.aload_n 0, 1) := by decide +kernel
theorem dR_rows_36 : decode bR_rows 36 = .ok (.iload 4, 2) := by decide +kernel
theorem dR_rows_38 : decode bR_rows 38 = .ok (.iload_n 1, 1) := by decide +kernel
theorem dR_rows_39 : decode bR_rows 39 = .ok (.invokevirtual 98, 3) := by decide +kernel
theorem dR_rows_42 : decode bR_rows 42 = .ok (.ifCond .eq 7, 3) := by decide +kernel
theorem dR_rows_45 : decode bR_rows 45 = .ok (.iconst 1, 1) := by decide +kernel
theorem dR_rows_46 : decode bR_rows 46 = .ok (.goto 4, 3) := by decide +kernel
theorem dR_rows_49 : decode bR_rows 49 = .ok (.iconst 0, 1) := by decide +kernel
theorem dR_rows_50 : decode bR_rows 50 = .ok (.iadd, 1) := by decide +kernel
theorem dR_rows_51 : decode bR_rows 51 = .ok (.istore_n 3, 1) := by decide +kernel
theorem dR_rows_52 : decode bR_rows 52 = .ok (.aload_n 0, 1) := by decide +kernel
theorem dR_rows_53 : decode bR_rows 53 = .ok (.iconst 0, 1) := by decide +kernel
theorem dR_rows_54 : decode bR_rows 54 = .ok (.invokevirtual 101, 3) := by decide +kernel
theorem dR_rows_57 : decode bR_rows 57 = .ok (.iinc 4 1, 3) := by decide +kernel
theorem dR_rows_60 : decode bR_rows 60 = .ok (.goto (-32), 3) := by decide +kernel
theorem dR_rows_63 : decode bR_rows 63 = .ok (.iload_n 3, 1) := by decide +kernel
theorem dR_rows_64 : decode bR_rows 64 = .ok (.ireturn, 1) := by decide +kernel
theorem dR_findSoonest_0 : decode bR_findSoonest 0 = .ok (.aload_n 0, 1) := by decide +kernel
theorem dR_findSoonest_1 : decode bR_findSoonest 1 = .ok (.iconst 0, 1) := by decide +kernel
theorem dR_findSoonest_2 : decode bR_findSoonest 2 = .ok (.invokevirtual 94, 3) := by decide +kernel
theorem dR_findSoonest_5 : decode bR_findSoonest 5 = .ok (.iconst 0, 1) := by decide +kernel
theorem dR_findSoonest_6 : decode bR_findSoonest 6 = .ok (.istore_n 3, 1) := by decide +kernel
theorem dR_findSoonest_7 : decode bR_findSoonest 7 = .ok (.iload_n 3, 1) := by decide +kernel
theorem dR_findSoonest_8 : decode bR_findSoonest 8 = .ok (.iconst 3, 1) := by decide +kernel
theorem dR_findSoonest_9 : decode bR_findSoonest 9 = .ok (.if_icmp .gt 70, 3) := by decide +kernel
theorem dR_findSoonest_12 : decode bR_findSoonest 12 = .ok (.aload_n 0, 1) := by decide +kernel
theorem dR_findSoonest_13 : decode bR_findSoonest 13 = .ok (.iload_n 3, 1) := by decide +kernel
theorem dR_findSoonest_14 : decode bR_findSoonest 14 = .ok (.invokevirtual 91, 3) := by decide +kernel
theorem dR_findSoonest_17 : decode bR_findSoonest 17 = .ok (.istore 4, 2) := by decide +kernel
theorem dR_findSoonest_19 : decode bR_findSoonest 19 = .ok (.iconst 0, 1) := by decide +kernel
theorem dR_findSoonest_20 : decode bR_findSoonest 20 = .ok (.istore 5, 2) := by decide +kernel
theorem dR_findSoonest_22 : decode bR_findSoonest 22 = .ok (.iload 5, 2) := by decide +kernel
theorem dR_findSoonest_24 : decode bR_findSoonest 24 = .ok (.iload 4, 2) := by decide +kernel
theorem dR_findSoonest_26 : decode bR_findSoonest 26 = .ok (.if_icmp .ge 47, 3) := by decide +kernel
theorem dR_findSoonest_29 : decode bR_findSoonest 29 = .ok (.aload_n 0, 1) := by decide +kernel
theorem dR_findSoonest_30 : decode bR_findSoonest 30 = .ok (.iload 5, 2) := by decide +kernel
theorem dR_findSoonest_32 : decode bR_findSoonest 32 = .ok (.iload_n 3, 1) := by decide +kernel
theorem dR_findSoonest_33 : decode bR_findSoonest 33 = .ok (.invokevirtual 98, 3) := by decide +kernel
theorem dR_findSoonest_36 : decode bR_findSoonest 36 = .ok (.ifCond .eq 16, 3) := by decide +kernel
theorem dR_findSoonest_39 : decode bR_findSoonest 39 = .ok (.aload_n 0, 1) := by decide +kernel
theorem dR_findSoonest_40 : decode bR_findSoonest 40 = .ok (.iload_n 1, 1) := by decide +kernel
theorem dR_findSoonest_41 : decode bR_findSoonest 41 = .ok (.iload_n 2, 1) := by decide +kernel
theorem dR_findSoonest_42 : decode bR_findSoonest 42 = .ok (.invokevirtual 65, 3) := by decide +kernel
theorem dR_findSoonest_45 : decode bR_findSoonest 45 = .ok (.ifCond .eq 7, 3) := by decide +kernel
theorem dR_findSoonest_48 : decode bR_findSoonest 48 = .ok (.iconst 1, 1) := by decide +kernel
theorem dR_findSoonest_49 : decode bR_findSoonest 49 = .ok (.goto 4, 3) := by decide +kernel
theorem dR_findSoonest_52 : decode bR_findSoonest 52 = .ok (.iconst 0, 1) := by decide +kernel
theorem dR_findSoonest_53 : decode bR_findSoonest 53 = .ok (.istore 6, 2) := by decide +kernel
theorem dR_findSoonest_55 : decode bR_findSoonest 55 = .ok (.aload_n 0, 1) := by decide +kernel
theorem dR_findSoonest_56 : decode bR_findSoonest 56 = .ok (.iconst 0, 1) := by decide +kernel
theorem dR_findSoonest_57 : decode bR_findSoonest 57 = .ok (.invokevirtual 101, 3) := by decide +kernel
theorem dR_findSoonest_60 : decode bR_findSoonest 60 = .ok (.iload 6, 2) := by decide +kernel
theorem dR_findSoonest_62 : decode bR_findSoonest 62 = .ok (.ifCond .eq 5, 3) := by decide +kernel
theorem dR_findSoonest_65 : decode bR_findSoonest 65 = .ok (.iload_n 3, 1) := by decide +kernel
theorem dR_findSoonest_66 : decode bR_findSoonest 66 = .ok (.ireturn, 1) := by decide +kernel
theorem dR_findSoonest_67 : decode bR_findSoonest 67 = .ok (.iinc 5 1, 3) := by decide +kernel
theorem dR_findSoonest_70 : decode bR_findSoonest 70 = .ok (.goto (-48), 3) := by decide +kernel
theorem dR_findSoonest_73 : decode bR_findSoonest 73 = .ok (.iinc 3 1, 3) := by decide +kernel
theorem dR_findSoonest_76 : decode bR_findSoonest 76 = .ok (.goto (-69), 3) := by decide +kernel
theorem dR_findSoonest_79 : decode bR_findSoonest 79 = .ok (.bipush (-9), 2) := by decide +kernel
theorem dR_findSoonest_81 : decode bR_findSoonest 81 = .ok (.ireturn, 1) := by decide +kernel
theorem dR_soonest_0 : decode bR_soonest 0 = .ok (.aload_n 0, 1) := by decide +kernel
theorem dR_soonest_1 : decode bR_soonest 1 = .ok (.iload_n 1, 1) := by decide +kernel
theorem dR_soonest_2 : decode bR_soonest 2 = .ok (.invokevirtual 30, 3) := by decide +kernel
theorem dR_soonest_5 : decode bR_soonest 5 = .ok (.ifCond .eq 11, 3) := by decide +kernel
theorem dR_soonest_8 : decode bR_soonest 8 = .ok (.aload_n 0, 1) := by decide +kernel
theorem dR_soonest_9 : decode bR_soonest 9 = .ok (.iload_n 2, 1) := by decide +kernel
theorem dR_soonest_10 : decode bR_soonest 10 = .ok (.invokevirtual 30, 3) := by decide +kernel
theorem dR_soonest_13 : decode bR_soonest 13 = .ok (.ifCond .ne 5, 3) := by decide +kernel
theorem dR_soonest_16 : decode bR_soonest 16 = .ok (.iconst (-1), 1) := by decide +kernel
theorem dR_soonest_17 : decode bR_soonest 17 = .ok (.ireturn, 1) := by decide +kernel
theorem dR_soonest_18 : decode bR_soonest 18 = .ok (.iload_n 3, 1) := by decide +kernel
theorem dR_soonest_19 : decode bR_soonest 19 = .ok (.iconst (-1), 1) := by decide +kernel
theorem dR_soonest_20 : decode bR_soonest 20 = .ok (.iconst 2, 1) := by decide +kernel
theorem dR_soonest_21 : decode bR_soonest 21 = .ok (.invokestatic 22, 3) := by decide +kernel
theorem dR_soonest_24 : decode bR_soonest 24 = .ok (.ifCond .ne 6, 3) := by decide +kernel
theorem dR_soonest_27 : decode bR_soonest 27 = .ok (.bipush (-2), 2) := by decide +kernel
theorem dR_soonest_29 : decode bR_soonest 29 = .ok (.ireturn, 1) := by decide +kernel
theorem dR_soonest_30 : decode bR_soonest 30 = .ok (.iload_n 1, 1) := by decide +kernel
theorem dR_soonest_31 : decode bR_soonest 31 = .ok (.iload_n 2, 1) := by decide +kernel
theorem dR_soonest_32 : decode bR_soonest 32 = .ok (.if_icmp .ne 6, 3) := by decide +kernel
theorem dR_soonest_35 : decode bR_soonest 35 = .ok (.bipush (-3), 2) := by decide +kernel
theorem dR_soonest_37 : decode bR_soonest 37 = .ok (.ireturn, 1) := by decide +kernel
theorem dR_soonest_38 : decode bR_soonest 38 = .ok (.aload_n 0, 1) := by decide +kernel
theorem dR_soonest_39 : decode bR_soonest 39 = .ok (.iload_n 1, 1) := by decide +kernel
theorem dR_soonest_40 : decode bR_soonest 40 = .ok (.iload_n 2, 1) := by decide +kernel
theorem dR_soonest_41 : decode bR_soonest 41 = .ok (.invokevirtual 104, 3) := by decide +kernel
theorem dR_soonest_44 : decode bR_soonest 44 = .ok (.istore 4, 2) := by decide +kernel
theorem dR_soonest_46 : decode bR_soonest 46 = .ok (.iload_n 3, 1) := by decide +kernel
theorem dR_soonest_47 : decode bR_soonest 47 = .ok (.iconst (-1), 1) := by decide +kernel
theorem dR_soonest_48 : decode bR_soonest 48 = .ok (.if_icmp .ne 8, 3) := by decide +kernel
theorem dR_soonest_51 : decode bR_soonest 51 = .ok (.iload 4, 2) := by decide +kernel
theorem dR_soonest_53 : decode bR_soonest 53 = .ok (.goto 20, 3) := by decide +kernel
theorem dR_soonest_56 : decode bR_soonest 56 = .ok (.iload_n 3, 1) := by decide +kernel
theorem dR_soonest_57 : decode bR_soonest 57 = .ok (.iload 4, 2) := by decide +kernel
theorem dR_soonest_59 : decode bR_soonest 59 = .ok (.if_icmp .ge 12, 3) := by decide +kernel
theorem dR_soonest_62 : decode bR_soonest 62 = .ok (.aload_n 0, 1) := by decide +kernel
theorem dR_soonest_63 : decode bR_soonest 63 = .ok (.getfield 19, 3) := by decide +kernel
theorem dR_soonest_66 : decode bR_soonest 66 = .ok (.iload_n 3, 1) := by decide +kernel
theorem dR_soonest_67 : decode bR_soonest 67 = .ok (.iaload, 1) := by decide +kernel
theorem dR_soonest_68 : decode bR_soonest 68 = .ok (.goto 5, 3) := by decide +kernel
theorem dR_soonest_71 : decode bR_soonest 71 = .ok (.bipush (-9), 2) := by decide +kernel
theorem dR_soonest_73 : decode bR_soonest 73 = .ok (.ireturn, 1) := by decide +kernel
theorem dR_saidNow_0 : decode bR_saidNow 0 = .ok (.iconst 0, 1) := by decide +kernel
theorem dR_saidNow_1 : decode bR_saidNow 1 = .ok (.istore_n 1, 1) := by decide +kernel
theorem dR_saidNow_2 : decode bR_saidNow 2 = .ok (.iconst 0, 1) := by decide +kernel
theorem dR_saidNow_3 : decode bR_saidNow 3 = .ok (.istore_n 2, 1) := by decide +kernel
theorem dR_saidNow_4 : decode bR_saidNow 4 = .ok (.iload_n 2, 1) := by decide +kernel
theorem dR_saidNow_5 : decode bR_saidNow 5 = .ok (.aload_n 0, 1) := by decide +kernel
theorem dR_saidNow_6 : decode bR_saidNow 6 = .ok (.getfield 7, 3) := by decide +kernel
theorem dR_saidNow_9 : decode bR_saidNow 9 = .ok (.iconst 0, 1) := by decide +kernel
theorem dR_saidNow_10 : decode bR_saidNow 10 = .ok (.iaload, 1) := by decide +kernel
theorem dR_saidNow_11 : decode bR_saidNow 11 = .ok (.if_icmp .ge 58, 3) := by decide +kernel
theorem dR_saidNow_14 : decode bR_saidNow 14 = .ok (.iconst 0, 1) := by decide +kernel
theorem dR_saidNow_15 : decode bR_saidNow 15 = .ok (.istore_n 3, 1) := by decide +kernel
theorem dR_saidNow_16 : decode bR_saidNow 16 = .ok (.iload_n 3, 1) := by decide +kernel
theorem dR_saidNow_17 : decode bR_saidNow 17 = .ok (.bipush 6, 2) := by decide +kernel
theorem dR_saidNow_19 : decode bR_saidNow 19 = .ok (.if_icmp .ge 44, 3) := by decide +kernel
theorem dR_saidNow_22 : decode bR_saidNow 22 = .ok (.iload_n 1, 1) := by decide +kernel
theorem dR_saidNow_23 : decode bR_saidNow 23 = .ok (.aload_n 0, 1) := by decide +kernel
theorem dR_saidNow_24 : decode bR_saidNow 24 = .ok (.iload_n 2, 1) := by decide +kernel
theorem dR_saidNow_25 : decode bR_saidNow 25 = .ok (.invokevirtual 30, 3) := by decide +kernel
theorem dR_saidNow_28 : decode bR_saidNow 28 = .ok (.ifCond .eq 26, 3) := by decide +kernel
theorem dR_saidNow_31 : decode bR_saidNow 31 = .ok (.aload_n 0, 1) := by decide +kernel
theorem dR_saidNow_32 : decode bR_saidNow 32 = .ok (.getfield 7, 3) := by decide +kernel
theorem dR_saidNow_35 : decode bR_saidNow 35 = .ok (.bipush 39, 2) := by decide +kernel
theorem dR_saidNow_37 : decode bR_saidNow 37 = .ok (.bipush 6, 2) := by decide +kernel
theorem dR_saidNow_39 : decode bR_saidNow 39 = .ok (.iload_n 2, 1) := by decide +kernel
theorem dR_saidNow_40 : decode bR_saidNow 40 = .ok (.imul, 1) := by decide +kernel
theorem dR_saidNow_41 : decode bR_saidNow 41 = .ok (.iadd, 1) := by decide +kernel
theorem dR_saidNow_42 : decode bR_saidNow 42 = .ok (.iload_n 3, 1) := by decide +kernel
theorem dR_saidNow_43 : decode bR_saidNow 43 = .ok (.iadd, 1) := by decide +kernel
theorem dR_saidNow_44 : decode bR_saidNow 44 = .ok (.iaload, 1) := by decide +kernel
theorem dR_saidNow_45 : decode bR_saidNow 45 = .ok (.ifCond .le 9, 3) := by decide +kernel
theorem dR_saidNow_48 : decode bR_saidNow 48 = .ok (.iconst 1, 1) := by decide +kernel
theorem dR_saidNow_49 : decode bR_saidNow 49 = .ok (.iload_n 3, 1) := by decide +kernel
theorem dR_saidNow_50 : decode bR_saidNow 50 = .ok (.ishl, 1) := by decide +kernel
theorem dR_saidNow_51 : decode bR_saidNow 51 = .ok (.goto 4, 3) := by decide +kernel
theorem dR_saidNow_54 : decode bR_saidNow 54 = .ok (.iconst 0, 1) := by decide +kernel
theorem dR_saidNow_55 : decode bR_saidNow 55 = .ok (.ior, 1) := by decide +kernel
theorem dR_saidNow_56 : decode bR_saidNow 56 = .ok (.istore_n 1, 1) := by decide +kernel
theorem dR_saidNow_57 : decode bR_saidNow 57 = .ok (.iinc 3 1, 3) := by decide +kernel
theorem dR_saidNow_60 : decode bR_saidNow 60 = .ok (.goto (-44), 3) := by decide +kernel
theorem dR_saidNow_63 : decode bR_saidNow 63 = .ok (.iinc 2 1, 3) := by decide +kernel
theorem dR_saidNow_66 : decode bR_saidNow 66 = .ok (.goto (-62), 3) := by decide +kernel
theorem dR_saidNow_69 : decode bR_saidNow 69 = .ok (.iconst 0, 1) := by decide +kernel
theorem dR_saidNow_70 : decode bR_saidNow 70 = .ok (.istore_n 2, 1) := by decide +kernel
theorem dR_saidNow_71 : decode bR_saidNow 71 = .ok (.iload_n 2, 1) := by decide +kernel
theorem dR_saidNow_72 : decode bR_saidNow 72 = .ok (.aload_n 0, 1) := by decide +kernel
theorem dR_saidNow_73 : decode bR_saidNow 73 = .ok (.getfield 7, 3) := by decide +kernel
theorem dR_saidNow_76 : decode bR_saidNow 76 = .ok (.iconst 1, 1) := by decide +kernel
theorem dR_saidNow_77 : decode bR_saidNow 77 = .ok (.iaload, 1) := by decide +kernel
theorem dR_saidNow_78 : decode bR_saidNow 78 = .ok (.if_icmp .ge 123, 3) := by decide +kernel
theorem dR_saidNow_81 : decode bR_saidNow 81 = .ok (.iload_n 1, 1) := by decide +kernel
theorem dR_saidNow_82 : decode bR_saidNow 82 = .ok (.aload_n 0, 1) := by decide +kernel
theorem dR_saidNow_83 : decode bR_saidNow 83 = .ok (.getfield 7, 3) := by decide +kernel
theorem dR_saidNow_86 : decode bR_saidNow 86 = .ok (.sipush 147, 3) := by decide +kernel
theorem dR_saidNow_89 : decode bR_saidNow 89 = .ok (.iload_n 2, 1) := by decide +kernel
theorem dR_saidNow_90 : decode bR_saidNow 90 = .ok (.iadd, 1) := by decide +kernel
theorem dR_saidNow_91 : decode bR_saidNow 91 = .ok (.iaload, 1) := by decide +kernel
theorem dR_saidNow_92 : decode bR_saidNow 92 = .ok (.bipush (-9), 2) := by decide +kernel
theorem dR_saidNow_94 : decode bR_saidNow 94 = .ok (.if_icmp .eq 18, 3) := by decide +kernel
theorem dR_saidNow_97 : decode bR_saidNow 97 = .ok (.iconst 1, 1) := by decide +kernel
theorem dR_saidNow_98 : decode bR_saidNow 98 = .ok (.aload_n 0, 1) := by decide +kernel
theorem dR_saidNow_99 : decode bR_saidNow 99 = .ok (.getfield 7, 3) := by decide +kernel
theorem dR_saidNow_102 : decode bR_saidNow 102 = .ok (.sipush 147, 3) := by decide +kernel
theorem dR_saidNow_105 : decode bR_saidNow 105 = .ok (.iload_n 2, 1) := by decide +kernel
theorem dR_saidNow_106 : decode bR_saidNow 106 = .ok (.iadd, 1) := by decide +kernel
theorem dR_saidNow_107 : decode bR_saidNow 107 = .ok (.iaload, 1) := by decide +kernel
theorem dR_saidNow_108 : decode bR_saidNow 108 = .ok (.ishl, 1) := by decide +kernel
theorem dR_saidNow_109 : decode bR_saidNow 109 = .ok (.goto 4, 3) := by decide +kernel
theorem dR_saidNow_112 : decode bR_saidNow 112 = .ok (.iconst 0, 1) := by decide +kernel
theorem dR_saidNow_113 : decode bR_saidNow 113 = .ok (.ior, 1) := by decide +kernel
theorem dR_saidNow_114 : decode bR_saidNow 114 = .ok (.istore_n 1, 1) := by decide +kernel
theorem dR_saidNow_115 : decode bR_saidNow 115 = .ok (.aload_n 0, 1) := by decide +kernel
theorem dR_saidNow_116 : decode bR_saidNow 116 = .ok (.getfield 7, 3) := by decide +kernel
theorem dR_saidNow_119 : decode bR_saidNow 119 = .ok (.sipush 135, 3) := by decide +kernel
theorem dR_saidNow_122 : decode bR_saidNow 122 = .ok (.iload_n 2, 1) := by decide +kernel
theorem dR_saidNow_123 : decode bR_saidNow 123 = .ok (.iadd, 1) := by decide +kernel
theorem dR_saidNow_124 : decode bR_saidNow 124 = .ok (.iaload, 1) := by decide +kernel
theorem dR_saidNow_125 : decode bR_saidNow 125 = .ok (.istore_n 3, 1) := by decide +kernel
theorem dR_saidNow_126 : decode bR_saidNow 126 = .ok (.iload_n 3, 1) := by decide +kernel
theorem dR_saidNow_127 : decode bR_saidNow 127 = .ok (.aload_n 0, 1) := by decide +kernel
theorem dR_saidNow_128 : decode bR_saidNow 128 = .ok (.getfield 7, 3) := by decide +kernel
theorem dR_saidNow_131 : decode bR_saidNow 131 = .ok (.bipush 123, 2) := by decide +kernel
theorem dR_saidNow_133 : decode bR_saidNow 133 = .ok (.iload_n 2, 1) := by decide +kernel
theorem dR_saidNow_134 : decode bR_saidNow 134 = .ok (.iadd, 1) := by decide +kernel
theorem dR_saidNow_135 : decode bR_saidNow 135 = .ok (.iaload, 1) := by decide +kernel
theorem dR_saidNow_136 : decode bR_saidNow 136 = .ok (.if_icmp .ge 59, 3) := by decide +kernel
theorem dR_saidNow_139 : decode bR_saidNow 139 = .ok (.aload_n 0, 1) := by decide +kernel
theorem dR_saidNow_140 : decode bR_saidNow 140 = .ok (.getfield 7, 3) := by decide +kernel
theorem dR_saidNow_143 : decode bR_saidNow 143 = .ok (.sipush 159, 3) := by decide +kernel
theorem dR_saidNow_146 : decode bR_saidNow 146 = .ok (.bipush 6, 2) := by decide +kernel
theorem dR_saidNow_148 : decode bR_saidNow 148 = .ok (.iload_n 2, 1) := by decide +kernel
theorem dR_saidNow_149 : decode bR_saidNow 149 = .ok (.imul, 1) := by decide +kernel
theorem dR_saidNow_150 : decode bR_saidNow 150 = .ok (.iadd, 1) := by decide +kernel
theorem dR_saidNow_151 : decode bR_saidNow 151 = .ok (.iload_n 3, 1) := by decide +kernel
theorem dR_saidNow_152 : decode bR_saidNow 152 = .ok (.iadd, 1) := by decide +kernel
theorem dR_saidNow_153 : decode bR_saidNow 153 = .ok (.iaload, 1) := by decide +kernel
theorem dR_saidNow_154 : decode bR_saidNow 154 = .ok (.istore 4, 2) := by decide +kernel
theorem dR_saidNow_156 : decode bR_saidNow 156 = .ok (.iload_n 1, 1) := by decide +kernel
theorem dR_saidNow_157 : decode bR_saidNow 157 = .ok (.iload 4, 2) := by decide +kernel
theorem dR_saidNow_159 : decode bR_saidNow 159 = .ok (.bipush 10, 2) := by decide +kernel
theorem dR_saidNow_161 : decode bR_saidNow 161 = .ok (.idiv, 1) := by decide +kernel
theorem dR_saidNow_162 : decode bR_saidNow 162 = .ok (.iconst 4, 1) := by decide +kernel
theorem dR_saidNow_163 : decode bR_saidNow 163 = .ok (.if_icmp .ne 23, 3) := by decide +kernel
theorem dR_saidNow_166 : decode bR_saidNow 166 = .ok (.iload 4, 2) := by decide +kernel
theorem dR_saidNow_168 : decode bR_saidNow 168 = .ok (.bipush 10, 2) := by decide +kernel
theorem dR_saidNow_170 : decode bR_saidNow 170 = .ok (.irem, 1) := by decide +kernel
theorem dR_saidNow_171 : decode bR_saidNow 171 = .ok (.bipush 9, 2) := by decide +kernel
theorem dR_saidNow_173 : decode bR_saidNow 173 = .ok (.if_icmp .eq 13, 3) := by decide +kernel
theorem dR_saidNow_176 : decode bR_saidNow 176 = .ok (.iconst 1, 1) := by decide +kernel
theorem dR_saidNow_177 : decode bR_saidNow 177 = .ok (.iload 4, 2) := by decide +kernel
theorem dR_saidNow_179 : decode bR_saidNow 179 = .ok (.bipush 10, 2) := by decide +kernel
theorem dR_saidNow_181 : decode bR_saidNow 181 = .ok (.irem, 1) := by decide +kernel
theorem dR_saidNow_182 : decode bR_saidNow 182 = .ok (.ishl, 1) := by decide +kernel
theorem dR_saidNow_183 : decode bR_saidNow 183 = .ok (.goto 4, 3) := by decide +kernel
theorem dR_saidNow_186 : decode bR_saidNow 186 = .ok (.iconst 0, 1) := by decide +kernel
theorem dR_saidNow_187 : decode bR_saidNow 187 = .ok (.ior, 1) := by decide +kernel
theorem dR_saidNow_188 : decode bR_saidNow 188 = .ok (.istore_n 1, 1) := by decide +kernel
theorem dR_saidNow_189 : decode bR_saidNow 189 = .ok (.iinc 3 1, 3) := by decide +kernel
theorem dR_saidNow_192 : decode bR_saidNow 192 = .ok (.goto (-66), 3) := by decide +kernel
theorem dR_saidNow_195 : decode bR_saidNow 195 = .ok (.iinc 2 1, 3) := by decide +kernel
theorem dR_saidNow_198 : decode bR_saidNow 198 = .ok (.goto (-127), 3) := by decide +kernel
theorem dR_saidNow_201 : decode bR_saidNow 201 = .ok (.iload_n 1, 1) := by decide +kernel
theorem dR_saidNow_202 : decode bR_saidNow 202 = .ok (.ireturn, 1) := by decide +kernel
theorem dR_said_0 : decode bR_said 0 = .ok (.aload_n 0, 1) := by decide +kernel
theorem dR_said_1 : decode bR_said 1 = .ok (.invokevirtual 108, 3) := by decide +kernel
theorem dR_said_4 : decode bR_said 4 = .ok (.ireturn, 1) := by decide +kernel
theorem dR_isMove_0 : decode bR_isMove 0 = .ok (.iload_n 0, 1) := by decide +kernel
theorem dR_isMove_1 : decode bR_isMove 1 = .ok (.bipush 10, 2) := by decide +kernel
theorem dR_isMove_3 : decode bR_isMove 3 = .ok (.idiv, 1) := by decide +kernel
theorem dR_isMove_4 : decode bR_isMove 4 = .ok (.istore_n 3, 1) := by decide +kernel
theorem dR_isMove_5 : decode bR_isMove 5 = .ok (.iload_n 0, 1) := by decide +kernel
theorem dR_isMove_6 : decode bR_isMove 6 = .ok (.bipush 10, 2) := by decide +kernel
theorem dR_isMove_8 : decode bR_isMove 8 = .ok (.irem, 1) := by decide +kernel
theorem dR_isMove_9 : decode bR_isMove 9 = .ok (.istore 4, 2) := by decide +kernel
theorem dR_isMove_11 : decode bR_isMove 11 = .ok (.iload_n 3, 1) := by decide +kernel
theorem dR_isMove_12 : decode bR_isMove 12 = .ok (.iconst 3, 1) := by decide +kernel
theorem dR_isMove_13 : decode bR_isMove 13 = .ok (.if_icmp .ne 32, 3) := by decide +kernel
theorem dR_isMove_16 : decode bR_isMove 16 = .ok (.iload 4, 2) := by decide +kernel
theorem dR_isMove_18 : decode bR_isMove 18 = .ok (.bipush 9, 2) := by decide +kernel
theorem dR_isMove_20 : decode bR_isMove 20 = .ok (.if_icmp .ne 12, 3) := by decide +kernel
theorem dR_isMove_23 : decode bR_isMove 23 = .ok (.iload_n 1, 1) := by decide +kernel
theorem dR_isMove_24 : decode bR_isMove 24 = .ok (.iload_n 2, 1) := by decide +kernel
theorem dR_isMove_25 : decode bR_isMove 25 = .ok (.iand, 1) := by decide +kernel
theorem dR_isMove_26 : decode bR_isMove 26 = .ok (.ifCond .eq 19, 3) := by decide +kernel
theorem dR_isMove_29 : decode bR_isMove 29 = .ok (.goto 12, 3) := by decide +kernel
theorem dR_isMove_32 : decode bR_isMove 32 = .ok (.iload_n 1, 1) := by decide +kernel
theorem dR_isMove_33 : decode bR_isMove 33 = .ok (.iload 4, 2) := by decide +kernel
theorem dR_isMove_35 : decode bR_isMove 35 = .ok (.invokestatic 26, 3) := by decide +kernel
theorem dR_isMove_38 : decode bR_isMove 38 = .ok (.ifCond .eq 7, 3) := by decide +kernel
theorem dR_isMove_41 : decode bR_isMove 41 = .ok (.iconst 1, 1) := by decide +kernel
theorem dR_isMove_42 : decode bR_isMove 42 = .ok (.goto 4, 3) := by decide +kernel
theorem dR_isMove_45 : decode bR_isMove 45 = .ok (.iconst 0, 1) := by decide +kernel
theorem dR_isMove_46 : decode bR_isMove 46 = .ok (.istore 5, 2) := by decide +kernel
theorem dR_isMove_48 : decode bR_isMove 48 = .ok (.iload_n 3, 1) := by decide +kernel
theorem dR_isMove_49 : decode bR_isMove 49 = .ok (.iconst 1, 1) := by decide +kernel
theorem dR_isMove_50 : decode bR_isMove 50 = .ok (.if_icmp .eq 13, 3) := by decide +kernel
theorem dR_isMove_53 : decode bR_isMove 53 = .ok (.iload_n 3, 1) := by decide +kernel
theorem dR_isMove_54 : decode bR_isMove 54 = .ok (.iconst 2, 1) := by decide +kernel
theorem dR_isMove_55 : decode bR_isMove 55 = .ok (.if_icmp .eq 8, 3) := by decide +kernel
theorem dR_isMove_58 : decode bR_isMove 58 = .ok (.iload 5, 2) := by decide +kernel
theorem dR_isMove_60 : decode bR_isMove 60 = .ok (.ifCond .eq 7, 3) := by decide +kernel
theorem dR_isMove_63 : decode bR_isMove 63 = .ok (.iconst 1, 1) := by decide +kernel
theorem dR_isMove_64 : decode bR_isMove 64 = .ok (.goto 4, 3) := by decide +kernel
theorem dR_isMove_67 : decode bR_isMove 67 = .ok (.iconst 0, 1) := by decide +kernel
theorem dR_isMove_68 : decode bR_isMove 68 = .ok (.ireturn, 1) := by decide +kernel
theorem dR_moves_0 : decode bR_moves 0 = .ok (.aload_n 0, 1) := by decide +kernel
theorem dR_moves_1 : decode bR_moves 1 = .ok (.invokevirtual 108, 3) := by decide +kernel
theorem dR_moves_4 : decode bR_moves 4 = .ok (.istore_n 1, 1) := by decide +kernel
theorem dR_moves_5 : decode bR_moves 5 = .ok (.iconst 0, 1) := by decide +kernel
theorem dR_moves_6 : decode bR_moves 6 = .ok (.istore_n 2, 1) := by decide +kernel
theorem dR_moves_7 : decode bR_moves 7 = .ok (.iconst (-1), 1) := by decide +kernel
theorem dR_moves_8 : decode bR_moves 8 = .ok (.istore_n 3, 1) := by decide +kernel
theorem dR_moves_9 : decode bR_moves 9 = .ok (.iload_n 3, 1) := by decide +kernel
theorem dR_moves_10 : decode bR_moves 10 = .ok (.iload_n 2, 1) := by decide +kernel
theorem dR_moves_11 : decode bR_moves 11 = .ok (.if_icmp .eq 122, 3) := by decide +kernel
theorem dR_moves_14 : decode bR_moves 14 = .ok (.iload_n 2, 1) := by decide +kernel
theorem dR_moves_15 : decode bR_moves 15 = .ok (.istore_n 3, 1) := by decide +kernel
theorem dR_moves_16 : decode bR_moves 16 = .ok (.iconst 0, 1) := by decide +kernel
theorem dR_moves_17 : decode bR_moves 17 = .ok (.istore 4, 2) := by decide +kernel
theorem dR_moves_19 : decode bR_moves 19 = .ok (.iload 4, 2) := by decide +kernel
theorem dR_moves_21 : decode bR_moves 21 = .ok (.aload_n 0, 1) := by decide +kernel
theorem dR_moves_22 : decode bR_moves 22 = .ok (.getfield 7, 3) := by decide +kernel
theorem dR_moves_25 : decode bR_moves 25 = .ok (.iconst 1, 1) := by decide +kernel
theorem dR_moves_26 : decode bR_moves 26 = .ok (.iaload, 1) := by decide +kernel
theorem dR_moves_27 : decode bR_moves 27 = .ok (.if_icmp .ge 103, 3) := by decide +kernel
theorem dR_moves_30 : decode bR_moves 30 = .ok (.aload_n 0, 1) := by decide +kernel
theorem dR_moves_31 : decode bR_moves 31 = .ok (.getfield 7, 3) := by decide +kernel
theorem dR_moves_34 : decode bR_moves 34 = .ok (.bipush 111, 2) := by decide +kernel
theorem dR_moves_36 : decode bR_moves 36 = .ok (.iload 4, 2) := by decide +kernel
theorem dR_moves_38 : decode bR_moves 38 = .ok (.iadd, 1) := by decide +kernel
theorem dR_moves_39 : decode bR_moves 39 = .ok (.iaload, 1) := by decide +kernel
theorem dR_moves_40 : decode bR_moves 40 = .ok (.istore 5, 2) := by decide +kernel
theorem dR_moves_42 : decode bR_moves 42 = .ok (.aload_n 0, 1) := by decide +kernel
theorem dR_moves_43 : decode bR_moves 43 = .ok (.getfield 7, 3) := by decide +kernel
theorem dR_moves_46 : decode bR_moves 46 = .ok (.sipush 135, 3) := by decide +kernel
theorem dR_moves_49 : decode bR_moves 49 = .ok (.iload 4, 2) := by decide +kernel
theorem dR_moves_51 : decode bR_moves 51 = .ok (.iadd, 1) := by decide +kernel
theorem dR_moves_52 : decode bR_moves 52 = .ok (.iaload, 1) := by decide +kernel
theorem dR_moves_53 : decode bR_moves 53 = .ok (.istore 6, 2) := by decide +kernel
theorem dR_moves_55 : decode bR_moves 55 = .ok (.iload 6, 2) := by decide +kernel
theorem dR_moves_57 : decode bR_moves 57 = .ok (.aload_n 0, 1) := by decide +kernel
theorem dR_moves_58 : decode bR_moves 58 = .ok (.getfield 7, 3) := by decide +kernel
theorem dR_moves_61 : decode bR_moves 61 = .ok (.bipush 123, 2) := by decide +kernel
theorem dR_moves_63 : decode bR_moves 63 = .ok (.iload 4, 2) := by decide +kernel
theorem dR_moves_65 : decode bR_moves 65 = .ok (.iadd, 1) := by decide +kernel
theorem dR_moves_66 : decode bR_moves 66 = .ok (.iaload, 1) := by decide +kernel
theorem dR_moves_67 : decode bR_moves 67 = .ok (.if_icmp .ge 57, 3) := by decide +kernel
theorem dR_moves_70 : decode bR_moves 70 = .ok (.iload 5, 2) := by decide +kernel
theorem dR_moves_72 : decode bR_moves 72 = .ok (.ifCond .eq 52, 3) := by decide +kernel
theorem dR_moves_75 : decode bR_moves 75 = .ok (.iload_n 2, 1) := by decide +kernel
theorem dR_moves_76 : decode bR_moves 76 = .ok (.aload_n 0, 1) := by decide +kernel
theorem dR_moves_77 : decode bR_moves 77 = .ok (.getfield 7, 3) := by decide +kernel
theorem dR_moves_80 : decode bR_moves 80 = .ok (.sipush 159, 3) := by decide +kernel
theorem dR_moves_83 : decode bR_moves 83 = .ok (.bipush 6, 2) := by decide +kernel
theorem dR_moves_85 : decode bR_moves 85 = .ok (.iload 4, 2) := by decide +kernel
theorem dR_moves_87 : decode bR_moves 87 = .ok (.imul, 1) := by decide +kernel
theorem dR_moves_88 : decode bR_moves 88 = .ok (.iadd, 1) := by decide +kernel
theorem dR_moves_89 : decode bR_moves 89 = .ok (.iload 6, 2) := by decide +kernel
theorem dR_moves_91 : decode bR_moves 91 = .ok (.iadd, 1) := by decide +kernel
theorem dR_moves_92 : decode bR_moves 92 = .ok (.iaload, 1) := by decide +kernel
theorem dR_moves_93 : decode bR_moves 93 = .ok (.iload_n 3, 1) := by decide +kernel
theorem dR_moves_94 : decode bR_moves 94 = .ok (.iload_n 1, 1) := by decide +kernel
theorem dR_moves_95 : decode bR_moves 95 = .ok (.invokestatic 112, 3) := by decide +kernel
theorem dR_moves_98 : decode bR_moves 98 = .ok (.ifCond .eq 17, 3) := by decide +kernel
theorem dR_moves_101 : decode bR_moves 101 = .ok (.iconst 1, 1) := by decide +kernel
theorem dR_moves_102 : decode bR_moves 102 = .ok (.aload_n 0, 1) := by decide +kernel
theorem dR_moves_103 : decode bR_moves 103 = .ok (.getfield 7, 3) := by decide +kernel
theorem dR_moves_106 : decode bR_moves 106 = .ok (.iconst 3, 1) := by decide +kernel
theorem dR_moves_107 : decode bR_moves 107 = .ok (.iload 5, 2) := by decide +kernel
theorem dR_moves_109 : decode bR_moves 109 = .ok (.iadd, 1) := by decide +kernel
theorem dR_moves_110 : decode bR_moves 110 = .ok (.iaload, 1) := by decide +kernel
theorem dR_moves_111 : decode bR_moves 111 = .ok (.ishl, 1) := by decide +kernel
theorem dR_moves_112 : decode bR_moves 112 = .ok (.goto 4, 3) := by decide +kernel
theorem dR_moves_115 : decode bR_moves 115 = .ok (.iconst 0, 1) := by decide +kernel
theorem dR_moves_116 : decode bR_moves 116 = .ok (.ior, 1) := by decide +kernel
theorem dR_moves_117 : decode bR_moves 117 = .ok (.istore_n 2, 1) := by decide +kernel
theorem dR_moves_118 : decode bR_moves 118 = .ok (.iinc 6 1, 3) := by decide +kernel
theorem dR_moves_121 : decode bR_moves 121 = .ok (.goto (-66), 3) := by decide +kernel
theorem dR_moves_124 : decode bR_moves 124 = .ok (.iinc 4 1, 3) := by decide +kernel
theorem dR_moves_127 : decode bR_moves 127 = .ok (.goto (-108), 3) := by decide +kernel
theorem dR_moves_130 : decode bR_moves 130 = .ok (.goto (-121), 3) := by decide +kernel
theorem dR_moves_133 : decode bR_moves 133 = .ok (.iload_n 2, 1) := by decide +kernel
theorem dR_moves_134 : decode bR_moves 134 = .ok (.ireturn, 1) := by decide +kernel
theorem dR_keep_0 : decode bR_keep 0 = .ok (.iconst 0, 1) := by decide +kernel
theorem dR_keep_1 : decode bR_keep 1 = .ok (.istore_n 1, 1) := by decide +kernel
theorem dR_keep_2 : decode bR_keep 2 = .ok (.iload_n 1, 1) := by decide +kernel
theorem dR_keep_3 : decode bR_keep 3 = .ok (.sipush 231, 3) := by decide +kernel
theorem dR_keep_6 : decode bR_keep 6 = .ok (.if_icmp .ge 21, 3) := by decide +kernel
theorem dR_keep_9 : decode bR_keep 9 = .ok (.aload_n 0, 1) := by decide +kernel
theorem dR_keep_10 : decode bR_keep 10 = .ok (.getfield 13, 3) := by decide +kernel
theorem dR_keep_13 : decode bR_keep 13 = .ok (.iload_n 1, 1) := by decide +kernel
theorem dR_keep_14 : decode bR_keep 14 = .ok (.aload_n 0, 1) := by decide +kernel
theorem dR_keep_15 : decode bR_keep 15 = .ok (.getfield 7, 3) := by decide +kernel
theorem dR_keep_18 : decode bR_keep 18 = .ok (.iload_n 1, 1) := by decide +kernel
theorem dR_keep_19 : decode bR_keep 19 = .ok (.iaload, 1) := by decide +kernel
theorem dR_keep_20 : decode bR_keep 20 = .ok (.iastore, 1) := by decide +kernel
theorem dR_keep_21 : decode bR_keep 21 = .ok (.iinc 1 1, 3) := by decide +kernel
theorem dR_keep_24 : decode bR_keep 24 = .ok (.goto (-22), 3) := by decide +kernel
theorem dR_keep_27 : decode bR_keep 27 = .ok (.aload_n 0, 1) := by decide +kernel
theorem dR_keep_28 : decode bR_keep 28 = .ok (.iconst 1, 1) := by decide +kernel
theorem dR_keep_29 : decode bR_keep 29 = .ok (.putfield 115, 3) := by decide +kernel
theorem dR_keep_32 : decode bR_keep 32 = .ok (.iconst 1, 1) := by decide +kernel
theorem dR_keep_33 : decode bR_keep 33 = .ok (.ireturn, 1) := by decide +kernel
theorem dR_restore_0 : decode bR_restore 0 = .ok (.aload_n 0, 1) := by decide +kernel
theorem dR_restore_1 : decode bR_restore 1 = .ok (.getfield 115, 3) := by decide +kernel
theorem dR_restore_4 : decode bR_restore 4 = .ok (.ifCond .ne 6, 3) := by decide +kernel
theorem dR_restore_7 : decode bR_restore 7 = .ok (.bipush (-3), 2) := by decide +kernel
theorem dR_restore_9 : decode bR_restore 9 = .ok (.ireturn, 1) := by decide +kernel
theorem dR_restore_10 : decode bR_restore 10 = .ok (.iconst 0, 1) := by decide +kernel
theorem dR_restore_11 : decode bR_restore 11 = .ok (.istore_n 1, 1) := by decide +kernel
theorem dR_restore_12 : decode bR_restore 12 = .ok (.iload_n 1, 1) := by decide +kernel
theorem dR_restore_13 : decode bR_restore 13 = .ok (.sipush 231, 3) := by decide +kernel
theorem dR_restore_16 : decode bR_restore 16 = .ok (.if_icmp .ge 21, 3) := by decide +kernel
theorem dR_restore_19 : decode bR_restore 19 = .ok (.aload_n 0, 1) := by decide +kernel
theorem dR_restore_20 : decode bR_restore 20 = .ok (.getfield 7, 3) := by decide +kernel
theorem dR_restore_23 : decode bR_restore 23 = .ok (.iload_n 1, 1) := by decide +kernel
theorem dR_restore_24 : decode bR_restore 24 = .ok (.aload_n 0, 1) := by decide +kernel
theorem dR_restore_25 : decode bR_restore 25 = .ok (.getfield 13, 3) := by decide +kernel
theorem dR_restore_28 : decode bR_restore 28 = .ok (.iload_n 1, 1) := by decide +kernel
theorem dR_restore_29 : decode bR_restore 29 = .ok (.iaload, 1) := by decide +kernel
theorem dR_restore_30 : decode bR_restore 30 = .ok (.iastore, 1) := by decide +kernel
theorem dR_restore_31 : decode bR_restore 31 = .ok (.iinc 1 1, 3) := by decide +kernel
theorem dR_restore_34 : decode bR_restore 34 = .ok (.goto (-22), 3) := by decide +kernel
theorem dR_restore_37 : decode bR_restore 37 = .ok (.iconst 1, 1) := by decide +kernel
theorem dR_restore_38 : decode bR_restore 38 = .ok (.ireturn, 1) := by decide +kernel
theorem dR_manyPlaces_0 : decode bR_manyPlaces 0 = .ok (.iconst 0, 1) := by decide +kernel
theorem dR_manyPlaces_1 : decode bR_manyPlaces 1 = .ok (.istore_n 1, 1) := by decide +kernel
theorem dR_manyPlaces_2 : decode bR_manyPlaces 2 = .ok (.iconst 0, 1) := by decide +kernel
theorem dR_manyPlaces_3 : decode bR_manyPlaces 3 = .ok (.istore_n 2, 1) := by decide +kernel
theorem dR_manyPlaces_4 : decode bR_manyPlaces 4 = .ok (.iload_n 2, 1) := by decide +kernel
theorem dR_manyPlaces_5 : decode bR_manyPlaces 5 = .ok (.aload_n 0, 1) := by decide +kernel
theorem dR_manyPlaces_6 : decode bR_manyPlaces 6 = .ok (.getfield 7, 3) := by decide +kernel
theorem dR_manyPlaces_9 : decode bR_manyPlaces 9 = .ok (.iconst 0, 1) := by decide +kernel
theorem dR_manyPlaces_10 : decode bR_manyPlaces 10 = .ok (.iaload, 1) := by decide +kernel
theorem dR_manyPlaces_11 : decode bR_manyPlaces 11 = .ok (.if_icmp .ge 25, 3) := by decide +kernel
theorem dR_manyPlaces_14 : decode bR_manyPlaces 14 = .ok (.iload_n 1, 1) := by decide +kernel
theorem dR_manyPlaces_15 : decode bR_manyPlaces 15 = .ok (.aload_n 0, 1) := by decide +kernel
theorem dR_manyPlaces_16 : decode bR_manyPlaces 16 = .ok (.iload_n 2, 1) := by decide +kernel
theorem dR_manyPlaces_17 : decode bR_manyPlaces 17 = .ok (.invokevirtual 30, 3) := by decide +kernel
theorem dR_manyPlaces_20 : decode bR_manyPlaces 20 = .ok (.ifCond .eq 7, 3) := by decide +kernel
theorem dR_manyPlaces_23 : decode bR_manyPlaces 23 = .ok (.iconst 1, 1) := by decide +kernel
theorem dR_manyPlaces_24 : decode bR_manyPlaces 24 = .ok (.goto 4, 3) := by decide +kernel
theorem dR_manyPlaces_27 : decode bR_manyPlaces 27 = .ok (.iconst 0, 1) := by decide +kernel
theorem dR_manyPlaces_28 : decode bR_manyPlaces 28 = .ok (.iadd, 1) := by decide +kernel
theorem dR_manyPlaces_29 : decode bR_manyPlaces 29 = .ok (.istore_n 1, 1) := by decide +kernel
theorem dR_manyPlaces_30 : decode bR_manyPlaces 30 = .ok (.iinc 2 1, 3) := by decide +kernel
theorem dR_manyPlaces_33 : decode bR_manyPlaces 33 = .ok (.goto (-29), 3) := by decide +kernel
theorem dR_manyPlaces_36 : decode bR_manyPlaces 36 = .ok (.iload_n 1, 1) := by decide +kernel
theorem dR_manyPlaces_37 : decode bR_manyPlaces 37 = .ok (.ireturn, 1) := by decide +kernel
theorem dR_manyOver_0 : decode bR_manyOver 0 = .ok (.iconst 0, 1) := by decide +kernel
theorem dR_manyOver_1 : decode bR_manyOver 1 = .ok (.istore_n 1, 1) := by decide +kernel
theorem dR_manyOver_2 : decode bR_manyOver 2 = .ok (.iconst 0, 1) := by decide +kernel
theorem dR_manyOver_3 : decode bR_manyOver 3 = .ok (.istore_n 2, 1) := by decide +kernel
theorem dR_manyOver_4 : decode bR_manyOver 4 = .ok (.iload_n 2, 1) := by decide +kernel
theorem dR_manyOver_5 : decode bR_manyOver 5 = .ok (.aload_n 0, 1) := by decide +kernel
theorem dR_manyOver_6 : decode bR_manyOver 6 = .ok (.getfield 7, 3) := by decide +kernel
theorem dR_manyOver_9 : decode bR_manyOver 9 = .ok (.iconst 1, 1) := by decide +kernel
theorem dR_manyOver_10 : decode bR_manyOver 10 = .ok (.iaload, 1) := by decide +kernel
theorem dR_manyOver_11 : decode bR_manyOver 11 = .ok (.if_icmp .ge 25, 3) := by decide +kernel
theorem dR_manyOver_14 : decode bR_manyOver 14 = .ok (.iload_n 1, 1) := by decide +kernel
theorem dR_manyOver_15 : decode bR_manyOver 15 = .ok (.aload_n 0, 1) := by decide +kernel
theorem dR_manyOver_16 : decode bR_manyOver 16 = .ok (.iload_n 2, 1) := by decide +kernel
theorem dR_manyOver_17 : decode bR_manyOver 17 = .ok (.invokevirtual 56, 3) := by decide +kernel
theorem dR_manyOver_20 : decode bR_manyOver 20 = .ok (.ifCond .eq 7, 3) := by decide +kernel
theorem dR_manyOver_23 : decode bR_manyOver 23 = .ok (.iconst 1, 1) := by decide +kernel
theorem dR_manyOver_24 : decode bR_manyOver 24 = .ok (.goto 4, 3) := by decide +kernel
theorem dR_manyOver_27 : decode bR_manyOver 27 = .ok (.iconst 0, 1) := by decide +kernel
theorem dR_manyOver_28 : decode bR_manyOver 28 = .ok (.iadd, 1) := by decide +kernel
theorem dR_manyOver_29 : decode bR_manyOver 29 = .ok (.istore_n 1, 1) := by decide +kernel
theorem dR_manyOver_30 : decode bR_manyOver 30 = .ok (.iinc 2 1, 3) := by decide +kernel
theorem dR_manyOver_33 : decode bR_manyOver 33 = .ok (.goto (-29), 3) := by decide +kernel
theorem dR_manyOver_36 : decode bR_manyOver 36 = .ok (.iload_n 1, 1) := by decide +kernel
theorem dR_manyOver_37 : decode bR_manyOver 37 = .ok (.ireturn, 1) := by decide +kernel
theorem dR_manyMessages_0 : decode bR_manyMessages 0 = .ok (.iconst 0, 1) := by decide +kernel
theorem dR_manyMessages_1 : decode bR_manyMessages 1 = .ok (.istore_n 1, 1) := by decide +kernel
theorem dR_manyMessages_2 : decode bR_manyMessages 2 = .ok (.iconst 0, 1) := by decide +kernel
theorem dR_manyMessages_3 : decode bR_manyMessages 3 = .ok (.istore_n 2, 1) := by decide +kernel
theorem dR_manyMessages_4 : decode bR_manyMessages 4 = .ok (.iload_n 2, 1) := by decide +kernel
theorem dR_manyMessages_5 : decode bR_manyMessages 5 = .ok (.bipush 72, 2) := by decide +kernel
theorem dR_manyMessages_7 : decode bR_manyMessages 7 = .ok (.if_icmp .ge 36, 3) := by decide +kernel
theorem dR_manyMessages_10 : decode bR_manyMessages 10 = .ok (.iload_n 1, 1) := by decide +kernel
theorem dR_manyMessages_11 : decode bR_manyMessages 11 = .ok (.aload_n 0, 1) := by decide +kernel
theorem dR_manyMessages_12 : decode bR_manyMessages 12 = .ok (.iload_n 2, 1) := by decide +kernel
theorem dR_manyMessages_13 : decode bR_manyMessages 13 = .ok (.bipush 6, 2) := by decide +kernel
theorem dR_manyMessages_15 : decode bR_manyMessages 15 = .ok (.idiv, 1) := by decide +kernel
theorem dR_manyMessages_16 : decode bR_manyMessages 16 = .ok (.invokevirtual 30, 3) := by decide +kernel
theorem dR_manyMessages_19 : decode bR_manyMessages 19 = .ok (.ifCond .eq 15, 3) := by decide +kernel
theorem dR_manyMessages_22 : decode bR_manyMessages 22 = .ok (.aload_n 0, 1) := by decide +kernel
theorem dR_manyMessages_23 : decode bR_manyMessages 23 = .ok (.getfield 7, 3) := by decide +kernel
theorem dR_manyMessages_26 : decode bR_manyMessages 26 = .ok (.bipush 39, 2) := by decide +kernel
theorem dR_manyMessages_28 : decode bR_manyMessages 28 = .ok (.iload_n 2, 1) := by decide +kernel
theorem dR_manyMessages_29 : decode bR_manyMessages 29 = .ok (.iadd, 1) := by decide +kernel
theorem dR_manyMessages_30 : decode bR_manyMessages 30 = .ok (.iaload, 1) := by decide +kernel
theorem dR_manyMessages_31 : decode bR_manyMessages 31 = .ok (.goto 4, 3) := by decide +kernel
theorem dR_manyMessages_34 : decode bR_manyMessages 34 = .ok (.iconst 0, 1) := by decide +kernel
theorem dR_manyMessages_35 : decode bR_manyMessages 35 = .ok (.iadd, 1) := by decide +kernel
theorem dR_manyMessages_36 : decode bR_manyMessages 36 = .ok (.istore_n 1, 1) := by decide +kernel
theorem dR_manyMessages_37 : decode bR_manyMessages 37 = .ok (.iinc 2 1, 3) := by decide +kernel
theorem dR_manyMessages_40 : decode bR_manyMessages 40 = .ok (.goto (-36), 3) := by decide +kernel
theorem dR_manyMessages_43 : decode bR_manyMessages 43 = .ok (.iload_n 1, 1) := by decide +kernel
theorem dR_manyMessages_44 : decode bR_manyMessages 44 = .ok (.ireturn, 1) := by decide +kernel
theorem dR_many_0 : decode bR_many 0 = .ok (.iload_n 1, 1) := by decide +kernel
theorem dR_many_1 : decode bR_many 1 = .ok (.tableswitch 81 0 5 #[39, 44, 51, 56, 63, 68], 39) := by decide +kernel
theorem dR_many_40 : decode bR_many 40 = .ok (.aload_n 0, 1) := by decide +kernel
theorem dR_many_41 : decode bR_many 41 = .ok (.invokevirtual 119, 3) := by decide +kernel
theorem dR_many_44 : decode bR_many 44 = .ok (.ireturn, 1) := by decide +kernel
theorem dR_many_45 : decode bR_many 45 = .ok (.aload_n 0, 1) := by decide +kernel
theorem dR_many_46 : decode bR_many 46 = .ok (.getfield 7, 3) := by decide +kernel
theorem dR_many_49 : decode bR_many 49 = .ok (.iconst 1, 1) := by decide +kernel
theorem dR_many_50 : decode bR_many 50 = .ok (.iaload, 1) := by decide +kernel
theorem dR_many_51 : decode bR_many 51 = .ok (.ireturn, 1) := by decide +kernel
theorem dR_many_52 : decode bR_many 52 = .ok (.aload_n 0, 1) := by decide +kernel
theorem dR_many_53 : decode bR_many 53 = .ok (.invokevirtual 122, 3) := by decide +kernel
theorem dR_many_56 : decode bR_many 56 = .ok (.ireturn, 1) := by decide +kernel
theorem dR_many_57 : decode bR_many 57 = .ok (.aload_n 0, 1) := by decide +kernel
theorem dR_many_58 : decode bR_many 58 = .ok (.getfield 7, 3) := by decide +kernel
theorem dR_many_61 : decode bR_many 61 = .ok (.iconst 0, 1) := by decide +kernel
theorem dR_many_62 : decode bR_many 62 = .ok (.iaload, 1) := by decide +kernel
theorem dR_many_63 : decode bR_many 63 = .ok (.ireturn, 1) := by decide +kernel
theorem dR_many_64 : decode bR_many 64 = .ok (.aload_n 0, 1) := by decide +kernel
theorem dR_many_65 : decode bR_many 65 = .ok (.invokevirtual 125, 3) := by decide +kernel
theorem dR_many_68 : decode bR_many 68 = .ok (.ireturn, 1) := by decide +kernel
theorem dR_many_69 : decode bR_many 69 = .ok (.aload_n 0, 1) := by decide +kernel
theorem dR_many_70 : decode bR_many 70 = .ok (.getfield 115, 3) := by decide +kernel
theorem dR_many_73 : decode bR_many 73 = .ok (.ifCond .eq 7, 3) := by decide +kernel
theorem dR_many_76 : decode bR_many 76 = .ok (.iconst 1, 1) := by decide +kernel
theorem dR_many_77 : decode bR_many 77 = .ok (.goto 4, 3) := by decide +kernel
theorem dR_many_80 : decode bR_many 80 = .ok (.iconst 0, 1) := by decide +kernel
theorem dR_many_81 : decode bR_many 81 = .ok (.ireturn, 1) := by decide +kernel
theorem dR_many_82 : decode bR_many 82 = .ok (.bipush (-2), 2) := by decide +kernel
theorem dR_many_84 : decode bR_many 84 = .ok (.ireturn, 1) := by decide +kernel
theorem wq_405 : Cond.fieldLink rR 19 rR "row" "[I" ∈ wT := wT_in 405 rfl rfl
set_option maxRecDepth 20000 in
theorem wq_545 : Cond.methodLink rR 88 yR_threadAt ∈ wT := wT_in 545 rfl rfl
set_option maxRecDepth 20000 in
theorem wq_547 : Cond.instanceMethod yR_threadAt ∈ wT := wT_in 547 rfl rfl
theorem wq_29 : Cond.selects rR yR_threadAt yR_threadAt ∈ wT := wT_in 29 rfl rfl
set_option maxRecDepth 20000 in
theorem wq_548 : Cond.code yR_threadAt bR_threadAt 6 (some .int) ∈ wT := wT_in 548 rfl rfl
theorem kV_R_88 : mp_V rR 88 yR_threadAt bR_threadAt 6 (some .int) 3 := ⟨wq_545, wq_547, wq_29, wq_39, wq_548, ⟨by decide, by decide, by decide +kernel⟩⟩
set_option maxRecDepth 20000 in
theorem wq_533 : Cond.methodLink rR 91 yR_allRows ∈ wT := wT_in 533 rfl rfl
set_option maxRecDepth 20000 in
theorem wq_535 : Cond.instanceMethod yR_allRows ∈ wT := wT_in 535 rfl rfl
theorem wq_26 : Cond.selects rR yR_allRows yR_allRows ∈ wT := wT_in 26 rfl rfl
set_option maxRecDepth 20000 in
theorem wq_536 : Cond.code yR_allRows bR_allRows 4 (some .int) ∈ wT := wT_in 536 rfl rfl
theorem kV_R_91 : mp_V rR 91 yR_allRows bR_allRows 4 (some .int) 1 := ⟨wq_533, wq_535, wq_26, wq_39, wq_536, ⟨by decide, by decide, by decide +kernel⟩⟩
set_option maxRecDepth 20000 in
theorem wq_537 : Cond.methodLink rR 94 yR_keepsAt ∈ wT := wT_in 537 rfl rfl
set_option maxRecDepth 20000 in
theorem wq_539 : Cond.instanceMethod yR_keepsAt ∈ wT := wT_in 539 rfl rfl
theorem wq_27 : Cond.selects rR yR_keepsAt yR_keepsAt ∈ wT := wT_in 27 rfl rfl
set_option maxRecDepth 20000 in
theorem wq_540 : Cond.code yR_keepsAt bR_keepsAt 3 none ∈ wT := wT_in 540 rfl rfl
theorem kV_R_94 : mp_V rR 94 yR_keepsAt bR_keepsAt 3 none 1 := ⟨wq_537, wq_539, wq_27, wq_39, wq_540, ⟨by decide, by decide, by decide +kernel⟩⟩
set_option maxRecDepth 20000 in
theorem wq_541 : Cond.methodLink rR 98 yR_actsRow ∈ wT := wT_in 541 rfl rfl
set_option maxRecDepth 20000 in
theorem wq_543 : Cond.instanceMethod yR_actsRow ∈ wT := wT_in 543 rfl rfl
theorem wq_28 : Cond.selects rR yR_actsRow yR_actsRow ∈ wT := wT_in 28 rfl rfl
set_option maxRecDepth 20000 in
theorem wq_544 : Cond.code yR_actsRow bR_actsRow 4 (some .boolean) ∈ wT := wT_in 544 rfl rfl
theorem kV_R_98 : mp_V rR 98 yR_actsRow bR_actsRow 4 (some .boolean) 2 := ⟨wq_541, wq_543, wq_28, wq_39, wq_544, ⟨by decide, by decide, by decide +kernel⟩⟩
set_option maxRecDepth 20000 in
theorem wq_549 : Cond.methodLink rR 101 yR_putsFrom ∈ wT := wT_in 549 rfl rfl
set_option maxRecDepth 20000 in
theorem wq_551 : Cond.instanceMethod yR_putsFrom ∈ wT := wT_in 551 rfl rfl
theorem wq_30 : Cond.selects rR yR_putsFrom yR_putsFrom ∈ wT := wT_in 30 rfl rfl
set_option maxRecDepth 20000 in
theorem wq_552 : Cond.code yR_putsFrom bR_putsFrom 3 none ∈ wT := wT_in 552 rfl rfl
theorem kV_R_101 : mp_V rR 101 yR_putsFrom bR_putsFrom 3 none 1 := ⟨wq_549, wq_551, wq_30, wq_39, wq_552, ⟨by decide, by decide, by decide +kernel⟩⟩
set_option maxRecDepth 20000 in
theorem wq_557 : Cond.methodLink rR 104 yR_findSoonest ∈ wT := wT_in 557 rfl rfl
set_option maxRecDepth 20000 in
theorem wq_559 : Cond.instanceMethod yR_findSoonest ∈ wT := wT_in 559 rfl rfl
theorem wq_31 : Cond.selects rR yR_findSoonest yR_findSoonest ∈ wT := wT_in 31 rfl rfl
set_option maxRecDepth 20000 in
theorem wq_560 : Cond.code yR_findSoonest bR_findSoonest 7 (some .int) ∈ wT := wT_in 560 rfl rfl
theorem kV_R_104 : mp_V rR 104 yR_findSoonest bR_findSoonest 7 (some .int) 2 := ⟨wq_557, wq_559, wq_31, wq_39, wq_560, ⟨by decide, by decide, by decide +kernel⟩⟩
set_option maxRecDepth 20000 in
theorem wq_565 : Cond.methodLink rR 108 yR_saidNow ∈ wT := wT_in 565 rfl rfl
set_option maxRecDepth 20000 in
theorem wq_567 : Cond.instanceMethod yR_saidNow ∈ wT := wT_in 567 rfl rfl
theorem wq_32 : Cond.selects rR yR_saidNow yR_saidNow ∈ wT := wT_in 32 rfl rfl
set_option maxRecDepth 20000 in
theorem wq_568 : Cond.code yR_saidNow bR_saidNow 5 (some .int) ∈ wT := wT_in 568 rfl rfl
theorem kV_R_108 : mp_V rR 108 yR_saidNow bR_saidNow 5 (some .int) 0 := ⟨wq_565, wq_567, wq_32, wq_39, wq_568, ⟨by decide, by decide, by decide +kernel⟩⟩
set_option maxRecDepth 20000 in
theorem wq_573 : Cond.methodLink rR 112 yR_isMove ∈ wT := wT_in 573 rfl rfl
set_option maxRecDepth 20000 in
theorem wq_574 : Cond.static yR_isMove ∈ wT := wT_in 574 rfl rfl
set_option maxRecDepth 20000 in
theorem wq_575 : Cond.code yR_isMove bR_isMove 6 (some .boolean) ∈ wT := wT_in 575 rfl rfl
theorem kT_R_112 : mp_T rR 112 yR_isMove bR_isMove 6 (some .boolean) 3 := ⟨wq_573, wq_574, wq_39, wq_575, ⟨by decide, by decide, by decide +kernel⟩⟩
theorem wq_404 : Cond.fieldLink rR 115 rR "isImage" "Z" ∈ wT := wT_in 404 rfl rfl
theorem wq_402 : Cond.fieldLink rR 13 rR "image" "[I" ∈ wT := wT_in 402 rfl rfl
set_option maxRecDepth 20000 in
theorem wq_588 : Cond.methodLink rR 119 yR_manyPlaces ∈ wT := wT_in 588 rfl rfl
set_option maxRecDepth 20000 in
theorem wq_590 : Cond.instanceMethod yR_manyPlaces ∈ wT := wT_in 590 rfl rfl
theorem wq_33 : Cond.selects rR yR_manyPlaces yR_manyPlaces ∈ wT := wT_in 33 rfl rfl
set_option maxRecDepth 20000 in
theorem wq_591 : Cond.code yR_manyPlaces bR_manyPlaces 3 (some .int) ∈ wT := wT_in 591 rfl rfl
theorem kV_R_119 : mp_V rR 119 yR_manyPlaces bR_manyPlaces 3 (some .int) 0 := ⟨wq_588, wq_590, wq_33, wq_39, wq_591, ⟨by decide, by decide, by decide +kernel⟩⟩
set_option maxRecDepth 20000 in
theorem wq_592 : Cond.methodLink rR 122 yR_manyOver ∈ wT := wT_in 592 rfl rfl
set_option maxRecDepth 20000 in
theorem wq_594 : Cond.instanceMethod yR_manyOver ∈ wT := wT_in 594 rfl rfl
theorem wq_34 : Cond.selects rR yR_manyOver yR_manyOver ∈ wT := wT_in 34 rfl rfl
set_option maxRecDepth 20000 in
theorem wq_595 : Cond.code yR_manyOver bR_manyOver 3 (some .int) ∈ wT := wT_in 595 rfl rfl
theorem kV_R_122 : mp_V rR 122 yR_manyOver bR_manyOver 3 (some .int) 0 := ⟨wq_592, wq_594, wq_34, wq_39, wq_595, ⟨by decide, by decide, by decide +kernel⟩⟩
set_option maxRecDepth 20000 in
theorem wq_596 : Cond.methodLink rR 125 yR_manyMessages ∈ wT := wT_in 596 rfl rfl
set_option maxRecDepth 20000 in
theorem wq_598 : Cond.instanceMethod yR_manyMessages ∈ wT := wT_in 598 rfl rfl
theorem wq_35 : Cond.selects rR yR_manyMessages yR_manyMessages ∈ wT := wT_in 35 rfl rfl
set_option maxRecDepth 20000 in
theorem wq_599 : Cond.code yR_manyMessages bR_manyMessages 3 (some .int) ∈ wT := wT_in 599 rfl rfl
theorem kV_R_125 : mp_V rR 125 yR_manyMessages bR_manyMessages 3 (some .int) 0 := ⟨wq_596, wq_598, wq_35, wq_39, wq_599, ⟨by decide, by decide, by decide +kernel⟩⟩
-- MovingPlacesModel.actsRow
abbrev rmR_actsRow : Room := { frames := 5, cells := 0, slots := 0, locals := 115 }
def fR_actsRow_28 (a2 : Int32) : Nat → SR → Int32 → Option (Int32 × SR)
  | 0, _, _ => none
  | n + 1, g, a3 => (if a2 ≤ a3 then some (1, g) else mp_ld g.2.2.2.2 3 a3 fun x2 => (fR_does g x2).bind fun x3 => (if x3.1 = 0 then some (0, x3.2) else fR_actsRow_28 a2 n x3.2 (a3 + 1)))
theorem fR_actsRow_28_s (a2 : Int32) (n : Nat) (g : SR) (a3 : Int32) : fR_actsRow_28 a2 (n + 1) g a3 = (if a2 ≤ a3 then some (1, g) else mp_ld g.2.2.2.2 3 a3 fun x2 => (fR_does g x2).bind fun x3 => (if x3.1 = 0 then some (0, x3.2) else fR_actsRow_28 a2 n x3.2 (a3 + 1))) := rfl
set_option maxHeartbeats 4000000 in
set_option maxRecDepth 100000 in
theorem lR_actsRow_28 {p : Program} {l : Launch} {e : Env} {s : State} {m : MethodId} {args : Array Value} {below : List Frame} {meth : Method} {c : Code} (cx : mp_C p s m args meth c bR_actsRow 4 (some .boolean) rR) (k : KK) (ad : Nat → Nat) (a2 : Int32) (z : (Int32 × SR)) (hE : mp_E k s) (hAN : ∀ q, mp_A (aR ad) q → mp_N k q) : ∀ (n : Nat) (g : SR) (a3 : Int32), fR_actsRow_28 a2 n g a3 = some z → ∀ (H : Heap) (locs : List Loc), va_P (kD k) mp_cls (cR k ad g) H → va_D (mp_A (aR ad)) (cR k ad g) → va_S (mp_A (aR ad)) s.heap H locs → ∀ (ls : Array Slot), lv_has ls 4 [(0, .ref (ad 0)), (2, .int a2), (3, .int a3)] → W p l e rmR_actsRow s m args below meth c H locs 0 0 (MQ below (mp_Qm k (some (.int z.1)) (cR k ad z.2) (aR ad)) args s 0 0 (mp_A (aR ad))) (F0 m 28 ls []) := by
  obtain ⟨hx, hb, -, hml, hown, hts, -⟩ := id cx
  intro n
  induction n with
  | zero =>
    intro g a3 h
    have h : (none : Option (Int32 × SR)) = some z := h
    cases h
  | succ n ih =>
    intro g a3 h H locs hP hD hS ls hl
    rw [fR_actsRow_28_s] at h
    refine lv_iload_n hx hb dR_actsRow_28 rfl (lv_at hl 2 rfl) ?_
    refine lv_iload_n hx hb dR_actsRow_29 rfl (lv_at hl 1 rfl) ?_
    refine lv_icmp_ge (tgt := 54) hx hb dR_actsRow_30 (by decide) (fun c1 => ?_) (fun c1 => ?_)
    · have h := mp_t c1 h
      refine lv_iconst (v := 1) hx hb dR_actsRow_54 (by decide) ?_
      exact mp_rzm (cf := cR k ad) cx rfl h hP hS dR_actsRow_55
    · have h := mp_f c1 h
      refine lv_aload_n hx hb dR_actsRow_33 rfl (lv_at hl 0 rfl) ?_
      refine lv_aload_n hx hb dR_actsRow_34 rfl (lv_at hl 0 rfl) ?_
      refine mp_gR cx hE hP iR 0 rfl 4 (by decide) wq_405 rfl (v := .ref (ad 4)) rfl dR_actsRow_35 ?_
      refine lv_iload_n hx hb dR_actsRow_38 rfl (lv_at hl 2 rfl) ?_
      obtain ⟨hi, x2, ex2, h⟩ := mp_lds h
      refine va_iald hx hb hE.1 hP 4 0 (f := g.2.2.2.2) (n := 3) rfl rfl hi dR_actsRow_39 ?_
      refine mp_top ex2 ?_
      obtain ⟨x3, ex3, h⟩ := mp_bs h
      refine mp_mi (mp_runV (As := [.int x2]) (rest := []) cx kV_R_85 (cR_does l k ad g x2 x3 ex3) ⟨rfl, rfl, Nat.le_of_ble_eq_true rfl, Nat.le_of_ble_eq_true rfl⟩ ⟨Nat.zero_le _, Nat.zero_le _⟩ hE hP (mp_Dw hD hAN) (mp_S hS hAN) 0 rfl rfl rfl hl.1 rfl (Nat.le_of_ble_eq_true rfl) dR_actsRow_40) hS (fun _ h9 => h9) (fun H locs hP hk hS => ?_)
      have hD : va_D (mp_A (aR ad)) (cR k ad x3.2) := mp_Ds hD rfl
      refine lv_if_ne (tgt := 48) hx hb dR_actsRow_43 (by decide) (fun c4 => ?_) (fun c4 => ?_)
      · have h := mp_f c4 h
        refine lv_iinc (v := (a3 + 1)) (lv' := [(3, .int (a3 + 1)), (0, .ref (ad 0)), (2, .int a2)]) hx hb dR_actsRow_48 hl (k := 2) rfl rfl (by decide) rfl (fun ls hl => ?_)
        refine lv_goto (tgt := 28) hx hb dR_actsRow_51 (by decide) ?_
        exact ih x3.2 (a3 + 1) h _ _ hP hD hS ls (lv_sub hl [1, 2, 0] rfl)
      · have h := mp_t c4 h
        refine lv_iconst (v := 0) hx hb dR_actsRow_46 (by decide) ?_
        exact mp_rzm (cf := cR k ad) cx rfl h hP hS dR_actsRow_47
def fR_actsRow_2 (a1 : Int32) (a2 : Int32) : Nat → SR → Int32 → Option (Int32 × SR)
  | 0, _, _ => none
  | n + 1, g, a3 => (if a2 ≤ a3 then fR_actsRow_28 a2 2000 g 0 else (fR_threadAt g a1 a2 a3).bind fun x2 => mp_st 3 a3 (fR_actsRow_2 a1 a2 n (g.1, g.2.1, g.2.2.1, g.2.2.2.1, (upd g.2.2.2.2 (Int32.toNatClampNeg a3) x2)) (a3 + 1)))
theorem fR_actsRow_2_s (a1 : Int32) (a2 : Int32) (n : Nat) (g : SR) (a3 : Int32) : fR_actsRow_2 a1 a2 (n + 1) g a3 = (if a2 ≤ a3 then fR_actsRow_28 a2 2000 g 0 else (fR_threadAt g a1 a2 a3).bind fun x2 => mp_st 3 a3 (fR_actsRow_2 a1 a2 n (g.1, g.2.1, g.2.2.1, g.2.2.2.1, (upd g.2.2.2.2 (Int32.toNatClampNeg a3) x2)) (a3 + 1))) := rfl
set_option maxHeartbeats 4000000 in
set_option maxRecDepth 100000 in
theorem lR_actsRow_2 {p : Program} {l : Launch} {e : Env} {s : State} {m : MethodId} {args : Array Value} {below : List Frame} {meth : Method} {c : Code} (cx : mp_C p s m args meth c bR_actsRow 4 (some .boolean) rR) (k : KK) (ad : Nat → Nat) (a1 : Int32) (a2 : Int32) (z : (Int32 × SR)) (hE : mp_E k s) (hAN : ∀ q, mp_A (aR ad) q → mp_N k q) : ∀ (n : Nat) (g : SR) (a3 : Int32), fR_actsRow_2 a1 a2 n g a3 = some z → ∀ (H : Heap) (locs : List Loc), va_P (kD k) mp_cls (cR k ad g) H → va_D (mp_A (aR ad)) (cR k ad g) → va_S (mp_A (aR ad)) s.heap H locs → ∀ (ls : Array Slot), lv_has ls 4 [(0, .ref (ad 0)), (1, .int a1), (2, .int a2), (3, .int a3)] → W p l e rmR_actsRow s m args below meth c H locs 0 0 (MQ below (mp_Qm k (some (.int z.1)) (cR k ad z.2) (aR ad)) args s 0 0 (mp_A (aR ad))) (F0 m 2 ls []) := by
  obtain ⟨hx, hb, -, hml, hown, hts, -⟩ := id cx
  intro n
  induction n with
  | zero =>
    intro g a3 h
    have h : (none : Option (Int32 × SR)) = some z := h
    cases h
  | succ n ih =>
    intro g a3 h H locs hP hD hS ls hl
    rw [fR_actsRow_2_s] at h
    refine lv_iload_n hx hb dR_actsRow_2 rfl (lv_at hl 3 rfl) ?_
    refine lv_iload_n hx hb dR_actsRow_3 rfl (lv_at hl 2 rfl) ?_
    refine lv_icmp_ge (tgt := 26) hx hb dR_actsRow_4 (by decide) (fun c1 => ?_) (fun c1 => ?_)
    · have h := mp_t c1 h
      refine lv_iconst (v := 0) hx hb dR_actsRow_26 (by decide) ?_
      refine lv_istore_n (lv' := [(3, .int 0), (0, .ref (ad 0)), (1, .int a1), (2, .int a2)]) hx hb dR_actsRow_27 rfl hl (by decide) rfl (fun ls hl => ?_)
      exact lR_actsRow_28 cx k ad a2 z hE hAN _ g 0 h _ _ hP hD hS ls (lv_sub hl [1, 3, 0] rfl)
    · have h := mp_f c1 h
      refine lv_aload_n hx hb dR_actsRow_7 rfl (lv_at hl 0 rfl) ?_
      refine mp_gR cx hE hP iR 0 rfl 4 (by decide) wq_405 rfl (v := .ref (ad 4)) rfl dR_actsRow_8 ?_
      refine lv_iload_n hx hb dR_actsRow_11 rfl (lv_at hl 3 rfl) ?_
      refine lv_aload_n hx hb dR_actsRow_12 rfl (lv_at hl 0 rfl) ?_
      refine lv_iload_n hx hb dR_actsRow_13 rfl (lv_at hl 1 rfl) ?_
      refine lv_iload_n hx hb dR_actsRow_14 rfl (lv_at hl 2 rfl) ?_
      refine lv_iload_n hx hb dR_actsRow_15 rfl (lv_at hl 3 rfl) ?_
      obtain ⟨x2, ex2, h⟩ := mp_bs h
      refine mp_si (mp_runV (As := [.int a1, .int a2, .int a3]) (rest := [.int a3, .ref (ad 4)]) cx kV_R_88 (cR_threadAt l k ad g a1 a2 a3 x2 ex2) ⟨rfl, rfl, Nat.le_of_ble_eq_true rfl, Nat.le_of_ble_eq_true rfl⟩ ⟨Nat.zero_le _, Nat.zero_le _⟩ hE hP (mp_Dw hD hAN) (mp_S hS hAN) 0 rfl rfl rfl hl.1 rfl (Nat.le_of_ble_eq_true rfl) dR_actsRow_16) ?_
      obtain ⟨hi, h⟩ := mp_sts h
      refine va_iast hx hb hE.1 hP hD hS 4 0 (f := g.2.2.2.2) (n := 3) rfl rfl hi dR_actsRow_19 (fun H locs hP hD hS => ?_)
      have hP : va_P (kD k) mp_cls (cR k ad (g.1, g.2.1, g.2.2.1, g.2.2.2.1, (upd g.2.2.2.2 (Int32.toNatClampNeg a3) x2))) H := hP
      have hD : va_D (mp_A (aR ad)) (cR k ad (g.1, g.2.1, g.2.2.1, g.2.2.2.1, (upd g.2.2.2.2 (Int32.toNatClampNeg a3) x2))) := hD
      refine lv_iinc (v := (a3 + 1)) (lv' := [(3, .int (a3 + 1)), (0, .ref (ad 0)), (1, .int a1), (2, .int a2)]) hx hb dR_actsRow_20 hl (k := 3) rfl rfl (by decide) rfl (fun ls hl => ?_)
      refine lv_goto (tgt := 2) hx hb dR_actsRow_23 (by decide) ?_
      exact ih (g.1, g.2.1, g.2.2.1, g.2.2.2.1, (upd g.2.2.2.2 (Int32.toNatClampNeg a3) x2)) (a3 + 1) h _ _ hP hD hS ls (lv_sub hl [1, 2, 3, 0] rfl)
def fR_actsRow (g : SR) (a1 : Int32) (a2 : Int32) : Option (Int32 × SR) := fR_actsRow_2 a1 a2 2000 g 0
set_option maxHeartbeats 4000000 in
set_option maxRecDepth 100000 in
theorem wR_actsRow {p : Program} {l : Launch} {e : Env} {s : State} {m : MethodId} {args : Array Value} {below : List Frame} {meth : Method} {c : Code} (cx : mp_C p s m args meth c bR_actsRow 4 (some .boolean) rR) (k : KK) (ad : Nat → Nat) (g : SR) (a1 : Int32) (a2 : Int32) (z : (Int32 × SR)) (hE : mp_E k s) (hAN : ∀ q, mp_A (aR ad) q → mp_N k q) {H : Heap} {locs : List Loc} (hP : va_P (kD k) mp_cls (cR k ad g) H) (hD : va_D (mp_A (aR ad)) (cR k ad g)) (hS : va_S (mp_A (aR ad)) s.heap H locs) (h : fR_actsRow g a1 a2 = some z) (ls : Array Slot) (hl : lv_has ls 4 [(0, .ref (ad 0)), (1, .int a1), (2, .int a2)]) : W p l e rmR_actsRow s m args below meth c H locs 0 0 (MQ below (mp_Qm k (some (.int z.1)) (cR k ad z.2) (aR ad)) args s 0 0 (mp_A (aR ad))) (F0 m 0 ls []) := by
  obtain ⟨hx, hb, -, hml, hown, hts, -⟩ := id cx
  unfold fR_actsRow at h
  refine lv_iconst (v := 0) hx hb dR_actsRow_0 (by decide) ?_
  refine lv_istore_n (lv' := [(3, .int 0), (0, .ref (ad 0)), (1, .int a1), (2, .int a2)]) hx hb dR_actsRow_1 rfl hl (by decide) rfl (fun ls hl => ?_)
  exact lR_actsRow_2 cx k ad a1 a2 z hE hAN _ g 0 h _ _ hP hD hS ls (lv_sub hl [1, 2, 3, 0] rfl)
theorem cR_actsRow (l : Launch) (k : KK) (ad : Nat → Nat) (g : SR) (a1 : Int32) (a2 : Int32) (z : (Int32 × SR)) (h : fR_actsRow g a1 a2 = some z) : mp_CM l k yR_actsRow bR_actsRow 4 (some .boolean) rmR_actsRow [.ref (ad 0), .int a1, .int a2] (cR k ad g) (cR k ad z.2) (aR ad) (some (.int z.1)) := by
  refine Met.ofW (cc := bR_actsRow) (maxL := 4) (ret := (some .boolean)) (by decide) rfl ?_
  intro p e s m args below meth c s₁ B hml hv
  obtain ⟨rfl, hP, hD, hE⟩ := hv
  have hl := lv_entry ([.ref (ad 0), .int a1, .int a2]) (n := 4) (Nat.le_of_ble_eq_true rfl)
  rw [lg_entry_eq]
  generalize (lg_sl ([.ref (ad 0), .int a1, .int a2]) ++ List.replicate (4 - (lg_sl ([.ref (ad 0), .int a1, .int a2])).length) Slot.unset).toArray = ls at hl ⊢
  exact wR_actsRow (mp_C.of B hml) k ad g a1 a2 z hE (mp_new hD rfl) hP (mp_own hD rfl) va_S.rf h ls hl
-- MovingPlacesModel.allRows
abbrev rmR_allRows : Room := { frames := 0, cells := 0, slots := 0, locals := 0 }
def fR_allRows_4 (g : SR) (a1 : Int32) : Nat → Int32 → Int32 → Option Int32
  | 0, _, _ => none
  | n + 1, a2, a3 => (if a1 ≤ a3 then some a2 else mp_ld g.1 231 1 fun x2 => fR_allRows_4 g a1 n (a2 * x2) (a3 + 1))
theorem fR_allRows_4_s (g : SR) (a1 : Int32) (n : Nat) (a2 : Int32) (a3 : Int32) : fR_allRows_4 g a1 (n + 1) a2 a3 = (if a1 ≤ a3 then some a2 else mp_ld g.1 231 1 fun x2 => fR_allRows_4 g a1 n (a2 * x2) (a3 + 1)) := rfl
set_option maxHeartbeats 4000000 in
set_option maxRecDepth 100000 in
theorem lR_allRows_4 {p : Program} {l : Launch} {e : Env} {s : State} {m : MethodId} {args : Array Value} {below : List Frame} {meth : Method} {c : Code} (cx : mp_C p s m args meth c bR_allRows 4 (some .int) rR) (k : KK) (ad : Nat → Nat) (g : SR) (a1 : Int32) (z : Int32) (hE : mp_E k s) (hP : va_P (kD k) mp_cls (cR k ad g) s.heap) (hD : va_D (mp_N k) (cR k ad g)) : ∀ (n : Nat) (a2 : Int32) (a3 : Int32), fR_allRows_4 g a1 n a2 a3 = some z → ∀ (ls : Array Slot), lv_has ls 4 [(0, .ref (ad 0)), (1, .int a1), (2, .int a2), (3, .int a3)] → W p l e rmR_allRows s m args below meth c s.heap [] 0 0 (MQ below (mp_Qs (some (.int z))) args s 0 0 (fun _ => False)) (F0 m 4 ls []) := by
  obtain ⟨hx, hb, -, hml, hown, hts, -⟩ := id cx
  intro n
  induction n with
  | zero =>
    intro a2 a3 h
    have h : (none : Option Int32) = some z := h
    cases h
  | succ n ih =>
    intro a2 a3 h ls hl
    rw [fR_allRows_4_s] at h
    refine lv_iload_n hx hb dR_allRows_4 rfl (lv_at hl 3 rfl) ?_
    refine lv_iload_n hx hb dR_allRows_5 rfl (lv_at hl 1 rfl) ?_
    refine lv_icmp_ge (tgt := 24) hx hb dR_allRows_6 (by decide) (fun c1 => ?_) (fun c1 => ?_)
    · have h := mp_t c1 h
      refine lv_iload_n hx hb dR_allRows_24 rfl (lv_at hl 2 rfl) ?_
      exact mp_ri cx h dR_allRows_25
    · have h := mp_f c1 h
      refine lv_iload_n hx hb dR_allRows_9 rfl (lv_at hl 2 rfl) ?_
      refine lv_aload_n hx hb dR_allRows_10 rfl (lv_at hl 0 rfl) ?_
      refine mp_gR cx hE hP iR 0 rfl 0 (by decide) wq_401 rfl (v := .ref (ad 1)) rfl dR_allRows_11 ?_
      refine lv_iconst (v := 1) hx hb dR_allRows_14 (by decide) ?_
      obtain ⟨hi, x2, ex2, h⟩ := mp_lds h
      refine va_iald hx hb hE.1 hP 1 0 (f := g.1) (n := 231) rfl rfl hi dR_allRows_15 ?_
      refine mp_top ex2 ?_
      refine lv_imul hx hb dR_allRows_16 ?_
      refine lv_istore_n (lv' := [(2, .int (a2 * x2)), (0, .ref (ad 0)), (1, .int a1), (3, .int a3)]) hx hb dR_allRows_17 rfl hl (by decide) rfl (fun ls hl => ?_)
      refine lv_iinc (v := (a3 + 1)) (lv' := [(3, .int (a3 + 1)), (2, .int (a2 * x2)), (0, .ref (ad 0)), (1, .int a1)]) hx hb dR_allRows_18 hl (k := 3) rfl rfl (by decide) rfl (fun ls hl => ?_)
      refine lv_goto (tgt := 4) hx hb dR_allRows_21 (by decide) ?_
      exact ih (a2 * x2) (a3 + 1) h ls (lv_sub hl [2, 3, 1, 0] rfl)
def fR_allRows (g : SR) (a1 : Int32) : Option Int32 := fR_allRows_4 g a1 2000 1 0
set_option maxHeartbeats 4000000 in
set_option maxRecDepth 100000 in
theorem wR_allRows {p : Program} {l : Launch} {e : Env} {s : State} {m : MethodId} {args : Array Value} {below : List Frame} {meth : Method} {c : Code} (cx : mp_C p s m args meth c bR_allRows 4 (some .int) rR) (k : KK) (ad : Nat → Nat) (g : SR) (a1 : Int32) (z : Int32) (hE : mp_E k s) (hP : va_P (kD k) mp_cls (cR k ad g) s.heap) (hD : va_D (mp_N k) (cR k ad g)) (h : fR_allRows g a1 = some z) (ls : Array Slot) (hl : lv_has ls 4 [(0, .ref (ad 0)), (1, .int a1)]) : W p l e rmR_allRows s m args below meth c s.heap [] 0 0 (MQ below (mp_Qs (some (.int z))) args s 0 0 (fun _ => False)) (F0 m 0 ls []) := by
  obtain ⟨hx, hb, -, hml, hown, hts, -⟩ := id cx
  unfold fR_allRows at h
  refine lv_iconst (v := 1) hx hb dR_allRows_0 (by decide) ?_
  refine lv_istore_n (lv' := [(2, .int 1), (0, .ref (ad 0)), (1, .int a1)]) hx hb dR_allRows_1 rfl hl (by decide) rfl (fun ls hl => ?_)
  refine lv_iconst (v := 0) hx hb dR_allRows_2 (by decide) ?_
  refine lv_istore_n (lv' := [(3, .int 0), (2, .int 1), (0, .ref (ad 0)), (1, .int a1)]) hx hb dR_allRows_3 rfl hl (by decide) rfl (fun ls hl => ?_)
  exact lR_allRows_4 cx k ad g a1 z hE hP hD _ 1 0 h ls (lv_sub hl [2, 3, 1, 0] rfl)
theorem cR_allRows (l : Launch) (k : KK) (ad : Nat → Nat) (g : SR) (a1 : Int32) (z : Int32) (h : fR_allRows g a1 = some z) : mp_CS l k yR_allRows bR_allRows 4 (some .int) rmR_allRows [.ref (ad 0), .int a1] (cR k ad g) (some (.int z)) := by
  refine Met.ofW (cc := bR_allRows) (maxL := 4) (ret := (some .int)) (by decide) rfl ?_
  intro p e s m args below meth c s₁ B hml hv
  obtain ⟨rfl, hP, hD, hE⟩ := hv
  have hl := lv_entry ([.ref (ad 0), .int a1]) (n := 4) (Nat.le_of_ble_eq_true rfl)
  rw [lg_entry_eq]
  generalize (lg_sl ([.ref (ad 0), .int a1]) ++ List.replicate (4 - (lg_sl ([.ref (ad 0), .int a1])).length) Slot.unset).toArray = ls at hl ⊢
  exact wR_allRows (mp_C.of B hml) k ad g a1 z hE hP hD h ls hl
-- MovingPlacesModel.rows
abbrev rmR_rows : Room := { frames := 6, cells := 0, slots := 0, locals := 138 }
def fR_rows_28 (a1 : Int32) (a2 : Int32) : Nat → SR → Int32 → Int32 → Option (Int32 × SR)
  | 0, _, _, _ => none
  | n + 1, g, a3, a4 => (if a2 ≤ a4 then some (a3, g) else (fR_actsRow g a4 a1).bind fun x2 => (if x2.1 = 0 then (fR_putsFrom x2.2 0).bind fun x4 => fR_rows_28 a1 a2 n x4 (a3 + 0) (a4 + 1) else (fR_putsFrom x2.2 0).bind fun x5 => fR_rows_28 a1 a2 n x5 (a3 + 1) (a4 + 1)))
theorem fR_rows_28_s (a1 : Int32) (a2 : Int32) (n : Nat) (g : SR) (a3 : Int32) (a4 : Int32) : fR_rows_28 a1 a2 (n + 1) g a3 a4 = (if a2 ≤ a4 then some (a3, g) else (fR_actsRow g a4 a1).bind fun x2 => (if x2.1 = 0 then (fR_putsFrom x2.2 0).bind fun x4 => fR_rows_28 a1 a2 n x4 (a3 + 0) (a4 + 1) else (fR_putsFrom x2.2 0).bind fun x5 => fR_rows_28 a1 a2 n x5 (a3 + 1) (a4 + 1))) := rfl
set_option maxHeartbeats 4000000 in
set_option maxRecDepth 100000 in
theorem lR_rows_28 {p : Program} {l : Launch} {e : Env} {s : State} {m : MethodId} {args : Array Value} {below : List Frame} {meth : Method} {c : Code} (cx : mp_C p s m args meth c bR_rows 5 (some .int) rR) (k : KK) (ad : Nat → Nat) (a1 : Int32) (a2 : Int32) (z : (Int32 × SR)) (hE : mp_E k s) (hAN : ∀ q, mp_A (aR ad) q → mp_N k q) : ∀ (n : Nat) (g : SR) (a3 : Int32) (a4 : Int32), fR_rows_28 a1 a2 n g a3 a4 = some z → ∀ (H : Heap) (locs : List Loc), va_P (kD k) mp_cls (cR k ad g) H → va_D (mp_A (aR ad)) (cR k ad g) → va_S (mp_A (aR ad)) s.heap H locs → ∀ (ls : Array Slot), lv_has ls 5 [(0, .ref (ad 0)), (1, .int a1), (2, .int a2), (3, .int a3), (4, .int a4)] → W p l e rmR_rows s m args below meth c H locs 0 0 (MQ below (mp_Qm k (some (.int z.1)) (cR k ad z.2) (aR ad)) args s 0 0 (mp_A (aR ad))) (F0 m 28 ls []) := by
  obtain ⟨hx, hb, -, hml, hown, hts, -⟩ := id cx
  intro n
  induction n with
  | zero =>
    intro g a3 a4 h
    have h : (none : Option (Int32 × SR)) = some z := h
    cases h
  | succ n ih =>
    intro g a3 a4 h H locs hP hD hS ls hl
    rw [fR_rows_28_s] at h
    refine lv_iload hx hb dR_rows_28 (lv_at hl 4 rfl) ?_
    refine lv_iload_n hx hb dR_rows_30 rfl (lv_at hl 2 rfl) ?_
    refine lv_icmp_ge (tgt := 63) hx hb dR_rows_31 (by decide) (fun c1 => ?_) (fun c1 => ?_)
    · have h := mp_t c1 h
      refine lv_iload_n hx hb dR_rows_63 rfl (lv_at hl 3 rfl) ?_
      exact mp_rim (cf := cR k ad) cx h hP hS dR_rows_64
    · have h := mp_f c1 h
      refine lv_iload_n hx hb dR_rows_34 rfl (lv_at hl 3 rfl) ?_
      refine lv_aload_n hx hb dR_rows_35 rfl (lv_at hl 0 rfl) ?_
      refine lv_iload hx hb dR_rows_36 (lv_at hl 4 rfl) ?_
      refine lv_iload_n hx hb dR_rows_38 rfl (lv_at hl 1 rfl) ?_
      obtain ⟨x2, ex2, h⟩ := mp_bs h
      refine mp_mi (mp_runV (As := [.int a4, .int a1]) (rest := [.int a3]) cx kV_R_98 (cR_actsRow l k ad g a4 a1 x2 ex2) ⟨rfl, rfl, Nat.le_of_ble_eq_true rfl, Nat.le_of_ble_eq_true rfl⟩ ⟨Nat.zero_le _, Nat.zero_le _⟩ hE hP (mp_Dw hD hAN) (mp_S hS hAN) 0 rfl rfl rfl hl.1 rfl (Nat.le_of_ble_eq_true rfl) dR_rows_39) hS (fun _ h9 => h9) (fun H locs hP hk hS => ?_)
      have hD : va_D (mp_A (aR ad)) (cR k ad x2.2) := mp_Ds hD rfl
      refine lv_if_eq (tgt := 49) hx hb dR_rows_42 (by decide) (fun c3 => ?_) (fun c3 => ?_)
      · have h := mp_t c3 h
        refine lv_iconst (v := 0) hx hb dR_rows_49 (by decide) ?_
        refine lv_iadd hx hb dR_rows_50 ?_
        refine lv_istore_n (lv' := [(3, .int (a3 + 0)), (0, .ref (ad 0)), (1, .int a1), (2, .int a2), (4, .int a4)]) hx hb dR_rows_51 rfl hl (by decide) rfl (fun ls hl => ?_)
        refine lv_aload_n hx hb dR_rows_52 rfl (lv_at hl 1 rfl) ?_
        refine lv_iconst (v := 0) hx hb dR_rows_53 (by decide) ?_
        obtain ⟨x4, ex4, h⟩ := mp_bs h
        refine mp_mv (mp_runV (As := [.int 0]) (rest := []) cx kV_R_101 (cR_putsFrom l k ad x2.2 0 x4 ex4) ⟨rfl, rfl, Nat.le_of_ble_eq_true rfl, Nat.le_of_ble_eq_true rfl⟩ ⟨Nat.zero_le _, Nat.zero_le _⟩ hE hP (mp_Dw hD hAN) (mp_S hS hAN) 0 rfl rfl rfl hl.1 rfl (Nat.le_of_ble_eq_true rfl) dR_rows_54) hS (fun _ h9 => h9) (fun H locs hP hk hS => ?_)
        have hD : va_D (mp_A (aR ad)) (cR k ad x4) := mp_Ds hD rfl
        refine lv_iinc (v := (a4 + 1)) (lv' := [(4, .int (a4 + 1)), (3, .int (a3 + 0)), (0, .ref (ad 0)), (1, .int a1), (2, .int a2)]) hx hb dR_rows_57 hl (k := 4) rfl rfl (by decide) rfl (fun ls hl => ?_)
        refine lv_goto (tgt := 28) hx hb dR_rows_60 (by decide) ?_
        exact ih x4 (a3 + 0) (a4 + 1) h _ _ hP hD hS ls (lv_sub hl [2, 3, 4, 1, 0] rfl)
      · have h := mp_f c3 h
        refine lv_iconst (v := 1) hx hb dR_rows_45 (by decide) ?_
        refine lv_goto (tgt := 50) hx hb dR_rows_46 (by decide) ?_
        refine lv_iadd hx hb dR_rows_50 ?_
        refine lv_istore_n (lv' := [(3, .int (a3 + 1)), (0, .ref (ad 0)), (1, .int a1), (2, .int a2), (4, .int a4)]) hx hb dR_rows_51 rfl hl (by decide) rfl (fun ls hl => ?_)
        refine lv_aload_n hx hb dR_rows_52 rfl (lv_at hl 1 rfl) ?_
        refine lv_iconst (v := 0) hx hb dR_rows_53 (by decide) ?_
        obtain ⟨x5, ex5, h⟩ := mp_bs h
        refine mp_mv (mp_runV (As := [.int 0]) (rest := []) cx kV_R_101 (cR_putsFrom l k ad x2.2 0 x5 ex5) ⟨rfl, rfl, Nat.le_of_ble_eq_true rfl, Nat.le_of_ble_eq_true rfl⟩ ⟨Nat.zero_le _, Nat.zero_le _⟩ hE hP (mp_Dw hD hAN) (mp_S hS hAN) 0 rfl rfl rfl hl.1 rfl (Nat.le_of_ble_eq_true rfl) dR_rows_54) hS (fun _ h9 => h9) (fun H locs hP hk hS => ?_)
        have hD : va_D (mp_A (aR ad)) (cR k ad x5) := mp_Ds hD rfl
        refine lv_iinc (v := (a4 + 1)) (lv' := [(4, .int (a4 + 1)), (3, .int (a3 + 1)), (0, .ref (ad 0)), (1, .int a1), (2, .int a2)]) hx hb dR_rows_57 hl (k := 4) rfl rfl (by decide) rfl (fun ls hl => ?_)
        refine lv_goto (tgt := 28) hx hb dR_rows_60 (by decide) ?_
        exact ih x5 (a3 + 1) (a4 + 1) h _ _ hP hD hS ls (lv_sub hl [2, 3, 4, 1, 0] rfl)
def fR_rows (g : SR) (a1 : Int32) : Option (Int32 × SR) := (fR_between a1 0 3).bind fun x1 => (if x1 = 0 then some ((-2), g) else (fR_allRows g a1).bind fun x3 => (fR_keepsAt g 0).bind fun x4 => fR_rows_28 a1 x3 2000 x4 0 0)
set_option maxHeartbeats 4000000 in
set_option maxRecDepth 100000 in
theorem wR_rows {p : Program} {l : Launch} {e : Env} {s : State} {m : MethodId} {args : Array Value} {below : List Frame} {meth : Method} {c : Code} (cx : mp_C p s m args meth c bR_rows 5 (some .int) rR) (k : KK) (ad : Nat → Nat) (g : SR) (a1 : Int32) (z : (Int32 × SR)) (hE : mp_E k s) (hAN : ∀ q, mp_A (aR ad) q → mp_N k q) {H : Heap} {locs : List Loc} (hP : va_P (kD k) mp_cls (cR k ad g) H) (hD : va_D (mp_A (aR ad)) (cR k ad g)) (hS : va_S (mp_A (aR ad)) s.heap H locs) (h : fR_rows g a1 = some z) (ls : Array Slot) (hl : lv_has ls 5 [(0, .ref (ad 0)), (1, .int a1)]) : W p l e rmR_rows s m args below meth c H locs 0 0 (MQ below (mp_Qm k (some (.int z.1)) (cR k ad z.2) (aR ad)) args s 0 0 (mp_A (aR ad))) (F0 m 0 ls []) := by
  obtain ⟨hx, hb, -, hml, hown, hts, -⟩ := id cx
  unfold fR_rows at h
  refine lv_iload_n hx hb dR_rows_0 rfl (lv_at hl 1 rfl) ?_
  refine lv_iconst (v := 0) hx hb dR_rows_1 (by decide) ?_
  refine lv_iconst (v := 3) hx hb dR_rows_2 (by decide) ?_
  obtain ⟨x1, ex1, h⟩ := mp_bs h
  refine mp_si (mp_runT (As := [.int a1, .int 0, .int 3]) (rest := []) cx kT_R_22 (cR_between l k a1 0 3 x1 ex1) ⟨rfl, rfl, Nat.le_of_ble_eq_true rfl, Nat.le_of_ble_eq_true rfl⟩ ⟨Nat.zero_le _, Nat.zero_le _⟩ hE mp_P0 mp_D0 (mp_S hS hAN) hl.1 rfl (Nat.le_of_ble_eq_true rfl) dR_rows_3) ?_
  refine lv_if_ne (tgt := 12) hx hb dR_rows_6 (by decide) (fun c2 => ?_) (fun c2 => ?_)
  · have h := mp_f c2 h
    refine lv_aload_n hx hb dR_rows_12 rfl (lv_at hl 0 rfl) ?_
    refine lv_iload_n hx hb dR_rows_13 rfl (lv_at hl 1 rfl) ?_
    obtain ⟨x3, ex3, h⟩ := mp_bs h
    refine mp_si (mp_runV (As := [.int a1]) (rest := []) cx kV_R_91 (cR_allRows l k ad g a1 x3 ex3) ⟨rfl, rfl, Nat.le_of_ble_eq_true rfl, Nat.le_of_ble_eq_true rfl⟩ ⟨Nat.zero_le _, Nat.zero_le _⟩ hE hP (mp_Dw hD hAN) (mp_S hS hAN) 0 rfl rfl rfl hl.1 rfl (Nat.le_of_ble_eq_true rfl) dR_rows_14) ?_
    refine lv_istore_n (lv' := [(2, .int x3), (0, .ref (ad 0)), (1, .int a1)]) hx hb dR_rows_17 rfl hl (by decide) rfl (fun ls hl => ?_)
    refine lv_iconst (v := 0) hx hb dR_rows_18 (by decide) ?_
    refine lv_istore_n (lv' := [(3, .int 0), (2, .int x3), (0, .ref (ad 0)), (1, .int a1)]) hx hb dR_rows_19 rfl hl (by decide) rfl (fun ls hl => ?_)
    refine lv_aload_n hx hb dR_rows_20 rfl (lv_at hl 2 rfl) ?_
    refine lv_iconst (v := 0) hx hb dR_rows_21 (by decide) ?_
    obtain ⟨x4, ex4, h⟩ := mp_bs h
    refine mp_mv (mp_runV (As := [.int 0]) (rest := []) cx kV_R_94 (cR_keepsAt l k ad g 0 x4 ex4) ⟨rfl, rfl, Nat.le_of_ble_eq_true rfl, Nat.le_of_ble_eq_true rfl⟩ ⟨Nat.zero_le _, Nat.zero_le _⟩ hE hP (mp_Dw hD hAN) (mp_S hS hAN) 0 rfl rfl rfl hl.1 rfl (Nat.le_of_ble_eq_true rfl) dR_rows_22) hS (fun _ h9 => h9) (fun H locs hP hk hS => ?_)
    have hD : va_D (mp_A (aR ad)) (cR k ad x4) := mp_Ds hD rfl
    refine lv_iconst (v := 0) hx hb dR_rows_25 (by decide) ?_
    refine lv_istore (lv' := [(4, .int 0), (3, .int 0), (2, .int x3), (0, .ref (ad 0)), (1, .int a1)]) hx hb dR_rows_26 hl (by decide) rfl (fun ls hl => ?_)
    exact lR_rows_28 cx k ad a1 x3 z hE hAN _ x4 0 0 h _ _ hP hD hS ls (lv_sub hl [3, 4, 2, 1, 0] rfl)
  · have h := mp_t c2 h
    refine lv_bipush (v := (-2)) hx hb dR_rows_9 (by decide) ?_
    exact mp_rim (cf := cR k ad) cx h hP hS dR_rows_11
theorem cR_rows (l : Launch) (k : KK) (ad : Nat → Nat) (g : SR) (a1 : Int32) (z : (Int32 × SR)) (h : fR_rows g a1 = some z) : mp_CM l k yR_rows bR_rows 5 (some .int) rmR_rows [.ref (ad 0), .int a1] (cR k ad g) (cR k ad z.2) (aR ad) (some (.int z.1)) := by
  refine Met.ofW (cc := bR_rows) (maxL := 5) (ret := (some .int)) (by decide) rfl ?_
  intro p e s m args below meth c s₁ B hml hv
  obtain ⟨rfl, hP, hD, hE⟩ := hv
  have hl := lv_entry ([.ref (ad 0), .int a1]) (n := 5) (Nat.le_of_ble_eq_true rfl)
  rw [lg_entry_eq]
  generalize (lg_sl ([.ref (ad 0), .int a1]) ++ List.replicate (5 - (lg_sl ([.ref (ad 0), .int a1])).length) Slot.unset).toArray = ls at hl ⊢
  exact wR_rows (mp_C.of B hml) k ad g a1 z hE (mp_new hD rfl) hP (mp_own hD rfl) va_S.rf h ls hl
-- MovingPlacesModel.findSoonest
abbrev rmR_findSoonest : Room := { frames := 6, cells := 0, slots := 0, locals := 138 }
def fR_findSoonest_22 (a1 : Int32) (a2 : Int32) (a3 : Int32) (a4 : Int32) (kk : SR → Option (Int32 × SR)) : Nat → SR → Int32 → Option (Int32 × SR)
  | 0, _, _ => none
  | n + 1, g, a5 => (if a4 ≤ a5 then kk g else (fR_actsRow g a5 a3).bind fun x2 => (if x2.1 = 0 then (fR_putsFrom x2.2 0).bind fun x4 => fR_findSoonest_22 a1 a2 a3 a4 kk n x4 (a5 + 1) else (fR_isWithin x2.2 a1 a2).bind fun x6 => (if x6 = 0 then (fR_putsFrom x2.2 0).bind fun x8 => fR_findSoonest_22 a1 a2 a3 a4 kk n x8 (a5 + 1) else (fR_putsFrom x2.2 0).bind fun x10 => some (a3, x10))))
theorem fR_findSoonest_22_s (a1 : Int32) (a2 : Int32) (a3 : Int32) (a4 : Int32) (kk : SR → Option (Int32 × SR)) (n : Nat) (g : SR) (a5 : Int32) : fR_findSoonest_22 a1 a2 a3 a4 kk (n + 1) g a5 = (if a4 ≤ a5 then kk g else (fR_actsRow g a5 a3).bind fun x2 => (if x2.1 = 0 then (fR_putsFrom x2.2 0).bind fun x4 => fR_findSoonest_22 a1 a2 a3 a4 kk n x4 (a5 + 1) else (fR_isWithin x2.2 a1 a2).bind fun x6 => (if x6 = 0 then (fR_putsFrom x2.2 0).bind fun x8 => fR_findSoonest_22 a1 a2 a3 a4 kk n x8 (a5 + 1) else (fR_putsFrom x2.2 0).bind fun x10 => some (a3, x10)))) := rfl
set_option maxHeartbeats 4000000 in
set_option maxRecDepth 100000 in
theorem lR_findSoonest_22 {p : Program} {l : Launch} {e : Env} {s : State} {m : MethodId} {args : Array Value} {below : List Frame} {meth : Method} {c : Code} (cx : mp_C p s m args meth c bR_findSoonest 7 (some .int) rR) (k : KK) (ad : Nat → Nat) (a1 : Int32) (a2 : Int32) (a3 : Int32) (a4 : Int32) (kk : SR → Option (Int32 × SR)) (z : (Int32 × SR)) (hE : mp_E k s) (hAN : ∀ q, mp_A (aR ad) q → mp_N k q) (hk : ∀ (g : SR), kk g = some z → ∀ (H : Heap) (locs : List Loc), va_P (kD k) mp_cls (cR k ad g) H → va_D (mp_A (aR ad)) (cR k ad g) → va_S (mp_A (aR ad)) s.heap H locs → ∀ (ls : Array Slot), lv_has ls 7 [(0, .ref (ad 0)), (1, .int a1), (2, .int a2), (3, .int a3)] → W p l e rmR_findSoonest s m args below meth c H locs 0 0 (MQ below (mp_Qm k (some (.int z.1)) (cR k ad z.2) (aR ad)) args s 0 0 (mp_A (aR ad))) (F0 m 73 ls [])) : ∀ (n : Nat) (g : SR) (a5 : Int32), fR_findSoonest_22 a1 a2 a3 a4 kk n g a5 = some z → ∀ (H : Heap) (locs : List Loc), va_P (kD k) mp_cls (cR k ad g) H → va_D (mp_A (aR ad)) (cR k ad g) → va_S (mp_A (aR ad)) s.heap H locs → ∀ (ls : Array Slot), lv_has ls 7 [(0, .ref (ad 0)), (1, .int a1), (2, .int a2), (3, .int a3), (4, .int a4), (5, .int a5)] → W p l e rmR_findSoonest s m args below meth c H locs 0 0 (MQ below (mp_Qm k (some (.int z.1)) (cR k ad z.2) (aR ad)) args s 0 0 (mp_A (aR ad))) (F0 m 22 ls []) := by
  obtain ⟨hx, hb, -, hml, hown, hts, -⟩ := id cx
  intro n
  induction n with
  | zero =>
    intro g a5 h
    have h : (none : Option (Int32 × SR)) = some z := h
    cases h
  | succ n ih =>
    intro g a5 h H locs hP hD hS ls hl
    rw [fR_findSoonest_22_s] at h
    refine lv_iload hx hb dR_findSoonest_22 (lv_at hl 5 rfl) ?_
    refine lv_iload hx hb dR_findSoonest_24 (lv_at hl 4 rfl) ?_
    refine lv_icmp_ge (tgt := 73) hx hb dR_findSoonest_26 (by decide) (fun c1 => ?_) (fun c1 => ?_)
    · have h := mp_t c1 h
      exact hk g h _ _ hP hD hS ls (lv_sub hl [0, 1, 2, 3] rfl)
    · have h := mp_f c1 h
      refine lv_aload_n hx hb dR_findSoonest_29 rfl (lv_at hl 0 rfl) ?_
      refine lv_iload hx hb dR_findSoonest_30 (lv_at hl 5 rfl) ?_
      refine lv_iload_n hx hb dR_findSoonest_32 rfl (lv_at hl 3 rfl) ?_
      obtain ⟨x2, ex2, h⟩ := mp_bs h
      refine mp_mi (mp_runV (As := [.int a5, .int a3]) (rest := []) cx kV_R_98 (cR_actsRow l k ad g a5 a3 x2 ex2) ⟨rfl, rfl, Nat.le_of_ble_eq_true rfl, Nat.le_of_ble_eq_true rfl⟩ ⟨Nat.zero_le _, Nat.zero_le _⟩ hE hP (mp_Dw hD hAN) (mp_S hS hAN) 0 rfl rfl rfl hl.1 rfl (Nat.le_of_ble_eq_true rfl) dR_findSoonest_33) hS (fun _ h9 => h9) (fun H locs hP hk hS => ?_)
      have hD : va_D (mp_A (aR ad)) (cR k ad x2.2) := mp_Ds hD rfl
      refine lv_if_eq (tgt := 52) hx hb dR_findSoonest_36 (by decide) (fun c3 => ?_) (fun c3 => ?_)
      · have h := mp_t c3 h
        refine lv_iconst (v := 0) hx hb dR_findSoonest_52 (by decide) ?_
        refine lv_istore (lv' := [(6, .int 0), (0, .ref (ad 0)), (1, .int a1), (2, .int a2), (3, .int a3), (4, .int a4), (5, .int a5)]) hx hb dR_findSoonest_53 hl (by decide) rfl (fun ls hl => ?_)
        refine lv_aload_n hx hb dR_findSoonest_55 rfl (lv_at hl 1 rfl) ?_
        refine lv_iconst (v := 0) hx hb dR_findSoonest_56 (by decide) ?_
        obtain ⟨x4, ex4, h⟩ := mp_bs h
        refine mp_mv (mp_runV (As := [.int 0]) (rest := []) cx kV_R_101 (cR_putsFrom l k ad x2.2 0 x4 ex4) ⟨rfl, rfl, Nat.le_of_ble_eq_true rfl, Nat.le_of_ble_eq_true rfl⟩ ⟨Nat.zero_le _, Nat.zero_le _⟩ hE hP (mp_Dw hD hAN) (mp_S hS hAN) 0 rfl rfl rfl hl.1 rfl (Nat.le_of_ble_eq_true rfl) dR_findSoonest_57) hS (fun _ h9 => h9) (fun H locs hP hk hS => ?_)
        have hD : va_D (mp_A (aR ad)) (cR k ad x4) := mp_Ds hD rfl
        refine lv_iload hx hb dR_findSoonest_60 (lv_at hl 0 rfl) ?_
        refine lv_if_eq (tgt := 67) hx hb dR_findSoonest_62 (by decide) (fun c5 => ?_) (fun c5 => ?_)
        · refine lv_iinc (v := (a5 + 1)) (lv' := [(5, .int (a5 + 1)), (6, .int 0), (0, .ref (ad 0)), (1, .int a1), (2, .int a2), (3, .int a3), (4, .int a4)]) hx hb dR_findSoonest_67 hl (k := 6) rfl rfl (by decide) rfl (fun ls hl => ?_)
          refine lv_goto (tgt := 22) hx hb dR_findSoonest_70 (by decide) ?_
          exact ih x4 (a5 + 1) h _ _ hP hD hS ls (lv_sub hl [2, 3, 4, 5, 6, 0] rfl)
        · exact absurd (by decide) c5
      · have h := mp_f c3 h
        refine lv_aload_n hx hb dR_findSoonest_39 rfl (lv_at hl 0 rfl) ?_
        refine lv_iload_n hx hb dR_findSoonest_40 rfl (lv_at hl 1 rfl) ?_
        refine lv_iload_n hx hb dR_findSoonest_41 rfl (lv_at hl 2 rfl) ?_
        obtain ⟨x6, ex6, h⟩ := mp_bs h
        refine mp_si (mp_runV (As := [.int a1, .int a2]) (rest := []) cx kV_R_65 (cR_isWithin l k ad x2.2 a1 a2 x6 ex6) ⟨rfl, rfl, Nat.le_of_ble_eq_true rfl, Nat.le_of_ble_eq_true rfl⟩ ⟨Nat.zero_le _, Nat.zero_le _⟩ hE hP (mp_Dw hD hAN) (mp_S hS hAN) 0 rfl rfl rfl hl.1 rfl (Nat.le_of_ble_eq_true rfl) dR_findSoonest_42) ?_
        refine lv_if_eq (tgt := 52) hx hb dR_findSoonest_45 (by decide) (fun c7 => ?_) (fun c7 => ?_)
        · have h := mp_t c7 h
          refine lv_iconst (v := 0) hx hb dR_findSoonest_52 (by decide) ?_
          refine lv_istore (lv' := [(6, .int 0), (0, .ref (ad 0)), (1, .int a1), (2, .int a2), (3, .int a3), (4, .int a4), (5, .int a5)]) hx hb dR_findSoonest_53 hl (by decide) rfl (fun ls hl => ?_)
          refine lv_aload_n hx hb dR_findSoonest_55 rfl (lv_at hl 1 rfl) ?_
          refine lv_iconst (v := 0) hx hb dR_findSoonest_56 (by decide) ?_
          obtain ⟨x8, ex8, h⟩ := mp_bs h
          refine mp_mv (mp_runV (As := [.int 0]) (rest := []) cx kV_R_101 (cR_putsFrom l k ad x2.2 0 x8 ex8) ⟨rfl, rfl, Nat.le_of_ble_eq_true rfl, Nat.le_of_ble_eq_true rfl⟩ ⟨Nat.zero_le _, Nat.zero_le _⟩ hE hP (mp_Dw hD hAN) (mp_S hS hAN) 0 rfl rfl rfl hl.1 rfl (Nat.le_of_ble_eq_true rfl) dR_findSoonest_57) hS (fun _ h9 => h9) (fun H locs hP hk hS => ?_)
          have hD : va_D (mp_A (aR ad)) (cR k ad x8) := mp_Ds hD rfl
          refine lv_iload hx hb dR_findSoonest_60 (lv_at hl 0 rfl) ?_
          refine lv_if_eq (tgt := 67) hx hb dR_findSoonest_62 (by decide) (fun c9 => ?_) (fun c9 => ?_)
          · refine lv_iinc (v := (a5 + 1)) (lv' := [(5, .int (a5 + 1)), (6, .int 0), (0, .ref (ad 0)), (1, .int a1), (2, .int a2), (3, .int a3), (4, .int a4)]) hx hb dR_findSoonest_67 hl (k := 6) rfl rfl (by decide) rfl (fun ls hl => ?_)
            refine lv_goto (tgt := 22) hx hb dR_findSoonest_70 (by decide) ?_
            exact ih x8 (a5 + 1) h _ _ hP hD hS ls (lv_sub hl [2, 3, 4, 5, 6, 0] rfl)
          · exact absurd (by decide) c9
        · have h := mp_f c7 h
          refine lv_iconst (v := 1) hx hb dR_findSoonest_48 (by decide) ?_
          refine lv_goto (tgt := 53) hx hb dR_findSoonest_49 (by decide) ?_
          refine lv_istore (lv' := [(6, .int 1), (0, .ref (ad 0)), (1, .int a1), (2, .int a2), (3, .int a3), (4, .int a4), (5, .int a5)]) hx hb dR_findSoonest_53 hl (by decide) rfl (fun ls hl => ?_)
          refine lv_aload_n hx hb dR_findSoonest_55 rfl (lv_at hl 1 rfl) ?_
          refine lv_iconst (v := 0) hx hb dR_findSoonest_56 (by decide) ?_
          obtain ⟨x10, ex10, h⟩ := mp_bs h
          refine mp_mv (mp_runV (As := [.int 0]) (rest := []) cx kV_R_101 (cR_putsFrom l k ad x2.2 0 x10 ex10) ⟨rfl, rfl, Nat.le_of_ble_eq_true rfl, Nat.le_of_ble_eq_true rfl⟩ ⟨Nat.zero_le _, Nat.zero_le _⟩ hE hP (mp_Dw hD hAN) (mp_S hS hAN) 0 rfl rfl rfl hl.1 rfl (Nat.le_of_ble_eq_true rfl) dR_findSoonest_57) hS (fun _ h9 => h9) (fun H locs hP hk hS => ?_)
          have hD : va_D (mp_A (aR ad)) (cR k ad x10) := mp_Ds hD rfl
          refine lv_iload hx hb dR_findSoonest_60 (lv_at hl 0 rfl) ?_
          refine lv_if_eq (tgt := 67) hx hb dR_findSoonest_62 (by decide) (fun c11 => ?_) (fun c11 => ?_)
          · exact absurd c11 (by decide)
          · refine lv_iload_n hx hb dR_findSoonest_65 rfl (lv_at hl 4 rfl) ?_
            exact mp_rim (cf := cR k ad) cx h hP hS dR_findSoonest_66
def fR_findSoonest_7 (a1 : Int32) (a2 : Int32) : Nat → SR → Int32 → Option (Int32 × SR)
  | 0, _, _ => none
  | n + 1, g, a3 => (if 3 < a3 then some ((-9), g) else (fR_allRows g a3).bind fun x2 => fR_findSoonest_22 a1 a2 a3 x2 (fun s3 => fR_findSoonest_7 a1 a2 n s3 (a3 + 1)) 2000 g 0)
theorem fR_findSoonest_7_s (a1 : Int32) (a2 : Int32) (n : Nat) (g : SR) (a3 : Int32) : fR_findSoonest_7 a1 a2 (n + 1) g a3 = (if 3 < a3 then some ((-9), g) else (fR_allRows g a3).bind fun x2 => fR_findSoonest_22 a1 a2 a3 x2 (fun s3 => fR_findSoonest_7 a1 a2 n s3 (a3 + 1)) 2000 g 0) := rfl
set_option maxHeartbeats 4000000 in
set_option maxRecDepth 100000 in
theorem lR_findSoonest_7 {p : Program} {l : Launch} {e : Env} {s : State} {m : MethodId} {args : Array Value} {below : List Frame} {meth : Method} {c : Code} (cx : mp_C p s m args meth c bR_findSoonest 7 (some .int) rR) (k : KK) (ad : Nat → Nat) (a1 : Int32) (a2 : Int32) (z : (Int32 × SR)) (hE : mp_E k s) (hAN : ∀ q, mp_A (aR ad) q → mp_N k q) : ∀ (n : Nat) (g : SR) (a3 : Int32), fR_findSoonest_7 a1 a2 n g a3 = some z → ∀ (H : Heap) (locs : List Loc), va_P (kD k) mp_cls (cR k ad g) H → va_D (mp_A (aR ad)) (cR k ad g) → va_S (mp_A (aR ad)) s.heap H locs → ∀ (ls : Array Slot), lv_has ls 7 [(0, .ref (ad 0)), (1, .int a1), (2, .int a2), (3, .int a3)] → W p l e rmR_findSoonest s m args below meth c H locs 0 0 (MQ below (mp_Qm k (some (.int z.1)) (cR k ad z.2) (aR ad)) args s 0 0 (mp_A (aR ad))) (F0 m 7 ls []) := by
  obtain ⟨hx, hb, -, hml, hown, hts, -⟩ := id cx
  intro n
  induction n with
  | zero =>
    intro g a3 h
    have h : (none : Option (Int32 × SR)) = some z := h
    cases h
  | succ n ih =>
    intro g a3 h H locs hP hD hS ls hl
    rw [fR_findSoonest_7_s] at h
    refine lv_iload_n hx hb dR_findSoonest_7 rfl (lv_at hl 3 rfl) ?_
    refine lv_iconst (v := 3) hx hb dR_findSoonest_8 (by decide) ?_
    refine lv_icmp_gt (tgt := 79) hx hb dR_findSoonest_9 (by decide) (fun c1 => ?_) (fun c1 => ?_)
    · have h := mp_t c1 h
      refine lv_bipush (v := (-9)) hx hb dR_findSoonest_79 (by decide) ?_
      exact mp_rim (cf := cR k ad) cx h hP hS dR_findSoonest_81
    · have h := mp_f c1 h
      refine lv_aload_n hx hb dR_findSoonest_12 rfl (lv_at hl 0 rfl) ?_
      refine lv_iload_n hx hb dR_findSoonest_13 rfl (lv_at hl 3 rfl) ?_
      obtain ⟨x2, ex2, h⟩ := mp_bs h
      refine mp_si (mp_runV (As := [.int a3]) (rest := []) cx kV_R_91 (cR_allRows l k ad g a3 x2 ex2) ⟨rfl, rfl, Nat.le_of_ble_eq_true rfl, Nat.le_of_ble_eq_true rfl⟩ ⟨Nat.zero_le _, Nat.zero_le _⟩ hE hP (mp_Dw hD hAN) (mp_S hS hAN) 0 rfl rfl rfl hl.1 rfl (Nat.le_of_ble_eq_true rfl) dR_findSoonest_14) ?_
      refine lv_istore (lv' := [(4, .int x2), (0, .ref (ad 0)), (1, .int a1), (2, .int a2), (3, .int a3)]) hx hb dR_findSoonest_17 hl (by decide) rfl (fun ls hl => ?_)
      refine lv_iconst (v := 0) hx hb dR_findSoonest_19 (by decide) ?_
      refine lv_istore (lv' := [(5, .int 0), (4, .int x2), (0, .ref (ad 0)), (1, .int a1), (2, .int a2), (3, .int a3)]) hx hb dR_findSoonest_20 hl (by decide) rfl (fun ls hl => ?_)
      refine lR_findSoonest_22 cx k ad a1 a2 a3 x2 _ z hE hAN (fun s3 h H locs hP hD hS ls hl => ?_) _ g 0 h _ _ hP hD hS ls (lv_sub hl [2, 3, 4, 5, 1, 0] rfl)
      refine lv_iinc (v := (a3 + 1)) (lv' := [(3, .int (a3 + 1)), (0, .ref (ad 0)), (1, .int a1), (2, .int a2)]) hx hb dR_findSoonest_73 hl (k := 3) rfl rfl (by decide) rfl (fun ls hl => ?_)
      refine lv_goto (tgt := 7) hx hb dR_findSoonest_76 (by decide) ?_
      exact ih s3 (a3 + 1) h _ _ hP hD hS ls (lv_sub hl [1, 2, 3, 0] rfl)
def fR_findSoonest (g : SR) (a1 : Int32) (a2 : Int32) : Option (Int32 × SR) := (fR_keepsAt g 0).bind fun x1 => fR_findSoonest_7 a1 a2 2000 x1 0
set_option maxHeartbeats 4000000 in
set_option maxRecDepth 100000 in
theorem wR_findSoonest {p : Program} {l : Launch} {e : Env} {s : State} {m : MethodId} {args : Array Value} {below : List Frame} {meth : Method} {c : Code} (cx : mp_C p s m args meth c bR_findSoonest 7 (some .int) rR) (k : KK) (ad : Nat → Nat) (g : SR) (a1 : Int32) (a2 : Int32) (z : (Int32 × SR)) (hE : mp_E k s) (hAN : ∀ q, mp_A (aR ad) q → mp_N k q) {H : Heap} {locs : List Loc} (hP : va_P (kD k) mp_cls (cR k ad g) H) (hD : va_D (mp_A (aR ad)) (cR k ad g)) (hS : va_S (mp_A (aR ad)) s.heap H locs) (h : fR_findSoonest g a1 a2 = some z) (ls : Array Slot) (hl : lv_has ls 7 [(0, .ref (ad 0)), (1, .int a1), (2, .int a2)]) : W p l e rmR_findSoonest s m args below meth c H locs 0 0 (MQ below (mp_Qm k (some (.int z.1)) (cR k ad z.2) (aR ad)) args s 0 0 (mp_A (aR ad))) (F0 m 0 ls []) := by
  obtain ⟨hx, hb, -, hml, hown, hts, -⟩ := id cx
  unfold fR_findSoonest at h
  refine lv_aload_n hx hb dR_findSoonest_0 rfl (lv_at hl 0 rfl) ?_
  refine lv_iconst (v := 0) hx hb dR_findSoonest_1 (by decide) ?_
  obtain ⟨x1, ex1, h⟩ := mp_bs h
  refine mp_mv (mp_runV (As := [.int 0]) (rest := []) cx kV_R_94 (cR_keepsAt l k ad g 0 x1 ex1) ⟨rfl, rfl, Nat.le_of_ble_eq_true rfl, Nat.le_of_ble_eq_true rfl⟩ ⟨Nat.zero_le _, Nat.zero_le _⟩ hE hP (mp_Dw hD hAN) (mp_S hS hAN) 0 rfl rfl rfl hl.1 rfl (Nat.le_of_ble_eq_true rfl) dR_findSoonest_2) hS (fun _ h9 => h9) (fun H locs hP hk hS => ?_)
  have hD : va_D (mp_A (aR ad)) (cR k ad x1) := mp_Ds hD rfl
  refine lv_iconst (v := 0) hx hb dR_findSoonest_5 (by decide) ?_
  refine lv_istore_n (lv' := [(3, .int 0), (0, .ref (ad 0)), (1, .int a1), (2, .int a2)]) hx hb dR_findSoonest_6 rfl hl (by decide) rfl (fun ls hl => ?_)
  exact lR_findSoonest_7 cx k ad a1 a2 z hE hAN _ x1 0 h _ _ hP hD hS ls (lv_sub hl [1, 2, 3, 0] rfl)
theorem cR_findSoonest (l : Launch) (k : KK) (ad : Nat → Nat) (g : SR) (a1 : Int32) (a2 : Int32) (z : (Int32 × SR)) (h : fR_findSoonest g a1 a2 = some z) : mp_CM l k yR_findSoonest bR_findSoonest 7 (some .int) rmR_findSoonest [.ref (ad 0), .int a1, .int a2] (cR k ad g) (cR k ad z.2) (aR ad) (some (.int z.1)) := by
  refine Met.ofW (cc := bR_findSoonest) (maxL := 7) (ret := (some .int)) (by decide) rfl ?_
  intro p e s m args below meth c s₁ B hml hv
  obtain ⟨rfl, hP, hD, hE⟩ := hv
  have hl := lv_entry ([.ref (ad 0), .int a1, .int a2]) (n := 7) (Nat.le_of_ble_eq_true rfl)
  rw [lg_entry_eq]
  generalize (lg_sl ([.ref (ad 0), .int a1, .int a2]) ++ List.replicate (7 - (lg_sl ([.ref (ad 0), .int a1, .int a2])).length) Slot.unset).toArray = ls at hl ⊢
  exact wR_findSoonest (mp_C.of B hml) k ad g a1 a2 z hE (mp_new hD rfl) hP (mp_own hD rfl) va_S.rf h ls hl
-- MovingPlacesModel.soonest
abbrev rmR_soonest : Room := { frames := 7, cells := 0, slots := 0, locals := 164 }
def fR_soonest (g : SR) (a1 : Int32) (a2 : Int32) (a3 : Int32) : Option (Int32 × SR) := (fR_isPlace g a1).bind fun x1 => (if x1 = 0 then some ((-1), g) else (fR_isPlace g a2).bind fun x3 => (if x3 = 0 then some ((-1), g) else (fR_between a3 (-1) 2).bind fun x5 => (if x5 = 0 then some ((-2), g) else (if a1 = a2 then some ((-3), g) else (fR_findSoonest g a1 a2).bind fun x8 => (if a3 = (-1) then some (x8.1, x8.2) else (if x8.1 ≤ a3 then some ((-9), x8.2) else mp_ld x8.2.2.2.2.2 3 a3 fun x11 => some (x11, x8.2)))))))
set_option maxHeartbeats 4000000 in
set_option maxRecDepth 100000 in
theorem wR_soonest {p : Program} {l : Launch} {e : Env} {s : State} {m : MethodId} {args : Array Value} {below : List Frame} {meth : Method} {c : Code} (cx : mp_C p s m args meth c bR_soonest 5 (some .int) rR) (k : KK) (ad : Nat → Nat) (g : SR) (a1 : Int32) (a2 : Int32) (a3 : Int32) (z : (Int32 × SR)) (hE : mp_E k s) (hAN : ∀ q, mp_A (aR ad) q → mp_N k q) {H : Heap} {locs : List Loc} (hP : va_P (kD k) mp_cls (cR k ad g) H) (hD : va_D (mp_A (aR ad)) (cR k ad g)) (hS : va_S (mp_A (aR ad)) s.heap H locs) (h : fR_soonest g a1 a2 a3 = some z) (ls : Array Slot) (hl : lv_has ls 5 [(0, .ref (ad 0)), (1, .int a1), (2, .int a2), (3, .int a3)]) : W p l e rmR_soonest s m args below meth c H locs 0 0 (MQ below (mp_Qm k (some (.int z.1)) (cR k ad z.2) (aR ad)) args s 0 0 (mp_A (aR ad))) (F0 m 0 ls []) := by
  obtain ⟨hx, hb, -, hml, hown, hts, -⟩ := id cx
  unfold fR_soonest at h
  refine lv_aload_n hx hb dR_soonest_0 rfl (lv_at hl 0 rfl) ?_
  refine lv_iload_n hx hb dR_soonest_1 rfl (lv_at hl 1 rfl) ?_
  obtain ⟨x1, ex1, h⟩ := mp_bs h
  refine mp_si (mp_runV (As := [.int a1]) (rest := []) cx kV_R_30 (cR_isPlace l k ad g a1 x1 ex1) ⟨rfl, rfl, Nat.le_of_ble_eq_true rfl, Nat.le_of_ble_eq_true rfl⟩ ⟨Nat.zero_le _, Nat.zero_le _⟩ hE hP (mp_Dw hD hAN) (mp_S hS hAN) 0 rfl rfl rfl hl.1 rfl (Nat.le_of_ble_eq_true rfl) dR_soonest_2) ?_
  refine lv_if_eq (tgt := 16) hx hb dR_soonest_5 (by decide) (fun c2 => ?_) (fun c2 => ?_)
  · have h := mp_t c2 h
    refine lv_iconst (v := (-1)) hx hb dR_soonest_16 (by decide) ?_
    exact mp_rim (cf := cR k ad) cx h hP hS dR_soonest_17
  · have h := mp_f c2 h
    refine lv_aload_n hx hb dR_soonest_8 rfl (lv_at hl 0 rfl) ?_
    refine lv_iload_n hx hb dR_soonest_9 rfl (lv_at hl 2 rfl) ?_
    obtain ⟨x3, ex3, h⟩ := mp_bs h
    refine mp_si (mp_runV (As := [.int a2]) (rest := []) cx kV_R_30 (cR_isPlace l k ad g a2 x3 ex3) ⟨rfl, rfl, Nat.le_of_ble_eq_true rfl, Nat.le_of_ble_eq_true rfl⟩ ⟨Nat.zero_le _, Nat.zero_le _⟩ hE hP (mp_Dw hD hAN) (mp_S hS hAN) 0 rfl rfl rfl hl.1 rfl (Nat.le_of_ble_eq_true rfl) dR_soonest_10) ?_
    refine lv_if_ne (tgt := 18) hx hb dR_soonest_13 (by decide) (fun c4 => ?_) (fun c4 => ?_)
    · have h := mp_f c4 h
      refine lv_iload_n hx hb dR_soonest_18 rfl (lv_at hl 3 rfl) ?_
      refine lv_iconst (v := (-1)) hx hb dR_soonest_19 (by decide) ?_
      refine lv_iconst (v := 2) hx hb dR_soonest_20 (by decide) ?_
      obtain ⟨x5, ex5, h⟩ := mp_bs h
      refine mp_si (mp_runT (As := [.int a3, .int (-1), .int 2]) (rest := []) cx kT_R_22 (cR_between l k a3 (-1) 2 x5 ex5) ⟨rfl, rfl, Nat.le_of_ble_eq_true rfl, Nat.le_of_ble_eq_true rfl⟩ ⟨Nat.zero_le _, Nat.zero_le _⟩ hE mp_P0 mp_D0 (mp_S hS hAN) hl.1 rfl (Nat.le_of_ble_eq_true rfl) dR_soonest_21) ?_
      refine lv_if_ne (tgt := 30) hx hb dR_soonest_24 (by decide) (fun c6 => ?_) (fun c6 => ?_)
      · have h := mp_f c6 h
        refine lv_iload_n hx hb dR_soonest_30 rfl (lv_at hl 1 rfl) ?_
        refine lv_iload_n hx hb dR_soonest_31 rfl (lv_at hl 2 rfl) ?_
        refine lv_icmp_ne (tgt := 38) hx hb dR_soonest_32 (by decide) (fun c7 => ?_) (fun c7 => ?_)
        · have h := mp_f c7 h
          refine lv_aload_n hx hb dR_soonest_38 rfl (lv_at hl 0 rfl) ?_
          refine lv_iload_n hx hb dR_soonest_39 rfl (lv_at hl 1 rfl) ?_
          refine lv_iload_n hx hb dR_soonest_40 rfl (lv_at hl 2 rfl) ?_
          obtain ⟨x8, ex8, h⟩ := mp_bs h
          refine mp_mi (mp_runV (As := [.int a1, .int a2]) (rest := []) cx kV_R_104 (cR_findSoonest l k ad g a1 a2 x8 ex8) ⟨rfl, rfl, Nat.le_of_ble_eq_true rfl, Nat.le_of_ble_eq_true rfl⟩ ⟨Nat.zero_le _, Nat.zero_le _⟩ hE hP (mp_Dw hD hAN) (mp_S hS hAN) 0 rfl rfl rfl hl.1 rfl (Nat.le_of_ble_eq_true rfl) dR_soonest_41) hS (fun _ h9 => h9) (fun H locs hP hk hS => ?_)
          have hD : va_D (mp_A (aR ad)) (cR k ad x8.2) := mp_Ds hD rfl
          refine lv_istore (lv' := [(4, .int x8.1), (0, .ref (ad 0)), (1, .int a1), (2, .int a2), (3, .int a3)]) hx hb dR_soonest_44 hl (by decide) rfl (fun ls hl => ?_)
          refine lv_iload_n hx hb dR_soonest_46 rfl (lv_at hl 4 rfl) ?_
          refine lv_iconst (v := (-1)) hx hb dR_soonest_47 (by decide) ?_
          refine lv_icmp_ne (tgt := 56) hx hb dR_soonest_48 (by decide) (fun c9 => ?_) (fun c9 => ?_)
          · have h := mp_f c9 h
            refine lv_iload_n hx hb dR_soonest_56 rfl (lv_at hl 4 rfl) ?_
            refine lv_iload hx hb dR_soonest_57 (lv_at hl 0 rfl) ?_
            refine lv_icmp_ge (tgt := 71) hx hb dR_soonest_59 (by decide) (fun c10 => ?_) (fun c10 => ?_)
            · have h := mp_t c10 h
              refine lv_bipush (v := (-9)) hx hb dR_soonest_71 (by decide) ?_
              exact mp_rim (cf := cR k ad) cx h hP hS dR_soonest_73
            · have h := mp_f c10 h
              refine lv_aload_n hx hb dR_soonest_62 rfl (lv_at hl 1 rfl) ?_
              refine mp_gR cx hE hP iR 0 rfl 4 (by decide) wq_405 rfl (v := .ref (ad 4)) rfl dR_soonest_63 ?_
              refine lv_iload_n hx hb dR_soonest_66 rfl (lv_at hl 4 rfl) ?_
              obtain ⟨hi, x11, ex11, h⟩ := mp_lds h
              refine va_iald hx hb hE.1 hP 4 0 (f := x8.2.2.2.2.2) (n := 3) rfl rfl hi dR_soonest_67 ?_
              refine mp_top ex11 ?_
              refine lv_goto (tgt := 73) hx hb dR_soonest_68 (by decide) ?_
              exact mp_rim (cf := cR k ad) cx h hP hS dR_soonest_73
          · have h := mp_t c9 h
            refine lv_iload hx hb dR_soonest_51 (lv_at hl 0 rfl) ?_
            refine lv_goto (tgt := 73) hx hb dR_soonest_53 (by decide) ?_
            exact mp_rim (cf := cR k ad) cx h hP hS dR_soonest_73
        · have h := mp_t c7 h
          refine lv_bipush (v := (-3)) hx hb dR_soonest_35 (by decide) ?_
          exact mp_rim (cf := cR k ad) cx h hP hS dR_soonest_37
      · have h := mp_t c6 h
        refine lv_bipush (v := (-2)) hx hb dR_soonest_27 (by decide) ?_
        exact mp_rim (cf := cR k ad) cx h hP hS dR_soonest_29
    · have h := mp_t c4 h
      refine lv_iconst (v := (-1)) hx hb dR_soonest_16 (by decide) ?_
      exact mp_rim (cf := cR k ad) cx h hP hS dR_soonest_17
theorem cR_soonest (l : Launch) (k : KK) (ad : Nat → Nat) (g : SR) (a1 : Int32) (a2 : Int32) (a3 : Int32) (z : (Int32 × SR)) (h : fR_soonest g a1 a2 a3 = some z) : mp_CM l k yR_soonest bR_soonest 5 (some .int) rmR_soonest [.ref (ad 0), .int a1, .int a2, .int a3] (cR k ad g) (cR k ad z.2) (aR ad) (some (.int z.1)) := by
  refine Met.ofW (cc := bR_soonest) (maxL := 5) (ret := (some .int)) (by decide) rfl ?_
  intro p e s m args below meth c s₁ B hml hv
  obtain ⟨rfl, hP, hD, hE⟩ := hv
  have hl := lv_entry ([.ref (ad 0), .int a1, .int a2, .int a3]) (n := 5) (Nat.le_of_ble_eq_true rfl)
  rw [lg_entry_eq]
  generalize (lg_sl ([.ref (ad 0), .int a1, .int a2, .int a3]) ++ List.replicate (5 - (lg_sl ([.ref (ad 0), .int a1, .int a2, .int a3])).length) Slot.unset).toArray = ls at hl ⊢
  exact wR_soonest (mp_C.of B hml) k ad g a1 a2 a3 z hE (mp_new hD rfl) hP (mp_own hD rfl) va_S.rf h ls hl
-- MovingPlacesModel.saidNow
abbrev rmR_saidNow : Room := { frames := 2, cells := 0, slots := 0, locals := 43 }
def fR_saidNow_126 (g : SR) (a2 : Int32) (kk : Int32 → Option Int32) : Nat → Int32 → Int32 → Option Int32
  | 0, _, _ => none
  | n + 1, a1, a3 => mp_ld g.1 231 (123 + a2) fun x1 => (if x1 ≤ a3 then kk a1 else mp_ld g.1 231 ((159 + (6 * a2)) + a3) fun x3 => (if (x3 / 10) = 4 then (if (x3 - x3 / 10 * 10) = 9 then fR_saidNow_126 g a2 kk n (a1 ||| 0) (a3 + 1) else mp_lt (a1 ||| (1 <<< ((x3 - x3 / 10 * 10) &&& 31))) fun x6 => fR_saidNow_126 g a2 kk n x6 (a3 + 1)) else fR_saidNow_126 g a2 kk n (a1 ||| 0) (a3 + 1)))
theorem fR_saidNow_126_s (g : SR) (a2 : Int32) (kk : Int32 → Option Int32) (n : Nat) (a1 : Int32) (a3 : Int32) : fR_saidNow_126 g a2 kk (n + 1) a1 a3 = mp_ld g.1 231 (123 + a2) fun x1 => (if x1 ≤ a3 then kk a1 else mp_ld g.1 231 ((159 + (6 * a2)) + a3) fun x3 => (if (x3 / 10) = 4 then (if (x3 - x3 / 10 * 10) = 9 then fR_saidNow_126 g a2 kk n (a1 ||| 0) (a3 + 1) else mp_lt (a1 ||| (1 <<< ((x3 - x3 / 10 * 10) &&& 31))) fun x6 => fR_saidNow_126 g a2 kk n x6 (a3 + 1)) else fR_saidNow_126 g a2 kk n (a1 ||| 0) (a3 + 1))) := rfl
set_option maxHeartbeats 4000000 in
set_option maxRecDepth 100000 in
theorem lR_saidNow_126 {p : Program} {l : Launch} {e : Env} {s : State} {m : MethodId} {args : Array Value} {below : List Frame} {meth : Method} {c : Code} (cx : mp_C p s m args meth c bR_saidNow 5 (some .int) rR) (k : KK) (ad : Nat → Nat) (g : SR) (a2 : Int32) (kk : Int32 → Option Int32) (z : Int32) (hE : mp_E k s) (hP : va_P (kD k) mp_cls (cR k ad g) s.heap) (hD : va_D (mp_N k) (cR k ad g)) (hk : ∀ (a1 : Int32), kk a1 = some z → ∀ (ls : Array Slot), lv_has ls 5 [(0, .ref (ad 0)), (1, .int a1), (2, .int a2)] → W p l e rmR_saidNow s m args below meth c s.heap [] 0 0 (MQ below (mp_Qs (some (.int z))) args s 0 0 (fun _ => False)) (F0 m 195 ls [])) : ∀ (n : Nat) (a1 : Int32) (a3 : Int32), fR_saidNow_126 g a2 kk n a1 a3 = some z → ∀ (ls : Array Slot), lv_has ls 5 [(0, .ref (ad 0)), (1, .int a1), (2, .int a2), (3, .int a3)] → W p l e rmR_saidNow s m args below meth c s.heap [] 0 0 (MQ below (mp_Qs (some (.int z))) args s 0 0 (fun _ => False)) (F0 m 126 ls []) := by
  obtain ⟨hx, hb, -, hml, hown, hts, -⟩ := id cx
  intro n
  induction n with
  | zero =>
    intro a1 a3 h
    have h : (none : Option Int32) = some z := h
    cases h
  | succ n ih =>
    intro a1 a3 h ls hl
    rw [fR_saidNow_126_s] at h
    refine lv_iload_n hx hb dR_saidNow_126 rfl (lv_at hl 3 rfl) ?_
    refine lv_aload_n hx hb dR_saidNow_127 rfl (lv_at hl 0 rfl) ?_
    refine mp_gR cx hE hP iR 0 rfl 0 (by decide) wq_401 rfl (v := .ref (ad 1)) rfl dR_saidNow_128 ?_
    refine lv_bipush (v := 123) hx hb dR_saidNow_131 (by decide) ?_
    refine lv_iload_n hx hb dR_saidNow_133 rfl (lv_at hl 2 rfl) ?_
    refine lv_iadd hx hb dR_saidNow_134 ?_
    obtain ⟨hi, x1, ex1, h⟩ := mp_lds h
    refine va_iald hx hb hE.1 hP 1 0 (f := g.1) (n := 231) rfl rfl hi dR_saidNow_135 ?_
    refine mp_top ex1 ?_
    refine lv_icmp_ge (tgt := 195) hx hb dR_saidNow_136 (by decide) (fun c2 => ?_) (fun c2 => ?_)
    · have h := mp_t c2 h
      exact hk a1 h ls (lv_sub hl [0, 1, 2] rfl)
    · have h := mp_f c2 h
      refine lv_aload_n hx hb dR_saidNow_139 rfl (lv_at hl 0 rfl) ?_
      refine mp_gR cx hE hP iR 0 rfl 0 (by decide) wq_401 rfl (v := .ref (ad 1)) rfl dR_saidNow_140 ?_
      refine lv_sipush (v := 159) hx hb dR_saidNow_143 (by decide) ?_
      refine lv_bipush (v := 6) hx hb dR_saidNow_146 (by decide) ?_
      refine lv_iload_n hx hb dR_saidNow_148 rfl (lv_at hl 2 rfl) ?_
      refine lv_imul hx hb dR_saidNow_149 ?_
      refine lv_iadd hx hb dR_saidNow_150 ?_
      refine lv_iload_n hx hb dR_saidNow_151 rfl (lv_at hl 3 rfl) ?_
      refine lv_iadd hx hb dR_saidNow_152 ?_
      obtain ⟨hi, x3, ex3, h⟩ := mp_lds h
      refine va_iald hx hb hE.1 hP 1 0 (f := g.1) (n := 231) rfl rfl hi dR_saidNow_153 ?_
      refine mp_top ex3 ?_
      refine lv_istore (lv' := [(4, .int x3), (0, .ref (ad 0)), (1, .int a1), (2, .int a2), (3, .int a3)]) hx hb dR_saidNow_154 hl (by decide) rfl (fun ls hl => ?_)
      refine lv_iload_n hx hb dR_saidNow_156 rfl (lv_at hl 2 rfl) ?_
      refine lv_iload hx hb dR_saidNow_157 (lv_at hl 0 rfl) ?_
      refine lv_bipush (v := 10) hx hb dR_saidNow_159 (by decide) ?_
      refine lv_idiv hx hb dR_saidNow_161 (by decide) ?_
      refine lv_iconst (v := 4) hx hb dR_saidNow_162 (by decide) ?_
      refine lv_icmp_ne (tgt := 186) hx hb dR_saidNow_163 (by decide) (fun c4 => ?_) (fun c4 => ?_)
      · have h := mp_f c4 h
        refine lv_iconst (v := 0) hx hb dR_saidNow_186 (by decide) ?_
        refine lv_ior hx hb dR_saidNow_187 ?_
        refine lv_istore_n (lv' := [(1, .int (a1 ||| 0)), (4, .int x3), (0, .ref (ad 0)), (2, .int a2), (3, .int a3)]) hx hb dR_saidNow_188 rfl hl (by decide) rfl (fun ls hl => ?_)
        refine lv_iinc (v := (a3 + 1)) (lv' := [(3, .int (a3 + 1)), (1, .int (a1 ||| 0)), (4, .int x3), (0, .ref (ad 0)), (2, .int a2)]) hx hb dR_saidNow_189 hl (k := 4) rfl rfl (by decide) rfl (fun ls hl => ?_)
        refine lv_goto (tgt := 126) hx hb dR_saidNow_192 (by decide) ?_
        exact ih (a1 ||| 0) (a3 + 1) h ls (lv_sub hl [3, 1, 4, 0] rfl)
      · have h := mp_t c4 h
        refine lv_iload hx hb dR_saidNow_166 (lv_at hl 0 rfl) ?_
        refine lv_bipush (v := 10) hx hb dR_saidNow_168 (by decide) ?_
        refine lv_irem hx hb dR_saidNow_170 (by decide) ?_
        refine lv_bipush (v := 9) hx hb dR_saidNow_171 (by decide) ?_
        refine lv_icmp_eq (tgt := 186) hx hb dR_saidNow_173 (by decide) (fun c5 => ?_) (fun c5 => ?_)
        · have h := mp_t c5 h
          refine lv_iconst (v := 0) hx hb dR_saidNow_186 (by decide) ?_
          refine lv_ior hx hb dR_saidNow_187 ?_
          refine lv_istore_n (lv' := [(1, .int (a1 ||| 0)), (4, .int x3), (0, .ref (ad 0)), (2, .int a2), (3, .int a3)]) hx hb dR_saidNow_188 rfl hl (by decide) rfl (fun ls hl => ?_)
          refine lv_iinc (v := (a3 + 1)) (lv' := [(3, .int (a3 + 1)), (1, .int (a1 ||| 0)), (4, .int x3), (0, .ref (ad 0)), (2, .int a2)]) hx hb dR_saidNow_189 hl (k := 4) rfl rfl (by decide) rfl (fun ls hl => ?_)
          refine lv_goto (tgt := 126) hx hb dR_saidNow_192 (by decide) ?_
          exact ih (a1 ||| 0) (a3 + 1) h ls (lv_sub hl [3, 1, 4, 0] rfl)
        · have h := mp_f c5 h
          refine lv_iconst (v := 1) hx hb dR_saidNow_176 (by decide) ?_
          refine lv_iload hx hb dR_saidNow_177 (lv_at hl 0 rfl) ?_
          refine lv_bipush (v := 10) hx hb dR_saidNow_179 (by decide) ?_
          refine lv_irem hx hb dR_saidNow_181 (by decide) ?_
          refine lv_ishl hx hb dR_saidNow_182 ?_
          refine lv_goto (tgt := 187) hx hb dR_saidNow_183 (by decide) ?_
          refine lv_ior hx hb dR_saidNow_187 ?_
          obtain ⟨x6, ex6, h⟩ := mp_lts h
          refine mp_top ex6 ?_
          refine lv_istore_n (lv' := [(1, .int x6), (4, .int x3), (0, .ref (ad 0)), (2, .int a2), (3, .int a3)]) hx hb dR_saidNow_188 rfl hl (by decide) rfl (fun ls hl => ?_)
          refine lv_iinc (v := (a3 + 1)) (lv' := [(3, .int (a3 + 1)), (1, .int x6), (4, .int x3), (0, .ref (ad 0)), (2, .int a2)]) hx hb dR_saidNow_189 hl (k := 4) rfl rfl (by decide) rfl (fun ls hl => ?_)
          refine lv_goto (tgt := 126) hx hb dR_saidNow_192 (by decide) ?_
          exact ih x6 (a3 + 1) h ls (lv_sub hl [3, 1, 4, 0] rfl)
def fR_saidNow_71 (g : SR) : Nat → Int32 → Int32 → Option Int32
  | 0, _, _ => none
  | n + 1, a1, a2 => mp_ld g.1 231 1 fun x1 => (if x1 ≤ a2 then some a1 else mp_ld g.1 231 (147 + a2) fun x3 => (if x3 = (-9) then mp_ld g.1 231 (135 + a2) fun x5 => fR_saidNow_126 g a2 (fun y6 => fR_saidNow_71 g n y6 (a2 + 1)) 2000 (a1 ||| 0) x5 else mp_ld g.1 231 (147 + a2) fun x7 => mp_lt (a1 ||| (1 <<< (x7 &&& 31))) fun x8 => mp_ld g.1 231 (135 + a2) fun x9 => fR_saidNow_126 g a2 (fun y10 => fR_saidNow_71 g n y10 (a2 + 1)) 2000 x8 x9))
theorem fR_saidNow_71_s (g : SR) (n : Nat) (a1 : Int32) (a2 : Int32) : fR_saidNow_71 g (n + 1) a1 a2 = mp_ld g.1 231 1 fun x1 => (if x1 ≤ a2 then some a1 else mp_ld g.1 231 (147 + a2) fun x3 => (if x3 = (-9) then mp_ld g.1 231 (135 + a2) fun x5 => fR_saidNow_126 g a2 (fun y6 => fR_saidNow_71 g n y6 (a2 + 1)) 2000 (a1 ||| 0) x5 else mp_ld g.1 231 (147 + a2) fun x7 => mp_lt (a1 ||| (1 <<< (x7 &&& 31))) fun x8 => mp_ld g.1 231 (135 + a2) fun x9 => fR_saidNow_126 g a2 (fun y10 => fR_saidNow_71 g n y10 (a2 + 1)) 2000 x8 x9)) := rfl
set_option maxHeartbeats 4000000 in
set_option maxRecDepth 100000 in
theorem lR_saidNow_71 {p : Program} {l : Launch} {e : Env} {s : State} {m : MethodId} {args : Array Value} {below : List Frame} {meth : Method} {c : Code} (cx : mp_C p s m args meth c bR_saidNow 5 (some .int) rR) (k : KK) (ad : Nat → Nat) (g : SR) (z : Int32) (hE : mp_E k s) (hP : va_P (kD k) mp_cls (cR k ad g) s.heap) (hD : va_D (mp_N k) (cR k ad g)) : ∀ (n : Nat) (a1 : Int32) (a2 : Int32), fR_saidNow_71 g n a1 a2 = some z → ∀ (ls : Array Slot), lv_has ls 5 [(0, .ref (ad 0)), (1, .int a1), (2, .int a2)] → W p l e rmR_saidNow s m args below meth c s.heap [] 0 0 (MQ below (mp_Qs (some (.int z))) args s 0 0 (fun _ => False)) (F0 m 71 ls []) := by
  obtain ⟨hx, hb, -, hml, hown, hts, -⟩ := id cx
  intro n
  induction n with
  | zero =>
    intro a1 a2 h
    have h : (none : Option Int32) = some z := h
    cases h
  | succ n ih =>
    intro a1 a2 h ls hl
    rw [fR_saidNow_71_s] at h
    refine lv_iload_n hx hb dR_saidNow_71 rfl (lv_at hl 2 rfl) ?_
    refine lv_aload_n hx hb dR_saidNow_72 rfl (lv_at hl 0 rfl) ?_
    refine mp_gR cx hE hP iR 0 rfl 0 (by decide) wq_401 rfl (v := .ref (ad 1)) rfl dR_saidNow_73 ?_
    refine lv_iconst (v := 1) hx hb dR_saidNow_76 (by decide) ?_
    obtain ⟨hi, x1, ex1, h⟩ := mp_lds h
    refine va_iald hx hb hE.1 hP 1 0 (f := g.1) (n := 231) rfl rfl hi dR_saidNow_77 ?_
    refine mp_top ex1 ?_
    refine lv_icmp_ge (tgt := 201) hx hb dR_saidNow_78 (by decide) (fun c2 => ?_) (fun c2 => ?_)
    · have h := mp_t c2 h
      refine lv_iload_n hx hb dR_saidNow_201 rfl (lv_at hl 1 rfl) ?_
      exact mp_ri cx h dR_saidNow_202
    · have h := mp_f c2 h
      refine lv_iload_n hx hb dR_saidNow_81 rfl (lv_at hl 1 rfl) ?_
      refine lv_aload_n hx hb dR_saidNow_82 rfl (lv_at hl 0 rfl) ?_
      refine mp_gR cx hE hP iR 0 rfl 0 (by decide) wq_401 rfl (v := .ref (ad 1)) rfl dR_saidNow_83 ?_
      refine lv_sipush (v := 147) hx hb dR_saidNow_86 (by decide) ?_
      refine lv_iload_n hx hb dR_saidNow_89 rfl (lv_at hl 2 rfl) ?_
      refine lv_iadd hx hb dR_saidNow_90 ?_
      obtain ⟨hi, x3, ex3, h⟩ := mp_lds h
      refine va_iald hx hb hE.1 hP 1 0 (f := g.1) (n := 231) rfl rfl hi dR_saidNow_91 ?_
      refine mp_top ex3 ?_
      refine lv_bipush (v := (-9)) hx hb dR_saidNow_92 (by decide) ?_
      refine lv_icmp_eq (tgt := 112) hx hb dR_saidNow_94 (by decide) (fun c4 => ?_) (fun c4 => ?_)
      · have h := mp_t c4 h
        refine lv_iconst (v := 0) hx hb dR_saidNow_112 (by decide) ?_
        refine lv_ior hx hb dR_saidNow_113 ?_
        refine lv_istore_n (lv' := [(1, .int (a1 ||| 0)), (0, .ref (ad 0)), (2, .int a2)]) hx hb dR_saidNow_114 rfl hl (by decide) rfl (fun ls hl => ?_)
        refine lv_aload_n hx hb dR_saidNow_115 rfl (lv_at hl 1 rfl) ?_
        refine mp_gR cx hE hP iR 0 rfl 0 (by decide) wq_401 rfl (v := .ref (ad 1)) rfl dR_saidNow_116 ?_
        refine lv_sipush (v := 135) hx hb dR_saidNow_119 (by decide) ?_
        refine lv_iload_n hx hb dR_saidNow_122 rfl (lv_at hl 2 rfl) ?_
        refine lv_iadd hx hb dR_saidNow_123 ?_
        obtain ⟨hi, x5, ex5, h⟩ := mp_lds h
        refine va_iald hx hb hE.1 hP 1 0 (f := g.1) (n := 231) rfl rfl hi dR_saidNow_124 ?_
        refine mp_top ex5 ?_
        refine lv_istore_n (lv' := [(3, .int x5), (1, .int (a1 ||| 0)), (0, .ref (ad 0)), (2, .int a2)]) hx hb dR_saidNow_125 rfl hl (by decide) rfl (fun ls hl => ?_)
        refine lR_saidNow_126 cx k ad g a2 _ z hE hP hD (fun y6 h ls hl => ?_) _ (a1 ||| 0) x5 h ls (lv_sub hl [2, 1, 3, 0] rfl)
        refine lv_iinc (v := (a2 + 1)) (lv' := [(2, .int (a2 + 1)), (0, .ref (ad 0)), (1, .int y6)]) hx hb dR_saidNow_195 hl (k := 2) rfl rfl (by decide) rfl (fun ls hl => ?_)
        refine lv_goto (tgt := 71) hx hb dR_saidNow_198 (by decide) ?_
        exact ih y6 (a2 + 1) h ls (lv_sub hl [1, 2, 0] rfl)
      · have h := mp_f c4 h
        refine lv_iconst (v := 1) hx hb dR_saidNow_97 (by decide) ?_
        refine lv_aload_n hx hb dR_saidNow_98 rfl (lv_at hl 0 rfl) ?_
        refine mp_gR cx hE hP iR 0 rfl 0 (by decide) wq_401 rfl (v := .ref (ad 1)) rfl dR_saidNow_99 ?_
        refine lv_sipush (v := 147) hx hb dR_saidNow_102 (by decide) ?_
        refine lv_iload_n hx hb dR_saidNow_105 rfl (lv_at hl 2 rfl) ?_
        refine lv_iadd hx hb dR_saidNow_106 ?_
        obtain ⟨hi, x7, ex7, h⟩ := mp_lds h
        refine va_iald hx hb hE.1 hP 1 0 (f := g.1) (n := 231) rfl rfl hi dR_saidNow_107 ?_
        refine mp_top ex7 ?_
        refine lv_ishl hx hb dR_saidNow_108 ?_
        refine lv_goto (tgt := 113) hx hb dR_saidNow_109 (by decide) ?_
        refine lv_ior hx hb dR_saidNow_113 ?_
        obtain ⟨x8, ex8, h⟩ := mp_lts h
        refine mp_top ex8 ?_
        refine lv_istore_n (lv' := [(1, .int x8), (0, .ref (ad 0)), (2, .int a2)]) hx hb dR_saidNow_114 rfl hl (by decide) rfl (fun ls hl => ?_)
        refine lv_aload_n hx hb dR_saidNow_115 rfl (lv_at hl 1 rfl) ?_
        refine mp_gR cx hE hP iR 0 rfl 0 (by decide) wq_401 rfl (v := .ref (ad 1)) rfl dR_saidNow_116 ?_
        refine lv_sipush (v := 135) hx hb dR_saidNow_119 (by decide) ?_
        refine lv_iload_n hx hb dR_saidNow_122 rfl (lv_at hl 2 rfl) ?_
        refine lv_iadd hx hb dR_saidNow_123 ?_
        obtain ⟨hi, x9, ex9, h⟩ := mp_lds h
        refine va_iald hx hb hE.1 hP 1 0 (f := g.1) (n := 231) rfl rfl hi dR_saidNow_124 ?_
        refine mp_top ex9 ?_
        refine lv_istore_n (lv' := [(3, .int x9), (1, .int x8), (0, .ref (ad 0)), (2, .int a2)]) hx hb dR_saidNow_125 rfl hl (by decide) rfl (fun ls hl => ?_)
        refine lR_saidNow_126 cx k ad g a2 _ z hE hP hD (fun y10 h ls hl => ?_) _ x8 x9 h ls (lv_sub hl [2, 1, 3, 0] rfl)
        refine lv_iinc (v := (a2 + 1)) (lv' := [(2, .int (a2 + 1)), (0, .ref (ad 0)), (1, .int y10)]) hx hb dR_saidNow_195 hl (k := 2) rfl rfl (by decide) rfl (fun ls hl => ?_)
        refine lv_goto (tgt := 71) hx hb dR_saidNow_198 (by decide) ?_
        exact ih y10 (a2 + 1) h ls (lv_sub hl [1, 2, 0] rfl)
def fR_saidNow_16 (g : SR) (a2 : Int32) (kk : Int32 → Option Int32) : Nat → Int32 → Int32 → Option Int32
  | 0, _, _ => none
  | n + 1, a1, a3 => (if 6 ≤ a3 then kk a1 else (fR_isPlace g a2).bind fun x2 => (if x2 = 0 then fR_saidNow_16 g a2 kk n (a1 ||| 0) (a3 + 1) else mp_ld g.1 231 ((39 + (6 * a2)) + a3) fun x4 => (if x4 ≤ 0 then fR_saidNow_16 g a2 kk n (a1 ||| 0) (a3 + 1) else mp_lt (a1 ||| (1 <<< (a3 &&& 31))) fun x6 => fR_saidNow_16 g a2 kk n x6 (a3 + 1))))
theorem fR_saidNow_16_s (g : SR) (a2 : Int32) (kk : Int32 → Option Int32) (n : Nat) (a1 : Int32) (a3 : Int32) : fR_saidNow_16 g a2 kk (n + 1) a1 a3 = (if 6 ≤ a3 then kk a1 else (fR_isPlace g a2).bind fun x2 => (if x2 = 0 then fR_saidNow_16 g a2 kk n (a1 ||| 0) (a3 + 1) else mp_ld g.1 231 ((39 + (6 * a2)) + a3) fun x4 => (if x4 ≤ 0 then fR_saidNow_16 g a2 kk n (a1 ||| 0) (a3 + 1) else mp_lt (a1 ||| (1 <<< (a3 &&& 31))) fun x6 => fR_saidNow_16 g a2 kk n x6 (a3 + 1)))) := rfl
set_option maxHeartbeats 4000000 in
set_option maxRecDepth 100000 in
theorem lR_saidNow_16 {p : Program} {l : Launch} {e : Env} {s : State} {m : MethodId} {args : Array Value} {below : List Frame} {meth : Method} {c : Code} (cx : mp_C p s m args meth c bR_saidNow 5 (some .int) rR) (k : KK) (ad : Nat → Nat) (g : SR) (a2 : Int32) (kk : Int32 → Option Int32) (z : Int32) (hE : mp_E k s) (hP : va_P (kD k) mp_cls (cR k ad g) s.heap) (hD : va_D (mp_N k) (cR k ad g)) (hk : ∀ (a1 : Int32), kk a1 = some z → ∀ (ls : Array Slot), lv_has ls 5 [(0, .ref (ad 0)), (1, .int a1), (2, .int a2)] → W p l e rmR_saidNow s m args below meth c s.heap [] 0 0 (MQ below (mp_Qs (some (.int z))) args s 0 0 (fun _ => False)) (F0 m 63 ls [])) : ∀ (n : Nat) (a1 : Int32) (a3 : Int32), fR_saidNow_16 g a2 kk n a1 a3 = some z → ∀ (ls : Array Slot), lv_has ls 5 [(0, .ref (ad 0)), (1, .int a1), (2, .int a2), (3, .int a3)] → W p l e rmR_saidNow s m args below meth c s.heap [] 0 0 (MQ below (mp_Qs (some (.int z))) args s 0 0 (fun _ => False)) (F0 m 16 ls []) := by
  obtain ⟨hx, hb, -, hml, hown, hts, -⟩ := id cx
  intro n
  induction n with
  | zero =>
    intro a1 a3 h
    have h : (none : Option Int32) = some z := h
    cases h
  | succ n ih =>
    intro a1 a3 h ls hl
    rw [fR_saidNow_16_s] at h
    refine lv_iload_n hx hb dR_saidNow_16 rfl (lv_at hl 3 rfl) ?_
    refine lv_bipush (v := 6) hx hb dR_saidNow_17 (by decide) ?_
    refine lv_icmp_ge (tgt := 63) hx hb dR_saidNow_19 (by decide) (fun c1 => ?_) (fun c1 => ?_)
    · have h := mp_t c1 h
      exact hk a1 h ls (lv_sub hl [0, 1, 2] rfl)
    · have h := mp_f c1 h
      refine lv_iload_n hx hb dR_saidNow_22 rfl (lv_at hl 1 rfl) ?_
      refine lv_aload_n hx hb dR_saidNow_23 rfl (lv_at hl 0 rfl) ?_
      refine lv_iload_n hx hb dR_saidNow_24 rfl (lv_at hl 2 rfl) ?_
      obtain ⟨x2, ex2, h⟩ := mp_bs h
      refine mp_si (mp_runV (As := [.int a2]) (rest := [.int a1]) cx kV_R_30 (cR_isPlace l k ad g a2 x2 ex2) ⟨rfl, rfl, Nat.le_of_ble_eq_true rfl, Nat.le_of_ble_eq_true rfl⟩ ⟨Nat.zero_le _, Nat.zero_le _⟩ hE hP hD va_S.rf 0 rfl rfl rfl hl.1 rfl (Nat.le_of_ble_eq_true rfl) dR_saidNow_25) ?_
      refine lv_if_eq (tgt := 54) hx hb dR_saidNow_28 (by decide) (fun c3 => ?_) (fun c3 => ?_)
      · have h := mp_t c3 h
        refine lv_iconst (v := 0) hx hb dR_saidNow_54 (by decide) ?_
        refine lv_ior hx hb dR_saidNow_55 ?_
        refine lv_istore_n (lv' := [(1, .int (a1 ||| 0)), (0, .ref (ad 0)), (2, .int a2), (3, .int a3)]) hx hb dR_saidNow_56 rfl hl (by decide) rfl (fun ls hl => ?_)
        refine lv_iinc (v := (a3 + 1)) (lv' := [(3, .int (a3 + 1)), (1, .int (a1 ||| 0)), (0, .ref (ad 0)), (2, .int a2)]) hx hb dR_saidNow_57 hl (k := 3) rfl rfl (by decide) rfl (fun ls hl => ?_)
        refine lv_goto (tgt := 16) hx hb dR_saidNow_60 (by decide) ?_
        exact ih (a1 ||| 0) (a3 + 1) h ls (lv_sub hl [2, 1, 3, 0] rfl)
      · have h := mp_f c3 h
        refine lv_aload_n hx hb dR_saidNow_31 rfl (lv_at hl 0 rfl) ?_
        refine mp_gR cx hE hP iR 0 rfl 0 (by decide) wq_401 rfl (v := .ref (ad 1)) rfl dR_saidNow_32 ?_
        refine lv_bipush (v := 39) hx hb dR_saidNow_35 (by decide) ?_
        refine lv_bipush (v := 6) hx hb dR_saidNow_37 (by decide) ?_
        refine lv_iload_n hx hb dR_saidNow_39 rfl (lv_at hl 2 rfl) ?_
        refine lv_imul hx hb dR_saidNow_40 ?_
        refine lv_iadd hx hb dR_saidNow_41 ?_
        refine lv_iload_n hx hb dR_saidNow_42 rfl (lv_at hl 3 rfl) ?_
        refine lv_iadd hx hb dR_saidNow_43 ?_
        obtain ⟨hi, x4, ex4, h⟩ := mp_lds h
        refine va_iald hx hb hE.1 hP 1 0 (f := g.1) (n := 231) rfl rfl hi dR_saidNow_44 ?_
        refine mp_top ex4 ?_
        refine lv_if_le (tgt := 54) hx hb dR_saidNow_45 (by decide) (fun c5 => ?_) (fun c5 => ?_)
        · have h := mp_t c5 h
          refine lv_iconst (v := 0) hx hb dR_saidNow_54 (by decide) ?_
          refine lv_ior hx hb dR_saidNow_55 ?_
          refine lv_istore_n (lv' := [(1, .int (a1 ||| 0)), (0, .ref (ad 0)), (2, .int a2), (3, .int a3)]) hx hb dR_saidNow_56 rfl hl (by decide) rfl (fun ls hl => ?_)
          refine lv_iinc (v := (a3 + 1)) (lv' := [(3, .int (a3 + 1)), (1, .int (a1 ||| 0)), (0, .ref (ad 0)), (2, .int a2)]) hx hb dR_saidNow_57 hl (k := 3) rfl rfl (by decide) rfl (fun ls hl => ?_)
          refine lv_goto (tgt := 16) hx hb dR_saidNow_60 (by decide) ?_
          exact ih (a1 ||| 0) (a3 + 1) h ls (lv_sub hl [2, 1, 3, 0] rfl)
        · have h := mp_f c5 h
          refine lv_iconst (v := 1) hx hb dR_saidNow_48 (by decide) ?_
          refine lv_iload_n hx hb dR_saidNow_49 rfl (lv_at hl 3 rfl) ?_
          refine lv_ishl hx hb dR_saidNow_50 ?_
          refine lv_goto (tgt := 55) hx hb dR_saidNow_51 (by decide) ?_
          refine lv_ior hx hb dR_saidNow_55 ?_
          obtain ⟨x6, ex6, h⟩ := mp_lts h
          refine mp_top ex6 ?_
          refine lv_istore_n (lv' := [(1, .int x6), (0, .ref (ad 0)), (2, .int a2), (3, .int a3)]) hx hb dR_saidNow_56 rfl hl (by decide) rfl (fun ls hl => ?_)
          refine lv_iinc (v := (a3 + 1)) (lv' := [(3, .int (a3 + 1)), (1, .int x6), (0, .ref (ad 0)), (2, .int a2)]) hx hb dR_saidNow_57 hl (k := 3) rfl rfl (by decide) rfl (fun ls hl => ?_)
          refine lv_goto (tgt := 16) hx hb dR_saidNow_60 (by decide) ?_
          exact ih x6 (a3 + 1) h ls (lv_sub hl [2, 1, 3, 0] rfl)
def fR_saidNow_4 (g : SR) : Nat → Int32 → Int32 → Option Int32
  | 0, _, _ => none
  | n + 1, a1, a2 => mp_ld g.1 231 0 fun x1 => (if x1 ≤ a2 then fR_saidNow_71 g 2000 a1 0 else fR_saidNow_16 g a2 (fun y3 => fR_saidNow_4 g n y3 (a2 + 1)) 2000 a1 0)
theorem fR_saidNow_4_s (g : SR) (n : Nat) (a1 : Int32) (a2 : Int32) : fR_saidNow_4 g (n + 1) a1 a2 = mp_ld g.1 231 0 fun x1 => (if x1 ≤ a2 then fR_saidNow_71 g 2000 a1 0 else fR_saidNow_16 g a2 (fun y3 => fR_saidNow_4 g n y3 (a2 + 1)) 2000 a1 0) := rfl
set_option maxHeartbeats 4000000 in
set_option maxRecDepth 100000 in
theorem lR_saidNow_4 {p : Program} {l : Launch} {e : Env} {s : State} {m : MethodId} {args : Array Value} {below : List Frame} {meth : Method} {c : Code} (cx : mp_C p s m args meth c bR_saidNow 5 (some .int) rR) (k : KK) (ad : Nat → Nat) (g : SR) (z : Int32) (hE : mp_E k s) (hP : va_P (kD k) mp_cls (cR k ad g) s.heap) (hD : va_D (mp_N k) (cR k ad g)) : ∀ (n : Nat) (a1 : Int32) (a2 : Int32), fR_saidNow_4 g n a1 a2 = some z → ∀ (ls : Array Slot), lv_has ls 5 [(0, .ref (ad 0)), (1, .int a1), (2, .int a2)] → W p l e rmR_saidNow s m args below meth c s.heap [] 0 0 (MQ below (mp_Qs (some (.int z))) args s 0 0 (fun _ => False)) (F0 m 4 ls []) := by
  obtain ⟨hx, hb, -, hml, hown, hts, -⟩ := id cx
  intro n
  induction n with
  | zero =>
    intro a1 a2 h
    have h : (none : Option Int32) = some z := h
    cases h
  | succ n ih =>
    intro a1 a2 h ls hl
    rw [fR_saidNow_4_s] at h
    refine lv_iload_n hx hb dR_saidNow_4 rfl (lv_at hl 2 rfl) ?_
    refine lv_aload_n hx hb dR_saidNow_5 rfl (lv_at hl 0 rfl) ?_
    refine mp_gR cx hE hP iR 0 rfl 0 (by decide) wq_401 rfl (v := .ref (ad 1)) rfl dR_saidNow_6 ?_
    refine lv_iconst (v := 0) hx hb dR_saidNow_9 (by decide) ?_
    obtain ⟨hi, x1, ex1, h⟩ := mp_lds h
    refine va_iald hx hb hE.1 hP 1 0 (f := g.1) (n := 231) rfl rfl hi dR_saidNow_10 ?_
    refine mp_top ex1 ?_
    refine lv_icmp_ge (tgt := 69) hx hb dR_saidNow_11 (by decide) (fun c2 => ?_) (fun c2 => ?_)
    · have h := mp_t c2 h
      refine lv_iconst (v := 0) hx hb dR_saidNow_69 (by decide) ?_
      refine lv_istore_n (lv' := [(2, .int 0), (0, .ref (ad 0)), (1, .int a1)]) hx hb dR_saidNow_70 rfl hl (by decide) rfl (fun ls hl => ?_)
      exact lR_saidNow_71 cx k ad g z hE hP hD _ a1 0 h ls (lv_sub hl [1, 2, 0] rfl)
    · have h := mp_f c2 h
      refine lv_iconst (v := 0) hx hb dR_saidNow_14 (by decide) ?_
      refine lv_istore_n (lv' := [(3, .int 0), (0, .ref (ad 0)), (1, .int a1), (2, .int a2)]) hx hb dR_saidNow_15 rfl hl (by decide) rfl (fun ls hl => ?_)
      refine lR_saidNow_16 cx k ad g a2 _ z hE hP hD (fun y3 h ls hl => ?_) _ a1 0 h ls (lv_sub hl [1, 2, 3, 0] rfl)
      refine lv_iinc (v := (a2 + 1)) (lv' := [(2, .int (a2 + 1)), (0, .ref (ad 0)), (1, .int y3)]) hx hb dR_saidNow_63 hl (k := 2) rfl rfl (by decide) rfl (fun ls hl => ?_)
      refine lv_goto (tgt := 4) hx hb dR_saidNow_66 (by decide) ?_
      exact ih y3 (a2 + 1) h ls (lv_sub hl [1, 2, 0] rfl)
def fR_saidNow (g : SR) : Option Int32 := fR_saidNow_4 g 2000 0 0
set_option maxHeartbeats 4000000 in
set_option maxRecDepth 100000 in
theorem wR_saidNow {p : Program} {l : Launch} {e : Env} {s : State} {m : MethodId} {args : Array Value} {below : List Frame} {meth : Method} {c : Code} (cx : mp_C p s m args meth c bR_saidNow 5 (some .int) rR) (k : KK) (ad : Nat → Nat) (g : SR) (z : Int32) (hE : mp_E k s) (hP : va_P (kD k) mp_cls (cR k ad g) s.heap) (hD : va_D (mp_N k) (cR k ad g)) (h : fR_saidNow g = some z) (ls : Array Slot) (hl : lv_has ls 5 [(0, .ref (ad 0))]) : W p l e rmR_saidNow s m args below meth c s.heap [] 0 0 (MQ below (mp_Qs (some (.int z))) args s 0 0 (fun _ => False)) (F0 m 0 ls []) := by
  obtain ⟨hx, hb, -, hml, hown, hts, -⟩ := id cx
  unfold fR_saidNow at h
  refine lv_iconst (v := 0) hx hb dR_saidNow_0 (by decide) ?_
  refine lv_istore_n (lv' := [(1, .int 0), (0, .ref (ad 0))]) hx hb dR_saidNow_1 rfl hl (by decide) rfl (fun ls hl => ?_)
  refine lv_iconst (v := 0) hx hb dR_saidNow_2 (by decide) ?_
  refine lv_istore_n (lv' := [(2, .int 0), (1, .int 0), (0, .ref (ad 0))]) hx hb dR_saidNow_3 rfl hl (by decide) rfl (fun ls hl => ?_)
  exact lR_saidNow_4 cx k ad g z hE hP hD _ 0 0 h ls (lv_sub hl [2, 1, 0] rfl)
theorem cR_saidNow (l : Launch) (k : KK) (ad : Nat → Nat) (g : SR) (z : Int32) (h : fR_saidNow g = some z) : mp_CS l k yR_saidNow bR_saidNow 5 (some .int) rmR_saidNow [.ref (ad 0)] (cR k ad g) (some (.int z)) := by
  refine Met.ofW (cc := bR_saidNow) (maxL := 5) (ret := (some .int)) (by decide) rfl ?_
  intro p e s m args below meth c s₁ B hml hv
  obtain ⟨rfl, hP, hD, hE⟩ := hv
  have hl := lv_entry ([.ref (ad 0)]) (n := 5) (Nat.le_of_ble_eq_true rfl)
  rw [lg_entry_eq]
  generalize (lg_sl ([.ref (ad 0)]) ++ List.replicate (5 - (lg_sl ([.ref (ad 0)])).length) Slot.unset).toArray = ls at hl ⊢
  exact wR_saidNow (mp_C.of B hml) k ad g z hE hP hD h ls hl
-- MovingPlacesModel.said
abbrev rmR_said : Room := { frames := 3, cells := 0, slots := 0, locals := 67 }
def fR_said (g : SR) : Option Int32 := (fR_saidNow g).bind fun x1 => some x1
set_option maxHeartbeats 4000000 in
set_option maxRecDepth 100000 in
theorem wR_said {p : Program} {l : Launch} {e : Env} {s : State} {m : MethodId} {args : Array Value} {below : List Frame} {meth : Method} {c : Code} (cx : mp_C p s m args meth c bR_said 1 (some .int) rR) (k : KK) (ad : Nat → Nat) (g : SR) (z : Int32) (hE : mp_E k s) (hP : va_P (kD k) mp_cls (cR k ad g) s.heap) (hD : va_D (mp_N k) (cR k ad g)) (h : fR_said g = some z) (ls : Array Slot) (hl : lv_has ls 1 [(0, .ref (ad 0))]) : W p l e rmR_said s m args below meth c s.heap [] 0 0 (MQ below (mp_Qs (some (.int z))) args s 0 0 (fun _ => False)) (F0 m 0 ls []) := by
  obtain ⟨hx, hb, -, hml, hown, hts, -⟩ := id cx
  unfold fR_said at h
  refine lv_aload_n hx hb dR_said_0 rfl (lv_at hl 0 rfl) ?_
  obtain ⟨x1, ex1, h⟩ := mp_bs h
  refine mp_si (mp_runV (As := []) (rest := []) cx kV_R_108 (cR_saidNow l k ad g x1 ex1) ⟨rfl, rfl, Nat.le_of_ble_eq_true rfl, Nat.le_of_ble_eq_true rfl⟩ ⟨Nat.zero_le _, Nat.zero_le _⟩ hE hP hD va_S.rf 0 rfl rfl rfl hl.1 rfl (Nat.le_of_ble_eq_true rfl) dR_said_1) ?_
  exact mp_ri cx h dR_said_4
theorem cR_said (l : Launch) (k : KK) (ad : Nat → Nat) (g : SR) (z : Int32) (h : fR_said g = some z) : mp_CS l k yR_said bR_said 1 (some .int) rmR_said [.ref (ad 0)] (cR k ad g) (some (.int z)) := by
  refine Met.ofW (cc := bR_said) (maxL := 1) (ret := (some .int)) (by decide) rfl ?_
  intro p e s m args below meth c s₁ B hml hv
  obtain ⟨rfl, hP, hD, hE⟩ := hv
  have hl := lv_entry ([.ref (ad 0)]) (n := 1) (Nat.le_of_ble_eq_true rfl)
  rw [lg_entry_eq]
  generalize (lg_sl ([.ref (ad 0)]) ++ List.replicate (1 - (lg_sl ([.ref (ad 0)])).length) Slot.unset).toArray = ls at hl ⊢
  exact wR_said (mp_C.of B hml) k ad g z hE hP hD h ls hl
-- MovingPlacesModel.isMove
abbrev rmR_isMove : Room := { frames := 1, cells := 0, slots := 0, locals := 21 }
def fR_isMove (a0 : Int32) (a1 : Int32) (a2 : Int32) : Option Int32 := (if (a0 / 10) = 3 then (if (a0 - a0 / 10 * 10) = 9 then (if (a1 &&& a2) = 0 then (if (a0 / 10) = 1 then some 1 else (if (a0 / 10) = 2 then some 1 else some 0)) else (if (a0 / 10) = 1 then some 1 else (if (a0 / 10) = 2 then some 1 else some 1))) else (fR_has a1 (a0 - a0 / 10 * 10)).bind fun x6 => (if x6 = 0 then (if (a0 / 10) = 1 then some 1 else (if (a0 / 10) = 2 then some 1 else some 0)) else (if (a0 / 10) = 1 then some 1 else (if (a0 / 10) = 2 then some 1 else some 1)))) else (if (a0 / 10) = 1 then some 1 else (if (a0 / 10) = 2 then some 1 else some 0)))
set_option maxHeartbeats 4000000 in
set_option maxRecDepth 100000 in
theorem wR_isMove {p : Program} {l : Launch} {e : Env} {s : State} {m : MethodId} {args : Array Value} {below : List Frame} {meth : Method} {c : Code} (cx : mp_C p s m args meth c bR_isMove 6 (some .boolean) rR) (k : KK) (a0 : Int32) (a1 : Int32) (a2 : Int32) (z : Int32) (hE : mp_E k s) (h : fR_isMove a0 a1 a2 = some z) (ls : Array Slot) (hl : lv_has ls 6 [(0, .int a0), (1, .int a1), (2, .int a2)]) : W p l e rmR_isMove s m args below meth c s.heap [] 0 0 (MQ below (mp_Qs (some (.int z))) args s 0 0 (fun _ => False)) (F0 m 0 ls []) := by
  obtain ⟨hx, hb, -, hml, hown, hts, -⟩ := id cx
  unfold fR_isMove at h
  refine lv_iload_n hx hb dR_isMove_0 rfl (lv_at hl 0 rfl) ?_
  refine lv_bipush (v := 10) hx hb dR_isMove_1 (by decide) ?_
  refine lv_idiv hx hb dR_isMove_3 (by decide) ?_
  refine lv_istore_n (lv' := [(3, .int (a0 / 10)), (0, .int a0), (1, .int a1), (2, .int a2)]) hx hb dR_isMove_4 rfl hl (by decide) rfl (fun ls hl => ?_)
  refine lv_iload_n hx hb dR_isMove_5 rfl (lv_at hl 1 rfl) ?_
  refine lv_bipush (v := 10) hx hb dR_isMove_6 (by decide) ?_
  refine lv_irem hx hb dR_isMove_8 (by decide) ?_
  refine lv_istore (lv' := [(4, .int (a0 - a0 / 10 * 10)), (3, .int (a0 / 10)), (0, .int a0), (1, .int a1), (2, .int a2)]) hx hb dR_isMove_9 hl (by decide) rfl (fun ls hl => ?_)
  refine lv_iload_n hx hb dR_isMove_11 rfl (lv_at hl 1 rfl) ?_
  refine lv_iconst (v := 3) hx hb dR_isMove_12 (by decide) ?_
  refine lv_icmp_ne (tgt := 45) hx hb dR_isMove_13 (by decide) (fun c1 => ?_) (fun c1 => ?_)
  · have h := mp_f c1 h
    refine lv_iconst (v := 0) hx hb dR_isMove_45 (by decide) ?_
    refine lv_istore (lv' := [(5, .int 0), (4, .int (a0 - a0 / 10 * 10)), (3, .int (a0 / 10)), (0, .int a0), (1, .int a1), (2, .int a2)]) hx hb dR_isMove_46 hl (by decide) rfl (fun ls hl => ?_)
    refine lv_iload_n hx hb dR_isMove_48 rfl (lv_at hl 2 rfl) ?_
    refine lv_iconst (v := 1) hx hb dR_isMove_49 (by decide) ?_
    refine lv_icmp_eq (tgt := 63) hx hb dR_isMove_50 (by decide) (fun c2 => ?_) (fun c2 => ?_)
    · have h := mp_t c2 h
      refine lv_iconst (v := 1) hx hb dR_isMove_63 (by decide) ?_
      refine lv_goto (tgt := 68) hx hb dR_isMove_64 (by decide) ?_
      exact mp_rz cx rfl h dR_isMove_68
    · have h := mp_f c2 h
      refine lv_iload_n hx hb dR_isMove_53 rfl (lv_at hl 2 rfl) ?_
      refine lv_iconst (v := 2) hx hb dR_isMove_54 (by decide) ?_
      refine lv_icmp_eq (tgt := 63) hx hb dR_isMove_55 (by decide) (fun c3 => ?_) (fun c3 => ?_)
      · have h := mp_t c3 h
        refine lv_iconst (v := 1) hx hb dR_isMove_63 (by decide) ?_
        refine lv_goto (tgt := 68) hx hb dR_isMove_64 (by decide) ?_
        exact mp_rz cx rfl h dR_isMove_68
      · have h := mp_f c3 h
        refine lv_iload hx hb dR_isMove_58 (lv_at hl 0 rfl) ?_
        refine lv_if_eq (tgt := 67) hx hb dR_isMove_60 (by decide) (fun c4 => ?_) (fun c4 => ?_)
        · refine lv_iconst (v := 0) hx hb dR_isMove_67 (by decide) ?_
          exact mp_rz cx rfl h dR_isMove_68
        · exact absurd (by decide) c4
  · have h := mp_t c1 h
    refine lv_iload hx hb dR_isMove_16 (lv_at hl 0 rfl) ?_
    refine lv_bipush (v := 9) hx hb dR_isMove_18 (by decide) ?_
    refine lv_icmp_ne (tgt := 32) hx hb dR_isMove_20 (by decide) (fun c5 => ?_) (fun c5 => ?_)
    · have h := mp_f c5 h
      refine lv_iload_n hx hb dR_isMove_32 rfl (lv_at hl 3 rfl) ?_
      refine lv_iload hx hb dR_isMove_33 (lv_at hl 0 rfl) ?_
      obtain ⟨x6, ex6, h⟩ := mp_bs h
      refine mp_si (mp_runT (As := [.int a1, .int (a0 - a0 / 10 * 10)]) (rest := []) cx kT_R_26 (cR_has l k a1 (a0 - a0 / 10 * 10) x6 ex6) ⟨rfl, rfl, Nat.le_of_ble_eq_true rfl, Nat.le_of_ble_eq_true rfl⟩ ⟨Nat.zero_le _, Nat.zero_le _⟩ hE mp_P0 mp_D0 va_S.rf hl.1 rfl (Nat.le_of_ble_eq_true rfl) dR_isMove_35) ?_
      refine lv_if_eq (tgt := 45) hx hb dR_isMove_38 (by decide) (fun c7 => ?_) (fun c7 => ?_)
      · have h := mp_t c7 h
        refine lv_iconst (v := 0) hx hb dR_isMove_45 (by decide) ?_
        refine lv_istore (lv' := [(5, .int 0), (4, .int (a0 - a0 / 10 * 10)), (3, .int (a0 / 10)), (0, .int a0), (1, .int a1), (2, .int a2)]) hx hb dR_isMove_46 hl (by decide) rfl (fun ls hl => ?_)
        refine lv_iload_n hx hb dR_isMove_48 rfl (lv_at hl 2 rfl) ?_
        refine lv_iconst (v := 1) hx hb dR_isMove_49 (by decide) ?_
        refine lv_icmp_eq (tgt := 63) hx hb dR_isMove_50 (by decide) (fun c8 => ?_) (fun c8 => ?_)
        · have h := mp_t c8 h
          refine lv_iconst (v := 1) hx hb dR_isMove_63 (by decide) ?_
          refine lv_goto (tgt := 68) hx hb dR_isMove_64 (by decide) ?_
          exact mp_rz cx rfl h dR_isMove_68
        · have h := mp_f c8 h
          refine lv_iload_n hx hb dR_isMove_53 rfl (lv_at hl 2 rfl) ?_
          refine lv_iconst (v := 2) hx hb dR_isMove_54 (by decide) ?_
          refine lv_icmp_eq (tgt := 63) hx hb dR_isMove_55 (by decide) (fun c9 => ?_) (fun c9 => ?_)
          · have h := mp_t c9 h
            refine lv_iconst (v := 1) hx hb dR_isMove_63 (by decide) ?_
            refine lv_goto (tgt := 68) hx hb dR_isMove_64 (by decide) ?_
            exact mp_rz cx rfl h dR_isMove_68
          · have h := mp_f c9 h
            refine lv_iload hx hb dR_isMove_58 (lv_at hl 0 rfl) ?_
            refine lv_if_eq (tgt := 67) hx hb dR_isMove_60 (by decide) (fun c10 => ?_) (fun c10 => ?_)
            · refine lv_iconst (v := 0) hx hb dR_isMove_67 (by decide) ?_
              exact mp_rz cx rfl h dR_isMove_68
            · exact absurd (by decide) c10
      · have h := mp_f c7 h
        refine lv_iconst (v := 1) hx hb dR_isMove_41 (by decide) ?_
        refine lv_goto (tgt := 46) hx hb dR_isMove_42 (by decide) ?_
        refine lv_istore (lv' := [(5, .int 1), (4, .int (a0 - a0 / 10 * 10)), (3, .int (a0 / 10)), (0, .int a0), (1, .int a1), (2, .int a2)]) hx hb dR_isMove_46 hl (by decide) rfl (fun ls hl => ?_)
        refine lv_iload_n hx hb dR_isMove_48 rfl (lv_at hl 2 rfl) ?_
        refine lv_iconst (v := 1) hx hb dR_isMove_49 (by decide) ?_
        refine lv_icmp_eq (tgt := 63) hx hb dR_isMove_50 (by decide) (fun c11 => ?_) (fun c11 => ?_)
        · have h := mp_t c11 h
          refine lv_iconst (v := 1) hx hb dR_isMove_63 (by decide) ?_
          refine lv_goto (tgt := 68) hx hb dR_isMove_64 (by decide) ?_
          exact mp_rz cx rfl h dR_isMove_68
        · have h := mp_f c11 h
          refine lv_iload_n hx hb dR_isMove_53 rfl (lv_at hl 2 rfl) ?_
          refine lv_iconst (v := 2) hx hb dR_isMove_54 (by decide) ?_
          refine lv_icmp_eq (tgt := 63) hx hb dR_isMove_55 (by decide) (fun c12 => ?_) (fun c12 => ?_)
          · have h := mp_t c12 h
            refine lv_iconst (v := 1) hx hb dR_isMove_63 (by decide) ?_
            refine lv_goto (tgt := 68) hx hb dR_isMove_64 (by decide) ?_
            exact mp_rz cx rfl h dR_isMove_68
          · have h := mp_f c12 h
            refine lv_iload hx hb dR_isMove_58 (lv_at hl 0 rfl) ?_
            refine lv_if_eq (tgt := 67) hx hb dR_isMove_60 (by decide) (fun c13 => ?_) (fun c13 => ?_)
            · exact absurd c13 (by decide)
            · refine lv_iconst (v := 1) hx hb dR_isMove_63 (by decide) ?_
              refine lv_goto (tgt := 68) hx hb dR_isMove_64 (by decide) ?_
              exact mp_rz cx rfl h dR_isMove_68
    · have h := mp_t c5 h
      refine lv_iload_n hx hb dR_isMove_23 rfl (lv_at hl 3 rfl) ?_
      refine lv_iload_n hx hb dR_isMove_24 rfl (lv_at hl 4 rfl) ?_
      refine lv_iand hx hb dR_isMove_25 ?_
      refine lv_if_eq (tgt := 45) hx hb dR_isMove_26 (by decide) (fun c14 => ?_) (fun c14 => ?_)
      · have h := mp_t c14 h
        refine lv_iconst (v := 0) hx hb dR_isMove_45 (by decide) ?_
        refine lv_istore (lv' := [(5, .int 0), (4, .int (a0 - a0 / 10 * 10)), (3, .int (a0 / 10)), (0, .int a0), (1, .int a1), (2, .int a2)]) hx hb dR_isMove_46 hl (by decide) rfl (fun ls hl => ?_)
        refine lv_iload_n hx hb dR_isMove_48 rfl (lv_at hl 2 rfl) ?_
        refine lv_iconst (v := 1) hx hb dR_isMove_49 (by decide) ?_
        refine lv_icmp_eq (tgt := 63) hx hb dR_isMove_50 (by decide) (fun c15 => ?_) (fun c15 => ?_)
        · have h := mp_t c15 h
          refine lv_iconst (v := 1) hx hb dR_isMove_63 (by decide) ?_
          refine lv_goto (tgt := 68) hx hb dR_isMove_64 (by decide) ?_
          exact mp_rz cx rfl h dR_isMove_68
        · have h := mp_f c15 h
          refine lv_iload_n hx hb dR_isMove_53 rfl (lv_at hl 2 rfl) ?_
          refine lv_iconst (v := 2) hx hb dR_isMove_54 (by decide) ?_
          refine lv_icmp_eq (tgt := 63) hx hb dR_isMove_55 (by decide) (fun c16 => ?_) (fun c16 => ?_)
          · have h := mp_t c16 h
            refine lv_iconst (v := 1) hx hb dR_isMove_63 (by decide) ?_
            refine lv_goto (tgt := 68) hx hb dR_isMove_64 (by decide) ?_
            exact mp_rz cx rfl h dR_isMove_68
          · have h := mp_f c16 h
            refine lv_iload hx hb dR_isMove_58 (lv_at hl 0 rfl) ?_
            refine lv_if_eq (tgt := 67) hx hb dR_isMove_60 (by decide) (fun c17 => ?_) (fun c17 => ?_)
            · refine lv_iconst (v := 0) hx hb dR_isMove_67 (by decide) ?_
              exact mp_rz cx rfl h dR_isMove_68
            · exact absurd (by decide) c17
      · have h := mp_f c14 h
        refine lv_goto (tgt := 41) hx hb dR_isMove_29 (by decide) ?_
        refine lv_iconst (v := 1) hx hb dR_isMove_41 (by decide) ?_
        refine lv_goto (tgt := 46) hx hb dR_isMove_42 (by decide) ?_
        refine lv_istore (lv' := [(5, .int 1), (4, .int (a0 - a0 / 10 * 10)), (3, .int (a0 / 10)), (0, .int a0), (1, .int a1), (2, .int a2)]) hx hb dR_isMove_46 hl (by decide) rfl (fun ls hl => ?_)
        refine lv_iload_n hx hb dR_isMove_48 rfl (lv_at hl 2 rfl) ?_
        refine lv_iconst (v := 1) hx hb dR_isMove_49 (by decide) ?_
        refine lv_icmp_eq (tgt := 63) hx hb dR_isMove_50 (by decide) (fun c18 => ?_) (fun c18 => ?_)
        · have h := mp_t c18 h
          refine lv_iconst (v := 1) hx hb dR_isMove_63 (by decide) ?_
          refine lv_goto (tgt := 68) hx hb dR_isMove_64 (by decide) ?_
          exact mp_rz cx rfl h dR_isMove_68
        · have h := mp_f c18 h
          refine lv_iload_n hx hb dR_isMove_53 rfl (lv_at hl 2 rfl) ?_
          refine lv_iconst (v := 2) hx hb dR_isMove_54 (by decide) ?_
          refine lv_icmp_eq (tgt := 63) hx hb dR_isMove_55 (by decide) (fun c19 => ?_) (fun c19 => ?_)
          · have h := mp_t c19 h
            refine lv_iconst (v := 1) hx hb dR_isMove_63 (by decide) ?_
            refine lv_goto (tgt := 68) hx hb dR_isMove_64 (by decide) ?_
            exact mp_rz cx rfl h dR_isMove_68
          · have h := mp_f c19 h
            refine lv_iload hx hb dR_isMove_58 (lv_at hl 0 rfl) ?_
            refine lv_if_eq (tgt := 67) hx hb dR_isMove_60 (by decide) (fun c20 => ?_) (fun c20 => ?_)
            · exact absurd c20 (by decide)
            · refine lv_iconst (v := 1) hx hb dR_isMove_63 (by decide) ?_
              refine lv_goto (tgt := 68) hx hb dR_isMove_64 (by decide) ?_
              exact mp_rz cx rfl h dR_isMove_68
theorem cR_isMove (l : Launch) (k : KK) (a0 : Int32) (a1 : Int32) (a2 : Int32) (z : Int32) (h : fR_isMove a0 a1 a2 = some z) : mp_CS l k yR_isMove bR_isMove 6 (some .boolean) rmR_isMove [.int a0, .int a1, .int a2] [] (some (.int z)) := by
  refine Met.ofW (cc := bR_isMove) (maxL := 6) (ret := (some .boolean)) (by decide) rfl ?_
  intro p e s m args below meth c s₁ B hml hv
  obtain ⟨rfl, hP, hD, hE⟩ := hv
  have hl := lv_entry ([.int a0, .int a1, .int a2]) (n := 6) (Nat.le_of_ble_eq_true rfl)
  rw [lg_entry_eq]
  generalize (lg_sl ([.int a0, .int a1, .int a2]) ++ List.replicate (6 - (lg_sl ([.int a0, .int a1, .int a2])).length) Slot.unset).toArray = ls at hl ⊢
  exact wR_isMove (mp_C.of B hml) k a0 a1 a2 z hE h ls hl
-- MovingPlacesModel.moves
abbrev rmR_moves : Room := { frames := 3, cells := 0, slots := 0, locals := 67 }
def fR_moves_55 (g : SR) (a1 : Int32) (a3 : Int32) (a4 : Int32) (a5 : Int32) (kk : Int32 → Option Int32) : Nat → Int32 → Int32 → Option Int32
  | 0, _, _ => none
  | n + 1, a2, a6 => mp_ld g.1 231 (123 + a4) fun x1 => (if x1 ≤ a6 then kk a2 else (if a5 = 0 then kk a2 else mp_ld g.1 231 ((159 + (6 * a4)) + a6) fun x4 => (fR_isMove x4 a3 a1).bind fun x5 => (if x5 = 0 then fR_moves_55 g a1 a3 a4 a5 kk n (a2 ||| 0) (a6 + 1) else mp_ld g.1 231 (3 + a5) fun x7 => mp_lt (a2 ||| (1 <<< (x7 &&& 31))) fun x8 => fR_moves_55 g a1 a3 a4 a5 kk n x8 (a6 + 1))))
theorem fR_moves_55_s (g : SR) (a1 : Int32) (a3 : Int32) (a4 : Int32) (a5 : Int32) (kk : Int32 → Option Int32) (n : Nat) (a2 : Int32) (a6 : Int32) : fR_moves_55 g a1 a3 a4 a5 kk (n + 1) a2 a6 = mp_ld g.1 231 (123 + a4) fun x1 => (if x1 ≤ a6 then kk a2 else (if a5 = 0 then kk a2 else mp_ld g.1 231 ((159 + (6 * a4)) + a6) fun x4 => (fR_isMove x4 a3 a1).bind fun x5 => (if x5 = 0 then fR_moves_55 g a1 a3 a4 a5 kk n (a2 ||| 0) (a6 + 1) else mp_ld g.1 231 (3 + a5) fun x7 => mp_lt (a2 ||| (1 <<< (x7 &&& 31))) fun x8 => fR_moves_55 g a1 a3 a4 a5 kk n x8 (a6 + 1)))) := rfl
set_option maxHeartbeats 4000000 in
set_option maxRecDepth 100000 in
theorem lR_moves_55 {p : Program} {l : Launch} {e : Env} {s : State} {m : MethodId} {args : Array Value} {below : List Frame} {meth : Method} {c : Code} (cx : mp_C p s m args meth c bR_moves 7 (some .int) rR) (k : KK) (ad : Nat → Nat) (g : SR) (a1 : Int32) (a3 : Int32) (a4 : Int32) (a5 : Int32) (kk : Int32 → Option Int32) (z : Int32) (hE : mp_E k s) (hP : va_P (kD k) mp_cls (cR k ad g) s.heap) (hD : va_D (mp_N k) (cR k ad g)) (hk : ∀ (a2 : Int32), kk a2 = some z → ∀ (ls : Array Slot), lv_has ls 7 [(0, .ref (ad 0)), (1, .int a1), (2, .int a2), (3, .int a3), (4, .int a4)] → W p l e rmR_moves s m args below meth c s.heap [] 0 0 (MQ below (mp_Qs (some (.int z))) args s 0 0 (fun _ => False)) (F0 m 124 ls [])) : ∀ (n : Nat) (a2 : Int32) (a6 : Int32), fR_moves_55 g a1 a3 a4 a5 kk n a2 a6 = some z → ∀ (ls : Array Slot), lv_has ls 7 [(0, .ref (ad 0)), (1, .int a1), (2, .int a2), (3, .int a3), (4, .int a4), (5, .int a5), (6, .int a6)] → W p l e rmR_moves s m args below meth c s.heap [] 0 0 (MQ below (mp_Qs (some (.int z))) args s 0 0 (fun _ => False)) (F0 m 55 ls []) := by
  obtain ⟨hx, hb, -, hml, hown, hts, -⟩ := id cx
  intro n
  induction n with
  | zero =>
    intro a2 a6 h
    have h : (none : Option Int32) = some z := h
    cases h
  | succ n ih =>
    intro a2 a6 h ls hl
    rw [fR_moves_55_s] at h
    refine lv_iload hx hb dR_moves_55 (lv_at hl 6 rfl) ?_
    refine lv_aload_n hx hb dR_moves_57 rfl (lv_at hl 0 rfl) ?_
    refine mp_gR cx hE hP iR 0 rfl 0 (by decide) wq_401 rfl (v := .ref (ad 1)) rfl dR_moves_58 ?_
    refine lv_bipush (v := 123) hx hb dR_moves_61 (by decide) ?_
    refine lv_iload hx hb dR_moves_63 (lv_at hl 4 rfl) ?_
    refine lv_iadd hx hb dR_moves_65 ?_
    obtain ⟨hi, x1, ex1, h⟩ := mp_lds h
    refine va_iald hx hb hE.1 hP 1 0 (f := g.1) (n := 231) rfl rfl hi dR_moves_66 ?_
    refine mp_top ex1 ?_
    refine lv_icmp_ge (tgt := 124) hx hb dR_moves_67 (by decide) (fun c2 => ?_) (fun c2 => ?_)
    · have h := mp_t c2 h
      exact hk a2 h ls (lv_sub hl [0, 1, 2, 3, 4] rfl)
    · have h := mp_f c2 h
      refine lv_iload hx hb dR_moves_70 (lv_at hl 5 rfl) ?_
      refine lv_if_eq (tgt := 124) hx hb dR_moves_72 (by decide) (fun c3 => ?_) (fun c3 => ?_)
      · have h := mp_t c3 h
        exact hk a2 h ls (lv_sub hl [0, 1, 2, 3, 4] rfl)
      · have h := mp_f c3 h
        refine lv_iload_n hx hb dR_moves_75 rfl (lv_at hl 2 rfl) ?_
        refine lv_aload_n hx hb dR_moves_76 rfl (lv_at hl 0 rfl) ?_
        refine mp_gR cx hE hP iR 0 rfl 0 (by decide) wq_401 rfl (v := .ref (ad 1)) rfl dR_moves_77 ?_
        refine lv_sipush (v := 159) hx hb dR_moves_80 (by decide) ?_
        refine lv_bipush (v := 6) hx hb dR_moves_83 (by decide) ?_
        refine lv_iload hx hb dR_moves_85 (lv_at hl 4 rfl) ?_
        refine lv_imul hx hb dR_moves_87 ?_
        refine lv_iadd hx hb dR_moves_88 ?_
        refine lv_iload hx hb dR_moves_89 (lv_at hl 6 rfl) ?_
        refine lv_iadd hx hb dR_moves_91 ?_
        obtain ⟨hi, x4, ex4, h⟩ := mp_lds h
        refine va_iald hx hb hE.1 hP 1 0 (f := g.1) (n := 231) rfl rfl hi dR_moves_92 ?_
        refine mp_top ex4 ?_
        refine lv_iload_n hx hb dR_moves_93 rfl (lv_at hl 3 rfl) ?_
        refine lv_iload_n hx hb dR_moves_94 rfl (lv_at hl 1 rfl) ?_
        obtain ⟨x5, ex5, h⟩ := mp_bs h
        refine mp_si (mp_runT (As := [.int x4, .int a3, .int a1]) (rest := [.int a2]) cx kT_R_112 (cR_isMove l k x4 a3 a1 x5 ex5) ⟨rfl, rfl, Nat.le_of_ble_eq_true rfl, Nat.le_of_ble_eq_true rfl⟩ ⟨Nat.zero_le _, Nat.zero_le _⟩ hE mp_P0 mp_D0 va_S.rf hl.1 rfl (Nat.le_of_ble_eq_true rfl) dR_moves_95) ?_
        refine lv_if_eq (tgt := 115) hx hb dR_moves_98 (by decide) (fun c6 => ?_) (fun c6 => ?_)
        · have h := mp_t c6 h
          refine lv_iconst (v := 0) hx hb dR_moves_115 (by decide) ?_
          refine lv_ior hx hb dR_moves_116 ?_
          refine lv_istore_n (lv' := [(2, .int (a2 ||| 0)), (0, .ref (ad 0)), (1, .int a1), (3, .int a3), (4, .int a4), (5, .int a5), (6, .int a6)]) hx hb dR_moves_117 rfl hl (by decide) rfl (fun ls hl => ?_)
          refine lv_iinc (v := (a6 + 1)) (lv' := [(6, .int (a6 + 1)), (2, .int (a2 ||| 0)), (0, .ref (ad 0)), (1, .int a1), (3, .int a3), (4, .int a4), (5, .int a5)]) hx hb dR_moves_118 hl (k := 6) rfl rfl (by decide) rfl (fun ls hl => ?_)
          refine lv_goto (tgt := 55) hx hb dR_moves_121 (by decide) ?_
          exact ih (a2 ||| 0) (a6 + 1) h ls (lv_sub hl [2, 3, 1, 4, 5, 6, 0] rfl)
        · have h := mp_f c6 h
          refine lv_iconst (v := 1) hx hb dR_moves_101 (by decide) ?_
          refine lv_aload_n hx hb dR_moves_102 rfl (lv_at hl 0 rfl) ?_
          refine mp_gR cx hE hP iR 0 rfl 0 (by decide) wq_401 rfl (v := .ref (ad 1)) rfl dR_moves_103 ?_
          refine lv_iconst (v := 3) hx hb dR_moves_106 (by decide) ?_
          refine lv_iload hx hb dR_moves_107 (lv_at hl 5 rfl) ?_
          refine lv_iadd hx hb dR_moves_109 ?_
          obtain ⟨hi, x7, ex7, h⟩ := mp_lds h
          refine va_iald hx hb hE.1 hP 1 0 (f := g.1) (n := 231) rfl rfl hi dR_moves_110 ?_
          refine mp_top ex7 ?_
          refine lv_ishl hx hb dR_moves_111 ?_
          refine lv_goto (tgt := 116) hx hb dR_moves_112 (by decide) ?_
          refine lv_ior hx hb dR_moves_116 ?_
          obtain ⟨x8, ex8, h⟩ := mp_lts h
          refine mp_top ex8 ?_
          refine lv_istore_n (lv' := [(2, .int x8), (0, .ref (ad 0)), (1, .int a1), (3, .int a3), (4, .int a4), (5, .int a5), (6, .int a6)]) hx hb dR_moves_117 rfl hl (by decide) rfl (fun ls hl => ?_)
          refine lv_iinc (v := (a6 + 1)) (lv' := [(6, .int (a6 + 1)), (2, .int x8), (0, .ref (ad 0)), (1, .int a1), (3, .int a3), (4, .int a4), (5, .int a5)]) hx hb dR_moves_118 hl (k := 6) rfl rfl (by decide) rfl (fun ls hl => ?_)
          refine lv_goto (tgt := 55) hx hb dR_moves_121 (by decide) ?_
          exact ih x8 (a6 + 1) h ls (lv_sub hl [2, 3, 1, 4, 5, 6, 0] rfl)
def fR_moves_19 (g : SR) (a1 : Int32) (a3 : Int32) (kk : Int32 → Option Int32) : Nat → Int32 → Int32 → Option Int32
  | 0, _, _ => none
  | n + 1, a2, a4 => mp_ld g.1 231 1 fun x1 => (if x1 ≤ a4 then kk a2 else mp_ld g.1 231 (111 + a4) fun x3 => mp_ld g.1 231 (135 + a4) fun x4 => fR_moves_55 g a1 a3 a4 x3 (fun y5 => fR_moves_19 g a1 a3 kk n y5 (a4 + 1)) 2000 a2 x4)
theorem fR_moves_19_s (g : SR) (a1 : Int32) (a3 : Int32) (kk : Int32 → Option Int32) (n : Nat) (a2 : Int32) (a4 : Int32) : fR_moves_19 g a1 a3 kk (n + 1) a2 a4 = mp_ld g.1 231 1 fun x1 => (if x1 ≤ a4 then kk a2 else mp_ld g.1 231 (111 + a4) fun x3 => mp_ld g.1 231 (135 + a4) fun x4 => fR_moves_55 g a1 a3 a4 x3 (fun y5 => fR_moves_19 g a1 a3 kk n y5 (a4 + 1)) 2000 a2 x4) := rfl
set_option maxHeartbeats 4000000 in
set_option maxRecDepth 100000 in
theorem lR_moves_19 {p : Program} {l : Launch} {e : Env} {s : State} {m : MethodId} {args : Array Value} {below : List Frame} {meth : Method} {c : Code} (cx : mp_C p s m args meth c bR_moves 7 (some .int) rR) (k : KK) (ad : Nat → Nat) (g : SR) (a1 : Int32) (a3 : Int32) (kk : Int32 → Option Int32) (z : Int32) (hE : mp_E k s) (hP : va_P (kD k) mp_cls (cR k ad g) s.heap) (hD : va_D (mp_N k) (cR k ad g)) (hk : ∀ (a2 : Int32), kk a2 = some z → ∀ (ls : Array Slot), lv_has ls 7 [(0, .ref (ad 0)), (1, .int a1), (2, .int a2), (3, .int a3)] → W p l e rmR_moves s m args below meth c s.heap [] 0 0 (MQ below (mp_Qs (some (.int z))) args s 0 0 (fun _ => False)) (F0 m 130 ls [])) : ∀ (n : Nat) (a2 : Int32) (a4 : Int32), fR_moves_19 g a1 a3 kk n a2 a4 = some z → ∀ (ls : Array Slot), lv_has ls 7 [(0, .ref (ad 0)), (1, .int a1), (2, .int a2), (3, .int a3), (4, .int a4)] → W p l e rmR_moves s m args below meth c s.heap [] 0 0 (MQ below (mp_Qs (some (.int z))) args s 0 0 (fun _ => False)) (F0 m 19 ls []) := by
  obtain ⟨hx, hb, -, hml, hown, hts, -⟩ := id cx
  intro n
  induction n with
  | zero =>
    intro a2 a4 h
    have h : (none : Option Int32) = some z := h
    cases h
  | succ n ih =>
    intro a2 a4 h ls hl
    rw [fR_moves_19_s] at h
    refine lv_iload hx hb dR_moves_19 (lv_at hl 4 rfl) ?_
    refine lv_aload_n hx hb dR_moves_21 rfl (lv_at hl 0 rfl) ?_
    refine mp_gR cx hE hP iR 0 rfl 0 (by decide) wq_401 rfl (v := .ref (ad 1)) rfl dR_moves_22 ?_
    refine lv_iconst (v := 1) hx hb dR_moves_25 (by decide) ?_
    obtain ⟨hi, x1, ex1, h⟩ := mp_lds h
    refine va_iald hx hb hE.1 hP 1 0 (f := g.1) (n := 231) rfl rfl hi dR_moves_26 ?_
    refine mp_top ex1 ?_
    refine lv_icmp_ge (tgt := 130) hx hb dR_moves_27 (by decide) (fun c2 => ?_) (fun c2 => ?_)
    · have h := mp_t c2 h
      exact hk a2 h ls (lv_sub hl [0, 1, 2, 3] rfl)
    · have h := mp_f c2 h
      refine lv_aload_n hx hb dR_moves_30 rfl (lv_at hl 0 rfl) ?_
      refine mp_gR cx hE hP iR 0 rfl 0 (by decide) wq_401 rfl (v := .ref (ad 1)) rfl dR_moves_31 ?_
      refine lv_bipush (v := 111) hx hb dR_moves_34 (by decide) ?_
      refine lv_iload hx hb dR_moves_36 (lv_at hl 4 rfl) ?_
      refine lv_iadd hx hb dR_moves_38 ?_
      obtain ⟨hi, x3, ex3, h⟩ := mp_lds h
      refine va_iald hx hb hE.1 hP 1 0 (f := g.1) (n := 231) rfl rfl hi dR_moves_39 ?_
      refine mp_top ex3 ?_
      refine lv_istore (lv' := [(5, .int x3), (0, .ref (ad 0)), (1, .int a1), (2, .int a2), (3, .int a3), (4, .int a4)]) hx hb dR_moves_40 hl (by decide) rfl (fun ls hl => ?_)
      refine lv_aload_n hx hb dR_moves_42 rfl (lv_at hl 1 rfl) ?_
      refine mp_gR cx hE hP iR 0 rfl 0 (by decide) wq_401 rfl (v := .ref (ad 1)) rfl dR_moves_43 ?_
      refine lv_sipush (v := 135) hx hb dR_moves_46 (by decide) ?_
      refine lv_iload hx hb dR_moves_49 (lv_at hl 5 rfl) ?_
      refine lv_iadd hx hb dR_moves_51 ?_
      obtain ⟨hi, x4, ex4, h⟩ := mp_lds h
      refine va_iald hx hb hE.1 hP 1 0 (f := g.1) (n := 231) rfl rfl hi dR_moves_52 ?_
      refine mp_top ex4 ?_
      refine lv_istore (lv' := [(6, .int x4), (5, .int x3), (0, .ref (ad 0)), (1, .int a1), (2, .int a2), (3, .int a3), (4, .int a4)]) hx hb dR_moves_53 hl (by decide) rfl (fun ls hl => ?_)
      refine lR_moves_55 cx k ad g a1 a3 a4 x3 _ z hE hP hD (fun y5 h ls hl => ?_) _ a2 x4 h ls (lv_sub hl [2, 3, 4, 5, 6, 1, 0] rfl)
      refine lv_iinc (v := (a4 + 1)) (lv' := [(4, .int (a4 + 1)), (0, .ref (ad 0)), (1, .int a1), (2, .int y5), (3, .int a3)]) hx hb dR_moves_124 hl (k := 4) rfl rfl (by decide) rfl (fun ls hl => ?_)
      refine lv_goto (tgt := 19) hx hb dR_moves_127 (by decide) ?_
      exact ih y5 (a4 + 1) h ls (lv_sub hl [1, 2, 3, 4, 0] rfl)
def fR_moves_9 (g : SR) (a1 : Int32) : Nat → Int32 → Int32 → Option Int32
  | 0, _, _ => none
  | n + 1, a2, a3 => (if a3 = a2 then some a2 else fR_moves_19 g a1 a2 (fun y2 => fR_moves_9 g a1 n y2 a2) 2000 a2 0)
theorem fR_moves_9_s (g : SR) (a1 : Int32) (n : Nat) (a2 : Int32) (a3 : Int32) : fR_moves_9 g a1 (n + 1) a2 a3 = (if a3 = a2 then some a2 else fR_moves_19 g a1 a2 (fun y2 => fR_moves_9 g a1 n y2 a2) 2000 a2 0) := rfl
set_option maxHeartbeats 4000000 in
set_option maxRecDepth 100000 in
theorem lR_moves_9 {p : Program} {l : Launch} {e : Env} {s : State} {m : MethodId} {args : Array Value} {below : List Frame} {meth : Method} {c : Code} (cx : mp_C p s m args meth c bR_moves 7 (some .int) rR) (k : KK) (ad : Nat → Nat) (g : SR) (a1 : Int32) (z : Int32) (hE : mp_E k s) (hP : va_P (kD k) mp_cls (cR k ad g) s.heap) (hD : va_D (mp_N k) (cR k ad g)) : ∀ (n : Nat) (a2 : Int32) (a3 : Int32), fR_moves_9 g a1 n a2 a3 = some z → ∀ (ls : Array Slot), lv_has ls 7 [(0, .ref (ad 0)), (1, .int a1), (2, .int a2), (3, .int a3)] → W p l e rmR_moves s m args below meth c s.heap [] 0 0 (MQ below (mp_Qs (some (.int z))) args s 0 0 (fun _ => False)) (F0 m 9 ls []) := by
  obtain ⟨hx, hb, -, hml, hown, hts, -⟩ := id cx
  intro n
  induction n with
  | zero =>
    intro a2 a3 h
    have h : (none : Option Int32) = some z := h
    cases h
  | succ n ih =>
    intro a2 a3 h ls hl
    rw [fR_moves_9_s] at h
    refine lv_iload_n hx hb dR_moves_9 rfl (lv_at hl 3 rfl) ?_
    refine lv_iload_n hx hb dR_moves_10 rfl (lv_at hl 2 rfl) ?_
    refine lv_icmp_eq (tgt := 133) hx hb dR_moves_11 (by decide) (fun c1 => ?_) (fun c1 => ?_)
    · have h := mp_t c1 h
      refine lv_iload_n hx hb dR_moves_133 rfl (lv_at hl 2 rfl) ?_
      exact mp_ri cx h dR_moves_134
    · have h := mp_f c1 h
      refine lv_iload_n hx hb dR_moves_14 rfl (lv_at hl 2 rfl) ?_
      refine lv_istore_n (lv' := [(3, .int a2), (0, .ref (ad 0)), (1, .int a1), (2, .int a2)]) hx hb dR_moves_15 rfl hl (by decide) rfl (fun ls hl => ?_)
      refine lv_iconst (v := 0) hx hb dR_moves_16 (by decide) ?_
      refine lv_istore (lv' := [(4, .int 0), (3, .int a2), (0, .ref (ad 0)), (1, .int a1), (2, .int a2)]) hx hb dR_moves_17 hl (by decide) rfl (fun ls hl => ?_)
      refine lR_moves_19 cx k ad g a1 a2 _ z hE hP hD (fun y2 h ls hl => ?_) _ a2 0 h ls (lv_sub hl [2, 3, 4, 1, 0] rfl)
      refine lv_goto (tgt := 9) hx hb dR_moves_130 (by decide) ?_
      exact ih y2 a2 h ls (lv_sub hl [0, 1, 2, 3] rfl)
def fR_moves (g : SR) : Option Int32 := (fR_saidNow g).bind fun x1 => fR_moves_9 g x1 2000 0 (-1)
set_option maxHeartbeats 4000000 in
set_option maxRecDepth 100000 in
theorem wR_moves {p : Program} {l : Launch} {e : Env} {s : State} {m : MethodId} {args : Array Value} {below : List Frame} {meth : Method} {c : Code} (cx : mp_C p s m args meth c bR_moves 7 (some .int) rR) (k : KK) (ad : Nat → Nat) (g : SR) (z : Int32) (hE : mp_E k s) (hP : va_P (kD k) mp_cls (cR k ad g) s.heap) (hD : va_D (mp_N k) (cR k ad g)) (h : fR_moves g = some z) (ls : Array Slot) (hl : lv_has ls 7 [(0, .ref (ad 0))]) : W p l e rmR_moves s m args below meth c s.heap [] 0 0 (MQ below (mp_Qs (some (.int z))) args s 0 0 (fun _ => False)) (F0 m 0 ls []) := by
  obtain ⟨hx, hb, -, hml, hown, hts, -⟩ := id cx
  unfold fR_moves at h
  refine lv_aload_n hx hb dR_moves_0 rfl (lv_at hl 0 rfl) ?_
  obtain ⟨x1, ex1, h⟩ := mp_bs h
  refine mp_si (mp_runV (As := []) (rest := []) cx kV_R_108 (cR_saidNow l k ad g x1 ex1) ⟨rfl, rfl, Nat.le_of_ble_eq_true rfl, Nat.le_of_ble_eq_true rfl⟩ ⟨Nat.zero_le _, Nat.zero_le _⟩ hE hP hD va_S.rf 0 rfl rfl rfl hl.1 rfl (Nat.le_of_ble_eq_true rfl) dR_moves_1) ?_
  refine lv_istore_n (lv' := [(1, .int x1), (0, .ref (ad 0))]) hx hb dR_moves_4 rfl hl (by decide) rfl (fun ls hl => ?_)
  refine lv_iconst (v := 0) hx hb dR_moves_5 (by decide) ?_
  refine lv_istore_n (lv' := [(2, .int 0), (1, .int x1), (0, .ref (ad 0))]) hx hb dR_moves_6 rfl hl (by decide) rfl (fun ls hl => ?_)
  refine lv_iconst (v := (-1)) hx hb dR_moves_7 (by decide) ?_
  refine lv_istore_n (lv' := [(3, .int (-1)), (2, .int 0), (1, .int x1), (0, .ref (ad 0))]) hx hb dR_moves_8 rfl hl (by decide) rfl (fun ls hl => ?_)
  exact lR_moves_9 cx k ad g x1 z hE hP hD _ 0 (-1) h ls (lv_sub hl [3, 2, 1, 0] rfl)
theorem cR_moves (l : Launch) (k : KK) (ad : Nat → Nat) (g : SR) (z : Int32) (h : fR_moves g = some z) : mp_CS l k yR_moves bR_moves 7 (some .int) rmR_moves [.ref (ad 0)] (cR k ad g) (some (.int z)) := by
  refine Met.ofW (cc := bR_moves) (maxL := 7) (ret := (some .int)) (by decide) rfl ?_
  intro p e s m args below meth c s₁ B hml hv
  obtain ⟨rfl, hP, hD, hE⟩ := hv
  have hl := lv_entry ([.ref (ad 0)]) (n := 7) (Nat.le_of_ble_eq_true rfl)
  rw [lg_entry_eq]
  generalize (lg_sl ([.ref (ad 0)]) ++ List.replicate (7 - (lg_sl ([.ref (ad 0)])).length) Slot.unset).toArray = ls at hl ⊢
  exact wR_moves (mp_C.of B hml) k ad g z hE hP hD h ls hl
-- MovingPlacesModel.keep
abbrev rmR_keep : Room := { frames := 0, cells := 0, slots := 0, locals := 0 }
def fR_keep_2  : Nat → SR → Int32 → Option (Int32 × SR)
  | 0, _, _ => none
  | n + 1, g, a1 => (if 231 ≤ a1 then some (1, (g.1, g.2.1, g.2.2.1, 1, g.2.2.2.2)) else mp_ld g.1 231 a1 fun x2 => mp_st 231 a1 (fR_keep_2  n (g.1, (upd g.2.1 (Int32.toNatClampNeg a1) x2), g.2.2.1, g.2.2.2.1, g.2.2.2.2) (a1 + 1)))
theorem fR_keep_2_s (n : Nat) (g : SR) (a1 : Int32) : fR_keep_2  (n + 1) g a1 = (if 231 ≤ a1 then some (1, (g.1, g.2.1, g.2.2.1, 1, g.2.2.2.2)) else mp_ld g.1 231 a1 fun x2 => mp_st 231 a1 (fR_keep_2  n (g.1, (upd g.2.1 (Int32.toNatClampNeg a1) x2), g.2.2.1, g.2.2.2.1, g.2.2.2.2) (a1 + 1))) := rfl
set_option maxHeartbeats 4000000 in
set_option maxRecDepth 100000 in
theorem lR_keep_2 {p : Program} {l : Launch} {e : Env} {s : State} {m : MethodId} {args : Array Value} {below : List Frame} {meth : Method} {c : Code} (cx : mp_C p s m args meth c bR_keep 2 (some .int) rR) (k : KK) (ad : Nat → Nat)  (z : (Int32 × SR)) (hE : mp_E k s) (hAN : ∀ q, mp_A (aR ad) q → mp_N k q) : ∀ (n : Nat) (g : SR) (a1 : Int32), fR_keep_2  n g a1 = some z → ∀ (H : Heap) (locs : List Loc), va_P (kD k) mp_cls (cR k ad g) H → va_D (mp_A (aR ad)) (cR k ad g) → va_S (mp_A (aR ad)) s.heap H locs → ∀ (ls : Array Slot), lv_has ls 2 [(0, .ref (ad 0)), (1, .int a1)] → W p l e rmR_keep s m args below meth c H locs 0 0 (MQ below (mp_Qm k (some (.int z.1)) (cR k ad z.2) (aR ad)) args s 0 0 (mp_A (aR ad))) (F0 m 2 ls []) := by
  obtain ⟨hx, hb, -, hml, hown, hts, -⟩ := id cx
  intro n
  induction n with
  | zero =>
    intro g a1 h
    have h : (none : Option (Int32 × SR)) = some z := h
    cases h
  | succ n ih =>
    intro g a1 h H locs hP hD hS ls hl
    rw [fR_keep_2_s] at h
    refine lv_iload_n hx hb dR_keep_2 rfl (lv_at hl 1 rfl) ?_
    refine lv_sipush (v := 231) hx hb dR_keep_3 (by decide) ?_
    refine lv_icmp_ge (tgt := 27) hx hb dR_keep_6 (by decide) (fun c1 => ?_) (fun c1 => ?_)
    · have h := mp_t c1 h
      refine lv_aload_n hx hb dR_keep_27 rfl (lv_at hl 0 rfl) ?_
      refine lv_iconst (v := 1) hx hb dR_keep_28 (by decide) ?_
      refine va_put (D := kD k) (ci := 2) (v := .int 1) (ty := .boolean) (C := rR) (T := tR) (N := 5) hx hb hts iR gR gR_ok nR hown hE.1 hP hD hS 0 rfl rfl 3 (by decide) (hts _ wq_404) (fun _ h9 => h9) rfl (by decide +kernel) rfl rfl (Nat.le_of_ble_eq_true rfl) dR_keep_29 (fun H locs hP hD hS => ?_)
      have hP : va_P (kD k) mp_cls (cR k ad (g.1, g.2.1, g.2.2.1, 1, g.2.2.2.2)) H := hP
      have hD : va_D (mp_A (aR ad)) (cR k ad (g.1, g.2.1, g.2.2.1, 1, g.2.2.2.2)) := hD
      refine lv_iconst (v := 1) hx hb dR_keep_32 (by decide) ?_
      exact mp_rim (cf := cR k ad) cx h hP hS dR_keep_33
    · have h := mp_f c1 h
      refine lv_aload_n hx hb dR_keep_9 rfl (lv_at hl 0 rfl) ?_
      refine mp_gR cx hE hP iR 0 rfl 1 (by decide) wq_402 rfl (v := .ref (ad 2)) rfl dR_keep_10 ?_
      refine lv_iload_n hx hb dR_keep_13 rfl (lv_at hl 1 rfl) ?_
      refine lv_aload_n hx hb dR_keep_14 rfl (lv_at hl 0 rfl) ?_
      refine mp_gR cx hE hP iR 0 rfl 0 (by decide) wq_401 rfl (v := .ref (ad 1)) rfl dR_keep_15 ?_
      refine lv_iload_n hx hb dR_keep_18 rfl (lv_at hl 1 rfl) ?_
      obtain ⟨hi, x2, ex2, h⟩ := mp_lds h
      refine va_iald hx hb hE.1 hP 1 0 (f := g.1) (n := 231) rfl rfl hi dR_keep_19 ?_
      refine mp_top ex2 ?_
      obtain ⟨hi, h⟩ := mp_sts h
      refine va_iast hx hb hE.1 hP hD hS 2 0 (f := g.2.1) (n := 231) rfl rfl hi dR_keep_20 (fun H locs hP hD hS => ?_)
      have hP : va_P (kD k) mp_cls (cR k ad (g.1, (upd g.2.1 (Int32.toNatClampNeg a1) x2), g.2.2.1, g.2.2.2.1, g.2.2.2.2)) H := hP
      have hD : va_D (mp_A (aR ad)) (cR k ad (g.1, (upd g.2.1 (Int32.toNatClampNeg a1) x2), g.2.2.1, g.2.2.2.1, g.2.2.2.2)) := hD
      refine lv_iinc (v := (a1 + 1)) (lv' := [(1, .int (a1 + 1)), (0, .ref (ad 0))]) hx hb dR_keep_21 hl (k := 1) rfl rfl (by decide) rfl (fun ls hl => ?_)
      refine lv_goto (tgt := 2) hx hb dR_keep_24 (by decide) ?_
      exact ih (g.1, (upd g.2.1 (Int32.toNatClampNeg a1) x2), g.2.2.1, g.2.2.2.1, g.2.2.2.2) (a1 + 1) h _ _ hP hD hS ls (lv_sub hl [1, 0] rfl)
def fR_keep (g : SR) : Option (Int32 × SR) := fR_keep_2  2000 g 0
set_option maxHeartbeats 4000000 in
set_option maxRecDepth 100000 in
theorem wR_keep {p : Program} {l : Launch} {e : Env} {s : State} {m : MethodId} {args : Array Value} {below : List Frame} {meth : Method} {c : Code} (cx : mp_C p s m args meth c bR_keep 2 (some .int) rR) (k : KK) (ad : Nat → Nat) (g : SR) (z : (Int32 × SR)) (hE : mp_E k s) (hAN : ∀ q, mp_A (aR ad) q → mp_N k q) {H : Heap} {locs : List Loc} (hP : va_P (kD k) mp_cls (cR k ad g) H) (hD : va_D (mp_A (aR ad)) (cR k ad g)) (hS : va_S (mp_A (aR ad)) s.heap H locs) (h : fR_keep g = some z) (ls : Array Slot) (hl : lv_has ls 2 [(0, .ref (ad 0))]) : W p l e rmR_keep s m args below meth c H locs 0 0 (MQ below (mp_Qm k (some (.int z.1)) (cR k ad z.2) (aR ad)) args s 0 0 (mp_A (aR ad))) (F0 m 0 ls []) := by
  obtain ⟨hx, hb, -, hml, hown, hts, -⟩ := id cx
  unfold fR_keep at h
  refine lv_iconst (v := 0) hx hb dR_keep_0 (by decide) ?_
  refine lv_istore_n (lv' := [(1, .int 0), (0, .ref (ad 0))]) hx hb dR_keep_1 rfl hl (by decide) rfl (fun ls hl => ?_)
  exact lR_keep_2 cx k ad  z hE hAN _ g 0 h _ _ hP hD hS ls (lv_sub hl [1, 0] rfl)
theorem cR_keep (l : Launch) (k : KK) (ad : Nat → Nat) (g : SR) (z : (Int32 × SR)) (h : fR_keep g = some z) : mp_CM l k yR_keep bR_keep 2 (some .int) rmR_keep [.ref (ad 0)] (cR k ad g) (cR k ad z.2) (aR ad) (some (.int z.1)) := by
  refine Met.ofW (cc := bR_keep) (maxL := 2) (ret := (some .int)) (by decide) rfl ?_
  intro p e s m args below meth c s₁ B hml hv
  obtain ⟨rfl, hP, hD, hE⟩ := hv
  have hl := lv_entry ([.ref (ad 0)]) (n := 2) (Nat.le_of_ble_eq_true rfl)
  rw [lg_entry_eq]
  generalize (lg_sl ([.ref (ad 0)]) ++ List.replicate (2 - (lg_sl ([.ref (ad 0)])).length) Slot.unset).toArray = ls at hl ⊢
  exact wR_keep (mp_C.of B hml) k ad g z hE (mp_new hD rfl) hP (mp_own hD rfl) va_S.rf h ls hl
-- MovingPlacesModel.restore
abbrev rmR_restore : Room := { frames := 0, cells := 0, slots := 0, locals := 0 }
def fR_restore_12  : Nat → SR → Int32 → Option (Int32 × SR)
  | 0, _, _ => none
  | n + 1, g, a1 => (if 231 ≤ a1 then some (1, g) else mp_ld g.2.1 231 a1 fun x2 => mp_st 231 a1 (fR_restore_12  n ((upd g.1 (Int32.toNatClampNeg a1) x2), g.2.1, g.2.2.1, g.2.2.2.1, g.2.2.2.2) (a1 + 1)))
theorem fR_restore_12_s (n : Nat) (g : SR) (a1 : Int32) : fR_restore_12  (n + 1) g a1 = (if 231 ≤ a1 then some (1, g) else mp_ld g.2.1 231 a1 fun x2 => mp_st 231 a1 (fR_restore_12  n ((upd g.1 (Int32.toNatClampNeg a1) x2), g.2.1, g.2.2.1, g.2.2.2.1, g.2.2.2.2) (a1 + 1))) := rfl
set_option maxHeartbeats 4000000 in
set_option maxRecDepth 100000 in
theorem lR_restore_12 {p : Program} {l : Launch} {e : Env} {s : State} {m : MethodId} {args : Array Value} {below : List Frame} {meth : Method} {c : Code} (cx : mp_C p s m args meth c bR_restore 2 (some .int) rR) (k : KK) (ad : Nat → Nat)  (z : (Int32 × SR)) (hE : mp_E k s) (hAN : ∀ q, mp_A (aR ad) q → mp_N k q) : ∀ (n : Nat) (g : SR) (a1 : Int32), fR_restore_12  n g a1 = some z → ∀ (H : Heap) (locs : List Loc), va_P (kD k) mp_cls (cR k ad g) H → va_D (mp_A (aR ad)) (cR k ad g) → va_S (mp_A (aR ad)) s.heap H locs → ∀ (ls : Array Slot), lv_has ls 2 [(0, .ref (ad 0)), (1, .int a1)] → W p l e rmR_restore s m args below meth c H locs 0 0 (MQ below (mp_Qm k (some (.int z.1)) (cR k ad z.2) (aR ad)) args s 0 0 (mp_A (aR ad))) (F0 m 12 ls []) := by
  obtain ⟨hx, hb, -, hml, hown, hts, -⟩ := id cx
  intro n
  induction n with
  | zero =>
    intro g a1 h
    have h : (none : Option (Int32 × SR)) = some z := h
    cases h
  | succ n ih =>
    intro g a1 h H locs hP hD hS ls hl
    rw [fR_restore_12_s] at h
    refine lv_iload_n hx hb dR_restore_12 rfl (lv_at hl 1 rfl) ?_
    refine lv_sipush (v := 231) hx hb dR_restore_13 (by decide) ?_
    refine lv_icmp_ge (tgt := 37) hx hb dR_restore_16 (by decide) (fun c1 => ?_) (fun c1 => ?_)
    · have h := mp_t c1 h
      refine lv_iconst (v := 1) hx hb dR_restore_37 (by decide) ?_
      exact mp_rim (cf := cR k ad) cx h hP hS dR_restore_38
    · have h := mp_f c1 h
      refine lv_aload_n hx hb dR_restore_19 rfl (lv_at hl 0 rfl) ?_
      refine mp_gR cx hE hP iR 0 rfl 0 (by decide) wq_401 rfl (v := .ref (ad 1)) rfl dR_restore_20 ?_
      refine lv_iload_n hx hb dR_restore_23 rfl (lv_at hl 1 rfl) ?_
      refine lv_aload_n hx hb dR_restore_24 rfl (lv_at hl 0 rfl) ?_
      refine mp_gR cx hE hP iR 0 rfl 1 (by decide) wq_402 rfl (v := .ref (ad 2)) rfl dR_restore_25 ?_
      refine lv_iload_n hx hb dR_restore_28 rfl (lv_at hl 1 rfl) ?_
      obtain ⟨hi, x2, ex2, h⟩ := mp_lds h
      refine va_iald hx hb hE.1 hP 2 0 (f := g.2.1) (n := 231) rfl rfl hi dR_restore_29 ?_
      refine mp_top ex2 ?_
      obtain ⟨hi, h⟩ := mp_sts h
      refine va_iast hx hb hE.1 hP hD hS 1 0 (f := g.1) (n := 231) rfl rfl hi dR_restore_30 (fun H locs hP hD hS => ?_)
      have hP : va_P (kD k) mp_cls (cR k ad ((upd g.1 (Int32.toNatClampNeg a1) x2), g.2.1, g.2.2.1, g.2.2.2.1, g.2.2.2.2)) H := hP
      have hD : va_D (mp_A (aR ad)) (cR k ad ((upd g.1 (Int32.toNatClampNeg a1) x2), g.2.1, g.2.2.1, g.2.2.2.1, g.2.2.2.2)) := hD
      refine lv_iinc (v := (a1 + 1)) (lv' := [(1, .int (a1 + 1)), (0, .ref (ad 0))]) hx hb dR_restore_31 hl (k := 1) rfl rfl (by decide) rfl (fun ls hl => ?_)
      refine lv_goto (tgt := 12) hx hb dR_restore_34 (by decide) ?_
      exact ih ((upd g.1 (Int32.toNatClampNeg a1) x2), g.2.1, g.2.2.1, g.2.2.2.1, g.2.2.2.2) (a1 + 1) h _ _ hP hD hS ls (lv_sub hl [1, 0] rfl)
def fR_restore (g : SR) : Option (Int32 × SR) := (if g.2.2.2.1 = 0 then some ((-3), g) else fR_restore_12  2000 g 0)
set_option maxHeartbeats 4000000 in
set_option maxRecDepth 100000 in
theorem wR_restore {p : Program} {l : Launch} {e : Env} {s : State} {m : MethodId} {args : Array Value} {below : List Frame} {meth : Method} {c : Code} (cx : mp_C p s m args meth c bR_restore 2 (some .int) rR) (k : KK) (ad : Nat → Nat) (g : SR) (z : (Int32 × SR)) (hE : mp_E k s) (hAN : ∀ q, mp_A (aR ad) q → mp_N k q) {H : Heap} {locs : List Loc} (hP : va_P (kD k) mp_cls (cR k ad g) H) (hD : va_D (mp_A (aR ad)) (cR k ad g)) (hS : va_S (mp_A (aR ad)) s.heap H locs) (h : fR_restore g = some z) (ls : Array Slot) (hl : lv_has ls 2 [(0, .ref (ad 0))]) : W p l e rmR_restore s m args below meth c H locs 0 0 (MQ below (mp_Qm k (some (.int z.1)) (cR k ad z.2) (aR ad)) args s 0 0 (mp_A (aR ad))) (F0 m 0 ls []) := by
  obtain ⟨hx, hb, -, hml, hown, hts, -⟩ := id cx
  unfold fR_restore at h
  refine lv_aload_n hx hb dR_restore_0 rfl (lv_at hl 0 rfl) ?_
  refine mp_gR cx hE hP iR 0 rfl 3 (by decide) wq_404 rfl (v := .int g.2.2.2.1) rfl dR_restore_1 ?_
  refine lv_if_ne (tgt := 10) hx hb dR_restore_4 (by decide) (fun c1 => ?_) (fun c1 => ?_)
  · have h := mp_f c1 h
    refine lv_iconst (v := 0) hx hb dR_restore_10 (by decide) ?_
    refine lv_istore_n (lv' := [(1, .int 0), (0, .ref (ad 0))]) hx hb dR_restore_11 rfl hl (by decide) rfl (fun ls hl => ?_)
    exact lR_restore_12 cx k ad  z hE hAN _ g 0 h _ _ hP hD hS ls (lv_sub hl [1, 0] rfl)
  · have h := mp_t c1 h
    refine lv_bipush (v := (-3)) hx hb dR_restore_7 (by decide) ?_
    exact mp_rim (cf := cR k ad) cx h hP hS dR_restore_9
theorem cR_restore (l : Launch) (k : KK) (ad : Nat → Nat) (g : SR) (z : (Int32 × SR)) (h : fR_restore g = some z) : mp_CM l k yR_restore bR_restore 2 (some .int) rmR_restore [.ref (ad 0)] (cR k ad g) (cR k ad z.2) (aR ad) (some (.int z.1)) := by
  refine Met.ofW (cc := bR_restore) (maxL := 2) (ret := (some .int)) (by decide) rfl ?_
  intro p e s m args below meth c s₁ B hml hv
  obtain ⟨rfl, hP, hD, hE⟩ := hv
  have hl := lv_entry ([.ref (ad 0)]) (n := 2) (Nat.le_of_ble_eq_true rfl)
  rw [lg_entry_eq]
  generalize (lg_sl ([.ref (ad 0)]) ++ List.replicate (2 - (lg_sl ([.ref (ad 0)])).length) Slot.unset).toArray = ls at hl ⊢
  exact wR_restore (mp_C.of B hml) k ad g z hE (mp_new hD rfl) hP (mp_own hD rfl) va_S.rf h ls hl
-- MovingPlacesModel.manyPlaces
abbrev rmR_manyPlaces : Room := { frames := 2, cells := 0, slots := 0, locals := 43 }
def fR_manyPlaces_4 (g : SR) : Nat → Int32 → Int32 → Option Int32
  | 0, _, _ => none
  | n + 1, a1, a2 => mp_ld g.1 231 0 fun x1 => (if x1 ≤ a2 then some a1 else (fR_isPlace g a2).bind fun x3 => (if x3 = 0 then fR_manyPlaces_4 g n (a1 + 0) (a2 + 1) else fR_manyPlaces_4 g n (a1 + 1) (a2 + 1)))
theorem fR_manyPlaces_4_s (g : SR) (n : Nat) (a1 : Int32) (a2 : Int32) : fR_manyPlaces_4 g (n + 1) a1 a2 = mp_ld g.1 231 0 fun x1 => (if x1 ≤ a2 then some a1 else (fR_isPlace g a2).bind fun x3 => (if x3 = 0 then fR_manyPlaces_4 g n (a1 + 0) (a2 + 1) else fR_manyPlaces_4 g n (a1 + 1) (a2 + 1))) := rfl
set_option maxHeartbeats 4000000 in
set_option maxRecDepth 100000 in
theorem lR_manyPlaces_4 {p : Program} {l : Launch} {e : Env} {s : State} {m : MethodId} {args : Array Value} {below : List Frame} {meth : Method} {c : Code} (cx : mp_C p s m args meth c bR_manyPlaces 3 (some .int) rR) (k : KK) (ad : Nat → Nat) (g : SR) (z : Int32) (hE : mp_E k s) (hP : va_P (kD k) mp_cls (cR k ad g) s.heap) (hD : va_D (mp_N k) (cR k ad g)) : ∀ (n : Nat) (a1 : Int32) (a2 : Int32), fR_manyPlaces_4 g n a1 a2 = some z → ∀ (ls : Array Slot), lv_has ls 3 [(0, .ref (ad 0)), (1, .int a1), (2, .int a2)] → W p l e rmR_manyPlaces s m args below meth c s.heap [] 0 0 (MQ below (mp_Qs (some (.int z))) args s 0 0 (fun _ => False)) (F0 m 4 ls []) := by
  obtain ⟨hx, hb, -, hml, hown, hts, -⟩ := id cx
  intro n
  induction n with
  | zero =>
    intro a1 a2 h
    have h : (none : Option Int32) = some z := h
    cases h
  | succ n ih =>
    intro a1 a2 h ls hl
    rw [fR_manyPlaces_4_s] at h
    refine lv_iload_n hx hb dR_manyPlaces_4 rfl (lv_at hl 2 rfl) ?_
    refine lv_aload_n hx hb dR_manyPlaces_5 rfl (lv_at hl 0 rfl) ?_
    refine mp_gR cx hE hP iR 0 rfl 0 (by decide) wq_401 rfl (v := .ref (ad 1)) rfl dR_manyPlaces_6 ?_
    refine lv_iconst (v := 0) hx hb dR_manyPlaces_9 (by decide) ?_
    obtain ⟨hi, x1, ex1, h⟩ := mp_lds h
    refine va_iald hx hb hE.1 hP 1 0 (f := g.1) (n := 231) rfl rfl hi dR_manyPlaces_10 ?_
    refine mp_top ex1 ?_
    refine lv_icmp_ge (tgt := 36) hx hb dR_manyPlaces_11 (by decide) (fun c2 => ?_) (fun c2 => ?_)
    · have h := mp_t c2 h
      refine lv_iload_n hx hb dR_manyPlaces_36 rfl (lv_at hl 1 rfl) ?_
      exact mp_ri cx h dR_manyPlaces_37
    · have h := mp_f c2 h
      refine lv_iload_n hx hb dR_manyPlaces_14 rfl (lv_at hl 1 rfl) ?_
      refine lv_aload_n hx hb dR_manyPlaces_15 rfl (lv_at hl 0 rfl) ?_
      refine lv_iload_n hx hb dR_manyPlaces_16 rfl (lv_at hl 2 rfl) ?_
      obtain ⟨x3, ex3, h⟩ := mp_bs h
      refine mp_si (mp_runV (As := [.int a2]) (rest := [.int a1]) cx kV_R_30 (cR_isPlace l k ad g a2 x3 ex3) ⟨rfl, rfl, Nat.le_of_ble_eq_true rfl, Nat.le_of_ble_eq_true rfl⟩ ⟨Nat.zero_le _, Nat.zero_le _⟩ hE hP hD va_S.rf 0 rfl rfl rfl hl.1 rfl (Nat.le_of_ble_eq_true rfl) dR_manyPlaces_17) ?_
      refine lv_if_eq (tgt := 27) hx hb dR_manyPlaces_20 (by decide) (fun c4 => ?_) (fun c4 => ?_)
      · have h := mp_t c4 h
        refine lv_iconst (v := 0) hx hb dR_manyPlaces_27 (by decide) ?_
        refine lv_iadd hx hb dR_manyPlaces_28 ?_
        refine lv_istore_n (lv' := [(1, .int (a1 + 0)), (0, .ref (ad 0)), (2, .int a2)]) hx hb dR_manyPlaces_29 rfl hl (by decide) rfl (fun ls hl => ?_)
        refine lv_iinc (v := (a2 + 1)) (lv' := [(2, .int (a2 + 1)), (1, .int (a1 + 0)), (0, .ref (ad 0))]) hx hb dR_manyPlaces_30 hl (k := 2) rfl rfl (by decide) rfl (fun ls hl => ?_)
        refine lv_goto (tgt := 4) hx hb dR_manyPlaces_33 (by decide) ?_
        exact ih (a1 + 0) (a2 + 1) h ls (lv_sub hl [2, 1, 0] rfl)
      · have h := mp_f c4 h
        refine lv_iconst (v := 1) hx hb dR_manyPlaces_23 (by decide) ?_
        refine lv_goto (tgt := 28) hx hb dR_manyPlaces_24 (by decide) ?_
        refine lv_iadd hx hb dR_manyPlaces_28 ?_
        refine lv_istore_n (lv' := [(1, .int (a1 + 1)), (0, .ref (ad 0)), (2, .int a2)]) hx hb dR_manyPlaces_29 rfl hl (by decide) rfl (fun ls hl => ?_)
        refine lv_iinc (v := (a2 + 1)) (lv' := [(2, .int (a2 + 1)), (1, .int (a1 + 1)), (0, .ref (ad 0))]) hx hb dR_manyPlaces_30 hl (k := 2) rfl rfl (by decide) rfl (fun ls hl => ?_)
        refine lv_goto (tgt := 4) hx hb dR_manyPlaces_33 (by decide) ?_
        exact ih (a1 + 1) (a2 + 1) h ls (lv_sub hl [2, 1, 0] rfl)
def fR_manyPlaces (g : SR) : Option Int32 := fR_manyPlaces_4 g 2000 0 0
set_option maxHeartbeats 4000000 in
set_option maxRecDepth 100000 in
theorem wR_manyPlaces {p : Program} {l : Launch} {e : Env} {s : State} {m : MethodId} {args : Array Value} {below : List Frame} {meth : Method} {c : Code} (cx : mp_C p s m args meth c bR_manyPlaces 3 (some .int) rR) (k : KK) (ad : Nat → Nat) (g : SR) (z : Int32) (hE : mp_E k s) (hP : va_P (kD k) mp_cls (cR k ad g) s.heap) (hD : va_D (mp_N k) (cR k ad g)) (h : fR_manyPlaces g = some z) (ls : Array Slot) (hl : lv_has ls 3 [(0, .ref (ad 0))]) : W p l e rmR_manyPlaces s m args below meth c s.heap [] 0 0 (MQ below (mp_Qs (some (.int z))) args s 0 0 (fun _ => False)) (F0 m 0 ls []) := by
  obtain ⟨hx, hb, -, hml, hown, hts, -⟩ := id cx
  unfold fR_manyPlaces at h
  refine lv_iconst (v := 0) hx hb dR_manyPlaces_0 (by decide) ?_
  refine lv_istore_n (lv' := [(1, .int 0), (0, .ref (ad 0))]) hx hb dR_manyPlaces_1 rfl hl (by decide) rfl (fun ls hl => ?_)
  refine lv_iconst (v := 0) hx hb dR_manyPlaces_2 (by decide) ?_
  refine lv_istore_n (lv' := [(2, .int 0), (1, .int 0), (0, .ref (ad 0))]) hx hb dR_manyPlaces_3 rfl hl (by decide) rfl (fun ls hl => ?_)
  exact lR_manyPlaces_4 cx k ad g z hE hP hD _ 0 0 h ls (lv_sub hl [2, 1, 0] rfl)
theorem cR_manyPlaces (l : Launch) (k : KK) (ad : Nat → Nat) (g : SR) (z : Int32) (h : fR_manyPlaces g = some z) : mp_CS l k yR_manyPlaces bR_manyPlaces 3 (some .int) rmR_manyPlaces [.ref (ad 0)] (cR k ad g) (some (.int z)) := by
  refine Met.ofW (cc := bR_manyPlaces) (maxL := 3) (ret := (some .int)) (by decide) rfl ?_
  intro p e s m args below meth c s₁ B hml hv
  obtain ⟨rfl, hP, hD, hE⟩ := hv
  have hl := lv_entry ([.ref (ad 0)]) (n := 3) (Nat.le_of_ble_eq_true rfl)
  rw [lg_entry_eq]
  generalize (lg_sl ([.ref (ad 0)]) ++ List.replicate (3 - (lg_sl ([.ref (ad 0)])).length) Slot.unset).toArray = ls at hl ⊢
  exact wR_manyPlaces (mp_C.of B hml) k ad g z hE hP hD h ls hl
-- MovingPlacesModel.manyOver
abbrev rmR_manyOver : Room := { frames := 1, cells := 0, slots := 0, locals := 21 }
def fR_manyOver_4 (g : SR) : Nat → Int32 → Int32 → Option Int32
  | 0, _, _ => none
  | n + 1, a1, a2 => mp_ld g.1 231 1 fun x1 => (if x1 ≤ a2 then some a1 else (fR_isOver g a2).bind fun x3 => (if x3 = 0 then fR_manyOver_4 g n (a1 + 0) (a2 + 1) else fR_manyOver_4 g n (a1 + 1) (a2 + 1)))
theorem fR_manyOver_4_s (g : SR) (n : Nat) (a1 : Int32) (a2 : Int32) : fR_manyOver_4 g (n + 1) a1 a2 = mp_ld g.1 231 1 fun x1 => (if x1 ≤ a2 then some a1 else (fR_isOver g a2).bind fun x3 => (if x3 = 0 then fR_manyOver_4 g n (a1 + 0) (a2 + 1) else fR_manyOver_4 g n (a1 + 1) (a2 + 1))) := rfl
set_option maxHeartbeats 4000000 in
set_option maxRecDepth 100000 in
theorem lR_manyOver_4 {p : Program} {l : Launch} {e : Env} {s : State} {m : MethodId} {args : Array Value} {below : List Frame} {meth : Method} {c : Code} (cx : mp_C p s m args meth c bR_manyOver 3 (some .int) rR) (k : KK) (ad : Nat → Nat) (g : SR) (z : Int32) (hE : mp_E k s) (hP : va_P (kD k) mp_cls (cR k ad g) s.heap) (hD : va_D (mp_N k) (cR k ad g)) : ∀ (n : Nat) (a1 : Int32) (a2 : Int32), fR_manyOver_4 g n a1 a2 = some z → ∀ (ls : Array Slot), lv_has ls 3 [(0, .ref (ad 0)), (1, .int a1), (2, .int a2)] → W p l e rmR_manyOver s m args below meth c s.heap [] 0 0 (MQ below (mp_Qs (some (.int z))) args s 0 0 (fun _ => False)) (F0 m 4 ls []) := by
  obtain ⟨hx, hb, -, hml, hown, hts, -⟩ := id cx
  intro n
  induction n with
  | zero =>
    intro a1 a2 h
    have h : (none : Option Int32) = some z := h
    cases h
  | succ n ih =>
    intro a1 a2 h ls hl
    rw [fR_manyOver_4_s] at h
    refine lv_iload_n hx hb dR_manyOver_4 rfl (lv_at hl 2 rfl) ?_
    refine lv_aload_n hx hb dR_manyOver_5 rfl (lv_at hl 0 rfl) ?_
    refine mp_gR cx hE hP iR 0 rfl 0 (by decide) wq_401 rfl (v := .ref (ad 1)) rfl dR_manyOver_6 ?_
    refine lv_iconst (v := 1) hx hb dR_manyOver_9 (by decide) ?_
    obtain ⟨hi, x1, ex1, h⟩ := mp_lds h
    refine va_iald hx hb hE.1 hP 1 0 (f := g.1) (n := 231) rfl rfl hi dR_manyOver_10 ?_
    refine mp_top ex1 ?_
    refine lv_icmp_ge (tgt := 36) hx hb dR_manyOver_11 (by decide) (fun c2 => ?_) (fun c2 => ?_)
    · have h := mp_t c2 h
      refine lv_iload_n hx hb dR_manyOver_36 rfl (lv_at hl 1 rfl) ?_
      exact mp_ri cx h dR_manyOver_37
    · have h := mp_f c2 h
      refine lv_iload_n hx hb dR_manyOver_14 rfl (lv_at hl 1 rfl) ?_
      refine lv_aload_n hx hb dR_manyOver_15 rfl (lv_at hl 0 rfl) ?_
      refine lv_iload_n hx hb dR_manyOver_16 rfl (lv_at hl 2 rfl) ?_
      obtain ⟨x3, ex3, h⟩ := mp_bs h
      refine mp_si (mp_runV (As := [.int a2]) (rest := [.int a1]) cx kV_R_56 (cR_isOver l k ad g a2 x3 ex3) ⟨rfl, rfl, Nat.le_of_ble_eq_true rfl, Nat.le_of_ble_eq_true rfl⟩ ⟨Nat.zero_le _, Nat.zero_le _⟩ hE hP hD va_S.rf 0 rfl rfl rfl hl.1 rfl (Nat.le_of_ble_eq_true rfl) dR_manyOver_17) ?_
      refine lv_if_eq (tgt := 27) hx hb dR_manyOver_20 (by decide) (fun c4 => ?_) (fun c4 => ?_)
      · have h := mp_t c4 h
        refine lv_iconst (v := 0) hx hb dR_manyOver_27 (by decide) ?_
        refine lv_iadd hx hb dR_manyOver_28 ?_
        refine lv_istore_n (lv' := [(1, .int (a1 + 0)), (0, .ref (ad 0)), (2, .int a2)]) hx hb dR_manyOver_29 rfl hl (by decide) rfl (fun ls hl => ?_)
        refine lv_iinc (v := (a2 + 1)) (lv' := [(2, .int (a2 + 1)), (1, .int (a1 + 0)), (0, .ref (ad 0))]) hx hb dR_manyOver_30 hl (k := 2) rfl rfl (by decide) rfl (fun ls hl => ?_)
        refine lv_goto (tgt := 4) hx hb dR_manyOver_33 (by decide) ?_
        exact ih (a1 + 0) (a2 + 1) h ls (lv_sub hl [2, 1, 0] rfl)
      · have h := mp_f c4 h
        refine lv_iconst (v := 1) hx hb dR_manyOver_23 (by decide) ?_
        refine lv_goto (tgt := 28) hx hb dR_manyOver_24 (by decide) ?_
        refine lv_iadd hx hb dR_manyOver_28 ?_
        refine lv_istore_n (lv' := [(1, .int (a1 + 1)), (0, .ref (ad 0)), (2, .int a2)]) hx hb dR_manyOver_29 rfl hl (by decide) rfl (fun ls hl => ?_)
        refine lv_iinc (v := (a2 + 1)) (lv' := [(2, .int (a2 + 1)), (1, .int (a1 + 1)), (0, .ref (ad 0))]) hx hb dR_manyOver_30 hl (k := 2) rfl rfl (by decide) rfl (fun ls hl => ?_)
        refine lv_goto (tgt := 4) hx hb dR_manyOver_33 (by decide) ?_
        exact ih (a1 + 1) (a2 + 1) h ls (lv_sub hl [2, 1, 0] rfl)
def fR_manyOver (g : SR) : Option Int32 := fR_manyOver_4 g 2000 0 0
set_option maxHeartbeats 4000000 in
set_option maxRecDepth 100000 in
theorem wR_manyOver {p : Program} {l : Launch} {e : Env} {s : State} {m : MethodId} {args : Array Value} {below : List Frame} {meth : Method} {c : Code} (cx : mp_C p s m args meth c bR_manyOver 3 (some .int) rR) (k : KK) (ad : Nat → Nat) (g : SR) (z : Int32) (hE : mp_E k s) (hP : va_P (kD k) mp_cls (cR k ad g) s.heap) (hD : va_D (mp_N k) (cR k ad g)) (h : fR_manyOver g = some z) (ls : Array Slot) (hl : lv_has ls 3 [(0, .ref (ad 0))]) : W p l e rmR_manyOver s m args below meth c s.heap [] 0 0 (MQ below (mp_Qs (some (.int z))) args s 0 0 (fun _ => False)) (F0 m 0 ls []) := by
  obtain ⟨hx, hb, -, hml, hown, hts, -⟩ := id cx
  unfold fR_manyOver at h
  refine lv_iconst (v := 0) hx hb dR_manyOver_0 (by decide) ?_
  refine lv_istore_n (lv' := [(1, .int 0), (0, .ref (ad 0))]) hx hb dR_manyOver_1 rfl hl (by decide) rfl (fun ls hl => ?_)
  refine lv_iconst (v := 0) hx hb dR_manyOver_2 (by decide) ?_
  refine lv_istore_n (lv' := [(2, .int 0), (1, .int 0), (0, .ref (ad 0))]) hx hb dR_manyOver_3 rfl hl (by decide) rfl (fun ls hl => ?_)
  exact lR_manyOver_4 cx k ad g z hE hP hD _ 0 0 h ls (lv_sub hl [2, 1, 0] rfl)
theorem cR_manyOver (l : Launch) (k : KK) (ad : Nat → Nat) (g : SR) (z : Int32) (h : fR_manyOver g = some z) : mp_CS l k yR_manyOver bR_manyOver 3 (some .int) rmR_manyOver [.ref (ad 0)] (cR k ad g) (some (.int z)) := by
  refine Met.ofW (cc := bR_manyOver) (maxL := 3) (ret := (some .int)) (by decide) rfl ?_
  intro p e s m args below meth c s₁ B hml hv
  obtain ⟨rfl, hP, hD, hE⟩ := hv
  have hl := lv_entry ([.ref (ad 0)]) (n := 3) (Nat.le_of_ble_eq_true rfl)
  rw [lg_entry_eq]
  generalize (lg_sl ([.ref (ad 0)]) ++ List.replicate (3 - (lg_sl ([.ref (ad 0)])).length) Slot.unset).toArray = ls at hl ⊢
  exact wR_manyOver (mp_C.of B hml) k ad g z hE hP hD h ls hl
-- MovingPlacesModel.manyMessages
abbrev rmR_manyMessages : Room := { frames := 2, cells := 0, slots := 0, locals := 43 }
def fR_manyMessages_4 (g : SR) : Nat → Int32 → Int32 → Option Int32
  | 0, _, _ => none
  | n + 1, a1, a2 => (if 72 ≤ a2 then some a1 else (fR_isPlace g (a2 / 6)).bind fun x2 => (if x2 = 0 then fR_manyMessages_4 g n (a1 + 0) (a2 + 1) else mp_ld g.1 231 (39 + a2) fun x4 => fR_manyMessages_4 g n (a1 + x4) (a2 + 1)))
theorem fR_manyMessages_4_s (g : SR) (n : Nat) (a1 : Int32) (a2 : Int32) : fR_manyMessages_4 g (n + 1) a1 a2 = (if 72 ≤ a2 then some a1 else (fR_isPlace g (a2 / 6)).bind fun x2 => (if x2 = 0 then fR_manyMessages_4 g n (a1 + 0) (a2 + 1) else mp_ld g.1 231 (39 + a2) fun x4 => fR_manyMessages_4 g n (a1 + x4) (a2 + 1))) := rfl
set_option maxHeartbeats 4000000 in
set_option maxRecDepth 100000 in
theorem lR_manyMessages_4 {p : Program} {l : Launch} {e : Env} {s : State} {m : MethodId} {args : Array Value} {below : List Frame} {meth : Method} {c : Code} (cx : mp_C p s m args meth c bR_manyMessages 3 (some .int) rR) (k : KK) (ad : Nat → Nat) (g : SR) (z : Int32) (hE : mp_E k s) (hP : va_P (kD k) mp_cls (cR k ad g) s.heap) (hD : va_D (mp_N k) (cR k ad g)) : ∀ (n : Nat) (a1 : Int32) (a2 : Int32), fR_manyMessages_4 g n a1 a2 = some z → ∀ (ls : Array Slot), lv_has ls 3 [(0, .ref (ad 0)), (1, .int a1), (2, .int a2)] → W p l e rmR_manyMessages s m args below meth c s.heap [] 0 0 (MQ below (mp_Qs (some (.int z))) args s 0 0 (fun _ => False)) (F0 m 4 ls []) := by
  obtain ⟨hx, hb, -, hml, hown, hts, -⟩ := id cx
  intro n
  induction n with
  | zero =>
    intro a1 a2 h
    have h : (none : Option Int32) = some z := h
    cases h
  | succ n ih =>
    intro a1 a2 h ls hl
    rw [fR_manyMessages_4_s] at h
    refine lv_iload_n hx hb dR_manyMessages_4 rfl (lv_at hl 2 rfl) ?_
    refine lv_bipush (v := 72) hx hb dR_manyMessages_5 (by decide) ?_
    refine lv_icmp_ge (tgt := 43) hx hb dR_manyMessages_7 (by decide) (fun c1 => ?_) (fun c1 => ?_)
    · have h := mp_t c1 h
      refine lv_iload_n hx hb dR_manyMessages_43 rfl (lv_at hl 1 rfl) ?_
      exact mp_ri cx h dR_manyMessages_44
    · have h := mp_f c1 h
      refine lv_iload_n hx hb dR_manyMessages_10 rfl (lv_at hl 1 rfl) ?_
      refine lv_aload_n hx hb dR_manyMessages_11 rfl (lv_at hl 0 rfl) ?_
      refine lv_iload_n hx hb dR_manyMessages_12 rfl (lv_at hl 2 rfl) ?_
      refine lv_bipush (v := 6) hx hb dR_manyMessages_13 (by decide) ?_
      refine lv_idiv hx hb dR_manyMessages_15 (by decide) ?_
      obtain ⟨x2, ex2, h⟩ := mp_bs h
      refine mp_si (mp_runV (As := [.int (a2 / 6)]) (rest := [.int a1]) cx kV_R_30 (cR_isPlace l k ad g (a2 / 6) x2 ex2) ⟨rfl, rfl, Nat.le_of_ble_eq_true rfl, Nat.le_of_ble_eq_true rfl⟩ ⟨Nat.zero_le _, Nat.zero_le _⟩ hE hP hD va_S.rf 0 rfl rfl rfl hl.1 rfl (Nat.le_of_ble_eq_true rfl) dR_manyMessages_16) ?_
      refine lv_if_eq (tgt := 34) hx hb dR_manyMessages_19 (by decide) (fun c3 => ?_) (fun c3 => ?_)
      · have h := mp_t c3 h
        refine lv_iconst (v := 0) hx hb dR_manyMessages_34 (by decide) ?_
        refine lv_iadd hx hb dR_manyMessages_35 ?_
        refine lv_istore_n (lv' := [(1, .int (a1 + 0)), (0, .ref (ad 0)), (2, .int a2)]) hx hb dR_manyMessages_36 rfl hl (by decide) rfl (fun ls hl => ?_)
        refine lv_iinc (v := (a2 + 1)) (lv' := [(2, .int (a2 + 1)), (1, .int (a1 + 0)), (0, .ref (ad 0))]) hx hb dR_manyMessages_37 hl (k := 2) rfl rfl (by decide) rfl (fun ls hl => ?_)
        refine lv_goto (tgt := 4) hx hb dR_manyMessages_40 (by decide) ?_
        exact ih (a1 + 0) (a2 + 1) h ls (lv_sub hl [2, 1, 0] rfl)
      · have h := mp_f c3 h
        refine lv_aload_n hx hb dR_manyMessages_22 rfl (lv_at hl 0 rfl) ?_
        refine mp_gR cx hE hP iR 0 rfl 0 (by decide) wq_401 rfl (v := .ref (ad 1)) rfl dR_manyMessages_23 ?_
        refine lv_bipush (v := 39) hx hb dR_manyMessages_26 (by decide) ?_
        refine lv_iload_n hx hb dR_manyMessages_28 rfl (lv_at hl 2 rfl) ?_
        refine lv_iadd hx hb dR_manyMessages_29 ?_
        obtain ⟨hi, x4, ex4, h⟩ := mp_lds h
        refine va_iald hx hb hE.1 hP 1 0 (f := g.1) (n := 231) rfl rfl hi dR_manyMessages_30 ?_
        refine mp_top ex4 ?_
        refine lv_goto (tgt := 35) hx hb dR_manyMessages_31 (by decide) ?_
        refine lv_iadd hx hb dR_manyMessages_35 ?_
        refine lv_istore_n (lv' := [(1, .int (a1 + x4)), (0, .ref (ad 0)), (2, .int a2)]) hx hb dR_manyMessages_36 rfl hl (by decide) rfl (fun ls hl => ?_)
        refine lv_iinc (v := (a2 + 1)) (lv' := [(2, .int (a2 + 1)), (1, .int (a1 + x4)), (0, .ref (ad 0))]) hx hb dR_manyMessages_37 hl (k := 2) rfl rfl (by decide) rfl (fun ls hl => ?_)
        refine lv_goto (tgt := 4) hx hb dR_manyMessages_40 (by decide) ?_
        exact ih (a1 + x4) (a2 + 1) h ls (lv_sub hl [2, 1, 0] rfl)
def fR_manyMessages (g : SR) : Option Int32 := fR_manyMessages_4 g 2000 0 0
set_option maxHeartbeats 4000000 in
set_option maxRecDepth 100000 in
theorem wR_manyMessages {p : Program} {l : Launch} {e : Env} {s : State} {m : MethodId} {args : Array Value} {below : List Frame} {meth : Method} {c : Code} (cx : mp_C p s m args meth c bR_manyMessages 3 (some .int) rR) (k : KK) (ad : Nat → Nat) (g : SR) (z : Int32) (hE : mp_E k s) (hP : va_P (kD k) mp_cls (cR k ad g) s.heap) (hD : va_D (mp_N k) (cR k ad g)) (h : fR_manyMessages g = some z) (ls : Array Slot) (hl : lv_has ls 3 [(0, .ref (ad 0))]) : W p l e rmR_manyMessages s m args below meth c s.heap [] 0 0 (MQ below (mp_Qs (some (.int z))) args s 0 0 (fun _ => False)) (F0 m 0 ls []) := by
  obtain ⟨hx, hb, -, hml, hown, hts, -⟩ := id cx
  unfold fR_manyMessages at h
  refine lv_iconst (v := 0) hx hb dR_manyMessages_0 (by decide) ?_
  refine lv_istore_n (lv' := [(1, .int 0), (0, .ref (ad 0))]) hx hb dR_manyMessages_1 rfl hl (by decide) rfl (fun ls hl => ?_)
  refine lv_iconst (v := 0) hx hb dR_manyMessages_2 (by decide) ?_
  refine lv_istore_n (lv' := [(2, .int 0), (1, .int 0), (0, .ref (ad 0))]) hx hb dR_manyMessages_3 rfl hl (by decide) rfl (fun ls hl => ?_)
  exact lR_manyMessages_4 cx k ad g z hE hP hD _ 0 0 h ls (lv_sub hl [2, 1, 0] rfl)
theorem cR_manyMessages (l : Launch) (k : KK) (ad : Nat → Nat) (g : SR) (z : Int32) (h : fR_manyMessages g = some z) : mp_CS l k yR_manyMessages bR_manyMessages 3 (some .int) rmR_manyMessages [.ref (ad 0)] (cR k ad g) (some (.int z)) := by
  refine Met.ofW (cc := bR_manyMessages) (maxL := 3) (ret := (some .int)) (by decide) rfl ?_
  intro p e s m args below meth c s₁ B hml hv
  obtain ⟨rfl, hP, hD, hE⟩ := hv
  have hl := lv_entry ([.ref (ad 0)]) (n := 3) (Nat.le_of_ble_eq_true rfl)
  rw [lg_entry_eq]
  generalize (lg_sl ([.ref (ad 0)]) ++ List.replicate (3 - (lg_sl ([.ref (ad 0)])).length) Slot.unset).toArray = ls at hl ⊢
  exact wR_manyMessages (mp_C.of B hml) k ad g z hE hP hD h ls hl
-- MovingPlacesModel.many
abbrev rmR_many : Room := { frames := 3, cells := 0, slots := 0, locals := 65 }
def fR_many (g : SR) (a1 : Int32) : Option Int32 := (if a1 = 0 then (fR_manyPlaces g).bind fun x2 => some x2 else if a1 = 1 then mp_ld g.1 231 1 fun x4 => some x4 else if a1 = 2 then (fR_manyOver g).bind fun x6 => some x6 else if a1 = 3 then mp_ld g.1 231 0 fun x8 => some x8 else if a1 = 4 then (fR_manyMessages g).bind fun x10 => some x10 else if a1 = 5 then (if g.2.2.2.1 = 0 then some 0 else some 1) else some (-2))
set_option maxHeartbeats 4000000 in
set_option maxRecDepth 100000 in
theorem wR_many {p : Program} {l : Launch} {e : Env} {s : State} {m : MethodId} {args : Array Value} {below : List Frame} {meth : Method} {c : Code} (cx : mp_C p s m args meth c bR_many 2 (some .int) rR) (k : KK) (ad : Nat → Nat) (g : SR) (a1 : Int32) (z : Int32) (hE : mp_E k s) (hP : va_P (kD k) mp_cls (cR k ad g) s.heap) (hD : va_D (mp_N k) (cR k ad g)) (h : fR_many g a1 = some z) (ls : Array Slot) (hl : lv_has ls 2 [(0, .ref (ad 0)), (1, .int a1)]) : W p l e rmR_many s m args below meth c s.heap [] 0 0 (MQ below (mp_Qs (some (.int z))) args s 0 0 (fun _ => False)) (F0 m 0 ls []) := by
  obtain ⟨hx, hb, -, hml, hown, hts, -⟩ := id cx
  unfold fR_many at h
  refine lv_iload_n hx hb dR_many_0 rfl (lv_at hl 1 rfl) ?_
  by_cases c1 : a1 = 0
  · have h := mp_t c1 h
    refine lv_tableIn (off := 39) (tgt := 40) hx hb dR_many_1 (by rw [c1]; decide) (by rw [c1]; decide) (by rw [c1]; rfl) (by decide) ?_
    refine lv_aload_n hx hb dR_many_40 rfl (lv_at hl 0 rfl) ?_
    obtain ⟨x2, ex2, h⟩ := mp_bs h
    refine mp_si (mp_runV (As := []) (rest := []) cx kV_R_119 (cR_manyPlaces l k ad g x2 ex2) ⟨rfl, rfl, Nat.le_of_ble_eq_true rfl, Nat.le_of_ble_eq_true rfl⟩ ⟨Nat.zero_le _, Nat.zero_le _⟩ hE hP hD va_S.rf 0 rfl rfl rfl hl.1 rfl (Nat.le_of_ble_eq_true rfl) dR_many_41) ?_
    exact mp_ri cx h dR_many_44
  have h := mp_f c1 h
  by_cases c3 : a1 = 1
  · have h := mp_t c3 h
    refine lv_tableIn (off := 44) (tgt := 45) hx hb dR_many_1 (by rw [c3]; decide) (by rw [c3]; decide) (by rw [c3]; rfl) (by decide) ?_
    refine lv_aload_n hx hb dR_many_45 rfl (lv_at hl 0 rfl) ?_
    refine mp_gR cx hE hP iR 0 rfl 0 (by decide) wq_401 rfl (v := .ref (ad 1)) rfl dR_many_46 ?_
    refine lv_iconst (v := 1) hx hb dR_many_49 (by decide) ?_
    obtain ⟨hi, x4, ex4, h⟩ := mp_lds h
    refine va_iald hx hb hE.1 hP 1 0 (f := g.1) (n := 231) rfl rfl hi dR_many_50 ?_
    refine mp_top ex4 ?_
    exact mp_ri cx h dR_many_51
  have h := mp_f c3 h
  by_cases c5 : a1 = 2
  · have h := mp_t c5 h
    refine lv_tableIn (off := 51) (tgt := 52) hx hb dR_many_1 (by rw [c5]; decide) (by rw [c5]; decide) (by rw [c5]; rfl) (by decide) ?_
    refine lv_aload_n hx hb dR_many_52 rfl (lv_at hl 0 rfl) ?_
    obtain ⟨x6, ex6, h⟩ := mp_bs h
    refine mp_si (mp_runV (As := []) (rest := []) cx kV_R_122 (cR_manyOver l k ad g x6 ex6) ⟨rfl, rfl, Nat.le_of_ble_eq_true rfl, Nat.le_of_ble_eq_true rfl⟩ ⟨Nat.zero_le _, Nat.zero_le _⟩ hE hP hD va_S.rf 0 rfl rfl rfl hl.1 rfl (Nat.le_of_ble_eq_true rfl) dR_many_53) ?_
    exact mp_ri cx h dR_many_56
  have h := mp_f c5 h
  by_cases c7 : a1 = 3
  · have h := mp_t c7 h
    refine lv_tableIn (off := 56) (tgt := 57) hx hb dR_many_1 (by rw [c7]; decide) (by rw [c7]; decide) (by rw [c7]; rfl) (by decide) ?_
    refine lv_aload_n hx hb dR_many_57 rfl (lv_at hl 0 rfl) ?_
    refine mp_gR cx hE hP iR 0 rfl 0 (by decide) wq_401 rfl (v := .ref (ad 1)) rfl dR_many_58 ?_
    refine lv_iconst (v := 0) hx hb dR_many_61 (by decide) ?_
    obtain ⟨hi, x8, ex8, h⟩ := mp_lds h
    refine va_iald hx hb hE.1 hP 1 0 (f := g.1) (n := 231) rfl rfl hi dR_many_62 ?_
    refine mp_top ex8 ?_
    exact mp_ri cx h dR_many_63
  have h := mp_f c7 h
  by_cases c9 : a1 = 4
  · have h := mp_t c9 h
    refine lv_tableIn (off := 63) (tgt := 64) hx hb dR_many_1 (by rw [c9]; decide) (by rw [c9]; decide) (by rw [c9]; rfl) (by decide) ?_
    refine lv_aload_n hx hb dR_many_64 rfl (lv_at hl 0 rfl) ?_
    obtain ⟨x10, ex10, h⟩ := mp_bs h
    refine mp_si (mp_runV (As := []) (rest := []) cx kV_R_125 (cR_manyMessages l k ad g x10 ex10) ⟨rfl, rfl, Nat.le_of_ble_eq_true rfl, Nat.le_of_ble_eq_true rfl⟩ ⟨Nat.zero_le _, Nat.zero_le _⟩ hE hP hD va_S.rf 0 rfl rfl rfl hl.1 rfl (Nat.le_of_ble_eq_true rfl) dR_many_65) ?_
    exact mp_ri cx h dR_many_68
  have h := mp_f c9 h
  by_cases c11 : a1 = 5
  · have h := mp_t c11 h
    refine lv_tableIn (off := 68) (tgt := 69) hx hb dR_many_1 (by rw [c11]; decide) (by rw [c11]; decide) (by rw [c11]; rfl) (by decide) ?_
    refine lv_aload_n hx hb dR_many_69 rfl (lv_at hl 0 rfl) ?_
    refine mp_gR cx hE hP iR 0 rfl 3 (by decide) wq_404 rfl (v := .int g.2.2.2.1) rfl dR_many_70 ?_
    refine lv_if_eq (tgt := 80) hx hb dR_many_73 (by decide) (fun c12 => ?_) (fun c12 => ?_)
    · have h := mp_t c12 h
      refine lv_iconst (v := 0) hx hb dR_many_80 (by decide) ?_
      exact mp_ri cx h dR_many_81
    · have h := mp_f c12 h
      refine lv_iconst (v := 1) hx hb dR_many_76 (by decide) ?_
      refine lv_goto (tgt := 81) hx hb dR_many_77 (by decide) ?_
      exact mp_ri cx h dR_many_81
  have h := mp_f c11 h
  have qc1 : (a1).toInt ≠ 0 := mp_ne c1
  have qc3 : (a1).toInt ≠ 1 := mp_ne c3
  have qc5 : (a1).toInt ≠ 2 := mp_ne c5
  have qc7 : (a1).toInt ≠ 3 := mp_ne c7
  have qc9 : (a1).toInt ≠ 4 := mp_ne c9
  have qc11 : (a1).toInt ≠ 5 := mp_ne c11
  refine lv_tableOut (tgt := 82) hx hb dR_many_1 (by omega) (by decide) ?_
  refine lv_bipush (v := (-2)) hx hb dR_many_82 (by decide) ?_
  exact mp_ri cx h dR_many_84
theorem cR_many (l : Launch) (k : KK) (ad : Nat → Nat) (g : SR) (a1 : Int32) (z : Int32) (h : fR_many g a1 = some z) : mp_CS l k yR_many bR_many 2 (some .int) rmR_many [.ref (ad 0), .int a1] (cR k ad g) (some (.int z)) := by
  refine Met.ofW (cc := bR_many) (maxL := 2) (ret := (some .int)) (by decide) rfl ?_
  intro p e s m args below meth c s₁ B hml hv
  obtain ⟨rfl, hP, hD, hE⟩ := hv
  have hl := lv_entry ([.ref (ad 0), .int a1]) (n := 2) (Nat.le_of_ble_eq_true rfl)
  rw [lg_entry_eq]
  generalize (lg_sl ([.ref (ad 0), .int a1]) ++ List.replicate (2 - (lg_sl ([.ref (ad 0), .int a1])).length) Slot.unset).toArray = ls at hl ⊢
  exact wR_many (mp_C.of B hml) k ad g a1 z hE hP hD h ls hl
