theorem dR_between_0 : decode bR_between 0 = .ok (.iload_n 0, 1) := by decide +kernel
theorem dR_between_1 : decode bR_between 1 = .ok (.iload_n 1, 1) := by decide +kernel
theorem dR_between_2 : decode bR_between 2 = .ok (.if_icmp .lt 12, 3) := by decide +kernel
theorem dR_between_5 : decode bR_between 5 = .ok (.iload_n 0, 1) := by decide +kernel
theorem dR_between_6 : decode bR_between 6 = .ok (.iload_n 2, 1) := by decide +kernel
theorem dR_between_7 : decode bR_between 7 = .ok (.if_icmp .gt 7, 3) := by decide +kernel
theorem dR_between_10 : decode bR_between 10 = .ok (.iconst 1, 1) := by decide +kernel
theorem dR_between_11 : decode bR_between 11 = .ok (.goto 4, 3) := by decide +kernel
theorem dR_between_14 : decode bR_between 14 = .ok (.iconst 0, 1) := by decide +kernel
theorem dR_between_15 : decode bR_between 15 = .ok (.ireturn, 1) := by decide +kernel
theorem dR_has_0 : decode bR_has 0 = .ok (.iload_n 0, 1) := by decide +kernel
theorem dR_has_1 : decode bR_has 1 = .ok (.iload_n 1, 1) := by decide +kernel
theorem dR_has_2 : decode bR_has 2 = .ok (.ishr, 1) := by decide +kernel
theorem dR_has_3 : decode bR_has 3 = .ok (.iconst 1, 1) := by decide +kernel
theorem dR_has_4 : decode bR_has 4 = .ok (.iand, 1) := by decide +kernel
theorem dR_has_5 : decode bR_has 5 = .ok (.iconst 1, 1) := by decide +kernel
theorem dR_has_6 : decode bR_has 6 = .ok (.if_icmp .ne 7, 3) := by decide +kernel
theorem dR_has_9 : decode bR_has 9 = .ok (.iconst 1, 1) := by decide +kernel
theorem dR_has_10 : decode bR_has 10 = .ok (.goto 4, 3) := by decide +kernel
theorem dR_has_13 : decode bR_has 13 = .ok (.iconst 0, 1) := by decide +kernel
theorem dR_has_14 : decode bR_has 14 = .ok (.ireturn, 1) := by decide +kernel
theorem dR_isPlace_0 : decode bR_isPlace 0 = .ok (.iload_n 1, 1) := by decide +kernel
theorem dR_isPlace_1 : decode bR_isPlace 1 = .ok (.iconst 0, 1) := by decide +kernel
theorem dR_isPlace_2 : decode bR_isPlace 2 = .ok (.aload_n 0, 1) := by decide +kernel
theorem dR_isPlace_3 : decode bR_isPlace 3 = .ok (.getfield 7, 3) := by decide +kernel
theorem dR_isPlace_6 : decode bR_isPlace 6 = .ok (.iconst 0, 1) := by decide +kernel
theorem dR_isPlace_7 : decode bR_isPlace 7 = .ok (.iaload, 1) := by decide +kernel
theorem dR_isPlace_8 : decode bR_isPlace 8 = .ok (.iconst 1, 1) := by decide +kernel
theorem dR_isPlace_9 : decode bR_isPlace 9 = .ok (.isub, 1) := by decide +kernel
theorem dR_isPlace_10 : decode bR_isPlace 10 = .ok (.invokestatic 22, 3) := by decide +kernel
theorem dR_isPlace_13 : decode bR_isPlace 13 = .ok (.ifCond .eq 20, 3) := by decide +kernel
theorem dR_isPlace_16 : decode bR_isPlace 16 = .ok (.aload_n 0, 1) := by decide +kernel
theorem dR_isPlace_17 : decode bR_isPlace 17 = .ok (.getfield 7, 3) := by decide +kernel
theorem dR_isPlace_20 : decode bR_isPlace 20 = .ok (.iconst 2, 1) := by decide +kernel
theorem dR_isPlace_21 : decode bR_isPlace 21 = .ok (.iaload, 1) := by decide +kernel
theorem dR_isPlace_22 : decode bR_isPlace 22 = .ok (.iload_n 1, 1) := by decide +kernel
theorem dR_isPlace_23 : decode bR_isPlace 23 = .ok (.invokestatic 26, 3) := by decide +kernel
theorem dR_isPlace_26 : decode bR_isPlace 26 = .ok (.ifCond .ne 7, 3) := by decide +kernel
theorem dR_isPlace_29 : decode bR_isPlace 29 = .ok (.iconst 1, 1) := by decide +kernel
theorem dR_isPlace_30 : decode bR_isPlace 30 = .ok (.goto 4, 3) := by decide +kernel
theorem dR_isPlace_33 : decode bR_isPlace 33 = .ok (.iconst 0, 1) := by decide +kernel
theorem dR_isPlace_34 : decode bR_isPlace 34 = .ok (.ireturn, 1) := by decide +kernel
theorem dR_isThread_0 : decode bR_isThread 0 = .ok (.iload_n 1, 1) := by decide +kernel
theorem dR_isThread_1 : decode bR_isThread 1 = .ok (.iconst 0, 1) := by decide +kernel
theorem dR_isThread_2 : decode bR_isThread 2 = .ok (.aload_n 0, 1) := by decide +kernel
theorem dR_isThread_3 : decode bR_isThread 3 = .ok (.getfield 7, 3) := by decide +kernel
theorem dR_isThread_6 : decode bR_isThread 6 = .ok (.iconst 1, 1) := by decide +kernel
theorem dR_isThread_7 : decode bR_isThread 7 = .ok (.iaload, 1) := by decide +kernel
theorem dR_isThread_8 : decode bR_isThread 8 = .ok (.iconst 1, 1) := by decide +kernel
theorem dR_isThread_9 : decode bR_isThread 9 = .ok (.isub, 1) := by decide +kernel
theorem dR_isThread_10 : decode bR_isThread 10 = .ok (.invokestatic 22, 3) := by decide +kernel
theorem dR_isThread_13 : decode bR_isThread 13 = .ok (.ireturn, 1) := by decide +kernel
theorem dR_isName_0 : decode bR_isName 0 = .ok (.iload_n 0, 1) := by decide +kernel
theorem dR_isName_1 : decode bR_isName 1 = .ok (.iconst 0, 1) := by decide +kernel
theorem dR_isName_2 : decode bR_isName 2 = .ok (.iconst 5, 1) := by decide +kernel
theorem dR_isName_3 : decode bR_isName 3 = .ok (.invokestatic 22, 3) := by decide +kernel
theorem dR_isName_6 : decode bR_isName 6 = .ok (.ireturn, 1) := by decide +kernel
theorem dR_place_0 : decode bR_place 0 = .ok (.aload_n 0, 1) := by decide +kernel
theorem dR_place_1 : decode bR_place 1 = .ok (.iload_n 1, 1) := by decide +kernel
theorem dR_place_2 : decode bR_place 2 = .ok (.invokevirtual 30, 3) := by decide +kernel
theorem dR_place_5 : decode bR_place 5 = .ok (.ifCond .eq 10, 3) := by decide +kernel
theorem dR_place_8 : decode bR_place 8 = .ok (.iload_n 2, 1) := by decide +kernel
theorem dR_place_9 : decode bR_place 9 = .ok (.invokestatic 34, 3) := by decide +kernel
theorem dR_place_12 : decode bR_place 12 = .ok (.ifCond .ne 5, 3) := by decide +kernel
theorem dR_place_15 : decode bR_place 15 = .ok (.iconst (-1), 1) := by decide +kernel
theorem dR_place_16 : decode bR_place 16 = .ok (.ireturn, 1) := by decide +kernel
theorem dR_place_17 : decode bR_place 17 = .ok (.aload_n 0, 1) := by decide +kernel
theorem dR_place_18 : decode bR_place 18 = .ok (.getfield 7, 3) := by decide +kernel
theorem dR_place_21 : decode bR_place 21 = .ok (.iconst 0, 1) := by decide +kernel
theorem dR_place_22 : decode bR_place 22 = .ok (.iaload, 1) := by decide +kernel
theorem dR_place_23 : decode bR_place 23 = .ok (.bipush 12, 2) := by decide +kernel
theorem dR_place_25 : decode bR_place 25 = .ok (.if_icmp .ne 6, 3) := by decide +kernel
theorem dR_place_28 : decode bR_place 28 = .ok (.bipush (-4), 2) := by decide +kernel
theorem dR_place_30 : decode bR_place 30 = .ok (.ireturn, 1) := by decide +kernel
theorem dR_place_31 : decode bR_place 31 = .ok (.aload_n 0, 1) := by decide +kernel
theorem dR_place_32 : decode bR_place 32 = .ok (.getfield 7, 3) := by decide +kernel
theorem dR_place_35 : decode bR_place 35 = .ok (.iconst 0, 1) := by decide +kernel
theorem dR_place_36 : decode bR_place 36 = .ok (.iaload, 1) := by decide +kernel
theorem dR_place_37 : decode bR_place 37 = .ok (.istore_n 3, 1) := by decide +kernel
theorem dR_place_38 : decode bR_place 38 = .ok (.aload_n 0, 1) := by decide +kernel
theorem dR_place_39 : decode bR_place 39 = .ok (.getfield 7, 3) := by decide +kernel
theorem dR_place_42 : decode bR_place 42 = .ok (.iconst 3, 1) := by decide +kernel
theorem dR_place_43 : decode bR_place 43 = .ok (.iload_n 3, 1) := by decide +kernel
theorem dR_place_44 : decode bR_place 44 = .ok (.iadd, 1) := by decide +kernel
theorem dR_place_45 : decode bR_place 45 = .ok (.iload_n 2, 1) := by decide +kernel
theorem dR_place_46 : decode bR_place 46 = .ok (.iastore, 1) := by decide +kernel
theorem dR_place_47 : decode bR_place 47 = .ok (.aload_n 0, 1) := by decide +kernel
theorem dR_place_48 : decode bR_place 48 = .ok (.getfield 7, 3) := by decide +kernel
theorem dR_place_51 : decode bR_place 51 = .ok (.bipush 15, 2) := by decide +kernel
theorem dR_place_53 : decode bR_place 53 = .ok (.iload_n 3, 1) := by decide +kernel
theorem dR_place_54 : decode bR_place 54 = .ok (.iadd, 1) := by decide +kernel
theorem dR_place_55 : decode bR_place 55 = .ok (.iload_n 1, 1) := by decide +kernel
theorem dR_place_56 : decode bR_place 56 = .ok (.iastore, 1) := by decide +kernel
theorem dR_place_57 : decode bR_place 57 = .ok (.aload_n 0, 1) := by decide +kernel
theorem dR_place_58 : decode bR_place 58 = .ok (.getfield 7, 3) := by decide +kernel
theorem dR_place_61 : decode bR_place 61 = .ok (.iconst 0, 1) := by decide +kernel
theorem dR_place_62 : decode bR_place 62 = .ok (.dup2, 1) := by decide +kernel
theorem dR_place_63 : decode bR_place 63 = .ok (.iaload, 1) := by decide +kernel
theorem dR_place_64 : decode bR_place 64 = .ok (.iconst 1, 1) := by decide +kernel
theorem dR_place_65 : decode bR_place 65 = .ok (.iadd, 1) := by decide +kernel
theorem dR_place_66 : decode bR_place 66 = .ok (.iastore, 1) := by decide +kernel
theorem dR_place_67 : decode bR_place 67 = .ok (.iload_n 3, 1) := by decide +kernel
theorem dR_place_68 : decode bR_place 68 = .ok (.ireturn, 1) := by decide +kernel
theorem dR_isAct_0 : decode bR_isAct 0 = .ok (.iload_n 0, 1) := by decide +kernel
theorem dR_isAct_1 : decode bR_isAct 1 = .ok (.bipush 10, 2) := by decide +kernel
theorem dR_isAct_3 : decode bR_isAct 3 = .ok (.idiv, 1) := by decide +kernel
theorem dR_isAct_4 : decode bR_isAct 4 = .ok (.istore_n 1, 1) := by decide +kernel
theorem dR_isAct_5 : decode bR_isAct 5 = .ok (.iload_n 0, 1) := by decide +kernel
theorem dR_isAct_6 : decode bR_isAct 6 = .ok (.bipush 10, 2) := by decide +kernel
theorem dR_isAct_8 : decode bR_isAct 8 = .ok (.irem, 1) := by decide +kernel
theorem dR_isAct_9 : decode bR_isAct 9 = .ok (.istore_n 2, 1) := by decide +kernel
theorem dR_isAct_10 : decode bR_isAct 10 = .ok (.iload_n 1, 1) := by decide +kernel
theorem dR_isAct_11 : decode bR_isAct 11 = .ok (.iconst 5, 1) := by decide +kernel
theorem dR_isAct_12 : decode bR_isAct 12 = .ok (.if_icmp .ne 15, 3) := by decide +kernel
theorem dR_isAct_15 : decode bR_isAct 15 = .ok (.iload_n 2, 1) := by decide +kernel
theorem dR_isAct_16 : decode bR_isAct 16 = .ok (.ifCond .ne 7, 3) := by decide +kernel
theorem dR_isAct_19 : decode bR_isAct 19 = .ok (.iconst 1, 1) := by decide +kernel
theorem dR_isAct_20 : decode bR_isAct 20 = .ok (.goto 34, 3) := by decide +kernel
theorem dR_isAct_23 : decode bR_isAct 23 = .ok (.iconst 0, 1) := by decide +kernel
theorem dR_isAct_24 : decode bR_isAct 24 = .ok (.goto 30, 3) := by decide +kernel
theorem dR_isAct_27 : decode bR_isAct 27 = .ok (.iload_n 1, 1) := by decide +kernel
theorem dR_isAct_28 : decode bR_isAct 28 = .ok (.iconst 1, 1) := by decide +kernel
theorem dR_isAct_29 : decode bR_isAct 29 = .ok (.iconst 4, 1) := by decide +kernel
theorem dR_isAct_30 : decode bR_isAct 30 = .ok (.invokestatic 22, 3) := by decide +kernel
theorem dR_isAct_33 : decode bR_isAct 33 = .ok (.ifCond .eq 20, 3) := by decide +kernel
theorem dR_isAct_36 : decode bR_isAct 36 = .ok (.iload_n 2, 1) := by decide +kernel
theorem dR_isAct_37 : decode bR_isAct 37 = .ok (.invokestatic 34, 3) := by decide +kernel
theorem dR_isAct_40 : decode bR_isAct 40 = .ok (.ifCond .ne 9, 3) := by decide +kernel
theorem dR_isAct_43 : decode bR_isAct 43 = .ok (.iload_n 2, 1) := by decide +kernel
theorem dR_isAct_44 : decode bR_isAct 44 = .ok (.bipush 9, 2) := by decide +kernel
theorem dR_isAct_46 : decode bR_isAct 46 = .ok (.if_icmp .ne 7, 3) := by decide +kernel
theorem dR_isAct_49 : decode bR_isAct 49 = .ok (.iconst 1, 1) := by decide +kernel
theorem dR_isAct_50 : decode bR_isAct 50 = .ok (.goto 4, 3) := by decide +kernel
theorem dR_isAct_53 : decode bR_isAct 53 = .ok (.iconst 0, 1) := by decide +kernel
theorem dR_isAct_54 : decode bR_isAct 54 = .ok (.ireturn, 1) := by decide +kernel
theorem dR_actsIn_0 : decode bR_actsIn 0 = .ok (.iconst 0, 1) := by decide +kernel
theorem dR_actsIn_1 : decode bR_actsIn 1 = .ok (.istore_n 2, 1) := by decide +kernel
theorem dR_actsIn_2 : decode bR_actsIn 2 = .ok (.lload_n 0, 1) := by decide +kernel
theorem dR_actsIn_3 : decode bR_actsIn 3 = .ok (.lstore_n 3, 1) := by decide +kernel
theorem dR_actsIn_4 : decode bR_actsIn 4 = .ok (.lload_n 3, 1) := by decide +kernel
theorem dR_actsIn_5 : decode bR_actsIn 5 = .ok (.lconst 0, 1) := by decide +kernel
theorem dR_actsIn_6 : decode bR_actsIn 6 = .ok (.lcmp, 1) := by decide +kernel
theorem dR_actsIn_7 : decode bR_actsIn 7 = .ok (.ifCond .le 30, 3) := by decide +kernel
theorem dR_actsIn_10 : decode bR_actsIn 10 = .ok (.lload_n 3, 1) := by decide +kernel
theorem dR_actsIn_11 : decode bR_actsIn 11 = .ok (.ldc2_w 37, 3) := by decide +kernel
theorem dR_actsIn_14 : decode bR_actsIn 14 = .ok (.lrem, 1) := by decide +kernel
theorem dR_actsIn_15 : decode bR_actsIn 15 = .ok (.l2i, 1) := by decide +kernel
theorem dR_actsIn_16 : decode bR_actsIn 16 = .ok (.invokestatic 39, 3) := by decide +kernel
theorem dR_actsIn_19 : decode bR_actsIn 19 = .ok (.ifCond .ne 6, 3) := by decide +kernel
theorem dR_actsIn_22 : decode bR_actsIn 22 = .ok (.bipush (-9), 2) := by decide +kernel
theorem dR_actsIn_24 : decode bR_actsIn 24 = .ok (.ireturn, 1) := by decide +kernel
theorem dR_actsIn_25 : decode bR_actsIn 25 = .ok (.iinc 2 1, 3) := by decide +kernel
theorem dR_actsIn_28 : decode bR_actsIn 28 = .ok (.lload_n 3, 1) := by decide +kernel
theorem dR_actsIn_29 : decode bR_actsIn 29 = .ok (.ldc2_w 37, 3) := by decide +kernel
theorem dR_actsIn_32 : decode bR_actsIn 32 = .ok (.ldiv, 1) := by decide +kernel
theorem dR_actsIn_33 : decode bR_actsIn 33 = .ok (.lstore_n 3, 1) := by decide +kernel
theorem dR_actsIn_34 : decode bR_actsIn 34 = .ok (.goto (-30), 3) := by decide +kernel
theorem dR_actsIn_37 : decode bR_actsIn 37 = .ok (.iload_n 2, 1) := by decide +kernel
theorem dR_actsIn_38 : decode bR_actsIn 38 = .ok (.ireturn, 1) := by decide +kernel
theorem dR_thread_0 : decode bR_thread 0 = .ok (.aload_n 0, 1) := by decide +kernel
theorem dR_thread_1 : decode bR_thread 1 = .ok (.iload_n 1, 1) := by decide +kernel
theorem dR_thread_2 : decode bR_thread 2 = .ok (.invokevirtual 30, 3) := by decide +kernel
theorem dR_thread_5 : decode bR_thread 5 = .ok (.ifCond .ne 5, 3) := by decide +kernel
theorem dR_thread_8 : decode bR_thread 8 = .ok (.iconst (-1), 1) := by decide +kernel
theorem dR_thread_9 : decode bR_thread 9 = .ok (.ireturn, 1) := by decide +kernel
theorem dR_thread_10 : decode bR_thread 10 = .ok (.lload_n 2, 1) := by decide +kernel
theorem dR_thread_11 : decode bR_thread 11 = .ok (.invokestatic 42, 3) := by decide +kernel
theorem dR_thread_14 : decode bR_thread 14 = .ok (.istore 4, 2) := by decide +kernel
theorem dR_thread_16 : decode bR_thread 16 = .ok (.lload_n 2, 1) := by decide +kernel
theorem dR_thread_17 : decode bR_thread 17 = .ok (.lconst 0, 1) := by decide +kernel
theorem dR_thread_18 : decode bR_thread 18 = .ok (.lcmp, 1) := by decide +kernel
theorem dR_thread_19 : decode bR_thread 19 = .ok (.ifCond .le 14, 3) := by decide +kernel
theorem dR_thread_22 : decode bR_thread 22 = .ok (.iload 4, 2) := by decide +kernel
theorem dR_thread_24 : decode bR_thread 24 = .ok (.iconst 1, 1) := by decide +kernel
theorem dR_thread_25 : decode bR_thread 25 = .ok (.bipush 6, 2) := by decide +kernel
theorem dR_thread_27 : decode bR_thread 27 = .ok (.invokestatic 22, 3) := by decide +kernel
theorem dR_thread_30 : decode bR_thread 30 = .ok (.ifCond .ne 6, 3) := by decide +kernel
theorem dR_thread_33 : decode bR_thread 33 = .ok (.bipush (-2), 2) := by decide +kernel
theorem dR_thread_35 : decode bR_thread 35 = .ok (.ireturn, 1) := by decide +kernel
theorem dR_thread_36 : decode bR_thread 36 = .ok (.aload_n 0, 1) := by decide +kernel
theorem dR_thread_37 : decode bR_thread 37 = .ok (.getfield 7, 3) := by decide +kernel
theorem dR_thread_40 : decode bR_thread 40 = .ok (.iconst 1, 1) := by decide +kernel
theorem dR_thread_41 : decode bR_thread 41 = .ok (.iaload, 1) := by decide +kernel
theorem dR_thread_42 : decode bR_thread 42 = .ok (.bipush 12, 2) := by decide +kernel
theorem dR_thread_44 : decode bR_thread 44 = .ok (.if_icmp .ne 6, 3) := by decide +kernel
theorem dR_thread_47 : decode bR_thread 47 = .ok (.bipush (-4), 2) := by decide +kernel
theorem dR_thread_49 : decode bR_thread 49 = .ok (.ireturn, 1) := by decide +kernel
theorem dR_thread_50 : decode bR_thread 50 = .ok (.aload_n 0, 1) := by decide +kernel
theorem dR_thread_51 : decode bR_thread 51 = .ok (.getfield 7, 3) := by decide +kernel
theorem dR_thread_54 : decode bR_thread 54 = .ok (.iconst 1, 1) := by decide +kernel
theorem dR_thread_55 : decode bR_thread 55 = .ok (.iaload, 1) := by decide +kernel
theorem dR_thread_56 : decode bR_thread 56 = .ok (.istore 5, 2) := by decide +kernel
theorem dR_thread_58 : decode bR_thread 58 = .ok (.aload_n 0, 1) := by decide +kernel
theorem dR_thread_59 : decode bR_thread 59 = .ok (.getfield 7, 3) := by decide +kernel
theorem dR_thread_62 : decode bR_thread 62 = .ok (.bipush 111, 2) := by decide +kernel
theorem dR_thread_64 : decode bR_thread 64 = .ok (.iload 5, 2) := by decide +kernel
theorem dR_thread_66 : decode bR_thread 66 = .ok (.iadd, 1) := by decide +kernel
theorem dR_thread_67 : decode bR_thread 67 = .ok (.iload_n 1, 1) := by decide +kernel
theorem dR_thread_68 : decode bR_thread 68 = .ok (.iastore, 1) := by decide +kernel
theorem dR_thread_69 : decode bR_thread 69 = .ok (.aload_n 0, 1) := by decide +kernel
theorem dR_thread_70 : decode bR_thread 70 = .ok (.getfield 7, 3) := by decide +kernel
theorem dR_thread_73 : decode bR_thread 73 = .ok (.bipush 123, 2) := by decide +kernel
theorem dR_thread_75 : decode bR_thread 75 = .ok (.iload 5, 2) := by decide +kernel
theorem dR_thread_77 : decode bR_thread 77 = .ok (.iadd, 1) := by decide +kernel
theorem dR_thread_78 : decode bR_thread 78 = .ok (.iload 4, 2) := by decide +kernel
theorem dR_thread_80 : decode bR_thread 80 = .ok (.iastore, 1) := by decide +kernel
theorem dR_thread_81 : decode bR_thread 81 = .ok (.aload_n 0, 1) := by decide +kernel
theorem dR_thread_82 : decode bR_thread 82 = .ok (.getfield 7, 3) := by decide +kernel
theorem dR_thread_85 : decode bR_thread 85 = .ok (.sipush 135, 3) := by decide +kernel
theorem dR_thread_88 : decode bR_thread 88 = .ok (.iload 5, 2) := by decide +kernel
theorem dR_thread_90 : decode bR_thread 90 = .ok (.iadd, 1) := by decide +kernel
theorem dR_thread_91 : decode bR_thread 91 = .ok (.iconst 0, 1) := by decide +kernel
theorem dR_thread_92 : decode bR_thread 92 = .ok (.iastore, 1) := by decide +kernel
theorem dR_thread_93 : decode bR_thread 93 = .ok (.aload_n 0, 1) := by decide +kernel
theorem dR_thread_94 : decode bR_thread 94 = .ok (.getfield 7, 3) := by decide +kernel
theorem dR_thread_97 : decode bR_thread 97 = .ok (.sipush 147, 3) := by decide +kernel
theorem dR_thread_100 : decode bR_thread 100 = .ok (.iload 5, 2) := by decide +kernel
theorem dR_thread_102 : decode bR_thread 102 = .ok (.iadd, 1) := by decide +kernel
theorem dR_thread_103 : decode bR_thread 103 = .ok (.bipush (-9), 2) := by decide +kernel
theorem dR_thread_105 : decode bR_thread 105 = .ok (.iastore, 1) := by decide +kernel
theorem dR_thread_106 : decode bR_thread 106 = .ok (.lload_n 2, 1) := by decide +kernel
theorem dR_thread_107 : decode bR_thread 107 = .ok (.lstore 6, 2) := by decide +kernel
theorem dR_thread_109 : decode bR_thread 109 = .ok (.iload 4, 2) := by decide +kernel
theorem dR_thread_111 : decode bR_thread 111 = .ok (.iconst 1, 1) := by decide +kernel
theorem dR_thread_112 : decode bR_thread 112 = .ok (.isub, 1) := by decide +kernel
theorem dR_thread_113 : decode bR_thread 113 = .ok (.istore 8, 2) := by decide +kernel
theorem dR_thread_115 : decode bR_thread 115 = .ok (.iload 8, 2) := by decide +kernel
theorem dR_thread_117 : decode bR_thread 117 = .ok (.ifCond .lt 41, 3) := by decide +kernel
theorem dR_thread_120 : decode bR_thread 120 = .ok (.aload_n 0, 1) := by decide +kernel
theorem dR_thread_121 : decode bR_thread 121 = .ok (.getfield 7, 3) := by decide +kernel
theorem dR_thread_124 : decode bR_thread 124 = .ok (.sipush 159, 3) := by decide +kernel
theorem dR_thread_127 : decode bR_thread 127 = .ok (.bipush 6, 2) := by decide +kernel
theorem dR_thread_129 : decode bR_thread 129 = .ok (.iload 5, 2) := by decide +kernel
theorem dR_thread_131 : decode bR_thread 131 = .ok (.imul, 1) := by decide +kernel
theorem dR_thread_132 : decode bR_thread 132 = .ok (.iadd, 1) := by decide +kernel
theorem dR_thread_133 : decode bR_thread 133 = .ok (.iload 8, 2) := by decide +kernel
theorem dR_thread_135 : decode bR_thread 135 = .ok (.iadd, 1) := by decide +kernel
theorem dR_thread_136 : decode bR_thread 136 = .ok (.lload 6, 2) := by decide +kernel
theorem dR_thread_138 : decode bR_thread 138 = .ok (.ldc2_w 37, 3) := by decide +kernel
theorem dR_thread_141 : decode bR_thread 141 = .ok (.lrem, 1) := by decide +kernel
theorem dR_thread_142 : decode bR_thread 142 = .ok (.l2i, 1) := by decide +kernel
theorem dR_thread_143 : decode bR_thread 143 = .ok (.iastore, 1) := by decide +kernel
theorem dR_thread_144 : decode bR_thread 144 = .ok (.lload 6, 2) := by decide +kernel
theorem dR_thread_146 : decode bR_thread 146 = .ok (.ldc2_w 37, 3) := by decide +kernel
theorem dR_thread_149 : decode bR_thread 149 = .ok (.ldiv, 1) := by decide +kernel
theorem dR_thread_150 : decode bR_thread 150 = .ok (.lstore 6, 2) := by decide +kernel
theorem dR_thread_152 : decode bR_thread 152 = .ok (.iinc 8 (-1), 3) := by decide +kernel
theorem dR_thread_155 : decode bR_thread 155 = .ok (.goto (-40), 3) := by decide +kernel
theorem dR_thread_158 : decode bR_thread 158 = .ok (.aload_n 0, 1) := by decide +kernel
theorem dR_thread_159 : decode bR_thread 159 = .ok (.getfield 7, 3) := by decide +kernel
theorem dR_thread_162 : decode bR_thread 162 = .ok (.iconst 1, 1) := by decide +kernel
theorem dR_thread_163 : decode bR_thread 163 = .ok (.dup2, 1) := by decide +kernel
theorem dR_thread_164 : decode bR_thread 164 = .ok (.iaload, 1) := by decide +kernel
theorem dR_thread_165 : decode bR_thread 165 = .ok (.iconst 1, 1) := by decide +kernel
theorem dR_thread_166 : decode bR_thread 166 = .ok (.iadd, 1) := by decide +kernel
theorem dR_thread_167 : decode bR_thread 167 = .ok (.iastore, 1) := by decide +kernel
theorem dR_thread_168 : decode bR_thread 168 = .ok (.iload 5, 2) := by decide +kernel
theorem dR_thread_170 : decode bR_thread 170 = .ok (.ireturn, 1) := by decide +kernel
theorem dR_seal_0 : decode bR_seal 0 = .ok (.aload_n 0, 1) := by decide +kernel
theorem dR_seal_1 : decode bR_seal 1 = .ok (.iload_n 1, 1) := by decide +kernel
theorem dR_seal_2 : decode bR_seal 2 = .ok (.invokevirtual 30, 3) := by decide +kernel
theorem dR_seal_5 : decode bR_seal 5 = .ok (.ifCond .ne 5, 3) := by decide +kernel
theorem dR_seal_8 : decode bR_seal 8 = .ok (.iconst (-1), 1) := by decide +kernel
theorem dR_seal_9 : decode bR_seal 9 = .ok (.ireturn, 1) := by decide +kernel
theorem dR_seal_10 : decode bR_seal 10 = .ok (.iload_n 1, 1) := by decide +kernel
theorem dR_seal_11 : decode bR_seal 11 = .ok (.ifCond .ne 6, 3) := by decide +kernel
theorem dR_seal_14 : decode bR_seal 14 = .ok (.bipush (-3), 2) := by decide +kernel
theorem dR_seal_16 : decode bR_seal 16 = .ok (.ireturn, 1) := by decide +kernel
theorem dR_seal_17 : decode bR_seal 17 = .ok (.iload_n 2, 1) := by decide +kernel
theorem dR_seal_18 : decode bR_seal 18 = .ok (.ifCond .eq 7, 3) := by decide +kernel
theorem dR_seal_21 : decode bR_seal 21 = .ok (.iconst 1, 1) := by decide +kernel
theorem dR_seal_22 : decode bR_seal 22 = .ok (.goto 4, 3) := by decide +kernel
theorem dR_seal_25 : decode bR_seal 25 = .ok (.iconst 0, 1) := by decide +kernel
theorem dR_seal_26 : decode bR_seal 26 = .ok (.istore_n 3, 1) := by decide +kernel
theorem dR_seal_27 : decode bR_seal 27 = .ok (.aload_n 0, 1) := by decide +kernel
theorem dR_seal_28 : decode bR_seal 28 = .ok (.getfield 7, 3) := by decide +kernel
theorem dR_seal_31 : decode bR_seal 31 = .ok (.bipush 27, 2) := by decide +kernel
theorem dR_seal_33 : decode bR_seal 33 = .ok (.iload_n 1, 1) := by decide +kernel
theorem dR_seal_34 : decode bR_seal 34 = .ok (.iadd, 1) := by decide +kernel
theorem dR_seal_35 : decode bR_seal 35 = .ok (.iaload, 1) := by decide +kernel
theorem dR_seal_36 : decode bR_seal 36 = .ok (.iload_n 3, 1) := by decide +kernel
theorem dR_seal_37 : decode bR_seal 37 = .ok (.if_icmp .ne 7, 3) := by decide +kernel
theorem dR_seal_40 : decode bR_seal 40 = .ok (.iconst 0, 1) := by decide +kernel
theorem dR_seal_41 : decode bR_seal 41 = .ok (.goto 4, 3) := by decide +kernel
theorem dR_seal_44 : decode bR_seal 44 = .ok (.iconst 1, 1) := by decide +kernel
theorem dR_seal_45 : decode bR_seal 45 = .ok (.istore 4, 2) := by decide +kernel
theorem dR_seal_47 : decode bR_seal 47 = .ok (.aload_n 0, 1) := by decide +kernel
theorem dR_seal_48 : decode bR_seal 48 = .ok (.getfield 7, 3) := by decide +kernel
theorem dR_seal_51 : decode bR_seal 51 = .ok (.bipush 27, 2) := by decide +kernel
theorem dR_seal_53 : decode bR_seal 53 = .ok (.iload_n 1, 1) := by decide +kernel
theorem dR_seal_54 : decode bR_seal 54 = .ok (.iadd, 1) := by decide +kernel
theorem dR_seal_55 : decode bR_seal 55 = .ok (.iload_n 3, 1) := by decide +kernel
theorem dR_seal_56 : decode bR_seal 56 = .ok (.iastore, 1) := by decide +kernel
theorem dR_seal_57 : decode bR_seal 57 = .ok (.iload 4, 2) := by decide +kernel
theorem dR_seal_59 : decode bR_seal 59 = .ok (.ireturn, 1) := by decide +kernel
theorem dR_message_0 : decode bR_message 0 = .ok (.aload_n 0, 1) := by decide +kernel
theorem dR_message_1 : decode bR_message 1 = .ok (.iload_n 1, 1) := by decide +kernel
theorem dR_message_2 : decode bR_message 2 = .ok (.invokevirtual 30, 3) := by decide +kernel
theorem dR_message_5 : decode bR_message 5 = .ok (.ifCond .eq 10, 3) := by decide +kernel
theorem dR_message_8 : decode bR_message 8 = .ok (.iload_n 2, 1) := by decide +kernel
theorem dR_message_9 : decode bR_message 9 = .ok (.invokestatic 34, 3) := by decide +kernel
theorem dR_message_12 : decode bR_message 12 = .ok (.ifCond .ne 5, 3) := by decide +kernel
theorem dR_message_15 : decode bR_message 15 = .ok (.iconst (-1), 1) := by decide +kernel
theorem dR_message_16 : decode bR_message 16 = .ok (.ireturn, 1) := by decide +kernel
theorem dR_message_17 : decode bR_message 17 = .ok (.aload_n 0, 1) := by decide +kernel
theorem dR_message_18 : decode bR_message 18 = .ok (.getfield 7, 3) := by decide +kernel
theorem dR_message_21 : decode bR_message 21 = .ok (.bipush 39, 2) := by decide +kernel
theorem dR_message_23 : decode bR_message 23 = .ok (.bipush 6, 2) := by decide +kernel
theorem dR_message_25 : decode bR_message 25 = .ok (.iload_n 1, 1) := by decide +kernel
theorem dR_message_26 : decode bR_message 26 = .ok (.imul, 1) := by decide +kernel
theorem dR_message_27 : decode bR_message 27 = .ok (.iadd, 1) := by decide +kernel
theorem dR_message_28 : decode bR_message 28 = .ok (.iload_n 2, 1) := by decide +kernel
theorem dR_message_29 : decode bR_message 29 = .ok (.iadd, 1) := by decide +kernel
theorem dR_message_30 : decode bR_message 30 = .ok (.iaload, 1) := by decide +kernel
theorem dR_message_31 : decode bR_message 31 = .ok (.bipush 90, 2) := by decide +kernel
theorem dR_message_33 : decode bR_message 33 = .ok (.if_icmp .lt 6, 3) := by decide +kernel
theorem dR_message_36 : decode bR_message 36 = .ok (.bipush (-4), 2) := by decide +kernel
theorem dR_message_38 : decode bR_message 38 = .ok (.ireturn, 1) := by decide +kernel
theorem dR_message_39 : decode bR_message 39 = .ok (.aload_n 0, 1) := by decide +kernel
theorem dR_message_40 : decode bR_message 40 = .ok (.getfield 7, 3) := by decide +kernel
theorem dR_message_43 : decode bR_message 43 = .ok (.bipush 39, 2) := by decide +kernel
theorem dR_message_45 : decode bR_message 45 = .ok (.bipush 6, 2) := by decide +kernel
theorem dR_message_47 : decode bR_message 47 = .ok (.iload_n 1, 1) := by decide +kernel
theorem dR_message_48 : decode bR_message 48 = .ok (.imul, 1) := by decide +kernel
theorem dR_message_49 : decode bR_message 49 = .ok (.iadd, 1) := by decide +kernel
theorem dR_message_50 : decode bR_message 50 = .ok (.iload_n 2, 1) := by decide +kernel
theorem dR_message_51 : decode bR_message 51 = .ok (.iadd, 1) := by decide +kernel
theorem dR_message_52 : decode bR_message 52 = .ok (.dup2, 1) := by decide +kernel
theorem dR_message_53 : decode bR_message 53 = .ok (.iaload, 1) := by decide +kernel
theorem dR_message_54 : decode bR_message 54 = .ok (.iconst 1, 1) := by decide +kernel
theorem dR_message_55 : decode bR_message 55 = .ok (.iadd, 1) := by decide +kernel
theorem dR_message_56 : decode bR_message 56 = .ok (.iastore, 1) := by decide +kernel
theorem dR_message_57 : decode bR_message 57 = .ok (.aload_n 0, 1) := by decide +kernel
theorem dR_message_58 : decode bR_message 58 = .ok (.getfield 7, 3) := by decide +kernel
theorem dR_message_61 : decode bR_message 61 = .ok (.bipush 39, 2) := by decide +kernel
theorem dR_message_63 : decode bR_message 63 = .ok (.bipush 6, 2) := by decide +kernel
theorem dR_message_65 : decode bR_message 65 = .ok (.iload_n 1, 1) := by decide +kernel
theorem dR_message_66 : decode bR_message 66 = .ok (.imul, 1) := by decide +kernel
theorem dR_message_67 : decode bR_message 67 = .ok (.iadd, 1) := by decide +kernel
theorem dR_message_68 : decode bR_message 68 = .ok (.iload_n 2, 1) := by decide +kernel
theorem dR_message_69 : decode bR_message 69 = .ok (.iadd, 1) := by decide +kernel
theorem dR_message_70 : decode bR_message 70 = .ok (.iaload, 1) := by decide +kernel
theorem dR_message_71 : decode bR_message 71 = .ok (.ireturn, 1) := by decide +kernel
theorem dR_placesIn_0 : decode bR_placesIn 0 = .ok (.iconst 0, 1) := by decide +kernel
theorem dR_placesIn_1 : decode bR_placesIn 1 = .ok (.istore_n 2, 1) := by decide +kernel
theorem dR_placesIn_2 : decode bR_placesIn 2 = .ok (.iconst 1, 1) := by decide +kernel
theorem dR_placesIn_3 : decode bR_placesIn 3 = .ok (.istore_n 3, 1) := by decide +kernel
theorem dR_placesIn_4 : decode bR_placesIn 4 = .ok (.iload_n 3, 1) := by decide +kernel
theorem dR_placesIn_5 : decode bR_placesIn 5 = .ok (.aload_n 0, 1) := by decide +kernel
theorem dR_placesIn_6 : decode bR_placesIn 6 = .ok (.getfield 7, 3) := by decide +kernel
theorem dR_placesIn_9 : decode bR_placesIn 9 = .ok (.iconst 0, 1) := by decide +kernel
theorem dR_placesIn_10 : decode bR_placesIn 10 = .ok (.iaload, 1) := by decide +kernel
theorem dR_placesIn_11 : decode bR_placesIn 11 = .ok (.if_icmp .ge 40, 3) := by decide +kernel
theorem dR_placesIn_14 : decode bR_placesIn 14 = .ok (.iload_n 2, 1) := by decide +kernel
theorem dR_placesIn_15 : decode bR_placesIn 15 = .ok (.aload_n 0, 1) := by decide +kernel
theorem dR_placesIn_16 : decode bR_placesIn 16 = .ok (.iload_n 3, 1) := by decide +kernel
theorem dR_placesIn_17 : decode bR_placesIn 17 = .ok (.invokevirtual 30, 3) := by decide +kernel
theorem dR_placesIn_20 : decode bR_placesIn 20 = .ok (.ifCond .eq 22, 3) := by decide +kernel
theorem dR_placesIn_23 : decode bR_placesIn 23 = .ok (.aload_n 0, 1) := by decide +kernel
theorem dR_placesIn_24 : decode bR_placesIn 24 = .ok (.getfield 7, 3) := by decide +kernel
theorem dR_placesIn_27 : decode bR_placesIn 27 = .ok (.bipush 15, 2) := by decide +kernel
theorem dR_placesIn_29 : decode bR_placesIn 29 = .ok (.iload_n 3, 1) := by decide +kernel
theorem dR_placesIn_30 : decode bR_placesIn 30 = .ok (.iadd, 1) := by decide +kernel
theorem dR_placesIn_31 : decode bR_placesIn 31 = .ok (.iaload, 1) := by decide +kernel
theorem dR_placesIn_32 : decode bR_placesIn 32 = .ok (.iload_n 1, 1) := by decide +kernel
theorem dR_placesIn_33 : decode bR_placesIn 33 = .ok (.if_icmp .ne 9, 3) := by decide +kernel
theorem dR_placesIn_36 : decode bR_placesIn 36 = .ok (.iconst 1, 1) := by decide +kernel
theorem dR_placesIn_37 : decode bR_placesIn 37 = .ok (.iload_n 3, 1) := by decide +kernel
theorem dR_placesIn_38 : decode bR_placesIn 38 = .ok (.ishl, 1) := by decide +kernel
theorem dR_placesIn_39 : decode bR_placesIn 39 = .ok (.goto 4, 3) := by decide +kernel
theorem dR_placesIn_42 : decode bR_placesIn 42 = .ok (.iconst 0, 1) := by decide +kernel
theorem dR_placesIn_43 : decode bR_placesIn 43 = .ok (.ior, 1) := by decide +kernel
theorem dR_placesIn_44 : decode bR_placesIn 44 = .ok (.istore_n 2, 1) := by decide +kernel
theorem dR_placesIn_45 : decode bR_placesIn 45 = .ok (.iinc 3 1, 3) := by decide +kernel
theorem dR_placesIn_48 : decode bR_placesIn 48 = .ok (.goto (-44), 3) := by decide +kernel
theorem dR_placesIn_51 : decode bR_placesIn 51 = .ok (.iload_n 2, 1) := by decide +kernel
theorem dR_placesIn_52 : decode bR_placesIn 52 = .ok (.ireturn, 1) := by decide +kernel
theorem dR_threadsIn_0 : decode bR_threadsIn 0 = .ok (.iconst 0, 1) := by decide +kernel
theorem dR_threadsIn_1 : decode bR_threadsIn 1 = .ok (.istore_n 2, 1) := by decide +kernel
theorem dR_threadsIn_2 : decode bR_threadsIn 2 = .ok (.iconst 0, 1) := by decide +kernel
theorem dR_threadsIn_3 : decode bR_threadsIn 3 = .ok (.istore_n 3, 1) := by decide +kernel
theorem dR_threadsIn_4 : decode bR_threadsIn 4 = .ok (.iload_n 3, 1) := by decide +kernel
theorem dR_threadsIn_5 : decode bR_threadsIn 5 = .ok (.aload_n 0, 1) := by decide +kernel
theorem dR_threadsIn_6 : decode bR_threadsIn 6 = .ok (.getfield 7, 3) := by decide +kernel
theorem dR_threadsIn_9 : decode bR_threadsIn 9 = .ok (.iconst 1, 1) := by decide +kernel
theorem dR_threadsIn_10 : decode bR_threadsIn 10 = .ok (.iaload, 1) := by decide +kernel
theorem dR_threadsIn_11 : decode bR_threadsIn 11 = .ok (.if_icmp .ge 32, 3) := by decide +kernel
theorem dR_threadsIn_14 : decode bR_threadsIn 14 = .ok (.iload_n 2, 1) := by decide +kernel
theorem dR_threadsIn_15 : decode bR_threadsIn 15 = .ok (.aload_n 0, 1) := by decide +kernel
theorem dR_threadsIn_16 : decode bR_threadsIn 16 = .ok (.getfield 7, 3) := by decide +kernel
theorem dR_threadsIn_19 : decode bR_threadsIn 19 = .ok (.bipush 111, 2) := by decide +kernel
theorem dR_threadsIn_21 : decode bR_threadsIn 21 = .ok (.iload_n 3, 1) := by decide +kernel
theorem dR_threadsIn_22 : decode bR_threadsIn 22 = .ok (.iadd, 1) := by decide +kernel
theorem dR_threadsIn_23 : decode bR_threadsIn 23 = .ok (.iaload, 1) := by decide +kernel
theorem dR_threadsIn_24 : decode bR_threadsIn 24 = .ok (.iload_n 1, 1) := by decide +kernel
theorem dR_threadsIn_25 : decode bR_threadsIn 25 = .ok (.if_icmp .ne 9, 3) := by decide +kernel
theorem dR_threadsIn_28 : decode bR_threadsIn 28 = .ok (.iconst 1, 1) := by decide +kernel
theorem dR_threadsIn_29 : decode bR_threadsIn 29 = .ok (.iload_n 3, 1) := by decide +kernel
theorem dR_threadsIn_30 : decode bR_threadsIn 30 = .ok (.ishl, 1) := by decide +kernel
theorem dR_threadsIn_31 : decode bR_threadsIn 31 = .ok (.goto 4, 3) := by decide +kernel
theorem dR_threadsIn_34 : decode bR_threadsIn 34 = .ok (.iconst 0, 1) := by decide +kernel
theorem dR_threadsIn_35 : decode bR_threadsIn 35 = .ok (.ior, 1) := by decide +kernel
theorem dR_threadsIn_36 : decode bR_threadsIn 36 = .ok (.istore_n 2, 1) := by decide +kernel
theorem dR_threadsIn_37 : decode bR_threadsIn 37 = .ok (.iinc 3 1, 3) := by decide +kernel
theorem dR_threadsIn_40 : decode bR_threadsIn 40 = .ok (.goto (-36), 3) := by decide +kernel
theorem dR_threadsIn_43 : decode bR_threadsIn 43 = .ok (.iload_n 2, 1) := by decide +kernel
theorem dR_threadsIn_44 : decode bR_threadsIn 44 = .ok (.ireturn, 1) := by decide +kernel
theorem dR_deepOf_0 : decode bR_deepOf 0 = .ok (.iconst 0, 1) := by decide +kernel
theorem dR_deepOf_1 : decode bR_deepOf 1 = .ok (.istore_n 2, 1) := by decide +kernel
theorem dR_deepOf_2 : decode bR_deepOf 2 = .ok (.iload_n 1, 1) := by decide +kernel
theorem dR_deepOf_3 : decode bR_deepOf 3 = .ok (.istore_n 3, 1) := by decide +kernel
theorem dR_deepOf_4 : decode bR_deepOf 4 = .ok (.iload_n 3, 1) := by decide +kernel
theorem dR_deepOf_5 : decode bR_deepOf 5 = .ok (.ifCond .eq 19, 3) := by decide +kernel
theorem dR_deepOf_8 : decode bR_deepOf 8 = .ok (.iinc 2 1, 3) := by decide +kernel
theorem dR_deepOf_11 : decode bR_deepOf 11 = .ok (.aload_n 0, 1) := by decide +kernel
theorem dR_deepOf_12 : decode bR_deepOf 12 = .ok (.getfield 7, 3) := by decide +kernel
theorem dR_deepOf_15 : decode bR_deepOf 15 = .ok (.bipush 15, 2) := by decide +kernel
theorem dR_deepOf_17 : decode bR_deepOf 17 = .ok (.iload_n 3, 1) := by decide +kernel
theorem dR_deepOf_18 : decode bR_deepOf 18 = .ok (.iadd, 1) := by decide +kernel
theorem dR_deepOf_19 : decode bR_deepOf 19 = .ok (.iaload, 1) := by decide +kernel
theorem dR_deepOf_20 : decode bR_deepOf 20 = .ok (.istore_n 3, 1) := by decide +kernel
theorem dR_deepOf_21 : decode bR_deepOf 21 = .ok (.goto (-17), 3) := by decide +kernel
theorem dR_deepOf_24 : decode bR_deepOf 24 = .ok (.iload_n 2, 1) := by decide +kernel
theorem dR_deepOf_25 : decode bR_deepOf 25 = .ok (.ireturn, 1) := by decide +kernel
theorem dR_ofPlace_0 : decode bR_ofPlace 0 = .ok (.aload_n 0, 1) := by decide +kernel
theorem dR_ofPlace_1 : decode bR_ofPlace 1 = .ok (.iload_n 1, 1) := by decide +kernel
theorem dR_ofPlace_2 : decode bR_ofPlace 2 = .ok (.invokevirtual 30, 3) := by decide +kernel
theorem dR_ofPlace_5 : decode bR_ofPlace 5 = .ok (.ifCond .ne 5, 3) := by decide +kernel
theorem dR_ofPlace_8 : decode bR_ofPlace 8 = .ok (.iconst (-1), 1) := by decide +kernel
theorem dR_ofPlace_9 : decode bR_ofPlace 9 = .ok (.ireturn, 1) := by decide +kernel
theorem dR_ofPlace_10 : decode bR_ofPlace 10 = .ok (.iload_n 2, 1) := by decide +kernel
theorem dR_ofPlace_11 : decode bR_ofPlace 11 = .ok (.tableswitch 84 0 5 #[37, 46, 56, 66, 72, 78], 37) := by decide +kernel
theorem dR_ofPlace_48 : decode bR_ofPlace 48 = .ok (.aload_n 0, 1) := by decide +kernel
theorem dR_ofPlace_49 : decode bR_ofPlace 49 = .ok (.getfield 7, 3) := by decide +kernel
theorem dR_ofPlace_52 : decode bR_ofPlace 52 = .ok (.iconst 3, 1) := by decide +kernel
theorem dR_ofPlace_53 : decode bR_ofPlace 53 = .ok (.iload_n 1, 1) := by decide +kernel
theorem dR_ofPlace_54 : decode bR_ofPlace 54 = .ok (.iadd, 1) := by decide +kernel
theorem dR_ofPlace_55 : decode bR_ofPlace 55 = .ok (.iaload, 1) := by decide +kernel
theorem dR_ofPlace_56 : decode bR_ofPlace 56 = .ok (.ireturn, 1) := by decide +kernel
theorem dR_ofPlace_57 : decode bR_ofPlace 57 = .ok (.aload_n 0, 1) := by decide +kernel
theorem dR_ofPlace_58 : decode bR_ofPlace 58 = .ok (.getfield 7, 3) := by decide +kernel
theorem dR_ofPlace_61 : decode bR_ofPlace 61 = .ok (.bipush 15, 2) := by decide +kernel
theorem dR_ofPlace_63 : decode bR_ofPlace 63 = .ok (.iload_n 1, 1) := by decide +kernel
theorem dR_ofPlace_64 : decode bR_ofPlace 64 = .ok (.iadd, 1) := by decide +kernel
theorem dR_ofPlace_65 : decode bR_ofPlace 65 = .ok (.iaload, 1) := by decide +kernel
theorem dR_ofPlace_66 : decode bR_ofPlace 66 = .ok (.ireturn, 1) := by decide +kernel
theorem dR_ofPlace_67 : decode bR_ofPlace 67 = .ok (.aload_n 0, 1) := by decide +kernel
theorem dR_ofPlace_68 : decode bR_ofPlace 68 = .ok (.getfield 7, 3) := by decide +kernel
theorem dR_ofPlace_71 : decode bR_ofPlace 71 = .ok (.bipush 27, 2) := by decide +kernel
theorem dR_ofPlace_73 : decode bR_ofPlace 73 = .ok (.iload_n 1, 1) := by decide +kernel
theorem dR_ofPlace_74 : decode bR_ofPlace 74 = .ok (.iadd, 1) := by decide +kernel
theorem dR_ofPlace_75 : decode bR_ofPlace 75 = .ok (.iaload, 1) := by decide +kernel
theorem dR_ofPlace_76 : decode bR_ofPlace 76 = .ok (.ireturn, 1) := by decide +kernel
theorem dR_ofPlace_77 : decode bR_ofPlace 77 = .ok (.aload_n 0, 1) := by decide +kernel
theorem dR_ofPlace_78 : decode bR_ofPlace 78 = .ok (.iload_n 1, 1) := by decide +kernel
theorem dR_ofPlace_79 : decode bR_ofPlace 79 = .ok (.invokevirtual 46, 3) := by decide +kernel
theorem dR_ofPlace_82 : decode bR_ofPlace 82 = .ok (.ireturn, 1) := by decide +kernel
theorem dR_ofPlace_83 : decode bR_ofPlace 83 = .ok (.aload_n 0, 1) := by decide +kernel
theorem dR_ofPlace_84 : decode bR_ofPlace 84 = .ok (.iload_n 1, 1) := by decide +kernel
theorem dR_ofPlace_85 : decode bR_ofPlace 85 = .ok (.invokevirtual 50, 3) := by decide +kernel
theorem dR_ofPlace_88 : decode bR_ofPlace 88 = .ok (.ireturn, 1) := by decide +kernel
theorem dR_ofPlace_89 : decode bR_ofPlace 89 = .ok (.aload_n 0, 1) := by decide +kernel
theorem dR_ofPlace_90 : decode bR_ofPlace 90 = .ok (.iload_n 1, 1) := by decide +kernel
theorem dR_ofPlace_91 : decode bR_ofPlace 91 = .ok (.invokevirtual 53, 3) := by decide +kernel
theorem dR_ofPlace_94 : decode bR_ofPlace 94 = .ok (.ireturn, 1) := by decide +kernel
theorem dR_ofPlace_95 : decode bR_ofPlace 95 = .ok (.iload_n 2, 1) := by decide +kernel
theorem dR_ofPlace_96 : decode bR_ofPlace 96 = .ok (.bipush 10, 2) := by decide +kernel
theorem dR_ofPlace_98 : decode bR_ofPlace 98 = .ok (.if_icmp .lt 33, 3) := by decide +kernel
theorem dR_ofPlace_101 : decode bR_ofPlace 101 = .ok (.iload_n 2, 1) := by decide +kernel
theorem dR_ofPlace_102 : decode bR_ofPlace 102 = .ok (.bipush 10, 2) := by decide +kernel
theorem dR_ofPlace_104 : decode bR_ofPlace 104 = .ok (.isub, 1) := by decide +kernel
theorem dR_ofPlace_105 : decode bR_ofPlace 105 = .ok (.invokestatic 34, 3) := by decide +kernel
theorem dR_ofPlace_108 : decode bR_ofPlace 108 = .ok (.ifCond .eq 23, 3) := by decide +kernel
theorem dR_ofPlace_111 : decode bR_ofPlace 111 = .ok (.aload_n 0, 1) := by decide +kernel
theorem dR_ofPlace_112 : decode bR_ofPlace 112 = .ok (.getfield 7, 3) := by decide +kernel
theorem dR_ofPlace_115 : decode bR_ofPlace 115 = .ok (.bipush 39, 2) := by decide +kernel
theorem dR_ofPlace_117 : decode bR_ofPlace 117 = .ok (.bipush 6, 2) := by decide +kernel
theorem dR_ofPlace_119 : decode bR_ofPlace 119 = .ok (.iload_n 1, 1) := by decide +kernel
theorem dR_ofPlace_120 : decode bR_ofPlace 120 = .ok (.imul, 1) := by decide +kernel
theorem dR_ofPlace_121 : decode bR_ofPlace 121 = .ok (.iadd, 1) := by decide +kernel
theorem dR_ofPlace_122 : decode bR_ofPlace 122 = .ok (.iload_n 2, 1) := by decide +kernel
theorem dR_ofPlace_123 : decode bR_ofPlace 123 = .ok (.iadd, 1) := by decide +kernel
theorem dR_ofPlace_124 : decode bR_ofPlace 124 = .ok (.bipush 10, 2) := by decide +kernel
theorem dR_ofPlace_126 : decode bR_ofPlace 126 = .ok (.isub, 1) := by decide +kernel
theorem dR_ofPlace_127 : decode bR_ofPlace 127 = .ok (.iaload, 1) := by decide +kernel
theorem dR_ofPlace_128 : decode bR_ofPlace 128 = .ok (.goto 5, 3) := by decide +kernel
theorem dR_ofPlace_131 : decode bR_ofPlace 131 = .ok (.bipush (-2), 2) := by decide +kernel
theorem dR_ofPlace_133 : decode bR_ofPlace 133 = .ok (.ireturn, 1) := by decide +kernel
theorem dR_isOver_0 : decode bR_isOver 0 = .ok (.aload_n 0, 1) := by decide +kernel
theorem dR_isOver_1 : decode bR_isOver 1 = .ok (.getfield 7, 3) := by decide +kernel
theorem dR_isOver_4 : decode bR_isOver 4 = .ok (.sipush 135, 3) := by decide +kernel
theorem dR_isOver_7 : decode bR_isOver 7 = .ok (.iload_n 1, 1) := by decide +kernel
theorem dR_isOver_8 : decode bR_isOver 8 = .ok (.iadd, 1) := by decide +kernel
theorem dR_isOver_9 : decode bR_isOver 9 = .ok (.iaload, 1) := by decide +kernel
theorem dR_isOver_10 : decode bR_isOver 10 = .ok (.aload_n 0, 1) := by decide +kernel
theorem dR_isOver_11 : decode bR_isOver 11 = .ok (.getfield 7, 3) := by decide +kernel
theorem dR_isOver_14 : decode bR_isOver 14 = .ok (.bipush 123, 2) := by decide +kernel
theorem dR_isOver_16 : decode bR_isOver 16 = .ok (.iload_n 1, 1) := by decide +kernel
theorem dR_isOver_17 : decode bR_isOver 17 = .ok (.iadd, 1) := by decide +kernel
theorem dR_isOver_18 : decode bR_isOver 18 = .ok (.iaload, 1) := by decide +kernel
theorem dR_isOver_19 : decode bR_isOver 19 = .ok (.if_icmp .ne 7, 3) := by decide +kernel
theorem dR_isOver_22 : decode bR_isOver 22 = .ok (.iconst 1, 1) := by decide +kernel
theorem dR_isOver_23 : decode bR_isOver 23 = .ok (.goto 4, 3) := by decide +kernel
theorem dR_isOver_26 : decode bR_isOver 26 = .ok (.iconst 0, 1) := by decide +kernel
theorem dR_isOver_27 : decode bR_isOver 27 = .ok (.ireturn, 1) := by decide +kernel
theorem dR_nextOf_0 : decode bR_nextOf 0 = .ok (.aload_n 0, 1) := by decide +kernel
theorem dR_nextOf_1 : decode bR_nextOf 1 = .ok (.iload_n 1, 1) := by decide +kernel
theorem dR_nextOf_2 : decode bR_nextOf 2 = .ok (.invokevirtual 56, 3) := by decide +kernel
theorem dR_nextOf_5 : decode bR_nextOf 5 = .ok (.ifCond .eq 8, 3) := by decide +kernel
theorem dR_nextOf_8 : decode bR_nextOf 8 = .ok (.bipush (-9), 2) := by decide +kernel
theorem dR_nextOf_10 : decode bR_nextOf 10 = .ok (.goto 27, 3) := by decide +kernel
theorem dR_nextOf_13 : decode bR_nextOf 13 = .ok (.aload_n 0, 1) := by decide +kernel
theorem dR_nextOf_14 : decode bR_nextOf 14 = .ok (.getfield 7, 3) := by decide +kernel
theorem dR_nextOf_17 : decode bR_nextOf 17 = .ok (.sipush 159, 3) := by decide +kernel
theorem dR_nextOf_20 : decode bR_nextOf 20 = .ok (.bipush 6, 2) := by decide +kernel
theorem dR_nextOf_22 : decode bR_nextOf 22 = .ok (.iload_n 1, 1) := by decide +kernel
theorem dR_nextOf_23 : decode bR_nextOf 23 = .ok (.imul, 1) := by decide +kernel
theorem dR_nextOf_24 : decode bR_nextOf 24 = .ok (.iadd, 1) := by decide +kernel
theorem dR_nextOf_25 : decode bR_nextOf 25 = .ok (.aload_n 0, 1) := by decide +kernel
theorem dR_nextOf_26 : decode bR_nextOf 26 = .ok (.getfield 7, 3) := by decide +kernel
theorem dR_nextOf_29 : decode bR_nextOf 29 = .ok (.sipush 135, 3) := by decide +kernel
theorem dR_nextOf_32 : decode bR_nextOf 32 = .ok (.iload_n 1, 1) := by decide +kernel
theorem dR_nextOf_33 : decode bR_nextOf 33 = .ok (.iadd, 1) := by decide +kernel
theorem dR_nextOf_34 : decode bR_nextOf 34 = .ok (.iaload, 1) := by decide +kernel
theorem dR_nextOf_35 : decode bR_nextOf 35 = .ok (.iadd, 1) := by decide +kernel
theorem dR_nextOf_36 : decode bR_nextOf 36 = .ok (.iaload, 1) := by decide +kernel
theorem dR_nextOf_37 : decode bR_nextOf 37 = .ok (.ireturn, 1) := by decide +kernel
theorem dR_ofThread_0 : decode bR_ofThread 0 = .ok (.aload_n 0, 1) := by decide +kernel
theorem dR_ofThread_1 : decode bR_ofThread 1 = .ok (.iload_n 1, 1) := by decide +kernel
theorem dR_ofThread_2 : decode bR_ofThread 2 = .ok (.invokevirtual 59, 3) := by decide +kernel
theorem dR_ofThread_5 : decode bR_ofThread 5 = .ok (.ifCond .ne 5, 3) := by decide +kernel
theorem dR_ofThread_8 : decode bR_ofThread 8 = .ok (.iconst (-1), 1) := by decide +kernel
theorem dR_ofThread_9 : decode bR_ofThread 9 = .ok (.ireturn, 1) := by decide +kernel
theorem dR_ofThread_10 : decode bR_ofThread 10 = .ok (.iload_n 2, 1) := by decide +kernel
theorem dR_ofThread_11 : decode bR_ofThread 11 = .ok (.tableswitch 81 0 4 #[33, 43, 54, 64, 75], 33) := by decide +kernel
theorem dR_ofThread_44 : decode bR_ofThread 44 = .ok (.aload_n 0, 1) := by decide +kernel
theorem dR_ofThread_45 : decode bR_ofThread 45 = .ok (.getfield 7, 3) := by decide +kernel
theorem dR_ofThread_48 : decode bR_ofThread 48 = .ok (.bipush 111, 2) := by decide +kernel
theorem dR_ofThread_50 : decode bR_ofThread 50 = .ok (.iload_n 1, 1) := by decide +kernel
theorem dR_ofThread_51 : decode bR_ofThread 51 = .ok (.iadd, 1) := by decide +kernel
theorem dR_ofThread_52 : decode bR_ofThread 52 = .ok (.iaload, 1) := by decide +kernel
theorem dR_ofThread_53 : decode bR_ofThread 53 = .ok (.ireturn, 1) := by decide +kernel
theorem dR_ofThread_54 : decode bR_ofThread 54 = .ok (.aload_n 0, 1) := by decide +kernel
theorem dR_ofThread_55 : decode bR_ofThread 55 = .ok (.getfield 7, 3) := by decide +kernel
theorem dR_ofThread_58 : decode bR_ofThread 58 = .ok (.sipush 135, 3) := by decide +kernel
theorem dR_ofThread_61 : decode bR_ofThread 61 = .ok (.iload_n 1, 1) := by decide +kernel
theorem dR_ofThread_62 : decode bR_ofThread 62 = .ok (.iadd, 1) := by decide +kernel
theorem dR_ofThread_63 : decode bR_ofThread 63 = .ok (.iaload, 1) := by decide +kernel
theorem dR_ofThread_64 : decode bR_ofThread 64 = .ok (.ireturn, 1) := by decide +kernel
theorem dR_ofThread_65 : decode bR_ofThread 65 = .ok (.aload_n 0, 1) := by decide +kernel
theorem dR_ofThread_66 : decode bR_ofThread 66 = .ok (.getfield 7, 3) := by decide +kernel
theorem dR_ofThread_69 : decode bR_ofThread 69 = .ok (.bipush 123, 2) := by decide +kernel
theorem dR_ofThread_71 : decode bR_ofThread 71 = .ok (.iload_n 1, 1) := by decide +kernel
theorem dR_ofThread_72 : decode bR_ofThread 72 = .ok (.iadd, 1) := by decide +kernel
theorem dR_ofThread_73 : decode bR_ofThread 73 = .ok (.iaload, 1) := by decide +kernel
theorem dR_ofThread_74 : decode bR_ofThread 74 = .ok (.ireturn, 1) := by decide +kernel
theorem dR_ofThread_75 : decode bR_ofThread 75 = .ok (.aload_n 0, 1) := by decide +kernel
theorem dR_ofThread_76 : decode bR_ofThread 76 = .ok (.getfield 7, 3) := by decide +kernel
theorem dR_ofThread_79 : decode bR_ofThread 79 = .ok (.sipush 147, 3) := by decide +kernel
theorem dR_ofThread_82 : decode bR_ofThread 82 = .ok (.iload_n 1, 1) := by decide +kernel
theorem dR_ofThread_83 : decode bR_ofThread 83 = .ok (.iadd, 1) := by decide +kernel
theorem dR_ofThread_84 : decode bR_ofThread 84 = .ok (.iaload, 1) := by decide +kernel
theorem dR_ofThread_85 : decode bR_ofThread 85 = .ok (.ireturn, 1) := by decide +kernel
theorem dR_ofThread_86 : decode bR_ofThread 86 = .ok (.aload_n 0, 1) := by decide +kernel
theorem dR_ofThread_87 : decode bR_ofThread 87 = .ok (.iload_n 1, 1) := by decide +kernel
theorem dR_ofThread_88 : decode bR_ofThread 88 = .ok (.invokevirtual 62, 3) := by decide +kernel
theorem dR_ofThread_91 : decode bR_ofThread 91 = .ok (.ireturn, 1) := by decide +kernel
theorem dR_ofThread_92 : decode bR_ofThread 92 = .ok (.bipush (-2), 2) := by decide +kernel
theorem dR_ofThread_94 : decode bR_ofThread 94 = .ok (.ireturn, 1) := by decide +kernel
theorem dR_isWithin_0 : decode bR_isWithin 0 = .ok (.aload_n 0, 1) := by decide +kernel
theorem dR_isWithin_1 : decode bR_isWithin 1 = .ok (.iload_n 1, 1) := by decide +kernel
theorem dR_isWithin_2 : decode bR_isWithin 2 = .ok (.invokevirtual 30, 3) := by decide +kernel
theorem dR_isWithin_5 : decode bR_isWithin 5 = .ok (.ifCond .eq 11, 3) := by decide +kernel
theorem dR_isWithin_8 : decode bR_isWithin 8 = .ok (.aload_n 0, 1) := by decide +kernel
theorem dR_isWithin_9 : decode bR_isWithin 9 = .ok (.iload_n 2, 1) := by decide +kernel
theorem dR_isWithin_10 : decode bR_isWithin 10 = .ok (.invokevirtual 30, 3) := by decide +kernel
theorem dR_isWithin_13 : decode bR_isWithin 13 = .ok (.ifCond .ne 5, 3) := by decide +kernel
theorem dR_isWithin_16 : decode bR_isWithin 16 = .ok (.iconst 0, 1) := by decide +kernel
theorem dR_isWithin_17 : decode bR_isWithin 17 = .ok (.ireturn, 1) := by decide +kernel
theorem dR_isWithin_18 : decode bR_isWithin 18 = .ok (.iload_n 1, 1) := by decide +kernel
theorem dR_isWithin_19 : decode bR_isWithin 19 = .ok (.istore_n 3, 1) := by decide +kernel
theorem dR_isWithin_20 : decode bR_isWithin 20 = .ok (.iload_n 3, 1) := by decide +kernel
theorem dR_isWithin_21 : decode bR_isWithin 21 = .ok (.ifCond .eq 31, 3) := by decide +kernel
theorem dR_isWithin_24 : decode bR_isWithin 24 = .ok (.aload_n 0, 1) := by decide +kernel
theorem dR_isWithin_25 : decode bR_isWithin 25 = .ok (.getfield 7, 3) := by decide +kernel
theorem dR_isWithin_28 : decode bR_isWithin 28 = .ok (.bipush 15, 2) := by decide +kernel
theorem dR_isWithin_30 : decode bR_isWithin 30 = .ok (.iload_n 3, 1) := by decide +kernel
theorem dR_isWithin_31 : decode bR_isWithin 31 = .ok (.iadd, 1) := by decide +kernel
theorem dR_isWithin_32 : decode bR_isWithin 32 = .ok (.iaload, 1) := by decide +kernel
theorem dR_isWithin_33 : decode bR_isWithin 33 = .ok (.iload_n 2, 1) := by decide +kernel
theorem dR_isWithin_34 : decode bR_isWithin 34 = .ok (.if_icmp .ne 5, 3) := by decide +kernel
theorem dR_isWithin_37 : decode bR_isWithin 37 = .ok (.iconst 1, 1) := by decide +kernel
theorem dR_isWithin_38 : decode bR_isWithin 38 = .ok (.ireturn, 1) := by decide +kernel
theorem dR_isWithin_39 : decode bR_isWithin 39 = .ok (.aload_n 0, 1) := by decide +kernel
theorem dR_isWithin_40 : decode bR_isWithin 40 = .ok (.getfield 7, 3) := by decide +kernel
theorem dR_isWithin_43 : decode bR_isWithin 43 = .ok (.bipush 15, 2) := by decide +kernel
theorem dR_isWithin_45 : decode bR_isWithin 45 = .ok (.iload_n 3, 1) := by decide +kernel
theorem dR_isWithin_46 : decode bR_isWithin 46 = .ok (.iadd, 1) := by decide +kernel
theorem dR_isWithin_47 : decode bR_isWithin 47 = .ok (.iaload, 1) := by decide +kernel
theorem dR_isWithin_48 : decode bR_isWithin 48 = .ok (.istore_n 3, 1) := by decide +kernel
theorem dR_isWithin_49 : decode bR_isWithin 49 = .ok (.goto (-29), 3) := by decide +kernel
theorem dR_isWithin_52 : decode bR_isWithin 52 = .ok (.iconst 0, 1) := by decide +kernel
theorem dR_isWithin_53 : decode bR_isWithin 53 = .ok (.ireturn, 1) := by decide +kernel
theorem dR_within_0 : decode bR_within 0 = .ok (.aload_n 0, 1) := by decide +kernel
theorem dR_within_1 : decode bR_within 1 = .ok (.iload_n 1, 1) := by decide +kernel
theorem dR_within_2 : decode bR_within 2 = .ok (.invokevirtual 30, 3) := by decide +kernel
theorem dR_within_5 : decode bR_within 5 = .ok (.ifCond .eq 11, 3) := by decide +kernel
theorem dR_within_8 : decode bR_within 8 = .ok (.aload_n 0, 1) := by decide +kernel
theorem dR_within_9 : decode bR_within 9 = .ok (.iload_n 2, 1) := by decide +kernel
theorem dR_within_10 : decode bR_within 10 = .ok (.invokevirtual 30, 3) := by decide +kernel
theorem dR_within_13 : decode bR_within 13 = .ok (.ifCond .ne 5, 3) := by decide +kernel
theorem dR_within_16 : decode bR_within 16 = .ok (.iconst (-1), 1) := by decide +kernel
theorem dR_within_17 : decode bR_within 17 = .ok (.ireturn, 1) := by decide +kernel
theorem dR_within_18 : decode bR_within 18 = .ok (.aload_n 0, 1) := by decide +kernel
theorem dR_within_19 : decode bR_within 19 = .ok (.iload_n 1, 1) := by decide +kernel
theorem dR_within_20 : decode bR_within 20 = .ok (.iload_n 2, 1) := by decide +kernel
theorem dR_within_21 : decode bR_within 21 = .ok (.invokevirtual 65, 3) := by decide +kernel
theorem dR_within_24 : decode bR_within 24 = .ok (.ifCond .eq 7, 3) := by decide +kernel
theorem dR_within_27 : decode bR_within 27 = .ok (.iconst 1, 1) := by decide +kernel
theorem dR_within_28 : decode bR_within 28 = .ok (.goto 4, 3) := by decide +kernel
theorem dR_within_31 : decode bR_within 31 = .ok (.iconst 0, 1) := by decide +kernel
theorem dR_within_32 : decode bR_within 32 = .ok (.ireturn, 1) := by decide +kernel
theorem wq_401 : Cond.fieldLink rR 7 rR "now" "[I" ∈ wT := wT_in 401 rfl rfl
theorem wq_425 : Cond.methodLink rR 22 yR_between ∈ wT := wT_in 425 rfl rfl
theorem wq_426 : Cond.static yR_between ∈ wT := wT_in 426 rfl rfl
theorem wq_39 : Cond.initialized rR ∈ wT := wT_in 39 rfl rfl
theorem wq_427 : Cond.code yR_between bR_between 3 (some .boolean) ∈ wT := wT_in 427 rfl rfl
theorem kT_R_22 : mp_T rR 22 yR_between bR_between 3 (some .boolean) 3 := ⟨wq_425, wq_426, wq_39, wq_427, ⟨by decide, by decide, by decide +kernel⟩⟩
theorem wq_428 : Cond.methodLink rR 26 yR_has ∈ wT := wT_in 428 rfl rfl
theorem wq_429 : Cond.static yR_has ∈ wT := wT_in 429 rfl rfl
theorem wq_430 : Cond.code yR_has bR_has 2 (some .boolean) ∈ wT := wT_in 430 rfl rfl
theorem kT_R_26 : mp_T rR 26 yR_has bR_has 2 (some .boolean) 2 := ⟨wq_428, wq_429, wq_39, wq_430, ⟨by decide, by decide, by decide +kernel⟩⟩
theorem wq_421 : Cond.methodLink rR 30 yR_isPlace ∈ wT := wT_in 421 rfl rfl
theorem wq_423 : Cond.instanceMethod yR_isPlace ∈ wT := wT_in 423 rfl rfl
theorem wq_12 : Cond.selects rR yR_isPlace yR_isPlace ∈ wT := wT_in 12 rfl rfl
theorem wq_424 : Cond.code yR_isPlace bR_isPlace 2 (some .boolean) ∈ wT := wT_in 424 rfl rfl
theorem kV_R_30 : mp_V rR 30 yR_isPlace bR_isPlace 2 (some .boolean) 1 := ⟨wq_421, wq_423, wq_12, wq_39, wq_424, ⟨by decide, by decide, by decide +kernel⟩⟩
theorem wq_431 : Cond.methodLink rR 34 yR_isName ∈ wT := wT_in 431 rfl rfl
theorem wq_432 : Cond.static yR_isName ∈ wT := wT_in 432 rfl rfl
theorem wq_433 : Cond.code yR_isName bR_isName 1 (some .boolean) ∈ wT := wT_in 433 rfl rfl
theorem kT_R_34 : mp_T rR 34 yR_isName bR_isName 1 (some .boolean) 1 := ⟨wq_431, wq_432, wq_39, wq_433, ⟨by decide, by decide, by decide +kernel⟩⟩
set_option maxRecDepth 20000 in
theorem wq_441 : Cond.constantLong rR 37 100 ∈ wT := wT_in 441 rfl rfl
set_option maxRecDepth 20000 in
theorem wq_442 : Cond.methodLink rR 39 yR_isAct ∈ wT := wT_in 442 rfl rfl
set_option maxRecDepth 20000 in
theorem wq_443 : Cond.static yR_isAct ∈ wT := wT_in 443 rfl rfl
set_option maxRecDepth 20000 in
theorem wq_444 : Cond.code yR_isAct bR_isAct 3 (some .boolean) ∈ wT := wT_in 444 rfl rfl
theorem kT_R_39 : mp_T rR 39 yR_isAct bR_isAct 3 (some .boolean) 1 := ⟨wq_442, wq_443, wq_39, wq_444, ⟨by decide, by decide, by decide +kernel⟩⟩
theorem wq_438 : Cond.methodLink rR 42 yR_actsIn ∈ wT := wT_in 438 rfl rfl
theorem wq_439 : Cond.static yR_actsIn ∈ wT := wT_in 439 rfl rfl
theorem wq_440 : Cond.code yR_actsIn bR_actsIn 5 (some .int) ∈ wT := wT_in 440 rfl rfl
theorem kT_R_42 : mp_T rR 42 yR_actsIn bR_actsIn 5 (some .int) 1 := ⟨wq_438, wq_439, wq_39, wq_440, ⟨by decide, by decide, by decide +kernel⟩⟩
set_option maxRecDepth 20000 in
theorem wq_457 : Cond.methodLink rR 46 yR_placesIn ∈ wT := wT_in 457 rfl rfl
set_option maxRecDepth 20000 in
theorem wq_459 : Cond.instanceMethod yR_placesIn ∈ wT := wT_in 459 rfl rfl
theorem wq_13 : Cond.selects rR yR_placesIn yR_placesIn ∈ wT := wT_in 13 rfl rfl
set_option maxRecDepth 20000 in
theorem wq_460 : Cond.code yR_placesIn bR_placesIn 4 (some .int) ∈ wT := wT_in 460 rfl rfl
theorem kV_R_46 : mp_V rR 46 yR_placesIn bR_placesIn 4 (some .int) 1 := ⟨wq_457, wq_459, wq_13, wq_39, wq_460, ⟨by decide, by decide, by decide +kernel⟩⟩
set_option maxRecDepth 20000 in
theorem wq_461 : Cond.methodLink rR 50 yR_threadsIn ∈ wT := wT_in 461 rfl rfl
set_option maxRecDepth 20000 in
theorem wq_463 : Cond.instanceMethod yR_threadsIn ∈ wT := wT_in 463 rfl rfl
theorem wq_14 : Cond.selects rR yR_threadsIn yR_threadsIn ∈ wT := wT_in 14 rfl rfl
set_option maxRecDepth 20000 in
theorem wq_464 : Cond.code yR_threadsIn bR_threadsIn 4 (some .int) ∈ wT := wT_in 464 rfl rfl
theorem kV_R_50 : mp_V rR 50 yR_threadsIn bR_threadsIn 4 (some .int) 1 := ⟨wq_461, wq_463, wq_14, wq_39, wq_464, ⟨by decide, by decide, by decide +kernel⟩⟩
set_option maxRecDepth 20000 in
theorem wq_465 : Cond.methodLink rR 53 yR_deepOf ∈ wT := wT_in 465 rfl rfl
set_option maxRecDepth 20000 in
theorem wq_467 : Cond.instanceMethod yR_deepOf ∈ wT := wT_in 467 rfl rfl
theorem wq_15 : Cond.selects rR yR_deepOf yR_deepOf ∈ wT := wT_in 15 rfl rfl
set_option maxRecDepth 20000 in
theorem wq_468 : Cond.code yR_deepOf bR_deepOf 4 (some .int) ∈ wT := wT_in 468 rfl rfl
theorem kV_R_53 : mp_V rR 53 yR_deepOf bR_deepOf 4 (some .int) 1 := ⟨wq_465, wq_467, wq_15, wq_39, wq_468, ⟨by decide, by decide, by decide +kernel⟩⟩
set_option maxRecDepth 20000 in
theorem wq_481 : Cond.methodLink rR 56 yR_isOver ∈ wT := wT_in 481 rfl rfl
set_option maxRecDepth 20000 in
theorem wq_483 : Cond.instanceMethod yR_isOver ∈ wT := wT_in 483 rfl rfl
theorem wq_18 : Cond.selects rR yR_isOver yR_isOver ∈ wT := wT_in 18 rfl rfl
set_option maxRecDepth 20000 in
theorem wq_484 : Cond.code yR_isOver bR_isOver 2 (some .boolean) ∈ wT := wT_in 484 rfl rfl
theorem kV_R_56 : mp_V rR 56 yR_isOver bR_isOver 2 (some .boolean) 1 := ⟨wq_481, wq_483, wq_18, wq_39, wq_484, ⟨by decide, by decide, by decide +kernel⟩⟩
set_option maxRecDepth 20000 in
theorem wq_473 : Cond.methodLink rR 59 yR_isThread ∈ wT := wT_in 473 rfl rfl
set_option maxRecDepth 20000 in
theorem wq_475 : Cond.instanceMethod yR_isThread ∈ wT := wT_in 475 rfl rfl
theorem wq_16 : Cond.selects rR yR_isThread yR_isThread ∈ wT := wT_in 16 rfl rfl
set_option maxRecDepth 20000 in
theorem wq_476 : Cond.code yR_isThread bR_isThread 2 (some .boolean) ∈ wT := wT_in 476 rfl rfl
theorem kV_R_59 : mp_V rR 59 yR_isThread bR_isThread 2 (some .boolean) 1 := ⟨wq_473, wq_475, wq_16, wq_39, wq_476, ⟨by decide, by decide, by decide +kernel⟩⟩
set_option maxRecDepth 20000 in
theorem wq_477 : Cond.methodLink rR 62 yR_nextOf ∈ wT := wT_in 477 rfl rfl
set_option maxRecDepth 20000 in
theorem wq_479 : Cond.instanceMethod yR_nextOf ∈ wT := wT_in 479 rfl rfl
theorem wq_17 : Cond.selects rR yR_nextOf yR_nextOf ∈ wT := wT_in 17 rfl rfl
set_option maxRecDepth 20000 in
theorem wq_480 : Cond.code yR_nextOf bR_nextOf 2 (some .int) ∈ wT := wT_in 480 rfl rfl
theorem kV_R_62 : mp_V rR 62 yR_nextOf bR_nextOf 2 (some .int) 1 := ⟨wq_477, wq_479, wq_17, wq_39, wq_480, ⟨by decide, by decide, by decide +kernel⟩⟩
set_option maxRecDepth 20000 in
theorem wq_489 : Cond.methodLink rR 65 yR_isWithin ∈ wT := wT_in 489 rfl rfl
set_option maxRecDepth 20000 in
theorem wq_491 : Cond.instanceMethod yR_isWithin ∈ wT := wT_in 491 rfl rfl
theorem wq_19 : Cond.selects rR yR_isWithin yR_isWithin ∈ wT := wT_in 19 rfl rfl
set_option maxRecDepth 20000 in
theorem wq_492 : Cond.code yR_isWithin bR_isWithin 4 (some .boolean) ∈ wT := wT_in 492 rfl rfl
theorem kV_R_65 : mp_V rR 65 yR_isWithin bR_isWithin 4 (some .boolean) 2 := ⟨wq_489, wq_491, wq_19, wq_39, wq_492, ⟨by decide, by decide, by decide +kernel⟩⟩
-- MovingPlacesModel.between
abbrev rmR_between : Room := { frames := 0, cells := 0, slots := 0, locals := 0 }
def fR_between (a0 : Int32) (a1 : Int32) (a2 : Int32) : Option Int32 := (if a0 < a1 then some 0 else (if a2 < a0 then some 0 else some 1))
set_option maxHeartbeats 4000000 in
set_option maxRecDepth 100000 in
theorem wR_between {p : Program} {l : Launch} {e : Env} {s : State} {m : MethodId} {args : Array Value} {below : List Frame} {meth : Method} {c : Code} (cx : mp_C p s m args meth c bR_between 3 (some .boolean) rR) (k : KK) (a0 : Int32) (a1 : Int32) (a2 : Int32) (z : Int32) (hE : mp_E k s) (h : fR_between a0 a1 a2 = some z) (ls : Array Slot) (hl : lv_has ls 3 [(0, .int a0), (1, .int a1), (2, .int a2)]) : W p l e rmR_between s m args below meth c s.heap [] 0 0 (MQ below (mp_Qs (some (.int z))) args s 0 0 (fun _ => False)) (F0 m 0 ls []) := by
  obtain ⟨hx, hb, -, hml, hown, hts, -⟩ := id cx
  unfold fR_between at h
  refine lv_iload_n hx hb dR_between_0 rfl (lv_at hl 0 rfl) ?_
  refine lv_iload_n hx hb dR_between_1 rfl (lv_at hl 1 rfl) ?_
  refine lv_icmp_lt (tgt := 14) hx hb dR_between_2 (by decide) (fun c1 => ?_) (fun c1 => ?_)
  · have h := mp_t c1 h
    refine lv_iconst (v := 0) hx hb dR_between_14 (by decide) ?_
    exact mp_rz cx rfl h dR_between_15
  · have h := mp_f c1 h
    refine lv_iload_n hx hb dR_between_5 rfl (lv_at hl 0 rfl) ?_
    refine lv_iload_n hx hb dR_between_6 rfl (lv_at hl 2 rfl) ?_
    refine lv_icmp_gt (tgt := 14) hx hb dR_between_7 (by decide) (fun c2 => ?_) (fun c2 => ?_)
    · have h := mp_t c2 h
      refine lv_iconst (v := 0) hx hb dR_between_14 (by decide) ?_
      exact mp_rz cx rfl h dR_between_15
    · have h := mp_f c2 h
      refine lv_iconst (v := 1) hx hb dR_between_10 (by decide) ?_
      refine lv_goto (tgt := 15) hx hb dR_between_11 (by decide) ?_
      exact mp_rz cx rfl h dR_between_15
theorem cR_between (l : Launch) (k : KK) (a0 : Int32) (a1 : Int32) (a2 : Int32) (z : Int32) (h : fR_between a0 a1 a2 = some z) : mp_CS l k yR_between bR_between 3 (some .boolean) rmR_between [.int a0, .int a1, .int a2] [] (some (.int z)) := by
  refine Met.ofW (cc := bR_between) (maxL := 3) (ret := (some .boolean)) (by decide) rfl ?_
  intro p e s m args below meth c s₁ B hml hv
  obtain ⟨rfl, hP, hD, hE⟩ := hv
  have hl := lv_entry ([.int a0, .int a1, .int a2]) (n := 3) (Nat.le_of_ble_eq_true rfl)
  rw [lg_entry_eq]
  generalize (lg_sl ([.int a0, .int a1, .int a2]) ++ List.replicate (3 - (lg_sl ([.int a0, .int a1, .int a2])).length) Slot.unset).toArray = ls at hl ⊢
  exact wR_between (mp_C.of B hml) k a0 a1 a2 z hE h ls hl
-- MovingPlacesModel.has
abbrev rmR_has : Room := { frames := 0, cells := 0, slots := 0, locals := 0 }
def fR_has (a0 : Int32) (a1 : Int32) : Option Int32 := (if ((a0 >>> (a1 &&& 31)) &&& 1) = 1 then some 1 else some 0)
set_option maxHeartbeats 4000000 in
set_option maxRecDepth 100000 in
theorem wR_has {p : Program} {l : Launch} {e : Env} {s : State} {m : MethodId} {args : Array Value} {below : List Frame} {meth : Method} {c : Code} (cx : mp_C p s m args meth c bR_has 2 (some .boolean) rR) (k : KK) (a0 : Int32) (a1 : Int32) (z : Int32) (hE : mp_E k s) (h : fR_has a0 a1 = some z) (ls : Array Slot) (hl : lv_has ls 2 [(0, .int a0), (1, .int a1)]) : W p l e rmR_has s m args below meth c s.heap [] 0 0 (MQ below (mp_Qs (some (.int z))) args s 0 0 (fun _ => False)) (F0 m 0 ls []) := by
  obtain ⟨hx, hb, -, hml, hown, hts, -⟩ := id cx
  unfold fR_has at h
  refine lv_iload_n hx hb dR_has_0 rfl (lv_at hl 0 rfl) ?_
  refine lv_iload_n hx hb dR_has_1 rfl (lv_at hl 1 rfl) ?_
  refine lv_ishr hx hb dR_has_2 ?_
  refine lv_iconst (v := 1) hx hb dR_has_3 (by decide) ?_
  refine lv_iand hx hb dR_has_4 ?_
  refine lv_iconst (v := 1) hx hb dR_has_5 (by decide) ?_
  refine lv_icmp_ne (tgt := 13) hx hb dR_has_6 (by decide) (fun c1 => ?_) (fun c1 => ?_)
  · have h := mp_f c1 h
    refine lv_iconst (v := 0) hx hb dR_has_13 (by decide) ?_
    exact mp_rz cx rfl h dR_has_14
  · have h := mp_t c1 h
    refine lv_iconst (v := 1) hx hb dR_has_9 (by decide) ?_
    refine lv_goto (tgt := 14) hx hb dR_has_10 (by decide) ?_
    exact mp_rz cx rfl h dR_has_14
theorem cR_has (l : Launch) (k : KK) (a0 : Int32) (a1 : Int32) (z : Int32) (h : fR_has a0 a1 = some z) : mp_CS l k yR_has bR_has 2 (some .boolean) rmR_has [.int a0, .int a1] [] (some (.int z)) := by
  refine Met.ofW (cc := bR_has) (maxL := 2) (ret := (some .boolean)) (by decide) rfl ?_
  intro p e s m args below meth c s₁ B hml hv
  obtain ⟨rfl, hP, hD, hE⟩ := hv
  have hl := lv_entry ([.int a0, .int a1]) (n := 2) (Nat.le_of_ble_eq_true rfl)
  rw [lg_entry_eq]
  generalize (lg_sl ([.int a0, .int a1]) ++ List.replicate (2 - (lg_sl ([.int a0, .int a1])).length) Slot.unset).toArray = ls at hl ⊢
  exact wR_has (mp_C.of B hml) k a0 a1 z hE h ls hl
-- MovingPlacesModel.isPlace
abbrev rmR_isPlace : Room := { frames := 1, cells := 0, slots := 0, locals := 22 }
def fR_isPlace (g : SR) (a1 : Int32) : Option Int32 := mp_ld g.1 231 0 fun x1 => (fR_between a1 0 (x1 - 1)).bind fun x2 => (if x2 = 0 then some 0 else mp_ld g.1 231 2 fun x4 => (fR_has x4 a1).bind fun x5 => (if x5 = 0 then some 1 else some 0))
set_option maxHeartbeats 4000000 in
set_option maxRecDepth 100000 in
theorem wR_isPlace {p : Program} {l : Launch} {e : Env} {s : State} {m : MethodId} {args : Array Value} {below : List Frame} {meth : Method} {c : Code} (cx : mp_C p s m args meth c bR_isPlace 2 (some .boolean) rR) (k : KK) (ad : Nat → Nat) (g : SR) (a1 : Int32) (z : Int32) (hE : mp_E k s) (hP : va_P (kD k) mp_cls (cR k ad g) s.heap) (hD : va_D (mp_N k) (cR k ad g)) (h : fR_isPlace g a1 = some z) (ls : Array Slot) (hl : lv_has ls 2 [(0, .ref (ad 0)), (1, .int a1)]) : W p l e rmR_isPlace s m args below meth c s.heap [] 0 0 (MQ below (mp_Qs (some (.int z))) args s 0 0 (fun _ => False)) (F0 m 0 ls []) := by
  obtain ⟨hx, hb, -, hml, hown, hts, -⟩ := id cx
  unfold fR_isPlace at h
  refine lv_iload_n hx hb dR_isPlace_0 rfl (lv_at hl 1 rfl) ?_
  refine lv_iconst (v := 0) hx hb dR_isPlace_1 (by decide) ?_
  refine lv_aload_n hx hb dR_isPlace_2 rfl (lv_at hl 0 rfl) ?_
  refine mp_gR cx hE hP iR 0 rfl 0 (by decide) wq_401 rfl (v := .ref (ad 1)) rfl dR_isPlace_3 ?_
  refine lv_iconst (v := 0) hx hb dR_isPlace_6 (by decide) ?_
  obtain ⟨hi, x1, ex1, h⟩ := mp_lds h
  refine va_iald hx hb hE.1 hP 1 0 (f := g.1) (n := 231) rfl rfl hi dR_isPlace_7 ?_
  refine mp_top ex1 ?_
  refine lv_iconst (v := 1) hx hb dR_isPlace_8 (by decide) ?_
  refine lv_isub hx hb dR_isPlace_9 ?_
  obtain ⟨x2, ex2, h⟩ := mp_bs h
  refine mp_si (mp_runT (As := [.int a1, .int 0, .int (x1 - 1)]) (rest := []) cx kT_R_22 (cR_between l k a1 0 (x1 - 1) x2 ex2) ⟨rfl, rfl, Nat.le_of_ble_eq_true rfl, Nat.le_of_ble_eq_true rfl⟩ ⟨Nat.zero_le _, Nat.zero_le _⟩ hE mp_P0 mp_D0 va_S.rf hl.1 rfl (Nat.le_of_ble_eq_true rfl) dR_isPlace_10) ?_
  refine lv_if_eq (tgt := 33) hx hb dR_isPlace_13 (by decide) (fun c3 => ?_) (fun c3 => ?_)
  · have h := mp_t c3 h
    refine lv_iconst (v := 0) hx hb dR_isPlace_33 (by decide) ?_
    exact mp_rz cx rfl h dR_isPlace_34
  · have h := mp_f c3 h
    refine lv_aload_n hx hb dR_isPlace_16 rfl (lv_at hl 0 rfl) ?_
    refine mp_gR cx hE hP iR 0 rfl 0 (by decide) wq_401 rfl (v := .ref (ad 1)) rfl dR_isPlace_17 ?_
    refine lv_iconst (v := 2) hx hb dR_isPlace_20 (by decide) ?_
    obtain ⟨hi, x4, ex4, h⟩ := mp_lds h
    refine va_iald hx hb hE.1 hP 1 0 (f := g.1) (n := 231) rfl rfl hi dR_isPlace_21 ?_
    refine mp_top ex4 ?_
    refine lv_iload_n hx hb dR_isPlace_22 rfl (lv_at hl 1 rfl) ?_
    obtain ⟨x5, ex5, h⟩ := mp_bs h
    refine mp_si (mp_runT (As := [.int x4, .int a1]) (rest := []) cx kT_R_26 (cR_has l k x4 a1 x5 ex5) ⟨rfl, rfl, Nat.le_of_ble_eq_true rfl, Nat.le_of_ble_eq_true rfl⟩ ⟨Nat.zero_le _, Nat.zero_le _⟩ hE mp_P0 mp_D0 va_S.rf hl.1 rfl (Nat.le_of_ble_eq_true rfl) dR_isPlace_23) ?_
    refine lv_if_ne (tgt := 33) hx hb dR_isPlace_26 (by decide) (fun c6 => ?_) (fun c6 => ?_)
    · have h := mp_f c6 h
      refine lv_iconst (v := 0) hx hb dR_isPlace_33 (by decide) ?_
      exact mp_rz cx rfl h dR_isPlace_34
    · have h := mp_t c6 h
      refine lv_iconst (v := 1) hx hb dR_isPlace_29 (by decide) ?_
      refine lv_goto (tgt := 34) hx hb dR_isPlace_30 (by decide) ?_
      exact mp_rz cx rfl h dR_isPlace_34
theorem cR_isPlace (l : Launch) (k : KK) (ad : Nat → Nat) (g : SR) (a1 : Int32) (z : Int32) (h : fR_isPlace g a1 = some z) : mp_CS l k yR_isPlace bR_isPlace 2 (some .boolean) rmR_isPlace [.ref (ad 0), .int a1] (cR k ad g) (some (.int z)) := by
  refine Met.ofW (cc := bR_isPlace) (maxL := 2) (ret := (some .boolean)) (by decide) rfl ?_
  intro p e s m args below meth c s₁ B hml hv
  obtain ⟨rfl, hP, hD, hE⟩ := hv
  have hl := lv_entry ([.ref (ad 0), .int a1]) (n := 2) (Nat.le_of_ble_eq_true rfl)
  rw [lg_entry_eq]
  generalize (lg_sl ([.ref (ad 0), .int a1]) ++ List.replicate (2 - (lg_sl ([.ref (ad 0), .int a1])).length) Slot.unset).toArray = ls at hl ⊢
  exact wR_isPlace (mp_C.of B hml) k ad g a1 z hE hP hD h ls hl
-- MovingPlacesModel.isThread
abbrev rmR_isThread : Room := { frames := 1, cells := 0, slots := 0, locals := 22 }
def fR_isThread (g : SR) (a1 : Int32) : Option Int32 := mp_ld g.1 231 1 fun x1 => (fR_between a1 0 (x1 - 1)).bind fun x2 => mp_zb x2 (some x2)
set_option maxHeartbeats 4000000 in
set_option maxRecDepth 100000 in
theorem wR_isThread {p : Program} {l : Launch} {e : Env} {s : State} {m : MethodId} {args : Array Value} {below : List Frame} {meth : Method} {c : Code} (cx : mp_C p s m args meth c bR_isThread 2 (some .boolean) rR) (k : KK) (ad : Nat → Nat) (g : SR) (a1 : Int32) (z : Int32) (hE : mp_E k s) (hP : va_P (kD k) mp_cls (cR k ad g) s.heap) (hD : va_D (mp_N k) (cR k ad g)) (h : fR_isThread g a1 = some z) (ls : Array Slot) (hl : lv_has ls 2 [(0, .ref (ad 0)), (1, .int a1)]) : W p l e rmR_isThread s m args below meth c s.heap [] 0 0 (MQ below (mp_Qs (some (.int z))) args s 0 0 (fun _ => False)) (F0 m 0 ls []) := by
  obtain ⟨hx, hb, -, hml, hown, hts, -⟩ := id cx
  unfold fR_isThread at h
  refine lv_iload_n hx hb dR_isThread_0 rfl (lv_at hl 1 rfl) ?_
  refine lv_iconst (v := 0) hx hb dR_isThread_1 (by decide) ?_
  refine lv_aload_n hx hb dR_isThread_2 rfl (lv_at hl 0 rfl) ?_
  refine mp_gR cx hE hP iR 0 rfl 0 (by decide) wq_401 rfl (v := .ref (ad 1)) rfl dR_isThread_3 ?_
  refine lv_iconst (v := 1) hx hb dR_isThread_6 (by decide) ?_
  obtain ⟨hi, x1, ex1, h⟩ := mp_lds h
  refine va_iald hx hb hE.1 hP 1 0 (f := g.1) (n := 231) rfl rfl hi dR_isThread_7 ?_
  refine mp_top ex1 ?_
  refine lv_iconst (v := 1) hx hb dR_isThread_8 (by decide) ?_
  refine lv_isub hx hb dR_isThread_9 ?_
  obtain ⟨x2, ex2, h⟩ := mp_bs h
  refine mp_si (mp_runT (As := [.int a1, .int 0, .int (x1 - 1)]) (rest := []) cx kT_R_22 (cR_between l k a1 0 (x1 - 1) x2 ex2) ⟨rfl, rfl, Nat.le_of_ble_eq_true rfl, Nat.le_of_ble_eq_true rfl⟩ ⟨Nat.zero_le _, Nat.zero_le _⟩ hE mp_P0 mp_D0 va_S.rf hl.1 rfl (Nat.le_of_ble_eq_true rfl) dR_isThread_10) ?_
  obtain ⟨hn, h⟩ := mp_zbs h
  exact mp_rz cx hn h dR_isThread_13
theorem cR_isThread (l : Launch) (k : KK) (ad : Nat → Nat) (g : SR) (a1 : Int32) (z : Int32) (h : fR_isThread g a1 = some z) : mp_CS l k yR_isThread bR_isThread 2 (some .boolean) rmR_isThread [.ref (ad 0), .int a1] (cR k ad g) (some (.int z)) := by
  refine Met.ofW (cc := bR_isThread) (maxL := 2) (ret := (some .boolean)) (by decide) rfl ?_
  intro p e s m args below meth c s₁ B hml hv
  obtain ⟨rfl, hP, hD, hE⟩ := hv
  have hl := lv_entry ([.ref (ad 0), .int a1]) (n := 2) (Nat.le_of_ble_eq_true rfl)
  rw [lg_entry_eq]
  generalize (lg_sl ([.ref (ad 0), .int a1]) ++ List.replicate (2 - (lg_sl ([.ref (ad 0), .int a1])).length) Slot.unset).toArray = ls at hl ⊢
  exact wR_isThread (mp_C.of B hml) k ad g a1 z hE hP hD h ls hl
-- MovingPlacesModel.isName
abbrev rmR_isName : Room := { frames := 1, cells := 0, slots := 0, locals := 22 }
def fR_isName (a0 : Int32) : Option Int32 := (fR_between a0 0 5).bind fun x1 => mp_zb x1 (some x1)
set_option maxHeartbeats 4000000 in
set_option maxRecDepth 100000 in
theorem wR_isName {p : Program} {l : Launch} {e : Env} {s : State} {m : MethodId} {args : Array Value} {below : List Frame} {meth : Method} {c : Code} (cx : mp_C p s m args meth c bR_isName 1 (some .boolean) rR) (k : KK) (a0 : Int32) (z : Int32) (hE : mp_E k s) (h : fR_isName a0 = some z) (ls : Array Slot) (hl : lv_has ls 1 [(0, .int a0)]) : W p l e rmR_isName s m args below meth c s.heap [] 0 0 (MQ below (mp_Qs (some (.int z))) args s 0 0 (fun _ => False)) (F0 m 0 ls []) := by
  obtain ⟨hx, hb, -, hml, hown, hts, -⟩ := id cx
  unfold fR_isName at h
  refine lv_iload_n hx hb dR_isName_0 rfl (lv_at hl 0 rfl) ?_
  refine lv_iconst (v := 0) hx hb dR_isName_1 (by decide) ?_
  refine lv_iconst (v := 5) hx hb dR_isName_2 (by decide) ?_
  obtain ⟨x1, ex1, h⟩ := mp_bs h
  refine mp_si (mp_runT (As := [.int a0, .int 0, .int 5]) (rest := []) cx kT_R_22 (cR_between l k a0 0 5 x1 ex1) ⟨rfl, rfl, Nat.le_of_ble_eq_true rfl, Nat.le_of_ble_eq_true rfl⟩ ⟨Nat.zero_le _, Nat.zero_le _⟩ hE mp_P0 mp_D0 va_S.rf hl.1 rfl (Nat.le_of_ble_eq_true rfl) dR_isName_3) ?_
  obtain ⟨hn, h⟩ := mp_zbs h
  exact mp_rz cx hn h dR_isName_6
theorem cR_isName (l : Launch) (k : KK) (a0 : Int32) (z : Int32) (h : fR_isName a0 = some z) : mp_CS l k yR_isName bR_isName 1 (some .boolean) rmR_isName [.int a0] [] (some (.int z)) := by
  refine Met.ofW (cc := bR_isName) (maxL := 1) (ret := (some .boolean)) (by decide) rfl ?_
  intro p e s m args below meth c s₁ B hml hv
  obtain ⟨rfl, hP, hD, hE⟩ := hv
  have hl := lv_entry ([.int a0]) (n := 1) (Nat.le_of_ble_eq_true rfl)
  rw [lg_entry_eq]
  generalize (lg_sl ([.int a0]) ++ List.replicate (1 - (lg_sl ([.int a0])).length) Slot.unset).toArray = ls at hl ⊢
  exact wR_isName (mp_C.of B hml) k a0 z hE h ls hl
-- MovingPlacesModel.place
abbrev rmR_place : Room := { frames := 2, cells := 0, slots := 0, locals := 43 }
def fR_place (g : SR) (a1 : Int32) (a2 : Int32) : Option (Int32 × SR) := (fR_isPlace g a1).bind fun x1 => (if x1 = 0 then some ((-1), g) else (fR_isName a2).bind fun x3 => (if x3 = 0 then some ((-1), g) else mp_ld g.1 231 0 fun x5 => (if x5 = 12 then some ((-4), g) else mp_ld g.1 231 0 fun x7 => mp_st 231 (3 + x7) (mp_st 231 (15 + x7) (mp_ld (upd (upd g.1 (Int32.toNatClampNeg (3 + x7)) a2) (Int32.toNatClampNeg (15 + x7)) a1) 231 0 fun x8 => mp_st 231 0 (some (x7, ((upd (upd (upd g.1 (Int32.toNatClampNeg (3 + x7)) a2) (Int32.toNatClampNeg (15 + x7)) a1) (Int32.toNatClampNeg 0) (x8 + 1)), g.2.1, g.2.2.1, g.2.2.2.1, g.2.2.2.2))))))))
set_option maxHeartbeats 4000000 in
set_option maxRecDepth 100000 in
theorem wR_place {p : Program} {l : Launch} {e : Env} {s : State} {m : MethodId} {args : Array Value} {below : List Frame} {meth : Method} {c : Code} (cx : mp_C p s m args meth c bR_place 4 (some .int) rR) (k : KK) (ad : Nat → Nat) (g : SR) (a1 : Int32) (a2 : Int32) (z : (Int32 × SR)) (hE : mp_E k s) (hAN : ∀ q, mp_A (aR ad) q → mp_N k q) {H : Heap} {locs : List Loc} (hP : va_P (kD k) mp_cls (cR k ad g) H) (hD : va_D (mp_A (aR ad)) (cR k ad g)) (hS : va_S (mp_A (aR ad)) s.heap H locs) (h : fR_place g a1 a2 = some z) (ls : Array Slot) (hl : lv_has ls 4 [(0, .ref (ad 0)), (1, .int a1), (2, .int a2)]) : W p l e rmR_place s m args below meth c H locs 0 0 (MQ below (mp_Qm k (some (.int z.1)) (cR k ad z.2) (aR ad)) args s 0 0 (mp_A (aR ad))) (F0 m 0 ls []) := by
  obtain ⟨hx, hb, -, hml, hown, hts, -⟩ := id cx
  unfold fR_place at h
  refine lv_aload_n hx hb dR_place_0 rfl (lv_at hl 0 rfl) ?_
  refine lv_iload_n hx hb dR_place_1 rfl (lv_at hl 1 rfl) ?_
  obtain ⟨x1, ex1, h⟩ := mp_bs h
  refine mp_si (mp_runV (As := [.int a1]) (rest := []) cx kV_R_30 (cR_isPlace l k ad g a1 x1 ex1) ⟨rfl, rfl, Nat.le_of_ble_eq_true rfl, Nat.le_of_ble_eq_true rfl⟩ ⟨Nat.zero_le _, Nat.zero_le _⟩ hE hP (mp_Dw hD hAN) (mp_S hS hAN) 0 rfl rfl rfl hl.1 rfl (Nat.le_of_ble_eq_true rfl) dR_place_2) ?_
  refine lv_if_eq (tgt := 15) hx hb dR_place_5 (by decide) (fun c2 => ?_) (fun c2 => ?_)
  · have h := mp_t c2 h
    refine lv_iconst (v := (-1)) hx hb dR_place_15 (by decide) ?_
    exact mp_rim (cf := cR k ad) cx h hP hS dR_place_16
  · have h := mp_f c2 h
    refine lv_iload_n hx hb dR_place_8 rfl (lv_at hl 2 rfl) ?_
    obtain ⟨x3, ex3, h⟩ := mp_bs h
    refine mp_si (mp_runT (As := [.int a2]) (rest := []) cx kT_R_34 (cR_isName l k a2 x3 ex3) ⟨rfl, rfl, Nat.le_of_ble_eq_true rfl, Nat.le_of_ble_eq_true rfl⟩ ⟨Nat.zero_le _, Nat.zero_le _⟩ hE mp_P0 mp_D0 (mp_S hS hAN) hl.1 rfl (Nat.le_of_ble_eq_true rfl) dR_place_9) ?_
    refine lv_if_ne (tgt := 17) hx hb dR_place_12 (by decide) (fun c4 => ?_) (fun c4 => ?_)
    · have h := mp_f c4 h
      refine lv_aload_n hx hb dR_place_17 rfl (lv_at hl 0 rfl) ?_
      refine mp_gR cx hE hP iR 0 rfl 0 (by decide) wq_401 rfl (v := .ref (ad 1)) rfl dR_place_18 ?_
      refine lv_iconst (v := 0) hx hb dR_place_21 (by decide) ?_
      obtain ⟨hi, x5, ex5, h⟩ := mp_lds h
      refine va_iald hx hb hE.1 hP 1 0 (f := g.1) (n := 231) rfl rfl hi dR_place_22 ?_
      refine mp_top ex5 ?_
      refine lv_bipush (v := 12) hx hb dR_place_23 (by decide) ?_
      refine lv_icmp_ne (tgt := 31) hx hb dR_place_25 (by decide) (fun c6 => ?_) (fun c6 => ?_)
      · have h := mp_f c6 h
        refine lv_aload_n hx hb dR_place_31 rfl (lv_at hl 0 rfl) ?_
        refine mp_gR cx hE hP iR 0 rfl 0 (by decide) wq_401 rfl (v := .ref (ad 1)) rfl dR_place_32 ?_
        refine lv_iconst (v := 0) hx hb dR_place_35 (by decide) ?_
        obtain ⟨hi, x7, ex7, h⟩ := mp_lds h
        refine va_iald hx hb hE.1 hP 1 0 (f := g.1) (n := 231) rfl rfl hi dR_place_36 ?_
        refine mp_top ex7 ?_
        refine lv_istore_n (lv' := [(3, .int x7), (0, .ref (ad 0)), (1, .int a1), (2, .int a2)]) hx hb dR_place_37 rfl hl (by decide) rfl (fun ls hl => ?_)
        refine lv_aload_n hx hb dR_place_38 rfl (lv_at hl 1 rfl) ?_
        refine mp_gR cx hE hP iR 0 rfl 0 (by decide) wq_401 rfl (v := .ref (ad 1)) rfl dR_place_39 ?_
        refine lv_iconst (v := 3) hx hb dR_place_42 (by decide) ?_
        refine lv_iload_n hx hb dR_place_43 rfl (lv_at hl 0 rfl) ?_
        refine lv_iadd hx hb dR_place_44 ?_
        refine lv_iload_n hx hb dR_place_45 rfl (lv_at hl 3 rfl) ?_
        obtain ⟨hi, h⟩ := mp_sts h
        refine va_iast hx hb hE.1 hP hD hS 1 0 (f := g.1) (n := 231) rfl rfl hi dR_place_46 (fun H locs hP hD hS => ?_)
        have hP : va_P (kD k) mp_cls (cR k ad ((upd g.1 (Int32.toNatClampNeg (3 + x7)) a2), g.2.1, g.2.2.1, g.2.2.2.1, g.2.2.2.2)) H := hP
        have hD : va_D (mp_A (aR ad)) (cR k ad ((upd g.1 (Int32.toNatClampNeg (3 + x7)) a2), g.2.1, g.2.2.1, g.2.2.2.1, g.2.2.2.2)) := hD
        refine lv_aload_n hx hb dR_place_47 rfl (lv_at hl 1 rfl) ?_
        refine mp_gR cx hE hP iR 0 rfl 0 (by decide) wq_401 rfl (v := .ref (ad 1)) rfl dR_place_48 ?_
        refine lv_bipush (v := 15) hx hb dR_place_51 (by decide) ?_
        refine lv_iload_n hx hb dR_place_53 rfl (lv_at hl 0 rfl) ?_
        refine lv_iadd hx hb dR_place_54 ?_
        refine lv_iload_n hx hb dR_place_55 rfl (lv_at hl 2 rfl) ?_
        obtain ⟨hi, h⟩ := mp_sts h
        refine va_iast hx hb hE.1 hP hD hS 1 0 (f := (upd g.1 (Int32.toNatClampNeg (3 + x7)) a2)) (n := 231) rfl rfl hi dR_place_56 (fun H locs hP hD hS => ?_)
        have hP : va_P (kD k) mp_cls (cR k ad ((upd (upd g.1 (Int32.toNatClampNeg (3 + x7)) a2) (Int32.toNatClampNeg (15 + x7)) a1), g.2.1, g.2.2.1, g.2.2.2.1, g.2.2.2.2)) H := hP
        have hD : va_D (mp_A (aR ad)) (cR k ad ((upd (upd g.1 (Int32.toNatClampNeg (3 + x7)) a2) (Int32.toNatClampNeg (15 + x7)) a1), g.2.1, g.2.2.1, g.2.2.2.1, g.2.2.2.2)) := hD
        refine lv_aload_n hx hb dR_place_57 rfl (lv_at hl 1 rfl) ?_
        refine mp_gR cx hE hP iR 0 rfl 0 (by decide) wq_401 rfl (v := .ref (ad 1)) rfl dR_place_58 ?_
        refine lv_iconst (v := 0) hx hb dR_place_61 (by decide) ?_
        refine lv_dup2_11 hx hb dR_place_62 rfl rfl ?_
        obtain ⟨hi, x8, ex8, h⟩ := mp_lds h
        refine va_iald hx hb hE.1 hP 1 0 (f := (upd (upd g.1 (Int32.toNatClampNeg (3 + x7)) a2) (Int32.toNatClampNeg (15 + x7)) a1)) (n := 231) rfl rfl hi dR_place_63 ?_
        refine mp_top ex8 ?_
        refine lv_iconst (v := 1) hx hb dR_place_64 (by decide) ?_
        refine lv_iadd hx hb dR_place_65 ?_
        obtain ⟨hi, h⟩ := mp_sts h
        refine va_iast hx hb hE.1 hP hD hS 1 0 (f := (upd (upd g.1 (Int32.toNatClampNeg (3 + x7)) a2) (Int32.toNatClampNeg (15 + x7)) a1)) (n := 231) rfl rfl hi dR_place_66 (fun H locs hP hD hS => ?_)
        have hP : va_P (kD k) mp_cls (cR k ad ((upd (upd (upd g.1 (Int32.toNatClampNeg (3 + x7)) a2) (Int32.toNatClampNeg (15 + x7)) a1) (Int32.toNatClampNeg 0) (x8 + 1)), g.2.1, g.2.2.1, g.2.2.2.1, g.2.2.2.2)) H := hP
        have hD : va_D (mp_A (aR ad)) (cR k ad ((upd (upd (upd g.1 (Int32.toNatClampNeg (3 + x7)) a2) (Int32.toNatClampNeg (15 + x7)) a1) (Int32.toNatClampNeg 0) (x8 + 1)), g.2.1, g.2.2.1, g.2.2.2.1, g.2.2.2.2)) := hD
        refine lv_iload_n hx hb dR_place_67 rfl (lv_at hl 0 rfl) ?_
        exact mp_rim (cf := cR k ad) cx h hP hS dR_place_68
      · have h := mp_t c6 h
        refine lv_bipush (v := (-4)) hx hb dR_place_28 (by decide) ?_
        exact mp_rim (cf := cR k ad) cx h hP hS dR_place_30
    · have h := mp_t c4 h
      refine lv_iconst (v := (-1)) hx hb dR_place_15 (by decide) ?_
      exact mp_rim (cf := cR k ad) cx h hP hS dR_place_16
theorem cR_place (l : Launch) (k : KK) (ad : Nat → Nat) (g : SR) (a1 : Int32) (a2 : Int32) (z : (Int32 × SR)) (h : fR_place g a1 a2 = some z) : mp_CM l k yR_place bR_place 4 (some .int) rmR_place [.ref (ad 0), .int a1, .int a2] (cR k ad g) (cR k ad z.2) (aR ad) (some (.int z.1)) := by
  refine Met.ofW (cc := bR_place) (maxL := 4) (ret := (some .int)) (by decide) rfl ?_
  intro p e s m args below meth c s₁ B hml hv
  obtain ⟨rfl, hP, hD, hE⟩ := hv
  have hl := lv_entry ([.ref (ad 0), .int a1, .int a2]) (n := 4) (Nat.le_of_ble_eq_true rfl)
  rw [lg_entry_eq]
  generalize (lg_sl ([.ref (ad 0), .int a1, .int a2]) ++ List.replicate (4 - (lg_sl ([.ref (ad 0), .int a1, .int a2])).length) Slot.unset).toArray = ls at hl ⊢
  exact wR_place (mp_C.of B hml) k ad g a1 a2 z hE (mp_new hD rfl) hP (mp_own hD rfl) va_S.rf h ls hl
-- MovingPlacesModel.isAct
abbrev rmR_isAct : Room := { frames := 2, cells := 0, slots := 0, locals := 42 }
def fR_isAct (a0 : Int32) : Option Int32 := (if (a0 / 10) = 5 then (if (a0 - a0 / 10 * 10) = 0 then some 1 else some 0) else (fR_between (a0 / 10) 1 4).bind fun x2 => (if x2 = 0 then some 0 else (fR_isName (a0 - a0 / 10 * 10)).bind fun x4 => (if x4 = 0 then (if (a0 - a0 / 10 * 10) = 9 then some 1 else some 0) else some 1)))
set_option maxHeartbeats 4000000 in
set_option maxRecDepth 100000 in
theorem wR_isAct {p : Program} {l : Launch} {e : Env} {s : State} {m : MethodId} {args : Array Value} {below : List Frame} {meth : Method} {c : Code} (cx : mp_C p s m args meth c bR_isAct 3 (some .boolean) rR) (k : KK) (a0 : Int32) (z : Int32) (hE : mp_E k s) (h : fR_isAct a0 = some z) (ls : Array Slot) (hl : lv_has ls 3 [(0, .int a0)]) : W p l e rmR_isAct s m args below meth c s.heap [] 0 0 (MQ below (mp_Qs (some (.int z))) args s 0 0 (fun _ => False)) (F0 m 0 ls []) := by
  obtain ⟨hx, hb, -, hml, hown, hts, -⟩ := id cx
  unfold fR_isAct at h
  refine lv_iload_n hx hb dR_isAct_0 rfl (lv_at hl 0 rfl) ?_
  refine lv_bipush (v := 10) hx hb dR_isAct_1 (by decide) ?_
  refine lv_idiv hx hb dR_isAct_3 (by decide) ?_
  refine lv_istore_n (lv' := [(1, .int (a0 / 10)), (0, .int a0)]) hx hb dR_isAct_4 rfl hl (by decide) rfl (fun ls hl => ?_)
  refine lv_iload_n hx hb dR_isAct_5 rfl (lv_at hl 1 rfl) ?_
  refine lv_bipush (v := 10) hx hb dR_isAct_6 (by decide) ?_
  refine lv_irem hx hb dR_isAct_8 (by decide) ?_
  refine lv_istore_n (lv' := [(2, .int (a0 - a0 / 10 * 10)), (1, .int (a0 / 10)), (0, .int a0)]) hx hb dR_isAct_9 rfl hl (by decide) rfl (fun ls hl => ?_)
  refine lv_iload_n hx hb dR_isAct_10 rfl (lv_at hl 1 rfl) ?_
  refine lv_iconst (v := 5) hx hb dR_isAct_11 (by decide) ?_
  refine lv_icmp_ne (tgt := 27) hx hb dR_isAct_12 (by decide) (fun c1 => ?_) (fun c1 => ?_)
  · have h := mp_f c1 h
    refine lv_iload_n hx hb dR_isAct_27 rfl (lv_at hl 1 rfl) ?_
    refine lv_iconst (v := 1) hx hb dR_isAct_28 (by decide) ?_
    refine lv_iconst (v := 4) hx hb dR_isAct_29 (by decide) ?_
    obtain ⟨x2, ex2, h⟩ := mp_bs h
    refine mp_si (mp_runT (As := [.int (a0 / 10), .int 1, .int 4]) (rest := []) cx kT_R_22 (cR_between l k (a0 / 10) 1 4 x2 ex2) ⟨rfl, rfl, Nat.le_of_ble_eq_true rfl, Nat.le_of_ble_eq_true rfl⟩ ⟨Nat.zero_le _, Nat.zero_le _⟩ hE mp_P0 mp_D0 va_S.rf hl.1 rfl (Nat.le_of_ble_eq_true rfl) dR_isAct_30) ?_
    refine lv_if_eq (tgt := 53) hx hb dR_isAct_33 (by decide) (fun c3 => ?_) (fun c3 => ?_)
    · have h := mp_t c3 h
      refine lv_iconst (v := 0) hx hb dR_isAct_53 (by decide) ?_
      exact mp_rz cx rfl h dR_isAct_54
    · have h := mp_f c3 h
      refine lv_iload_n hx hb dR_isAct_36 rfl (lv_at hl 0 rfl) ?_
      obtain ⟨x4, ex4, h⟩ := mp_bs h
      refine mp_si (mp_runT (As := [.int (a0 - a0 / 10 * 10)]) (rest := []) cx kT_R_34 (cR_isName l k (a0 - a0 / 10 * 10) x4 ex4) ⟨rfl, rfl, Nat.le_of_ble_eq_true rfl, Nat.le_of_ble_eq_true rfl⟩ ⟨Nat.zero_le _, Nat.zero_le _⟩ hE mp_P0 mp_D0 va_S.rf hl.1 rfl (Nat.le_of_ble_eq_true rfl) dR_isAct_37) ?_
      refine lv_if_ne (tgt := 49) hx hb dR_isAct_40 (by decide) (fun c5 => ?_) (fun c5 => ?_)
      · have h := mp_f c5 h
        refine lv_iconst (v := 1) hx hb dR_isAct_49 (by decide) ?_
        refine lv_goto (tgt := 54) hx hb dR_isAct_50 (by decide) ?_
        exact mp_rz cx rfl h dR_isAct_54
      · have h := mp_t c5 h
        refine lv_iload_n hx hb dR_isAct_43 rfl (lv_at hl 0 rfl) ?_
        refine lv_bipush (v := 9) hx hb dR_isAct_44 (by decide) ?_
        refine lv_icmp_ne (tgt := 53) hx hb dR_isAct_46 (by decide) (fun c6 => ?_) (fun c6 => ?_)
        · have h := mp_f c6 h
          refine lv_iconst (v := 0) hx hb dR_isAct_53 (by decide) ?_
          exact mp_rz cx rfl h dR_isAct_54
        · have h := mp_t c6 h
          refine lv_iconst (v := 1) hx hb dR_isAct_49 (by decide) ?_
          refine lv_goto (tgt := 54) hx hb dR_isAct_50 (by decide) ?_
          exact mp_rz cx rfl h dR_isAct_54
  · have h := mp_t c1 h
    refine lv_iload_n hx hb dR_isAct_15 rfl (lv_at hl 0 rfl) ?_
    refine lv_if_ne (tgt := 23) hx hb dR_isAct_16 (by decide) (fun c7 => ?_) (fun c7 => ?_)
    · have h := mp_f c7 h
      refine lv_iconst (v := 0) hx hb dR_isAct_23 (by decide) ?_
      refine lv_goto (tgt := 54) hx hb dR_isAct_24 (by decide) ?_
      exact mp_rz cx rfl h dR_isAct_54
    · have h := mp_t c7 h
      refine lv_iconst (v := 1) hx hb dR_isAct_19 (by decide) ?_
      refine lv_goto (tgt := 54) hx hb dR_isAct_20 (by decide) ?_
      exact mp_rz cx rfl h dR_isAct_54
theorem cR_isAct (l : Launch) (k : KK) (a0 : Int32) (z : Int32) (h : fR_isAct a0 = some z) : mp_CS l k yR_isAct bR_isAct 3 (some .boolean) rmR_isAct [.int a0] [] (some (.int z)) := by
  refine Met.ofW (cc := bR_isAct) (maxL := 3) (ret := (some .boolean)) (by decide) rfl ?_
  intro p e s m args below meth c s₁ B hml hv
  obtain ⟨rfl, hP, hD, hE⟩ := hv
  have hl := lv_entry ([.int a0]) (n := 3) (Nat.le_of_ble_eq_true rfl)
  rw [lg_entry_eq]
  generalize (lg_sl ([.int a0]) ++ List.replicate (3 - (lg_sl ([.int a0])).length) Slot.unset).toArray = ls at hl ⊢
  exact wR_isAct (mp_C.of B hml) k a0 z hE h ls hl
-- MovingPlacesModel.actsIn
abbrev rmR_actsIn : Room := { frames := 3, cells := 0, slots := 0, locals := 64 }
def fR_actsIn_4  : Nat → Int32 → Int64 → Option Int32
  | 0, _, _ => none
  | n + 1, a2, a3 => (if (lg_cmp a3 0) ≤ 0 then some a2 else (fR_isAct (Int64.toInt32 (a3 - a3 / 100 * 100))).bind fun x2 => (if x2 = 0 then some (-9) else fR_actsIn_4  n (a2 + 1) (a3 / 100)))
theorem fR_actsIn_4_s (n : Nat) (a2 : Int32) (a3 : Int64) : fR_actsIn_4  (n + 1) a2 a3 = (if (lg_cmp a3 0) ≤ 0 then some a2 else (fR_isAct (Int64.toInt32 (a3 - a3 / 100 * 100))).bind fun x2 => (if x2 = 0 then some (-9) else fR_actsIn_4  n (a2 + 1) (a3 / 100))) := rfl
set_option maxHeartbeats 4000000 in
set_option maxRecDepth 100000 in
theorem lR_actsIn_4 {p : Program} {l : Launch} {e : Env} {s : State} {m : MethodId} {args : Array Value} {below : List Frame} {meth : Method} {c : Code} (cx : mp_C p s m args meth c bR_actsIn 5 (some .int) rR) (k : KK)  (z : Int32) (hE : mp_E k s) : ∀ (n : Nat) (a2 : Int32) (a3 : Int64), fR_actsIn_4  n a2 a3 = some z → ∀ (ls : Array Slot), lv_has ls 5 [(2, .int a2), (3, .long a3)] → W p l e rmR_actsIn s m args below meth c s.heap [] 0 0 (MQ below (mp_Qs (some (.int z))) args s 0 0 (fun _ => False)) (F0 m 4 ls []) := by
  obtain ⟨hx, hb, -, hml, hown, hts, -⟩ := id cx
  intro n
  induction n with
  | zero =>
    intro a2 a3 h
    have h : (none : Option Int32) = some z := h
    cases h
  | succ n ih =>
    intro a2 a3 h ls hl
    rw [fR_actsIn_4_s] at h
    refine lv_lload_n hx hb dR_actsIn_4 rfl (lv_at hl 1 rfl) ?_
    refine lv_lconst (v := 0) hx hb dR_actsIn_5 (by decide) ?_
    refine W.lcmp hx hb dR_actsIn_6 ?_
    refine lv_if_le (tgt := 37) hx hb dR_actsIn_7 (by decide) (fun c1 => ?_) (fun c1 => ?_)
    · have h := mp_t c1 h
      refine lv_iload_n hx hb dR_actsIn_37 rfl (lv_at hl 0 rfl) ?_
      exact mp_ri cx h dR_actsIn_38
    · have h := mp_f c1 h
      refine lv_lload_n hx hb dR_actsIn_10 rfl (lv_at hl 1 rfl) ?_
      refine lv_ldc2 (v := 100) hx hb hown (hts _ wq_441) dR_actsIn_11 ?_
      refine lv_lrem hx hb dR_actsIn_14 (by decide) ?_
      refine lv_l2i hx hb dR_actsIn_15 rfl ?_
      obtain ⟨x2, ex2, h⟩ := mp_bs h
      refine mp_si (mp_runT (As := [.int (Int64.toInt32 (a3 - a3 / 100 * 100))]) (rest := []) cx kT_R_39 (cR_isAct l k (Int64.toInt32 (a3 - a3 / 100 * 100)) x2 ex2) ⟨rfl, rfl, Nat.le_of_ble_eq_true rfl, Nat.le_of_ble_eq_true rfl⟩ ⟨Nat.zero_le _, Nat.zero_le _⟩ hE mp_P0 mp_D0 va_S.rf hl.1 rfl (Nat.le_of_ble_eq_true rfl) dR_actsIn_16) ?_
      refine lv_if_ne (tgt := 25) hx hb dR_actsIn_19 (by decide) (fun c3 => ?_) (fun c3 => ?_)
      · have h := mp_f c3 h
        refine lv_iinc (v := (a2 + 1)) (lv' := [(2, .int (a2 + 1)), (3, .long a3)]) hx hb dR_actsIn_25 hl (k := 0) rfl rfl (by decide) rfl (fun ls hl => ?_)
        refine lv_lload_n hx hb dR_actsIn_28 rfl (lv_at hl 1 rfl) ?_
        refine lv_ldc2 (v := 100) hx hb hown (hts _ wq_441) dR_actsIn_29 ?_
        refine lv_ldiv hx hb dR_actsIn_32 (by decide) ?_
        refine lv_lstore_n (lv' := [(3, .long (a3 / 100)), (2, .int (a2 + 1))]) hx hb dR_actsIn_33 rfl hl (by decide) rfl (fun ls hl => ?_)
        refine lv_goto (tgt := 4) hx hb dR_actsIn_34 (by decide) ?_
        exact ih (a2 + 1) (a3 / 100) h ls (lv_sub hl [1, 0] rfl)
      · have h := mp_t c3 h
        refine lv_bipush (v := (-9)) hx hb dR_actsIn_22 (by decide) ?_
        exact mp_ri cx h dR_actsIn_24
def fR_actsIn (a0 : Int64) : Option Int32 := fR_actsIn_4  2000 0 a0
set_option maxHeartbeats 4000000 in
set_option maxRecDepth 100000 in
theorem wR_actsIn {p : Program} {l : Launch} {e : Env} {s : State} {m : MethodId} {args : Array Value} {below : List Frame} {meth : Method} {c : Code} (cx : mp_C p s m args meth c bR_actsIn 5 (some .int) rR) (k : KK) (a0 : Int64) (z : Int32) (hE : mp_E k s) (h : fR_actsIn a0 = some z) (ls : Array Slot) (hl : lv_has ls 5 [(0, .long a0)]) : W p l e rmR_actsIn s m args below meth c s.heap [] 0 0 (MQ below (mp_Qs (some (.int z))) args s 0 0 (fun _ => False)) (F0 m 0 ls []) := by
  obtain ⟨hx, hb, -, hml, hown, hts, -⟩ := id cx
  unfold fR_actsIn at h
  refine lv_iconst (v := 0) hx hb dR_actsIn_0 (by decide) ?_
  refine lv_istore_n (lv' := [(2, .int 0), (0, .long a0)]) hx hb dR_actsIn_1 rfl hl (by decide) rfl (fun ls hl => ?_)
  refine lv_lload_n hx hb dR_actsIn_2 rfl (lv_at hl 1 rfl) ?_
  refine lv_lstore_n (lv' := [(3, .long a0), (2, .int 0), (0, .long a0)]) hx hb dR_actsIn_3 rfl hl (by decide) rfl (fun ls hl => ?_)
  exact lR_actsIn_4 cx k  z hE _ 0 a0 h ls (lv_sub hl [1, 0] rfl)
theorem cR_actsIn (l : Launch) (k : KK) (a0 : Int64) (z : Int32) (h : fR_actsIn a0 = some z) : mp_CS l k yR_actsIn bR_actsIn 5 (some .int) rmR_actsIn [.long a0] [] (some (.int z)) := by
  refine Met.ofW (cc := bR_actsIn) (maxL := 5) (ret := (some .int)) (by decide) rfl ?_
  intro p e s m args below meth c s₁ B hml hv
  obtain ⟨rfl, hP, hD, hE⟩ := hv
  have hl := lv_entry ([.long a0]) (n := 5) (Nat.le_of_ble_eq_true rfl)
  rw [lg_entry_eq]
  generalize (lg_sl ([.long a0]) ++ List.replicate (5 - (lg_sl ([.long a0])).length) Slot.unset).toArray = ls at hl ⊢
  exact wR_actsIn (mp_C.of B hml) k a0 z hE h ls hl
-- MovingPlacesModel.thread
abbrev rmR_thread : Room := { frames := 4, cells := 0, slots := 0, locals := 88 }
def fR_thread_115 (a5 : Int32) : Nat → SR → Int64 → Int32 → Option (Int32 × SR)
  | 0, _, _, _ => none
  | n + 1, g, a6, a8 => (if a8 < 0 then mp_ld g.1 231 1 fun x2 => mp_st 231 1 (some (a5, ((upd g.1 (Int32.toNatClampNeg 1) (x2 + 1)), g.2.1, g.2.2.1, g.2.2.2.1, g.2.2.2.2))) else mp_st 231 ((159 + (6 * a5)) + a8) (fR_thread_115 a5 n ((upd g.1 (Int32.toNatClampNeg ((159 + (6 * a5)) + a8)) (Int64.toInt32 (a6 - a6 / 100 * 100))), g.2.1, g.2.2.1, g.2.2.2.1, g.2.2.2.2) (a6 / 100) (a8 + (-1))))
theorem fR_thread_115_s (a5 : Int32) (n : Nat) (g : SR) (a6 : Int64) (a8 : Int32) : fR_thread_115 a5 (n + 1) g a6 a8 = (if a8 < 0 then mp_ld g.1 231 1 fun x2 => mp_st 231 1 (some (a5, ((upd g.1 (Int32.toNatClampNeg 1) (x2 + 1)), g.2.1, g.2.2.1, g.2.2.2.1, g.2.2.2.2))) else mp_st 231 ((159 + (6 * a5)) + a8) (fR_thread_115 a5 n ((upd g.1 (Int32.toNatClampNeg ((159 + (6 * a5)) + a8)) (Int64.toInt32 (a6 - a6 / 100 * 100))), g.2.1, g.2.2.1, g.2.2.2.1, g.2.2.2.2) (a6 / 100) (a8 + (-1)))) := rfl
set_option maxHeartbeats 4000000 in
set_option maxRecDepth 100000 in
theorem lR_thread_115 {p : Program} {l : Launch} {e : Env} {s : State} {m : MethodId} {args : Array Value} {below : List Frame} {meth : Method} {c : Code} (cx : mp_C p s m args meth c bR_thread 9 (some .int) rR) (k : KK) (ad : Nat → Nat) (a5 : Int32) (z : (Int32 × SR)) (hE : mp_E k s) (hAN : ∀ q, mp_A (aR ad) q → mp_N k q) : ∀ (n : Nat) (g : SR) (a6 : Int64) (a8 : Int32), fR_thread_115 a5 n g a6 a8 = some z → ∀ (H : Heap) (locs : List Loc), va_P (kD k) mp_cls (cR k ad g) H → va_D (mp_A (aR ad)) (cR k ad g) → va_S (mp_A (aR ad)) s.heap H locs → ∀ (ls : Array Slot), lv_has ls 9 [(0, .ref (ad 0)), (5, .int a5), (6, .long a6), (8, .int a8)] → W p l e rmR_thread s m args below meth c H locs 0 0 (MQ below (mp_Qm k (some (.int z.1)) (cR k ad z.2) (aR ad)) args s 0 0 (mp_A (aR ad))) (F0 m 115 ls []) := by
  obtain ⟨hx, hb, -, hml, hown, hts, -⟩ := id cx
  intro n
  induction n with
  | zero =>
    intro g a6 a8 h
    have h : (none : Option (Int32 × SR)) = some z := h
    cases h
  | succ n ih =>
    intro g a6 a8 h H locs hP hD hS ls hl
    rw [fR_thread_115_s] at h
    refine lv_iload hx hb dR_thread_115 (lv_at hl 3 rfl) ?_
    refine lv_if_lt (tgt := 158) hx hb dR_thread_117 (by decide) (fun c1 => ?_) (fun c1 => ?_)
    · have h := mp_t c1 h
      refine lv_aload_n hx hb dR_thread_158 rfl (lv_at hl 0 rfl) ?_
      refine mp_gR cx hE hP iR 0 rfl 0 (by decide) wq_401 rfl (v := .ref (ad 1)) rfl dR_thread_159 ?_
      refine lv_iconst (v := 1) hx hb dR_thread_162 (by decide) ?_
      refine lv_dup2_11 hx hb dR_thread_163 rfl rfl ?_
      obtain ⟨hi, x2, ex2, h⟩ := mp_lds h
      refine va_iald hx hb hE.1 hP 1 0 (f := g.1) (n := 231) rfl rfl hi dR_thread_164 ?_
      refine mp_top ex2 ?_
      refine lv_iconst (v := 1) hx hb dR_thread_165 (by decide) ?_
      refine lv_iadd hx hb dR_thread_166 ?_
      obtain ⟨hi, h⟩ := mp_sts h
      refine va_iast hx hb hE.1 hP hD hS 1 0 (f := g.1) (n := 231) rfl rfl hi dR_thread_167 (fun H locs hP hD hS => ?_)
      have hP : va_P (kD k) mp_cls (cR k ad ((upd g.1 (Int32.toNatClampNeg 1) (x2 + 1)), g.2.1, g.2.2.1, g.2.2.2.1, g.2.2.2.2)) H := hP
      have hD : va_D (mp_A (aR ad)) (cR k ad ((upd g.1 (Int32.toNatClampNeg 1) (x2 + 1)), g.2.1, g.2.2.1, g.2.2.2.1, g.2.2.2.2)) := hD
      refine lv_iload hx hb dR_thread_168 (lv_at hl 1 rfl) ?_
      exact mp_rim (cf := cR k ad) cx h hP hS dR_thread_170
    · have h := mp_f c1 h
      refine lv_aload_n hx hb dR_thread_120 rfl (lv_at hl 0 rfl) ?_
      refine mp_gR cx hE hP iR 0 rfl 0 (by decide) wq_401 rfl (v := .ref (ad 1)) rfl dR_thread_121 ?_
      refine lv_sipush (v := 159) hx hb dR_thread_124 (by decide) ?_
      refine lv_bipush (v := 6) hx hb dR_thread_127 (by decide) ?_
      refine lv_iload hx hb dR_thread_129 (lv_at hl 1 rfl) ?_
      refine lv_imul hx hb dR_thread_131 ?_
      refine lv_iadd hx hb dR_thread_132 ?_
      refine lv_iload hx hb dR_thread_133 (lv_at hl 3 rfl) ?_
      refine lv_iadd hx hb dR_thread_135 ?_
      refine lv_lload hx hb dR_thread_136 (lv_at hl 2 rfl) ?_
      refine lv_ldc2 (v := 100) hx hb hown (hts _ wq_441) dR_thread_138 ?_
      refine lv_lrem hx hb dR_thread_141 (by decide) ?_
      refine lv_l2i hx hb dR_thread_142 rfl ?_
      obtain ⟨hi, h⟩ := mp_sts h
      refine va_iast hx hb hE.1 hP hD hS 1 0 (f := g.1) (n := 231) rfl rfl hi dR_thread_143 (fun H locs hP hD hS => ?_)
      have hP : va_P (kD k) mp_cls (cR k ad ((upd g.1 (Int32.toNatClampNeg ((159 + (6 * a5)) + a8)) (Int64.toInt32 (a6 - a6 / 100 * 100))), g.2.1, g.2.2.1, g.2.2.2.1, g.2.2.2.2)) H := hP
      have hD : va_D (mp_A (aR ad)) (cR k ad ((upd g.1 (Int32.toNatClampNeg ((159 + (6 * a5)) + a8)) (Int64.toInt32 (a6 - a6 / 100 * 100))), g.2.1, g.2.2.1, g.2.2.2.1, g.2.2.2.2)) := hD
      refine lv_lload hx hb dR_thread_144 (lv_at hl 2 rfl) ?_
      refine lv_ldc2 (v := 100) hx hb hown (hts _ wq_441) dR_thread_146 ?_
      refine lv_ldiv hx hb dR_thread_149 (by decide) ?_
      refine lv_lstore (lv' := [(6, .long (a6 / 100)), (0, .ref (ad 0)), (5, .int a5), (8, .int a8)]) hx hb dR_thread_150 hl (by decide) rfl (fun ls hl => ?_)
      refine lv_iinc (v := (a8 + (-1))) (lv' := [(8, .int (a8 + (-1))), (6, .long (a6 / 100)), (0, .ref (ad 0)), (5, .int a5)]) hx hb dR_thread_152 hl (k := 3) rfl rfl (by decide) rfl (fun ls hl => ?_)
      refine lv_goto (tgt := 115) hx hb dR_thread_155 (by decide) ?_
      exact ih ((upd g.1 (Int32.toNatClampNeg ((159 + (6 * a5)) + a8)) (Int64.toInt32 (a6 - a6 / 100 * 100))), g.2.1, g.2.2.1, g.2.2.2.1, g.2.2.2.2) (a6 / 100) (a8 + (-1)) h _ _ hP hD hS ls (lv_sub hl [2, 3, 1, 0] rfl)
def fR_thread (g : SR) (a1 : Int32) (a2 : Int64) : Option (Int32 × SR) := (fR_isPlace g a1).bind fun x1 => (if x1 = 0 then some ((-1), g) else (fR_actsIn a2).bind fun x3 => (if (lg_cmp a2 0) ≤ 0 then some ((-2), g) else (fR_between x3 1 6).bind fun x5 => (if x5 = 0 then some ((-2), g) else mp_ld g.1 231 1 fun x7 => (if x7 = 12 then some ((-4), g) else mp_ld g.1 231 1 fun x9 => mp_st 231 (111 + x9) (mp_st 231 (123 + x9) (mp_st 231 (135 + x9) (mp_st 231 (147 + x9) (fR_thread_115 x9 2000 ((upd (upd (upd (upd g.1 (Int32.toNatClampNeg (111 + x9)) a1) (Int32.toNatClampNeg (123 + x9)) x3) (Int32.toNatClampNeg (135 + x9)) 0) (Int32.toNatClampNeg (147 + x9)) (-9)), g.2.1, g.2.2.1, g.2.2.2.1, g.2.2.2.2) a2 (x3 - 1)))))))))
set_option maxHeartbeats 4000000 in
set_option maxRecDepth 100000 in
theorem wR_thread {p : Program} {l : Launch} {e : Env} {s : State} {m : MethodId} {args : Array Value} {below : List Frame} {meth : Method} {c : Code} (cx : mp_C p s m args meth c bR_thread 9 (some .int) rR) (k : KK) (ad : Nat → Nat) (g : SR) (a1 : Int32) (a2 : Int64) (z : (Int32 × SR)) (hE : mp_E k s) (hAN : ∀ q, mp_A (aR ad) q → mp_N k q) {H : Heap} {locs : List Loc} (hP : va_P (kD k) mp_cls (cR k ad g) H) (hD : va_D (mp_A (aR ad)) (cR k ad g)) (hS : va_S (mp_A (aR ad)) s.heap H locs) (h : fR_thread g a1 a2 = some z) (ls : Array Slot) (hl : lv_has ls 9 [(0, .ref (ad 0)), (1, .int a1), (2, .long a2)]) : W p l e rmR_thread s m args below meth c H locs 0 0 (MQ below (mp_Qm k (some (.int z.1)) (cR k ad z.2) (aR ad)) args s 0 0 (mp_A (aR ad))) (F0 m 0 ls []) := by
  obtain ⟨hx, hb, -, hml, hown, hts, -⟩ := id cx
  unfold fR_thread at h
  refine lv_aload_n hx hb dR_thread_0 rfl (lv_at hl 0 rfl) ?_
  refine lv_iload_n hx hb dR_thread_1 rfl (lv_at hl 1 rfl) ?_
  obtain ⟨x1, ex1, h⟩ := mp_bs h
  refine mp_si (mp_runV (As := [.int a1]) (rest := []) cx kV_R_30 (cR_isPlace l k ad g a1 x1 ex1) ⟨rfl, rfl, Nat.le_of_ble_eq_true rfl, Nat.le_of_ble_eq_true rfl⟩ ⟨Nat.zero_le _, Nat.zero_le _⟩ hE hP (mp_Dw hD hAN) (mp_S hS hAN) 0 rfl rfl rfl hl.1 rfl (Nat.le_of_ble_eq_true rfl) dR_thread_2) ?_
  refine lv_if_ne (tgt := 10) hx hb dR_thread_5 (by decide) (fun c2 => ?_) (fun c2 => ?_)
  · have h := mp_f c2 h
    refine lv_lload_n hx hb dR_thread_10 rfl (lv_at hl 2 rfl) ?_
    obtain ⟨x3, ex3, h⟩ := mp_bs h
    refine mp_si (mp_runT (As := [.long a2]) (rest := []) cx kT_R_42 (cR_actsIn l k a2 x3 ex3) ⟨rfl, rfl, Nat.le_of_ble_eq_true rfl, Nat.le_of_ble_eq_true rfl⟩ ⟨Nat.zero_le _, Nat.zero_le _⟩ hE mp_P0 mp_D0 (mp_S hS hAN) hl.1 rfl (Nat.le_of_ble_eq_true rfl) dR_thread_11) ?_
    refine lv_istore (lv' := [(4, .int x3), (0, .ref (ad 0)), (1, .int a1), (2, .long a2)]) hx hb dR_thread_14 hl (by decide) rfl (fun ls hl => ?_)
    refine lv_lload_n hx hb dR_thread_16 rfl (lv_at hl 3 rfl) ?_
    refine lv_lconst (v := 0) hx hb dR_thread_17 (by decide) ?_
    refine W.lcmp hx hb dR_thread_18 ?_
    refine lv_if_le (tgt := 33) hx hb dR_thread_19 (by decide) (fun c4 => ?_) (fun c4 => ?_)
    · have h := mp_t c4 h
      refine lv_bipush (v := (-2)) hx hb dR_thread_33 (by decide) ?_
      exact mp_rim (cf := cR k ad) cx h hP hS dR_thread_35
    · have h := mp_f c4 h
      refine lv_iload hx hb dR_thread_22 (lv_at hl 0 rfl) ?_
      refine lv_iconst (v := 1) hx hb dR_thread_24 (by decide) ?_
      refine lv_bipush (v := 6) hx hb dR_thread_25 (by decide) ?_
      obtain ⟨x5, ex5, h⟩ := mp_bs h
      refine mp_si (mp_runT (As := [.int x3, .int 1, .int 6]) (rest := []) cx kT_R_22 (cR_between l k x3 1 6 x5 ex5) ⟨rfl, rfl, Nat.le_of_ble_eq_true rfl, Nat.le_of_ble_eq_true rfl⟩ ⟨Nat.zero_le _, Nat.zero_le _⟩ hE mp_P0 mp_D0 (mp_S hS hAN) hl.1 rfl (Nat.le_of_ble_eq_true rfl) dR_thread_27) ?_
      refine lv_if_ne (tgt := 36) hx hb dR_thread_30 (by decide) (fun c6 => ?_) (fun c6 => ?_)
      · have h := mp_f c6 h
        refine lv_aload_n hx hb dR_thread_36 rfl (lv_at hl 1 rfl) ?_
        refine mp_gR cx hE hP iR 0 rfl 0 (by decide) wq_401 rfl (v := .ref (ad 1)) rfl dR_thread_37 ?_
        refine lv_iconst (v := 1) hx hb dR_thread_40 (by decide) ?_
        obtain ⟨hi, x7, ex7, h⟩ := mp_lds h
        refine va_iald hx hb hE.1 hP 1 0 (f := g.1) (n := 231) rfl rfl hi dR_thread_41 ?_
        refine mp_top ex7 ?_
        refine lv_bipush (v := 12) hx hb dR_thread_42 (by decide) ?_
        refine lv_icmp_ne (tgt := 50) hx hb dR_thread_44 (by decide) (fun c8 => ?_) (fun c8 => ?_)
        · have h := mp_f c8 h
          refine lv_aload_n hx hb dR_thread_50 rfl (lv_at hl 1 rfl) ?_
          refine mp_gR cx hE hP iR 0 rfl 0 (by decide) wq_401 rfl (v := .ref (ad 1)) rfl dR_thread_51 ?_
          refine lv_iconst (v := 1) hx hb dR_thread_54 (by decide) ?_
          obtain ⟨hi, x9, ex9, h⟩ := mp_lds h
          refine va_iald hx hb hE.1 hP 1 0 (f := g.1) (n := 231) rfl rfl hi dR_thread_55 ?_
          refine mp_top ex9 ?_
          refine lv_istore (lv' := [(5, .int x9), (4, .int x3), (0, .ref (ad 0)), (1, .int a1), (2, .long a2)]) hx hb dR_thread_56 hl (by decide) rfl (fun ls hl => ?_)
          refine lv_aload_n hx hb dR_thread_58 rfl (lv_at hl 2 rfl) ?_
          refine mp_gR cx hE hP iR 0 rfl 0 (by decide) wq_401 rfl (v := .ref (ad 1)) rfl dR_thread_59 ?_
          refine lv_bipush (v := 111) hx hb dR_thread_62 (by decide) ?_
          refine lv_iload hx hb dR_thread_64 (lv_at hl 0 rfl) ?_
          refine lv_iadd hx hb dR_thread_66 ?_
          refine lv_iload_n hx hb dR_thread_67 rfl (lv_at hl 3 rfl) ?_
          obtain ⟨hi, h⟩ := mp_sts h
          refine va_iast hx hb hE.1 hP hD hS 1 0 (f := g.1) (n := 231) rfl rfl hi dR_thread_68 (fun H locs hP hD hS => ?_)
          have hP : va_P (kD k) mp_cls (cR k ad ((upd g.1 (Int32.toNatClampNeg (111 + x9)) a1), g.2.1, g.2.2.1, g.2.2.2.1, g.2.2.2.2)) H := hP
          have hD : va_D (mp_A (aR ad)) (cR k ad ((upd g.1 (Int32.toNatClampNeg (111 + x9)) a1), g.2.1, g.2.2.1, g.2.2.2.1, g.2.2.2.2)) := hD
          refine lv_aload_n hx hb dR_thread_69 rfl (lv_at hl 2 rfl) ?_
          refine mp_gR cx hE hP iR 0 rfl 0 (by decide) wq_401 rfl (v := .ref (ad 1)) rfl dR_thread_70 ?_
          refine lv_bipush (v := 123) hx hb dR_thread_73 (by decide) ?_
          refine lv_iload hx hb dR_thread_75 (lv_at hl 0 rfl) ?_
          refine lv_iadd hx hb dR_thread_77 ?_
          refine lv_iload hx hb dR_thread_78 (lv_at hl 1 rfl) ?_
          obtain ⟨hi, h⟩ := mp_sts h
          refine va_iast hx hb hE.1 hP hD hS 1 0 (f := (upd g.1 (Int32.toNatClampNeg (111 + x9)) a1)) (n := 231) rfl rfl hi dR_thread_80 (fun H locs hP hD hS => ?_)
          have hP : va_P (kD k) mp_cls (cR k ad ((upd (upd g.1 (Int32.toNatClampNeg (111 + x9)) a1) (Int32.toNatClampNeg (123 + x9)) x3), g.2.1, g.2.2.1, g.2.2.2.1, g.2.2.2.2)) H := hP
          have hD : va_D (mp_A (aR ad)) (cR k ad ((upd (upd g.1 (Int32.toNatClampNeg (111 + x9)) a1) (Int32.toNatClampNeg (123 + x9)) x3), g.2.1, g.2.2.1, g.2.2.2.1, g.2.2.2.2)) := hD
          refine lv_aload_n hx hb dR_thread_81 rfl (lv_at hl 2 rfl) ?_
          refine mp_gR cx hE hP iR 0 rfl 0 (by decide) wq_401 rfl (v := .ref (ad 1)) rfl dR_thread_82 ?_
          refine lv_sipush (v := 135) hx hb dR_thread_85 (by decide) ?_
          refine lv_iload hx hb dR_thread_88 (lv_at hl 0 rfl) ?_
          refine lv_iadd hx hb dR_thread_90 ?_
          refine lv_iconst (v := 0) hx hb dR_thread_91 (by decide) ?_
          obtain ⟨hi, h⟩ := mp_sts h
          refine va_iast hx hb hE.1 hP hD hS 1 0 (f := (upd (upd g.1 (Int32.toNatClampNeg (111 + x9)) a1) (Int32.toNatClampNeg (123 + x9)) x3)) (n := 231) rfl rfl hi dR_thread_92 (fun H locs hP hD hS => ?_)
          have hP : va_P (kD k) mp_cls (cR k ad ((upd (upd (upd g.1 (Int32.toNatClampNeg (111 + x9)) a1) (Int32.toNatClampNeg (123 + x9)) x3) (Int32.toNatClampNeg (135 + x9)) 0), g.2.1, g.2.2.1, g.2.2.2.1, g.2.2.2.2)) H := hP
          have hD : va_D (mp_A (aR ad)) (cR k ad ((upd (upd (upd g.1 (Int32.toNatClampNeg (111 + x9)) a1) (Int32.toNatClampNeg (123 + x9)) x3) (Int32.toNatClampNeg (135 + x9)) 0), g.2.1, g.2.2.1, g.2.2.2.1, g.2.2.2.2)) := hD
          refine lv_aload_n hx hb dR_thread_93 rfl (lv_at hl 2 rfl) ?_
          refine mp_gR cx hE hP iR 0 rfl 0 (by decide) wq_401 rfl (v := .ref (ad 1)) rfl dR_thread_94 ?_
          refine lv_sipush (v := 147) hx hb dR_thread_97 (by decide) ?_
          refine lv_iload hx hb dR_thread_100 (lv_at hl 0 rfl) ?_
          refine lv_iadd hx hb dR_thread_102 ?_
          refine lv_bipush (v := (-9)) hx hb dR_thread_103 (by decide) ?_
          obtain ⟨hi, h⟩ := mp_sts h
          refine va_iast hx hb hE.1 hP hD hS 1 0 (f := (upd (upd (upd g.1 (Int32.toNatClampNeg (111 + x9)) a1) (Int32.toNatClampNeg (123 + x9)) x3) (Int32.toNatClampNeg (135 + x9)) 0)) (n := 231) rfl rfl hi dR_thread_105 (fun H locs hP hD hS => ?_)
          have hP : va_P (kD k) mp_cls (cR k ad ((upd (upd (upd (upd g.1 (Int32.toNatClampNeg (111 + x9)) a1) (Int32.toNatClampNeg (123 + x9)) x3) (Int32.toNatClampNeg (135 + x9)) 0) (Int32.toNatClampNeg (147 + x9)) (-9)), g.2.1, g.2.2.1, g.2.2.2.1, g.2.2.2.2)) H := hP
          have hD : va_D (mp_A (aR ad)) (cR k ad ((upd (upd (upd (upd g.1 (Int32.toNatClampNeg (111 + x9)) a1) (Int32.toNatClampNeg (123 + x9)) x3) (Int32.toNatClampNeg (135 + x9)) 0) (Int32.toNatClampNeg (147 + x9)) (-9)), g.2.1, g.2.2.1, g.2.2.2.1, g.2.2.2.2)) := hD
          refine lv_lload_n hx hb dR_thread_106 rfl (lv_at hl 4 rfl) ?_
          refine lv_lstore (lv' := [(6, .long a2), (5, .int x9), (4, .int x3), (0, .ref (ad 0)), (1, .int a1), (2, .long a2)]) hx hb dR_thread_107 hl (by decide) rfl (fun ls hl => ?_)
          refine lv_iload hx hb dR_thread_109 (lv_at hl 2 rfl) ?_
          refine lv_iconst (v := 1) hx hb dR_thread_111 (by decide) ?_
          refine lv_isub hx hb dR_thread_112 ?_
          refine lv_istore (lv' := [(8, .int (x3 - 1)), (6, .long a2), (5, .int x9), (4, .int x3), (0, .ref (ad 0)), (1, .int a1), (2, .long a2)]) hx hb dR_thread_113 hl (by decide) rfl (fun ls hl => ?_)
          exact lR_thread_115 cx k ad x9 z hE hAN _ ((upd (upd (upd (upd g.1 (Int32.toNatClampNeg (111 + x9)) a1) (Int32.toNatClampNeg (123 + x9)) x3) (Int32.toNatClampNeg (135 + x9)) 0) (Int32.toNatClampNeg (147 + x9)) (-9)), g.2.1, g.2.2.1, g.2.2.2.1, g.2.2.2.2) a2 (x3 - 1) h _ _ hP hD hS ls (lv_sub hl [4, 2, 1, 0] rfl)
        · have h := mp_t c8 h
          refine lv_bipush (v := (-4)) hx hb dR_thread_47 (by decide) ?_
          exact mp_rim (cf := cR k ad) cx h hP hS dR_thread_49
      · have h := mp_t c6 h
        refine lv_bipush (v := (-2)) hx hb dR_thread_33 (by decide) ?_
        exact mp_rim (cf := cR k ad) cx h hP hS dR_thread_35
  · have h := mp_t c2 h
    refine lv_iconst (v := (-1)) hx hb dR_thread_8 (by decide) ?_
    exact mp_rim (cf := cR k ad) cx h hP hS dR_thread_9
theorem cR_thread (l : Launch) (k : KK) (ad : Nat → Nat) (g : SR) (a1 : Int32) (a2 : Int64) (z : (Int32 × SR)) (h : fR_thread g a1 a2 = some z) : mp_CM l k yR_thread bR_thread 9 (some .int) rmR_thread [.ref (ad 0), .int a1, .long a2] (cR k ad g) (cR k ad z.2) (aR ad) (some (.int z.1)) := by
  refine Met.ofW (cc := bR_thread) (maxL := 9) (ret := (some .int)) (by decide) rfl ?_
  intro p e s m args below meth c s₁ B hml hv
  obtain ⟨rfl, hP, hD, hE⟩ := hv
  have hl := lv_entry ([.ref (ad 0), .int a1, .long a2]) (n := 9) (Nat.le_of_ble_eq_true rfl)
  rw [lg_entry_eq]
  generalize (lg_sl ([.ref (ad 0), .int a1, .long a2]) ++ List.replicate (9 - (lg_sl ([.ref (ad 0), .int a1, .long a2])).length) Slot.unset).toArray = ls at hl ⊢
  exact wR_thread (mp_C.of B hml) k ad g a1 a2 z hE (mp_new hD rfl) hP (mp_own hD rfl) va_S.rf h ls hl
-- MovingPlacesModel.seal
abbrev rmR_seal : Room := { frames := 2, cells := 0, slots := 0, locals := 43 }
def fR_seal (g : SR) (a1 : Int32) (a2 : Int32) : Option (Int32 × SR) := (fR_isPlace g a1).bind fun x1 => (if x1 = 0 then some ((-1), g) else (if a1 = 0 then some ((-3), g) else (if a2 = 0 then mp_ld g.1 231 (27 + a1) fun x5 => (if x5 = 0 then mp_st 231 (27 + a1) (some (0, ((upd g.1 (Int32.toNatClampNeg (27 + a1)) 0), g.2.1, g.2.2.1, g.2.2.2.1, g.2.2.2.2))) else mp_st 231 (27 + a1) (some (1, ((upd g.1 (Int32.toNatClampNeg (27 + a1)) 0), g.2.1, g.2.2.1, g.2.2.2.1, g.2.2.2.2)))) else mp_ld g.1 231 (27 + a1) fun x7 => (if x7 = 1 then mp_st 231 (27 + a1) (some (0, ((upd g.1 (Int32.toNatClampNeg (27 + a1)) 1), g.2.1, g.2.2.1, g.2.2.2.1, g.2.2.2.2))) else mp_st 231 (27 + a1) (some (1, ((upd g.1 (Int32.toNatClampNeg (27 + a1)) 1), g.2.1, g.2.2.1, g.2.2.2.1, g.2.2.2.2)))))))
set_option maxHeartbeats 4000000 in
set_option maxRecDepth 100000 in
theorem wR_seal {p : Program} {l : Launch} {e : Env} {s : State} {m : MethodId} {args : Array Value} {below : List Frame} {meth : Method} {c : Code} (cx : mp_C p s m args meth c bR_seal 5 (some .int) rR) (k : KK) (ad : Nat → Nat) (g : SR) (a1 : Int32) (a2 : Int32) (z : (Int32 × SR)) (hE : mp_E k s) (hAN : ∀ q, mp_A (aR ad) q → mp_N k q) {H : Heap} {locs : List Loc} (hP : va_P (kD k) mp_cls (cR k ad g) H) (hD : va_D (mp_A (aR ad)) (cR k ad g)) (hS : va_S (mp_A (aR ad)) s.heap H locs) (h : fR_seal g a1 a2 = some z) (ls : Array Slot) (hl : lv_has ls 5 [(0, .ref (ad 0)), (1, .int a1), (2, .int a2)]) : W p l e rmR_seal s m args below meth c H locs 0 0 (MQ below (mp_Qm k (some (.int z.1)) (cR k ad z.2) (aR ad)) args s 0 0 (mp_A (aR ad))) (F0 m 0 ls []) := by
  obtain ⟨hx, hb, -, hml, hown, hts, -⟩ := id cx
  unfold fR_seal at h
  refine lv_aload_n hx hb dR_seal_0 rfl (lv_at hl 0 rfl) ?_
  refine lv_iload_n hx hb dR_seal_1 rfl (lv_at hl 1 rfl) ?_
  obtain ⟨x1, ex1, h⟩ := mp_bs h
  refine mp_si (mp_runV (As := [.int a1]) (rest := []) cx kV_R_30 (cR_isPlace l k ad g a1 x1 ex1) ⟨rfl, rfl, Nat.le_of_ble_eq_true rfl, Nat.le_of_ble_eq_true rfl⟩ ⟨Nat.zero_le _, Nat.zero_le _⟩ hE hP (mp_Dw hD hAN) (mp_S hS hAN) 0 rfl rfl rfl hl.1 rfl (Nat.le_of_ble_eq_true rfl) dR_seal_2) ?_
  refine lv_if_ne (tgt := 10) hx hb dR_seal_5 (by decide) (fun c2 => ?_) (fun c2 => ?_)
  · have h := mp_f c2 h
    refine lv_iload_n hx hb dR_seal_10 rfl (lv_at hl 1 rfl) ?_
    refine lv_if_ne (tgt := 17) hx hb dR_seal_11 (by decide) (fun c3 => ?_) (fun c3 => ?_)
    · have h := mp_f c3 h
      refine lv_iload_n hx hb dR_seal_17 rfl (lv_at hl 2 rfl) ?_
      refine lv_if_eq (tgt := 25) hx hb dR_seal_18 (by decide) (fun c4 => ?_) (fun c4 => ?_)
      · have h := mp_t c4 h
        refine lv_iconst (v := 0) hx hb dR_seal_25 (by decide) ?_
        refine lv_istore_n (lv' := [(3, .int 0), (0, .ref (ad 0)), (1, .int a1), (2, .int a2)]) hx hb dR_seal_26 rfl hl (by decide) rfl (fun ls hl => ?_)
        refine lv_aload_n hx hb dR_seal_27 rfl (lv_at hl 1 rfl) ?_
        refine mp_gR cx hE hP iR 0 rfl 0 (by decide) wq_401 rfl (v := .ref (ad 1)) rfl dR_seal_28 ?_
        refine lv_bipush (v := 27) hx hb dR_seal_31 (by decide) ?_
        refine lv_iload_n hx hb dR_seal_33 rfl (lv_at hl 2 rfl) ?_
        refine lv_iadd hx hb dR_seal_34 ?_
        obtain ⟨hi, x5, ex5, h⟩ := mp_lds h
        refine va_iald hx hb hE.1 hP 1 0 (f := g.1) (n := 231) rfl rfl hi dR_seal_35 ?_
        refine mp_top ex5 ?_
        refine lv_iload_n hx hb dR_seal_36 rfl (lv_at hl 0 rfl) ?_
        refine lv_icmp_ne (tgt := 44) hx hb dR_seal_37 (by decide) (fun c6 => ?_) (fun c6 => ?_)
        · have h := mp_f c6 h
          refine lv_iconst (v := 1) hx hb dR_seal_44 (by decide) ?_
          refine lv_istore (lv' := [(4, .int 1), (3, .int 0), (0, .ref (ad 0)), (1, .int a1), (2, .int a2)]) hx hb dR_seal_45 hl (by decide) rfl (fun ls hl => ?_)
          refine lv_aload_n hx hb dR_seal_47 rfl (lv_at hl 2 rfl) ?_
          refine mp_gR cx hE hP iR 0 rfl 0 (by decide) wq_401 rfl (v := .ref (ad 1)) rfl dR_seal_48 ?_
          refine lv_bipush (v := 27) hx hb dR_seal_51 (by decide) ?_
          refine lv_iload_n hx hb dR_seal_53 rfl (lv_at hl 3 rfl) ?_
          refine lv_iadd hx hb dR_seal_54 ?_
          refine lv_iload_n hx hb dR_seal_55 rfl (lv_at hl 1 rfl) ?_
          obtain ⟨hi, h⟩ := mp_sts h
          refine va_iast hx hb hE.1 hP hD hS 1 0 (f := g.1) (n := 231) rfl rfl hi dR_seal_56 (fun H locs hP hD hS => ?_)
          have hP : va_P (kD k) mp_cls (cR k ad ((upd g.1 (Int32.toNatClampNeg (27 + a1)) 0), g.2.1, g.2.2.1, g.2.2.2.1, g.2.2.2.2)) H := hP
          have hD : va_D (mp_A (aR ad)) (cR k ad ((upd g.1 (Int32.toNatClampNeg (27 + a1)) 0), g.2.1, g.2.2.1, g.2.2.2.1, g.2.2.2.2)) := hD
          refine lv_iload hx hb dR_seal_57 (lv_at hl 0 rfl) ?_
          exact mp_rim (cf := cR k ad) cx h hP hS dR_seal_59
        · have h := mp_t c6 h
          refine lv_iconst (v := 0) hx hb dR_seal_40 (by decide) ?_
          refine lv_goto (tgt := 45) hx hb dR_seal_41 (by decide) ?_
          refine lv_istore (lv' := [(4, .int 0), (3, .int 0), (0, .ref (ad 0)), (1, .int a1), (2, .int a2)]) hx hb dR_seal_45 hl (by decide) rfl (fun ls hl => ?_)
          refine lv_aload_n hx hb dR_seal_47 rfl (lv_at hl 2 rfl) ?_
          refine mp_gR cx hE hP iR 0 rfl 0 (by decide) wq_401 rfl (v := .ref (ad 1)) rfl dR_seal_48 ?_
          refine lv_bipush (v := 27) hx hb dR_seal_51 (by decide) ?_
          refine lv_iload_n hx hb dR_seal_53 rfl (lv_at hl 3 rfl) ?_
          refine lv_iadd hx hb dR_seal_54 ?_
          refine lv_iload_n hx hb dR_seal_55 rfl (lv_at hl 1 rfl) ?_
          obtain ⟨hi, h⟩ := mp_sts h
          refine va_iast hx hb hE.1 hP hD hS 1 0 (f := g.1) (n := 231) rfl rfl hi dR_seal_56 (fun H locs hP hD hS => ?_)
          have hP : va_P (kD k) mp_cls (cR k ad ((upd g.1 (Int32.toNatClampNeg (27 + a1)) 0), g.2.1, g.2.2.1, g.2.2.2.1, g.2.2.2.2)) H := hP
          have hD : va_D (mp_A (aR ad)) (cR k ad ((upd g.1 (Int32.toNatClampNeg (27 + a1)) 0), g.2.1, g.2.2.1, g.2.2.2.1, g.2.2.2.2)) := hD
          refine lv_iload hx hb dR_seal_57 (lv_at hl 0 rfl) ?_
          exact mp_rim (cf := cR k ad) cx h hP hS dR_seal_59
      · have h := mp_f c4 h
        refine lv_iconst (v := 1) hx hb dR_seal_21 (by decide) ?_
        refine lv_goto (tgt := 26) hx hb dR_seal_22 (by decide) ?_
        refine lv_istore_n (lv' := [(3, .int 1), (0, .ref (ad 0)), (1, .int a1), (2, .int a2)]) hx hb dR_seal_26 rfl hl (by decide) rfl (fun ls hl => ?_)
        refine lv_aload_n hx hb dR_seal_27 rfl (lv_at hl 1 rfl) ?_
        refine mp_gR cx hE hP iR 0 rfl 0 (by decide) wq_401 rfl (v := .ref (ad 1)) rfl dR_seal_28 ?_
        refine lv_bipush (v := 27) hx hb dR_seal_31 (by decide) ?_
        refine lv_iload_n hx hb dR_seal_33 rfl (lv_at hl 2 rfl) ?_
        refine lv_iadd hx hb dR_seal_34 ?_
        obtain ⟨hi, x7, ex7, h⟩ := mp_lds h
        refine va_iald hx hb hE.1 hP 1 0 (f := g.1) (n := 231) rfl rfl hi dR_seal_35 ?_
        refine mp_top ex7 ?_
        refine lv_iload_n hx hb dR_seal_36 rfl (lv_at hl 0 rfl) ?_
        refine lv_icmp_ne (tgt := 44) hx hb dR_seal_37 (by decide) (fun c8 => ?_) (fun c8 => ?_)
        · have h := mp_f c8 h
          refine lv_iconst (v := 1) hx hb dR_seal_44 (by decide) ?_
          refine lv_istore (lv' := [(4, .int 1), (3, .int 1), (0, .ref (ad 0)), (1, .int a1), (2, .int a2)]) hx hb dR_seal_45 hl (by decide) rfl (fun ls hl => ?_)
          refine lv_aload_n hx hb dR_seal_47 rfl (lv_at hl 2 rfl) ?_
          refine mp_gR cx hE hP iR 0 rfl 0 (by decide) wq_401 rfl (v := .ref (ad 1)) rfl dR_seal_48 ?_
          refine lv_bipush (v := 27) hx hb dR_seal_51 (by decide) ?_
          refine lv_iload_n hx hb dR_seal_53 rfl (lv_at hl 3 rfl) ?_
          refine lv_iadd hx hb dR_seal_54 ?_
          refine lv_iload_n hx hb dR_seal_55 rfl (lv_at hl 1 rfl) ?_
          obtain ⟨hi, h⟩ := mp_sts h
          refine va_iast hx hb hE.1 hP hD hS 1 0 (f := g.1) (n := 231) rfl rfl hi dR_seal_56 (fun H locs hP hD hS => ?_)
          have hP : va_P (kD k) mp_cls (cR k ad ((upd g.1 (Int32.toNatClampNeg (27 + a1)) 1), g.2.1, g.2.2.1, g.2.2.2.1, g.2.2.2.2)) H := hP
          have hD : va_D (mp_A (aR ad)) (cR k ad ((upd g.1 (Int32.toNatClampNeg (27 + a1)) 1), g.2.1, g.2.2.1, g.2.2.2.1, g.2.2.2.2)) := hD
          refine lv_iload hx hb dR_seal_57 (lv_at hl 0 rfl) ?_
          exact mp_rim (cf := cR k ad) cx h hP hS dR_seal_59
        · have h := mp_t c8 h
          refine lv_iconst (v := 0) hx hb dR_seal_40 (by decide) ?_
          refine lv_goto (tgt := 45) hx hb dR_seal_41 (by decide) ?_
          refine lv_istore (lv' := [(4, .int 0), (3, .int 1), (0, .ref (ad 0)), (1, .int a1), (2, .int a2)]) hx hb dR_seal_45 hl (by decide) rfl (fun ls hl => ?_)
          refine lv_aload_n hx hb dR_seal_47 rfl (lv_at hl 2 rfl) ?_
          refine mp_gR cx hE hP iR 0 rfl 0 (by decide) wq_401 rfl (v := .ref (ad 1)) rfl dR_seal_48 ?_
          refine lv_bipush (v := 27) hx hb dR_seal_51 (by decide) ?_
          refine lv_iload_n hx hb dR_seal_53 rfl (lv_at hl 3 rfl) ?_
          refine lv_iadd hx hb dR_seal_54 ?_
          refine lv_iload_n hx hb dR_seal_55 rfl (lv_at hl 1 rfl) ?_
          obtain ⟨hi, h⟩ := mp_sts h
          refine va_iast hx hb hE.1 hP hD hS 1 0 (f := g.1) (n := 231) rfl rfl hi dR_seal_56 (fun H locs hP hD hS => ?_)
          have hP : va_P (kD k) mp_cls (cR k ad ((upd g.1 (Int32.toNatClampNeg (27 + a1)) 1), g.2.1, g.2.2.1, g.2.2.2.1, g.2.2.2.2)) H := hP
          have hD : va_D (mp_A (aR ad)) (cR k ad ((upd g.1 (Int32.toNatClampNeg (27 + a1)) 1), g.2.1, g.2.2.1, g.2.2.2.1, g.2.2.2.2)) := hD
          refine lv_iload hx hb dR_seal_57 (lv_at hl 0 rfl) ?_
          exact mp_rim (cf := cR k ad) cx h hP hS dR_seal_59
    · have h := mp_t c3 h
      refine lv_bipush (v := (-3)) hx hb dR_seal_14 (by decide) ?_
      exact mp_rim (cf := cR k ad) cx h hP hS dR_seal_16
  · have h := mp_t c2 h
    refine lv_iconst (v := (-1)) hx hb dR_seal_8 (by decide) ?_
    exact mp_rim (cf := cR k ad) cx h hP hS dR_seal_9
theorem cR_seal (l : Launch) (k : KK) (ad : Nat → Nat) (g : SR) (a1 : Int32) (a2 : Int32) (z : (Int32 × SR)) (h : fR_seal g a1 a2 = some z) : mp_CM l k yR_seal bR_seal 5 (some .int) rmR_seal [.ref (ad 0), .int a1, .int a2] (cR k ad g) (cR k ad z.2) (aR ad) (some (.int z.1)) := by
  refine Met.ofW (cc := bR_seal) (maxL := 5) (ret := (some .int)) (by decide) rfl ?_
  intro p e s m args below meth c s₁ B hml hv
  obtain ⟨rfl, hP, hD, hE⟩ := hv
  have hl := lv_entry ([.ref (ad 0), .int a1, .int a2]) (n := 5) (Nat.le_of_ble_eq_true rfl)
  rw [lg_entry_eq]
  generalize (lg_sl ([.ref (ad 0), .int a1, .int a2]) ++ List.replicate (5 - (lg_sl ([.ref (ad 0), .int a1, .int a2])).length) Slot.unset).toArray = ls at hl ⊢
  exact wR_seal (mp_C.of B hml) k ad g a1 a2 z hE (mp_new hD rfl) hP (mp_own hD rfl) va_S.rf h ls hl
-- MovingPlacesModel.message
abbrev rmR_message : Room := { frames := 2, cells := 0, slots := 0, locals := 43 }
def fR_message (g : SR) (a1 : Int32) (a2 : Int32) : Option (Int32 × SR) := (fR_isPlace g a1).bind fun x1 => (if x1 = 0 then some ((-1), g) else (fR_isName a2).bind fun x3 => (if x3 = 0 then some ((-1), g) else mp_ld g.1 231 ((39 + (6 * a1)) + a2) fun x5 => (if x5 < 90 then mp_ld g.1 231 ((39 + (6 * a1)) + a2) fun x7 => mp_st 231 ((39 + (6 * a1)) + a2) (mp_ld (upd g.1 (Int32.toNatClampNeg ((39 + (6 * a1)) + a2)) (x7 + 1)) 231 ((39 + (6 * a1)) + a2) fun x8 => some (x8, ((upd g.1 (Int32.toNatClampNeg ((39 + (6 * a1)) + a2)) (x7 + 1)), g.2.1, g.2.2.1, g.2.2.2.1, g.2.2.2.2))) else some ((-4), g))))
set_option maxHeartbeats 4000000 in
set_option maxRecDepth 100000 in
theorem wR_message {p : Program} {l : Launch} {e : Env} {s : State} {m : MethodId} {args : Array Value} {below : List Frame} {meth : Method} {c : Code} (cx : mp_C p s m args meth c bR_message 3 (some .int) rR) (k : KK) (ad : Nat → Nat) (g : SR) (a1 : Int32) (a2 : Int32) (z : (Int32 × SR)) (hE : mp_E k s) (hAN : ∀ q, mp_A (aR ad) q → mp_N k q) {H : Heap} {locs : List Loc} (hP : va_P (kD k) mp_cls (cR k ad g) H) (hD : va_D (mp_A (aR ad)) (cR k ad g)) (hS : va_S (mp_A (aR ad)) s.heap H locs) (h : fR_message g a1 a2 = some z) (ls : Array Slot) (hl : lv_has ls 3 [(0, .ref (ad 0)), (1, .int a1), (2, .int a2)]) : W p l e rmR_message s m args below meth c H locs 0 0 (MQ below (mp_Qm k (some (.int z.1)) (cR k ad z.2) (aR ad)) args s 0 0 (mp_A (aR ad))) (F0 m 0 ls []) := by
  obtain ⟨hx, hb, -, hml, hown, hts, -⟩ := id cx
  unfold fR_message at h
  refine lv_aload_n hx hb dR_message_0 rfl (lv_at hl 0 rfl) ?_
  refine lv_iload_n hx hb dR_message_1 rfl (lv_at hl 1 rfl) ?_
  obtain ⟨x1, ex1, h⟩ := mp_bs h
  refine mp_si (mp_runV (As := [.int a1]) (rest := []) cx kV_R_30 (cR_isPlace l k ad g a1 x1 ex1) ⟨rfl, rfl, Nat.le_of_ble_eq_true rfl, Nat.le_of_ble_eq_true rfl⟩ ⟨Nat.zero_le _, Nat.zero_le _⟩ hE hP (mp_Dw hD hAN) (mp_S hS hAN) 0 rfl rfl rfl hl.1 rfl (Nat.le_of_ble_eq_true rfl) dR_message_2) ?_
  refine lv_if_eq (tgt := 15) hx hb dR_message_5 (by decide) (fun c2 => ?_) (fun c2 => ?_)
  · have h := mp_t c2 h
    refine lv_iconst (v := (-1)) hx hb dR_message_15 (by decide) ?_
    exact mp_rim (cf := cR k ad) cx h hP hS dR_message_16
  · have h := mp_f c2 h
    refine lv_iload_n hx hb dR_message_8 rfl (lv_at hl 2 rfl) ?_
    obtain ⟨x3, ex3, h⟩ := mp_bs h
    refine mp_si (mp_runT (As := [.int a2]) (rest := []) cx kT_R_34 (cR_isName l k a2 x3 ex3) ⟨rfl, rfl, Nat.le_of_ble_eq_true rfl, Nat.le_of_ble_eq_true rfl⟩ ⟨Nat.zero_le _, Nat.zero_le _⟩ hE mp_P0 mp_D0 (mp_S hS hAN) hl.1 rfl (Nat.le_of_ble_eq_true rfl) dR_message_9) ?_
    refine lv_if_ne (tgt := 17) hx hb dR_message_12 (by decide) (fun c4 => ?_) (fun c4 => ?_)
    · have h := mp_f c4 h
      refine lv_aload_n hx hb dR_message_17 rfl (lv_at hl 0 rfl) ?_
      refine mp_gR cx hE hP iR 0 rfl 0 (by decide) wq_401 rfl (v := .ref (ad 1)) rfl dR_message_18 ?_
      refine lv_bipush (v := 39) hx hb dR_message_21 (by decide) ?_
      refine lv_bipush (v := 6) hx hb dR_message_23 (by decide) ?_
      refine lv_iload_n hx hb dR_message_25 rfl (lv_at hl 1 rfl) ?_
      refine lv_imul hx hb dR_message_26 ?_
      refine lv_iadd hx hb dR_message_27 ?_
      refine lv_iload_n hx hb dR_message_28 rfl (lv_at hl 2 rfl) ?_
      refine lv_iadd hx hb dR_message_29 ?_
      obtain ⟨hi, x5, ex5, h⟩ := mp_lds h
      refine va_iald hx hb hE.1 hP 1 0 (f := g.1) (n := 231) rfl rfl hi dR_message_30 ?_
      refine mp_top ex5 ?_
      refine lv_bipush (v := 90) hx hb dR_message_31 (by decide) ?_
      refine lv_icmp_lt (tgt := 39) hx hb dR_message_33 (by decide) (fun c6 => ?_) (fun c6 => ?_)
      · have h := mp_t c6 h
        refine lv_aload_n hx hb dR_message_39 rfl (lv_at hl 0 rfl) ?_
        refine mp_gR cx hE hP iR 0 rfl 0 (by decide) wq_401 rfl (v := .ref (ad 1)) rfl dR_message_40 ?_
        refine lv_bipush (v := 39) hx hb dR_message_43 (by decide) ?_
        refine lv_bipush (v := 6) hx hb dR_message_45 (by decide) ?_
        refine lv_iload_n hx hb dR_message_47 rfl (lv_at hl 1 rfl) ?_
        refine lv_imul hx hb dR_message_48 ?_
        refine lv_iadd hx hb dR_message_49 ?_
        refine lv_iload_n hx hb dR_message_50 rfl (lv_at hl 2 rfl) ?_
        refine lv_iadd hx hb dR_message_51 ?_
        refine lv_dup2_11 hx hb dR_message_52 rfl rfl ?_
        obtain ⟨hi, x7, ex7, h⟩ := mp_lds h
        refine va_iald hx hb hE.1 hP 1 0 (f := g.1) (n := 231) rfl rfl hi dR_message_53 ?_
        refine mp_top ex7 ?_
        refine lv_iconst (v := 1) hx hb dR_message_54 (by decide) ?_
        refine lv_iadd hx hb dR_message_55 ?_
        obtain ⟨hi, h⟩ := mp_sts h
        refine va_iast hx hb hE.1 hP hD hS 1 0 (f := g.1) (n := 231) rfl rfl hi dR_message_56 (fun H locs hP hD hS => ?_)
        have hP : va_P (kD k) mp_cls (cR k ad ((upd g.1 (Int32.toNatClampNeg ((39 + (6 * a1)) + a2)) (x7 + 1)), g.2.1, g.2.2.1, g.2.2.2.1, g.2.2.2.2)) H := hP
        have hD : va_D (mp_A (aR ad)) (cR k ad ((upd g.1 (Int32.toNatClampNeg ((39 + (6 * a1)) + a2)) (x7 + 1)), g.2.1, g.2.2.1, g.2.2.2.1, g.2.2.2.2)) := hD
        refine lv_aload_n hx hb dR_message_57 rfl (lv_at hl 0 rfl) ?_
        refine mp_gR cx hE hP iR 0 rfl 0 (by decide) wq_401 rfl (v := .ref (ad 1)) rfl dR_message_58 ?_
        refine lv_bipush (v := 39) hx hb dR_message_61 (by decide) ?_
        refine lv_bipush (v := 6) hx hb dR_message_63 (by decide) ?_
        refine lv_iload_n hx hb dR_message_65 rfl (lv_at hl 1 rfl) ?_
        refine lv_imul hx hb dR_message_66 ?_
        refine lv_iadd hx hb dR_message_67 ?_
        refine lv_iload_n hx hb dR_message_68 rfl (lv_at hl 2 rfl) ?_
        refine lv_iadd hx hb dR_message_69 ?_
        obtain ⟨hi, x8, ex8, h⟩ := mp_lds h
        refine va_iald hx hb hE.1 hP 1 0 (f := (upd g.1 (Int32.toNatClampNeg ((39 + (6 * a1)) + a2)) (x7 + 1))) (n := 231) rfl rfl hi dR_message_70 ?_
        refine mp_top ex8 ?_
        exact mp_rim (cf := cR k ad) cx h hP hS dR_message_71
      · have h := mp_f c6 h
        refine lv_bipush (v := (-4)) hx hb dR_message_36 (by decide) ?_
        exact mp_rim (cf := cR k ad) cx h hP hS dR_message_38
    · have h := mp_t c4 h
      refine lv_iconst (v := (-1)) hx hb dR_message_15 (by decide) ?_
      exact mp_rim (cf := cR k ad) cx h hP hS dR_message_16
theorem cR_message (l : Launch) (k : KK) (ad : Nat → Nat) (g : SR) (a1 : Int32) (a2 : Int32) (z : (Int32 × SR)) (h : fR_message g a1 a2 = some z) : mp_CM l k yR_message bR_message 3 (some .int) rmR_message [.ref (ad 0), .int a1, .int a2] (cR k ad g) (cR k ad z.2) (aR ad) (some (.int z.1)) := by
  refine Met.ofW (cc := bR_message) (maxL := 3) (ret := (some .int)) (by decide) rfl ?_
  intro p e s m args below meth c s₁ B hml hv
  obtain ⟨rfl, hP, hD, hE⟩ := hv
  have hl := lv_entry ([.ref (ad 0), .int a1, .int a2]) (n := 3) (Nat.le_of_ble_eq_true rfl)
  rw [lg_entry_eq]
  generalize (lg_sl ([.ref (ad 0), .int a1, .int a2]) ++ List.replicate (3 - (lg_sl ([.ref (ad 0), .int a1, .int a2])).length) Slot.unset).toArray = ls at hl ⊢
  exact wR_message (mp_C.of B hml) k ad g a1 a2 z hE (mp_new hD rfl) hP (mp_own hD rfl) va_S.rf h ls hl
-- MovingPlacesModel.placesIn
abbrev rmR_placesIn : Room := { frames := 2, cells := 0, slots := 0, locals := 43 }
def fR_placesIn_4 (g : SR) (a1 : Int32) : Nat → Int32 → Int32 → Option Int32
  | 0, _, _ => none
  | n + 1, a2, a3 => mp_ld g.1 231 0 fun x1 => (if x1 ≤ a3 then some a2 else (fR_isPlace g a3).bind fun x3 => (if x3 = 0 then fR_placesIn_4 g a1 n (a2 ||| 0) (a3 + 1) else mp_ld g.1 231 (15 + a3) fun x5 => (if x5 = a1 then mp_lt (a2 ||| (1 <<< (a3 &&& 31))) fun x7 => fR_placesIn_4 g a1 n x7 (a3 + 1) else fR_placesIn_4 g a1 n (a2 ||| 0) (a3 + 1))))
theorem fR_placesIn_4_s (g : SR) (a1 : Int32) (n : Nat) (a2 : Int32) (a3 : Int32) : fR_placesIn_4 g a1 (n + 1) a2 a3 = mp_ld g.1 231 0 fun x1 => (if x1 ≤ a3 then some a2 else (fR_isPlace g a3).bind fun x3 => (if x3 = 0 then fR_placesIn_4 g a1 n (a2 ||| 0) (a3 + 1) else mp_ld g.1 231 (15 + a3) fun x5 => (if x5 = a1 then mp_lt (a2 ||| (1 <<< (a3 &&& 31))) fun x7 => fR_placesIn_4 g a1 n x7 (a3 + 1) else fR_placesIn_4 g a1 n (a2 ||| 0) (a3 + 1)))) := rfl
set_option maxHeartbeats 4000000 in
set_option maxRecDepth 100000 in
theorem lR_placesIn_4 {p : Program} {l : Launch} {e : Env} {s : State} {m : MethodId} {args : Array Value} {below : List Frame} {meth : Method} {c : Code} (cx : mp_C p s m args meth c bR_placesIn 4 (some .int) rR) (k : KK) (ad : Nat → Nat) (g : SR) (a1 : Int32) (z : Int32) (hE : mp_E k s) (hP : va_P (kD k) mp_cls (cR k ad g) s.heap) (hD : va_D (mp_N k) (cR k ad g)) : ∀ (n : Nat) (a2 : Int32) (a3 : Int32), fR_placesIn_4 g a1 n a2 a3 = some z → ∀ (ls : Array Slot), lv_has ls 4 [(0, .ref (ad 0)), (1, .int a1), (2, .int a2), (3, .int a3)] → W p l e rmR_placesIn s m args below meth c s.heap [] 0 0 (MQ below (mp_Qs (some (.int z))) args s 0 0 (fun _ => False)) (F0 m 4 ls []) := by
  obtain ⟨hx, hb, -, hml, hown, hts, -⟩ := id cx
  intro n
  induction n with
  | zero =>
    intro a2 a3 h
    have h : (none : Option Int32) = some z := h
    cases h
  | succ n ih =>
    intro a2 a3 h ls hl
    rw [fR_placesIn_4_s] at h
    refine lv_iload_n hx hb dR_placesIn_4 rfl (lv_at hl 3 rfl) ?_
    refine lv_aload_n hx hb dR_placesIn_5 rfl (lv_at hl 0 rfl) ?_
    refine mp_gR cx hE hP iR 0 rfl 0 (by decide) wq_401 rfl (v := .ref (ad 1)) rfl dR_placesIn_6 ?_
    refine lv_iconst (v := 0) hx hb dR_placesIn_9 (by decide) ?_
    obtain ⟨hi, x1, ex1, h⟩ := mp_lds h
    refine va_iald hx hb hE.1 hP 1 0 (f := g.1) (n := 231) rfl rfl hi dR_placesIn_10 ?_
    refine mp_top ex1 ?_
    refine lv_icmp_ge (tgt := 51) hx hb dR_placesIn_11 (by decide) (fun c2 => ?_) (fun c2 => ?_)
    · have h := mp_t c2 h
      refine lv_iload_n hx hb dR_placesIn_51 rfl (lv_at hl 2 rfl) ?_
      exact mp_ri cx h dR_placesIn_52
    · have h := mp_f c2 h
      refine lv_iload_n hx hb dR_placesIn_14 rfl (lv_at hl 2 rfl) ?_
      refine lv_aload_n hx hb dR_placesIn_15 rfl (lv_at hl 0 rfl) ?_
      refine lv_iload_n hx hb dR_placesIn_16 rfl (lv_at hl 3 rfl) ?_
      obtain ⟨x3, ex3, h⟩ := mp_bs h
      refine mp_si (mp_runV (As := [.int a3]) (rest := [.int a2]) cx kV_R_30 (cR_isPlace l k ad g a3 x3 ex3) ⟨rfl, rfl, Nat.le_of_ble_eq_true rfl, Nat.le_of_ble_eq_true rfl⟩ ⟨Nat.zero_le _, Nat.zero_le _⟩ hE hP hD va_S.rf 0 rfl rfl rfl hl.1 rfl (Nat.le_of_ble_eq_true rfl) dR_placesIn_17) ?_
      refine lv_if_eq (tgt := 42) hx hb dR_placesIn_20 (by decide) (fun c4 => ?_) (fun c4 => ?_)
      · have h := mp_t c4 h
        refine lv_iconst (v := 0) hx hb dR_placesIn_42 (by decide) ?_
        refine lv_ior hx hb dR_placesIn_43 ?_
        refine lv_istore_n (lv' := [(2, .int (a2 ||| 0)), (0, .ref (ad 0)), (1, .int a1), (3, .int a3)]) hx hb dR_placesIn_44 rfl hl (by decide) rfl (fun ls hl => ?_)
        refine lv_iinc (v := (a3 + 1)) (lv' := [(3, .int (a3 + 1)), (2, .int (a2 ||| 0)), (0, .ref (ad 0)), (1, .int a1)]) hx hb dR_placesIn_45 hl (k := 3) rfl rfl (by decide) rfl (fun ls hl => ?_)
        refine lv_goto (tgt := 4) hx hb dR_placesIn_48 (by decide) ?_
        exact ih (a2 ||| 0) (a3 + 1) h ls (lv_sub hl [2, 3, 1, 0] rfl)
      · have h := mp_f c4 h
        refine lv_aload_n hx hb dR_placesIn_23 rfl (lv_at hl 0 rfl) ?_
        refine mp_gR cx hE hP iR 0 rfl 0 (by decide) wq_401 rfl (v := .ref (ad 1)) rfl dR_placesIn_24 ?_
        refine lv_bipush (v := 15) hx hb dR_placesIn_27 (by decide) ?_
        refine lv_iload_n hx hb dR_placesIn_29 rfl (lv_at hl 3 rfl) ?_
        refine lv_iadd hx hb dR_placesIn_30 ?_
        obtain ⟨hi, x5, ex5, h⟩ := mp_lds h
        refine va_iald hx hb hE.1 hP 1 0 (f := g.1) (n := 231) rfl rfl hi dR_placesIn_31 ?_
        refine mp_top ex5 ?_
        refine lv_iload_n hx hb dR_placesIn_32 rfl (lv_at hl 1 rfl) ?_
        refine lv_icmp_ne (tgt := 42) hx hb dR_placesIn_33 (by decide) (fun c6 => ?_) (fun c6 => ?_)
        · have h := mp_f c6 h
          refine lv_iconst (v := 0) hx hb dR_placesIn_42 (by decide) ?_
          refine lv_ior hx hb dR_placesIn_43 ?_
          refine lv_istore_n (lv' := [(2, .int (a2 ||| 0)), (0, .ref (ad 0)), (1, .int a1), (3, .int a3)]) hx hb dR_placesIn_44 rfl hl (by decide) rfl (fun ls hl => ?_)
          refine lv_iinc (v := (a3 + 1)) (lv' := [(3, .int (a3 + 1)), (2, .int (a2 ||| 0)), (0, .ref (ad 0)), (1, .int a1)]) hx hb dR_placesIn_45 hl (k := 3) rfl rfl (by decide) rfl (fun ls hl => ?_)
          refine lv_goto (tgt := 4) hx hb dR_placesIn_48 (by decide) ?_
          exact ih (a2 ||| 0) (a3 + 1) h ls (lv_sub hl [2, 3, 1, 0] rfl)
        · have h := mp_t c6 h
          refine lv_iconst (v := 1) hx hb dR_placesIn_36 (by decide) ?_
          refine lv_iload_n hx hb dR_placesIn_37 rfl (lv_at hl 3 rfl) ?_
          refine lv_ishl hx hb dR_placesIn_38 ?_
          refine lv_goto (tgt := 43) hx hb dR_placesIn_39 (by decide) ?_
          refine lv_ior hx hb dR_placesIn_43 ?_
          obtain ⟨x7, ex7, h⟩ := mp_lts h
          refine mp_top ex7 ?_
          refine lv_istore_n (lv' := [(2, .int x7), (0, .ref (ad 0)), (1, .int a1), (3, .int a3)]) hx hb dR_placesIn_44 rfl hl (by decide) rfl (fun ls hl => ?_)
          refine lv_iinc (v := (a3 + 1)) (lv' := [(3, .int (a3 + 1)), (2, .int x7), (0, .ref (ad 0)), (1, .int a1)]) hx hb dR_placesIn_45 hl (k := 3) rfl rfl (by decide) rfl (fun ls hl => ?_)
          refine lv_goto (tgt := 4) hx hb dR_placesIn_48 (by decide) ?_
          exact ih x7 (a3 + 1) h ls (lv_sub hl [2, 3, 1, 0] rfl)
def fR_placesIn (g : SR) (a1 : Int32) : Option Int32 := fR_placesIn_4 g a1 2000 0 1
set_option maxHeartbeats 4000000 in
set_option maxRecDepth 100000 in
theorem wR_placesIn {p : Program} {l : Launch} {e : Env} {s : State} {m : MethodId} {args : Array Value} {below : List Frame} {meth : Method} {c : Code} (cx : mp_C p s m args meth c bR_placesIn 4 (some .int) rR) (k : KK) (ad : Nat → Nat) (g : SR) (a1 : Int32) (z : Int32) (hE : mp_E k s) (hP : va_P (kD k) mp_cls (cR k ad g) s.heap) (hD : va_D (mp_N k) (cR k ad g)) (h : fR_placesIn g a1 = some z) (ls : Array Slot) (hl : lv_has ls 4 [(0, .ref (ad 0)), (1, .int a1)]) : W p l e rmR_placesIn s m args below meth c s.heap [] 0 0 (MQ below (mp_Qs (some (.int z))) args s 0 0 (fun _ => False)) (F0 m 0 ls []) := by
  obtain ⟨hx, hb, -, hml, hown, hts, -⟩ := id cx
  unfold fR_placesIn at h
  refine lv_iconst (v := 0) hx hb dR_placesIn_0 (by decide) ?_
  refine lv_istore_n (lv' := [(2, .int 0), (0, .ref (ad 0)), (1, .int a1)]) hx hb dR_placesIn_1 rfl hl (by decide) rfl (fun ls hl => ?_)
  refine lv_iconst (v := 1) hx hb dR_placesIn_2 (by decide) ?_
  refine lv_istore_n (lv' := [(3, .int 1), (2, .int 0), (0, .ref (ad 0)), (1, .int a1)]) hx hb dR_placesIn_3 rfl hl (by decide) rfl (fun ls hl => ?_)
  exact lR_placesIn_4 cx k ad g a1 z hE hP hD _ 0 1 h ls (lv_sub hl [2, 3, 1, 0] rfl)
theorem cR_placesIn (l : Launch) (k : KK) (ad : Nat → Nat) (g : SR) (a1 : Int32) (z : Int32) (h : fR_placesIn g a1 = some z) : mp_CS l k yR_placesIn bR_placesIn 4 (some .int) rmR_placesIn [.ref (ad 0), .int a1] (cR k ad g) (some (.int z)) := by
  refine Met.ofW (cc := bR_placesIn) (maxL := 4) (ret := (some .int)) (by decide) rfl ?_
  intro p e s m args below meth c s₁ B hml hv
  obtain ⟨rfl, hP, hD, hE⟩ := hv
  have hl := lv_entry ([.ref (ad 0), .int a1]) (n := 4) (Nat.le_of_ble_eq_true rfl)
  rw [lg_entry_eq]
  generalize (lg_sl ([.ref (ad 0), .int a1]) ++ List.replicate (4 - (lg_sl ([.ref (ad 0), .int a1])).length) Slot.unset).toArray = ls at hl ⊢
  exact wR_placesIn (mp_C.of B hml) k ad g a1 z hE hP hD h ls hl
-- MovingPlacesModel.threadsIn
abbrev rmR_threadsIn : Room := { frames := 0, cells := 0, slots := 0, locals := 0 }
def fR_threadsIn_4 (g : SR) (a1 : Int32) : Nat → Int32 → Int32 → Option Int32
  | 0, _, _ => none
  | n + 1, a2, a3 => mp_ld g.1 231 1 fun x1 => (if x1 ≤ a3 then some a2 else mp_ld g.1 231 (111 + a3) fun x3 => (if x3 = a1 then mp_lt (a2 ||| (1 <<< (a3 &&& 31))) fun x5 => fR_threadsIn_4 g a1 n x5 (a3 + 1) else fR_threadsIn_4 g a1 n (a2 ||| 0) (a3 + 1)))
theorem fR_threadsIn_4_s (g : SR) (a1 : Int32) (n : Nat) (a2 : Int32) (a3 : Int32) : fR_threadsIn_4 g a1 (n + 1) a2 a3 = mp_ld g.1 231 1 fun x1 => (if x1 ≤ a3 then some a2 else mp_ld g.1 231 (111 + a3) fun x3 => (if x3 = a1 then mp_lt (a2 ||| (1 <<< (a3 &&& 31))) fun x5 => fR_threadsIn_4 g a1 n x5 (a3 + 1) else fR_threadsIn_4 g a1 n (a2 ||| 0) (a3 + 1))) := rfl
set_option maxHeartbeats 4000000 in
set_option maxRecDepth 100000 in
theorem lR_threadsIn_4 {p : Program} {l : Launch} {e : Env} {s : State} {m : MethodId} {args : Array Value} {below : List Frame} {meth : Method} {c : Code} (cx : mp_C p s m args meth c bR_threadsIn 4 (some .int) rR) (k : KK) (ad : Nat → Nat) (g : SR) (a1 : Int32) (z : Int32) (hE : mp_E k s) (hP : va_P (kD k) mp_cls (cR k ad g) s.heap) (hD : va_D (mp_N k) (cR k ad g)) : ∀ (n : Nat) (a2 : Int32) (a3 : Int32), fR_threadsIn_4 g a1 n a2 a3 = some z → ∀ (ls : Array Slot), lv_has ls 4 [(0, .ref (ad 0)), (1, .int a1), (2, .int a2), (3, .int a3)] → W p l e rmR_threadsIn s m args below meth c s.heap [] 0 0 (MQ below (mp_Qs (some (.int z))) args s 0 0 (fun _ => False)) (F0 m 4 ls []) := by
  obtain ⟨hx, hb, -, hml, hown, hts, -⟩ := id cx
  intro n
  induction n with
  | zero =>
    intro a2 a3 h
    have h : (none : Option Int32) = some z := h
    cases h
  | succ n ih =>
    intro a2 a3 h ls hl
    rw [fR_threadsIn_4_s] at h
    refine lv_iload_n hx hb dR_threadsIn_4 rfl (lv_at hl 3 rfl) ?_
    refine lv_aload_n hx hb dR_threadsIn_5 rfl (lv_at hl 0 rfl) ?_
    refine mp_gR cx hE hP iR 0 rfl 0 (by decide) wq_401 rfl (v := .ref (ad 1)) rfl dR_threadsIn_6 ?_
    refine lv_iconst (v := 1) hx hb dR_threadsIn_9 (by decide) ?_
    obtain ⟨hi, x1, ex1, h⟩ := mp_lds h
    refine va_iald hx hb hE.1 hP 1 0 (f := g.1) (n := 231) rfl rfl hi dR_threadsIn_10 ?_
    refine mp_top ex1 ?_
    refine lv_icmp_ge (tgt := 43) hx hb dR_threadsIn_11 (by decide) (fun c2 => ?_) (fun c2 => ?_)
    · have h := mp_t c2 h
      refine lv_iload_n hx hb dR_threadsIn_43 rfl (lv_at hl 2 rfl) ?_
      exact mp_ri cx h dR_threadsIn_44
    · have h := mp_f c2 h
      refine lv_iload_n hx hb dR_threadsIn_14 rfl (lv_at hl 2 rfl) ?_
      refine lv_aload_n hx hb dR_threadsIn_15 rfl (lv_at hl 0 rfl) ?_
      refine mp_gR cx hE hP iR 0 rfl 0 (by decide) wq_401 rfl (v := .ref (ad 1)) rfl dR_threadsIn_16 ?_
      refine lv_bipush (v := 111) hx hb dR_threadsIn_19 (by decide) ?_
      refine lv_iload_n hx hb dR_threadsIn_21 rfl (lv_at hl 3 rfl) ?_
      refine lv_iadd hx hb dR_threadsIn_22 ?_
      obtain ⟨hi, x3, ex3, h⟩ := mp_lds h
      refine va_iald hx hb hE.1 hP 1 0 (f := g.1) (n := 231) rfl rfl hi dR_threadsIn_23 ?_
      refine mp_top ex3 ?_
      refine lv_iload_n hx hb dR_threadsIn_24 rfl (lv_at hl 1 rfl) ?_
      refine lv_icmp_ne (tgt := 34) hx hb dR_threadsIn_25 (by decide) (fun c4 => ?_) (fun c4 => ?_)
      · have h := mp_f c4 h
        refine lv_iconst (v := 0) hx hb dR_threadsIn_34 (by decide) ?_
        refine lv_ior hx hb dR_threadsIn_35 ?_
        refine lv_istore_n (lv' := [(2, .int (a2 ||| 0)), (0, .ref (ad 0)), (1, .int a1), (3, .int a3)]) hx hb dR_threadsIn_36 rfl hl (by decide) rfl (fun ls hl => ?_)
        refine lv_iinc (v := (a3 + 1)) (lv' := [(3, .int (a3 + 1)), (2, .int (a2 ||| 0)), (0, .ref (ad 0)), (1, .int a1)]) hx hb dR_threadsIn_37 hl (k := 3) rfl rfl (by decide) rfl (fun ls hl => ?_)
        refine lv_goto (tgt := 4) hx hb dR_threadsIn_40 (by decide) ?_
        exact ih (a2 ||| 0) (a3 + 1) h ls (lv_sub hl [2, 3, 1, 0] rfl)
      · have h := mp_t c4 h
        refine lv_iconst (v := 1) hx hb dR_threadsIn_28 (by decide) ?_
        refine lv_iload_n hx hb dR_threadsIn_29 rfl (lv_at hl 3 rfl) ?_
        refine lv_ishl hx hb dR_threadsIn_30 ?_
        refine lv_goto (tgt := 35) hx hb dR_threadsIn_31 (by decide) ?_
        refine lv_ior hx hb dR_threadsIn_35 ?_
        obtain ⟨x5, ex5, h⟩ := mp_lts h
        refine mp_top ex5 ?_
        refine lv_istore_n (lv' := [(2, .int x5), (0, .ref (ad 0)), (1, .int a1), (3, .int a3)]) hx hb dR_threadsIn_36 rfl hl (by decide) rfl (fun ls hl => ?_)
        refine lv_iinc (v := (a3 + 1)) (lv' := [(3, .int (a3 + 1)), (2, .int x5), (0, .ref (ad 0)), (1, .int a1)]) hx hb dR_threadsIn_37 hl (k := 3) rfl rfl (by decide) rfl (fun ls hl => ?_)
        refine lv_goto (tgt := 4) hx hb dR_threadsIn_40 (by decide) ?_
        exact ih x5 (a3 + 1) h ls (lv_sub hl [2, 3, 1, 0] rfl)
def fR_threadsIn (g : SR) (a1 : Int32) : Option Int32 := fR_threadsIn_4 g a1 2000 0 0
set_option maxHeartbeats 4000000 in
set_option maxRecDepth 100000 in
theorem wR_threadsIn {p : Program} {l : Launch} {e : Env} {s : State} {m : MethodId} {args : Array Value} {below : List Frame} {meth : Method} {c : Code} (cx : mp_C p s m args meth c bR_threadsIn 4 (some .int) rR) (k : KK) (ad : Nat → Nat) (g : SR) (a1 : Int32) (z : Int32) (hE : mp_E k s) (hP : va_P (kD k) mp_cls (cR k ad g) s.heap) (hD : va_D (mp_N k) (cR k ad g)) (h : fR_threadsIn g a1 = some z) (ls : Array Slot) (hl : lv_has ls 4 [(0, .ref (ad 0)), (1, .int a1)]) : W p l e rmR_threadsIn s m args below meth c s.heap [] 0 0 (MQ below (mp_Qs (some (.int z))) args s 0 0 (fun _ => False)) (F0 m 0 ls []) := by
  obtain ⟨hx, hb, -, hml, hown, hts, -⟩ := id cx
  unfold fR_threadsIn at h
  refine lv_iconst (v := 0) hx hb dR_threadsIn_0 (by decide) ?_
  refine lv_istore_n (lv' := [(2, .int 0), (0, .ref (ad 0)), (1, .int a1)]) hx hb dR_threadsIn_1 rfl hl (by decide) rfl (fun ls hl => ?_)
  refine lv_iconst (v := 0) hx hb dR_threadsIn_2 (by decide) ?_
  refine lv_istore_n (lv' := [(3, .int 0), (2, .int 0), (0, .ref (ad 0)), (1, .int a1)]) hx hb dR_threadsIn_3 rfl hl (by decide) rfl (fun ls hl => ?_)
  exact lR_threadsIn_4 cx k ad g a1 z hE hP hD _ 0 0 h ls (lv_sub hl [2, 3, 1, 0] rfl)
theorem cR_threadsIn (l : Launch) (k : KK) (ad : Nat → Nat) (g : SR) (a1 : Int32) (z : Int32) (h : fR_threadsIn g a1 = some z) : mp_CS l k yR_threadsIn bR_threadsIn 4 (some .int) rmR_threadsIn [.ref (ad 0), .int a1] (cR k ad g) (some (.int z)) := by
  refine Met.ofW (cc := bR_threadsIn) (maxL := 4) (ret := (some .int)) (by decide) rfl ?_
  intro p e s m args below meth c s₁ B hml hv
  obtain ⟨rfl, hP, hD, hE⟩ := hv
  have hl := lv_entry ([.ref (ad 0), .int a1]) (n := 4) (Nat.le_of_ble_eq_true rfl)
  rw [lg_entry_eq]
  generalize (lg_sl ([.ref (ad 0), .int a1]) ++ List.replicate (4 - (lg_sl ([.ref (ad 0), .int a1])).length) Slot.unset).toArray = ls at hl ⊢
  exact wR_threadsIn (mp_C.of B hml) k ad g a1 z hE hP hD h ls hl
-- MovingPlacesModel.deepOf
abbrev rmR_deepOf : Room := { frames := 0, cells := 0, slots := 0, locals := 0 }
def fR_deepOf_4 (g : SR) : Nat → Int32 → Int32 → Option Int32
  | 0, _, _ => none
  | n + 1, a2, a3 => (if a3 = 0 then some a2 else mp_ld g.1 231 (15 + a3) fun x2 => fR_deepOf_4 g n (a2 + 1) x2)
theorem fR_deepOf_4_s (g : SR) (n : Nat) (a2 : Int32) (a3 : Int32) : fR_deepOf_4 g (n + 1) a2 a3 = (if a3 = 0 then some a2 else mp_ld g.1 231 (15 + a3) fun x2 => fR_deepOf_4 g n (a2 + 1) x2) := rfl
set_option maxHeartbeats 4000000 in
set_option maxRecDepth 100000 in
theorem lR_deepOf_4 {p : Program} {l : Launch} {e : Env} {s : State} {m : MethodId} {args : Array Value} {below : List Frame} {meth : Method} {c : Code} (cx : mp_C p s m args meth c bR_deepOf 4 (some .int) rR) (k : KK) (ad : Nat → Nat) (g : SR) (z : Int32) (hE : mp_E k s) (hP : va_P (kD k) mp_cls (cR k ad g) s.heap) (hD : va_D (mp_N k) (cR k ad g)) : ∀ (n : Nat) (a2 : Int32) (a3 : Int32), fR_deepOf_4 g n a2 a3 = some z → ∀ (ls : Array Slot), lv_has ls 4 [(0, .ref (ad 0)), (2, .int a2), (3, .int a3)] → W p l e rmR_deepOf s m args below meth c s.heap [] 0 0 (MQ below (mp_Qs (some (.int z))) args s 0 0 (fun _ => False)) (F0 m 4 ls []) := by
  obtain ⟨hx, hb, -, hml, hown, hts, -⟩ := id cx
  intro n
  induction n with
  | zero =>
    intro a2 a3 h
    have h : (none : Option Int32) = some z := h
    cases h
  | succ n ih =>
    intro a2 a3 h ls hl
    rw [fR_deepOf_4_s] at h
    refine lv_iload_n hx hb dR_deepOf_4 rfl (lv_at hl 2 rfl) ?_
    refine lv_if_eq (tgt := 24) hx hb dR_deepOf_5 (by decide) (fun c1 => ?_) (fun c1 => ?_)
    · have h := mp_t c1 h
      refine lv_iload_n hx hb dR_deepOf_24 rfl (lv_at hl 1 rfl) ?_
      exact mp_ri cx h dR_deepOf_25
    · have h := mp_f c1 h
      refine lv_iinc (v := (a2 + 1)) (lv' := [(2, .int (a2 + 1)), (0, .ref (ad 0)), (3, .int a3)]) hx hb dR_deepOf_8 hl (k := 1) rfl rfl (by decide) rfl (fun ls hl => ?_)
      refine lv_aload_n hx hb dR_deepOf_11 rfl (lv_at hl 1 rfl) ?_
      refine mp_gR cx hE hP iR 0 rfl 0 (by decide) wq_401 rfl (v := .ref (ad 1)) rfl dR_deepOf_12 ?_
      refine lv_bipush (v := 15) hx hb dR_deepOf_15 (by decide) ?_
      refine lv_iload_n hx hb dR_deepOf_17 rfl (lv_at hl 2 rfl) ?_
      refine lv_iadd hx hb dR_deepOf_18 ?_
      obtain ⟨hi, x2, ex2, h⟩ := mp_lds h
      refine va_iald hx hb hE.1 hP 1 0 (f := g.1) (n := 231) rfl rfl hi dR_deepOf_19 ?_
      refine mp_top ex2 ?_
      refine lv_istore_n (lv' := [(3, .int x2), (2, .int (a2 + 1)), (0, .ref (ad 0))]) hx hb dR_deepOf_20 rfl hl (by decide) rfl (fun ls hl => ?_)
      refine lv_goto (tgt := 4) hx hb dR_deepOf_21 (by decide) ?_
      exact ih (a2 + 1) x2 h ls (lv_sub hl [2, 1, 0] rfl)
def fR_deepOf (g : SR) (a1 : Int32) : Option Int32 := fR_deepOf_4 g 2000 0 a1
set_option maxHeartbeats 4000000 in
set_option maxRecDepth 100000 in
theorem wR_deepOf {p : Program} {l : Launch} {e : Env} {s : State} {m : MethodId} {args : Array Value} {below : List Frame} {meth : Method} {c : Code} (cx : mp_C p s m args meth c bR_deepOf 4 (some .int) rR) (k : KK) (ad : Nat → Nat) (g : SR) (a1 : Int32) (z : Int32) (hE : mp_E k s) (hP : va_P (kD k) mp_cls (cR k ad g) s.heap) (hD : va_D (mp_N k) (cR k ad g)) (h : fR_deepOf g a1 = some z) (ls : Array Slot) (hl : lv_has ls 4 [(0, .ref (ad 0)), (1, .int a1)]) : W p l e rmR_deepOf s m args below meth c s.heap [] 0 0 (MQ below (mp_Qs (some (.int z))) args s 0 0 (fun _ => False)) (F0 m 0 ls []) := by
  obtain ⟨hx, hb, -, hml, hown, hts, -⟩ := id cx
  unfold fR_deepOf at h
  refine lv_iconst (v := 0) hx hb dR_deepOf_0 (by decide) ?_
  refine lv_istore_n (lv' := [(2, .int 0), (0, .ref (ad 0)), (1, .int a1)]) hx hb dR_deepOf_1 rfl hl (by decide) rfl (fun ls hl => ?_)
  refine lv_iload_n hx hb dR_deepOf_2 rfl (lv_at hl 2 rfl) ?_
  refine lv_istore_n (lv' := [(3, .int a1), (2, .int 0), (0, .ref (ad 0)), (1, .int a1)]) hx hb dR_deepOf_3 rfl hl (by decide) rfl (fun ls hl => ?_)
  exact lR_deepOf_4 cx k ad g z hE hP hD _ 0 a1 h ls (lv_sub hl [2, 1, 0] rfl)
theorem cR_deepOf (l : Launch) (k : KK) (ad : Nat → Nat) (g : SR) (a1 : Int32) (z : Int32) (h : fR_deepOf g a1 = some z) : mp_CS l k yR_deepOf bR_deepOf 4 (some .int) rmR_deepOf [.ref (ad 0), .int a1] (cR k ad g) (some (.int z)) := by
  refine Met.ofW (cc := bR_deepOf) (maxL := 4) (ret := (some .int)) (by decide) rfl ?_
  intro p e s m args below meth c s₁ B hml hv
  obtain ⟨rfl, hP, hD, hE⟩ := hv
  have hl := lv_entry ([.ref (ad 0), .int a1]) (n := 4) (Nat.le_of_ble_eq_true rfl)
  rw [lg_entry_eq]
  generalize (lg_sl ([.ref (ad 0), .int a1]) ++ List.replicate (4 - (lg_sl ([.ref (ad 0), .int a1])).length) Slot.unset).toArray = ls at hl ⊢
  exact wR_deepOf (mp_C.of B hml) k ad g a1 z hE hP hD h ls hl
-- MovingPlacesModel.ofPlace
abbrev rmR_ofPlace : Room := { frames := 3, cells := 0, slots := 0, locals := 66 }
def fR_ofPlace (g : SR) (a1 : Int32) (a2 : Int32) : Option Int32 := (fR_isPlace g a1).bind fun x1 => (if x1 = 0 then some (-1) else (if a2 = 0 then mp_ld g.1 231 (3 + a1) fun x4 => some x4 else if a2 = 1 then mp_ld g.1 231 (15 + a1) fun x6 => some x6 else if a2 = 2 then mp_ld g.1 231 (27 + a1) fun x8 => some x8 else if a2 = 3 then (fR_placesIn g a1).bind fun x10 => some x10 else if a2 = 4 then (fR_threadsIn g a1).bind fun x12 => some x12 else if a2 = 5 then (fR_deepOf g a1).bind fun x14 => some x14 else (if a2 < 10 then some (-2) else (fR_isName (a2 - 10)).bind fun x16 => (if x16 = 0 then some (-2) else mp_ld g.1 231 (((39 + (6 * a1)) + a2) - 10) fun x18 => some x18))))
set_option maxHeartbeats 4000000 in
set_option maxRecDepth 100000 in
theorem wR_ofPlace {p : Program} {l : Launch} {e : Env} {s : State} {m : MethodId} {args : Array Value} {below : List Frame} {meth : Method} {c : Code} (cx : mp_C p s m args meth c bR_ofPlace 3 (some .int) rR) (k : KK) (ad : Nat → Nat) (g : SR) (a1 : Int32) (a2 : Int32) (z : Int32) (hE : mp_E k s) (hP : va_P (kD k) mp_cls (cR k ad g) s.heap) (hD : va_D (mp_N k) (cR k ad g)) (h : fR_ofPlace g a1 a2 = some z) (ls : Array Slot) (hl : lv_has ls 3 [(0, .ref (ad 0)), (1, .int a1), (2, .int a2)]) : W p l e rmR_ofPlace s m args below meth c s.heap [] 0 0 (MQ below (mp_Qs (some (.int z))) args s 0 0 (fun _ => False)) (F0 m 0 ls []) := by
  obtain ⟨hx, hb, -, hml, hown, hts, -⟩ := id cx
  unfold fR_ofPlace at h
  refine lv_aload_n hx hb dR_ofPlace_0 rfl (lv_at hl 0 rfl) ?_
  refine lv_iload_n hx hb dR_ofPlace_1 rfl (lv_at hl 1 rfl) ?_
  obtain ⟨x1, ex1, h⟩ := mp_bs h
  refine mp_si (mp_runV (As := [.int a1]) (rest := []) cx kV_R_30 (cR_isPlace l k ad g a1 x1 ex1) ⟨rfl, rfl, Nat.le_of_ble_eq_true rfl, Nat.le_of_ble_eq_true rfl⟩ ⟨Nat.zero_le _, Nat.zero_le _⟩ hE hP hD va_S.rf 0 rfl rfl rfl hl.1 rfl (Nat.le_of_ble_eq_true rfl) dR_ofPlace_2) ?_
  refine lv_if_ne (tgt := 10) hx hb dR_ofPlace_5 (by decide) (fun c2 => ?_) (fun c2 => ?_)
  · have h := mp_f c2 h
    refine lv_iload_n hx hb dR_ofPlace_10 rfl (lv_at hl 2 rfl) ?_
    by_cases c3 : a2 = 0
    · have h := mp_t c3 h
      refine lv_tableIn (off := 37) (tgt := 48) hx hb dR_ofPlace_11 (by rw [c3]; decide) (by rw [c3]; decide) (by rw [c3]; rfl) (by decide) ?_
      refine lv_aload_n hx hb dR_ofPlace_48 rfl (lv_at hl 0 rfl) ?_
      refine mp_gR cx hE hP iR 0 rfl 0 (by decide) wq_401 rfl (v := .ref (ad 1)) rfl dR_ofPlace_49 ?_
      refine lv_iconst (v := 3) hx hb dR_ofPlace_52 (by decide) ?_
      refine lv_iload_n hx hb dR_ofPlace_53 rfl (lv_at hl 1 rfl) ?_
      refine lv_iadd hx hb dR_ofPlace_54 ?_
      obtain ⟨hi, x4, ex4, h⟩ := mp_lds h
      refine va_iald hx hb hE.1 hP 1 0 (f := g.1) (n := 231) rfl rfl hi dR_ofPlace_55 ?_
      refine mp_top ex4 ?_
      exact mp_ri cx h dR_ofPlace_56
    have h := mp_f c3 h
    by_cases c5 : a2 = 1
    · have h := mp_t c5 h
      refine lv_tableIn (off := 46) (tgt := 57) hx hb dR_ofPlace_11 (by rw [c5]; decide) (by rw [c5]; decide) (by rw [c5]; rfl) (by decide) ?_
      refine lv_aload_n hx hb dR_ofPlace_57 rfl (lv_at hl 0 rfl) ?_
      refine mp_gR cx hE hP iR 0 rfl 0 (by decide) wq_401 rfl (v := .ref (ad 1)) rfl dR_ofPlace_58 ?_
      refine lv_bipush (v := 15) hx hb dR_ofPlace_61 (by decide) ?_
      refine lv_iload_n hx hb dR_ofPlace_63 rfl (lv_at hl 1 rfl) ?_
      refine lv_iadd hx hb dR_ofPlace_64 ?_
      obtain ⟨hi, x6, ex6, h⟩ := mp_lds h
      refine va_iald hx hb hE.1 hP 1 0 (f := g.1) (n := 231) rfl rfl hi dR_ofPlace_65 ?_
      refine mp_top ex6 ?_
      exact mp_ri cx h dR_ofPlace_66
    have h := mp_f c5 h
    by_cases c7 : a2 = 2
    · have h := mp_t c7 h
      refine lv_tableIn (off := 56) (tgt := 67) hx hb dR_ofPlace_11 (by rw [c7]; decide) (by rw [c7]; decide) (by rw [c7]; rfl) (by decide) ?_
      refine lv_aload_n hx hb dR_ofPlace_67 rfl (lv_at hl 0 rfl) ?_
      refine mp_gR cx hE hP iR 0 rfl 0 (by decide) wq_401 rfl (v := .ref (ad 1)) rfl dR_ofPlace_68 ?_
      refine lv_bipush (v := 27) hx hb dR_ofPlace_71 (by decide) ?_
      refine lv_iload_n hx hb dR_ofPlace_73 rfl (lv_at hl 1 rfl) ?_
      refine lv_iadd hx hb dR_ofPlace_74 ?_
      obtain ⟨hi, x8, ex8, h⟩ := mp_lds h
      refine va_iald hx hb hE.1 hP 1 0 (f := g.1) (n := 231) rfl rfl hi dR_ofPlace_75 ?_
      refine mp_top ex8 ?_
      exact mp_ri cx h dR_ofPlace_76
    have h := mp_f c7 h
    by_cases c9 : a2 = 3
    · have h := mp_t c9 h
      refine lv_tableIn (off := 66) (tgt := 77) hx hb dR_ofPlace_11 (by rw [c9]; decide) (by rw [c9]; decide) (by rw [c9]; rfl) (by decide) ?_
      refine lv_aload_n hx hb dR_ofPlace_77 rfl (lv_at hl 0 rfl) ?_
      refine lv_iload_n hx hb dR_ofPlace_78 rfl (lv_at hl 1 rfl) ?_
      obtain ⟨x10, ex10, h⟩ := mp_bs h
      refine mp_si (mp_runV (As := [.int a1]) (rest := []) cx kV_R_46 (cR_placesIn l k ad g a1 x10 ex10) ⟨rfl, rfl, Nat.le_of_ble_eq_true rfl, Nat.le_of_ble_eq_true rfl⟩ ⟨Nat.zero_le _, Nat.zero_le _⟩ hE hP hD va_S.rf 0 rfl rfl rfl hl.1 rfl (Nat.le_of_ble_eq_true rfl) dR_ofPlace_79) ?_
      exact mp_ri cx h dR_ofPlace_82
    have h := mp_f c9 h
    by_cases c11 : a2 = 4
    · have h := mp_t c11 h
      refine lv_tableIn (off := 72) (tgt := 83) hx hb dR_ofPlace_11 (by rw [c11]; decide) (by rw [c11]; decide) (by rw [c11]; rfl) (by decide) ?_
      refine lv_aload_n hx hb dR_ofPlace_83 rfl (lv_at hl 0 rfl) ?_
      refine lv_iload_n hx hb dR_ofPlace_84 rfl (lv_at hl 1 rfl) ?_
      obtain ⟨x12, ex12, h⟩ := mp_bs h
      refine mp_si (mp_runV (As := [.int a1]) (rest := []) cx kV_R_50 (cR_threadsIn l k ad g a1 x12 ex12) ⟨rfl, rfl, Nat.le_of_ble_eq_true rfl, Nat.le_of_ble_eq_true rfl⟩ ⟨Nat.zero_le _, Nat.zero_le _⟩ hE hP hD va_S.rf 0 rfl rfl rfl hl.1 rfl (Nat.le_of_ble_eq_true rfl) dR_ofPlace_85) ?_
      exact mp_ri cx h dR_ofPlace_88
    have h := mp_f c11 h
    by_cases c13 : a2 = 5
    · have h := mp_t c13 h
      refine lv_tableIn (off := 78) (tgt := 89) hx hb dR_ofPlace_11 (by rw [c13]; decide) (by rw [c13]; decide) (by rw [c13]; rfl) (by decide) ?_
      refine lv_aload_n hx hb dR_ofPlace_89 rfl (lv_at hl 0 rfl) ?_
      refine lv_iload_n hx hb dR_ofPlace_90 rfl (lv_at hl 1 rfl) ?_
      obtain ⟨x14, ex14, h⟩ := mp_bs h
      refine mp_si (mp_runV (As := [.int a1]) (rest := []) cx kV_R_53 (cR_deepOf l k ad g a1 x14 ex14) ⟨rfl, rfl, Nat.le_of_ble_eq_true rfl, Nat.le_of_ble_eq_true rfl⟩ ⟨Nat.zero_le _, Nat.zero_le _⟩ hE hP hD va_S.rf 0 rfl rfl rfl hl.1 rfl (Nat.le_of_ble_eq_true rfl) dR_ofPlace_91) ?_
      exact mp_ri cx h dR_ofPlace_94
    have h := mp_f c13 h
    have qc3 : (a2).toInt ≠ 0 := mp_ne c3
    have qc5 : (a2).toInt ≠ 1 := mp_ne c5
    have qc7 : (a2).toInt ≠ 2 := mp_ne c7
    have qc9 : (a2).toInt ≠ 3 := mp_ne c9
    have qc11 : (a2).toInt ≠ 4 := mp_ne c11
    have qc13 : (a2).toInt ≠ 5 := mp_ne c13
    refine lv_tableOut (tgt := 95) hx hb dR_ofPlace_11 (by omega) (by decide) ?_
    refine lv_iload_n hx hb dR_ofPlace_95 rfl (lv_at hl 2 rfl) ?_
    refine lv_bipush (v := 10) hx hb dR_ofPlace_96 (by decide) ?_
    refine lv_icmp_lt (tgt := 131) hx hb dR_ofPlace_98 (by decide) (fun c15 => ?_) (fun c15 => ?_)
    · have h := mp_t c15 h
      refine lv_bipush (v := (-2)) hx hb dR_ofPlace_131 (by decide) ?_
      exact mp_ri cx h dR_ofPlace_133
    · have h := mp_f c15 h
      refine lv_iload_n hx hb dR_ofPlace_101 rfl (lv_at hl 2 rfl) ?_
      refine lv_bipush (v := 10) hx hb dR_ofPlace_102 (by decide) ?_
      refine lv_isub hx hb dR_ofPlace_104 ?_
      obtain ⟨x16, ex16, h⟩ := mp_bs h
      refine mp_si (mp_runT (As := [.int (a2 - 10)]) (rest := []) cx kT_R_34 (cR_isName l k (a2 - 10) x16 ex16) ⟨rfl, rfl, Nat.le_of_ble_eq_true rfl, Nat.le_of_ble_eq_true rfl⟩ ⟨Nat.zero_le _, Nat.zero_le _⟩ hE mp_P0 mp_D0 va_S.rf hl.1 rfl (Nat.le_of_ble_eq_true rfl) dR_ofPlace_105) ?_
      refine lv_if_eq (tgt := 131) hx hb dR_ofPlace_108 (by decide) (fun c17 => ?_) (fun c17 => ?_)
      · have h := mp_t c17 h
        refine lv_bipush (v := (-2)) hx hb dR_ofPlace_131 (by decide) ?_
        exact mp_ri cx h dR_ofPlace_133
      · have h := mp_f c17 h
        refine lv_aload_n hx hb dR_ofPlace_111 rfl (lv_at hl 0 rfl) ?_
        refine mp_gR cx hE hP iR 0 rfl 0 (by decide) wq_401 rfl (v := .ref (ad 1)) rfl dR_ofPlace_112 ?_
        refine lv_bipush (v := 39) hx hb dR_ofPlace_115 (by decide) ?_
        refine lv_bipush (v := 6) hx hb dR_ofPlace_117 (by decide) ?_
        refine lv_iload_n hx hb dR_ofPlace_119 rfl (lv_at hl 1 rfl) ?_
        refine lv_imul hx hb dR_ofPlace_120 ?_
        refine lv_iadd hx hb dR_ofPlace_121 ?_
        refine lv_iload_n hx hb dR_ofPlace_122 rfl (lv_at hl 2 rfl) ?_
        refine lv_iadd hx hb dR_ofPlace_123 ?_
        refine lv_bipush (v := 10) hx hb dR_ofPlace_124 (by decide) ?_
        refine lv_isub hx hb dR_ofPlace_126 ?_
        obtain ⟨hi, x18, ex18, h⟩ := mp_lds h
        refine va_iald hx hb hE.1 hP 1 0 (f := g.1) (n := 231) rfl rfl hi dR_ofPlace_127 ?_
        refine mp_top ex18 ?_
        refine lv_goto (tgt := 133) hx hb dR_ofPlace_128 (by decide) ?_
        exact mp_ri cx h dR_ofPlace_133
  · have h := mp_t c2 h
    refine lv_iconst (v := (-1)) hx hb dR_ofPlace_8 (by decide) ?_
    exact mp_ri cx h dR_ofPlace_9
theorem cR_ofPlace (l : Launch) (k : KK) (ad : Nat → Nat) (g : SR) (a1 : Int32) (a2 : Int32) (z : Int32) (h : fR_ofPlace g a1 a2 = some z) : mp_CS l k yR_ofPlace bR_ofPlace 3 (some .int) rmR_ofPlace [.ref (ad 0), .int a1, .int a2] (cR k ad g) (some (.int z)) := by
  refine Met.ofW (cc := bR_ofPlace) (maxL := 3) (ret := (some .int)) (by decide) rfl ?_
  intro p e s m args below meth c s₁ B hml hv
  obtain ⟨rfl, hP, hD, hE⟩ := hv
  have hl := lv_entry ([.ref (ad 0), .int a1, .int a2]) (n := 3) (Nat.le_of_ble_eq_true rfl)
  rw [lg_entry_eq]
  generalize (lg_sl ([.ref (ad 0), .int a1, .int a2]) ++ List.replicate (3 - (lg_sl ([.ref (ad 0), .int a1, .int a2])).length) Slot.unset).toArray = ls at hl ⊢
  exact wR_ofPlace (mp_C.of B hml) k ad g a1 a2 z hE hP hD h ls hl
-- MovingPlacesModel.isOver
abbrev rmR_isOver : Room := { frames := 0, cells := 0, slots := 0, locals := 0 }
def fR_isOver (g : SR) (a1 : Int32) : Option Int32 := mp_ld g.1 231 (135 + a1) fun x1 => mp_ld g.1 231 (123 + a1) fun x2 => (if x1 = x2 then some 1 else some 0)
set_option maxHeartbeats 4000000 in
set_option maxRecDepth 100000 in
theorem wR_isOver {p : Program} {l : Launch} {e : Env} {s : State} {m : MethodId} {args : Array Value} {below : List Frame} {meth : Method} {c : Code} (cx : mp_C p s m args meth c bR_isOver 2 (some .boolean) rR) (k : KK) (ad : Nat → Nat) (g : SR) (a1 : Int32) (z : Int32) (hE : mp_E k s) (hP : va_P (kD k) mp_cls (cR k ad g) s.heap) (hD : va_D (mp_N k) (cR k ad g)) (h : fR_isOver g a1 = some z) (ls : Array Slot) (hl : lv_has ls 2 [(0, .ref (ad 0)), (1, .int a1)]) : W p l e rmR_isOver s m args below meth c s.heap [] 0 0 (MQ below (mp_Qs (some (.int z))) args s 0 0 (fun _ => False)) (F0 m 0 ls []) := by
  obtain ⟨hx, hb, -, hml, hown, hts, -⟩ := id cx
  unfold fR_isOver at h
  refine lv_aload_n hx hb dR_isOver_0 rfl (lv_at hl 0 rfl) ?_
  refine mp_gR cx hE hP iR 0 rfl 0 (by decide) wq_401 rfl (v := .ref (ad 1)) rfl dR_isOver_1 ?_
  refine lv_sipush (v := 135) hx hb dR_isOver_4 (by decide) ?_
  refine lv_iload_n hx hb dR_isOver_7 rfl (lv_at hl 1 rfl) ?_
  refine lv_iadd hx hb dR_isOver_8 ?_
  obtain ⟨hi, x1, ex1, h⟩ := mp_lds h
  refine va_iald hx hb hE.1 hP 1 0 (f := g.1) (n := 231) rfl rfl hi dR_isOver_9 ?_
  refine mp_top ex1 ?_
  refine lv_aload_n hx hb dR_isOver_10 rfl (lv_at hl 0 rfl) ?_
  refine mp_gR cx hE hP iR 0 rfl 0 (by decide) wq_401 rfl (v := .ref (ad 1)) rfl dR_isOver_11 ?_
  refine lv_bipush (v := 123) hx hb dR_isOver_14 (by decide) ?_
  refine lv_iload_n hx hb dR_isOver_16 rfl (lv_at hl 1 rfl) ?_
  refine lv_iadd hx hb dR_isOver_17 ?_
  obtain ⟨hi, x2, ex2, h⟩ := mp_lds h
  refine va_iald hx hb hE.1 hP 1 0 (f := g.1) (n := 231) rfl rfl hi dR_isOver_18 ?_
  refine mp_top ex2 ?_
  refine lv_icmp_ne (tgt := 26) hx hb dR_isOver_19 (by decide) (fun c3 => ?_) (fun c3 => ?_)
  · have h := mp_f c3 h
    refine lv_iconst (v := 0) hx hb dR_isOver_26 (by decide) ?_
    exact mp_rz cx rfl h dR_isOver_27
  · have h := mp_t c3 h
    refine lv_iconst (v := 1) hx hb dR_isOver_22 (by decide) ?_
    refine lv_goto (tgt := 27) hx hb dR_isOver_23 (by decide) ?_
    exact mp_rz cx rfl h dR_isOver_27
theorem cR_isOver (l : Launch) (k : KK) (ad : Nat → Nat) (g : SR) (a1 : Int32) (z : Int32) (h : fR_isOver g a1 = some z) : mp_CS l k yR_isOver bR_isOver 2 (some .boolean) rmR_isOver [.ref (ad 0), .int a1] (cR k ad g) (some (.int z)) := by
  refine Met.ofW (cc := bR_isOver) (maxL := 2) (ret := (some .boolean)) (by decide) rfl ?_
  intro p e s m args below meth c s₁ B hml hv
  obtain ⟨rfl, hP, hD, hE⟩ := hv
  have hl := lv_entry ([.ref (ad 0), .int a1]) (n := 2) (Nat.le_of_ble_eq_true rfl)
  rw [lg_entry_eq]
  generalize (lg_sl ([.ref (ad 0), .int a1]) ++ List.replicate (2 - (lg_sl ([.ref (ad 0), .int a1])).length) Slot.unset).toArray = ls at hl ⊢
  exact wR_isOver (mp_C.of B hml) k ad g a1 z hE hP hD h ls hl
-- MovingPlacesModel.nextOf
abbrev rmR_nextOf : Room := { frames := 1, cells := 0, slots := 0, locals := 21 }
def fR_nextOf (g : SR) (a1 : Int32) : Option Int32 := (fR_isOver g a1).bind fun x1 => (if x1 = 0 then mp_ld g.1 231 (135 + a1) fun x3 => mp_ld g.1 231 ((159 + (6 * a1)) + x3) fun x4 => some x4 else some (-9))
set_option maxHeartbeats 4000000 in
set_option maxRecDepth 100000 in
theorem wR_nextOf {p : Program} {l : Launch} {e : Env} {s : State} {m : MethodId} {args : Array Value} {below : List Frame} {meth : Method} {c : Code} (cx : mp_C p s m args meth c bR_nextOf 2 (some .int) rR) (k : KK) (ad : Nat → Nat) (g : SR) (a1 : Int32) (z : Int32) (hE : mp_E k s) (hP : va_P (kD k) mp_cls (cR k ad g) s.heap) (hD : va_D (mp_N k) (cR k ad g)) (h : fR_nextOf g a1 = some z) (ls : Array Slot) (hl : lv_has ls 2 [(0, .ref (ad 0)), (1, .int a1)]) : W p l e rmR_nextOf s m args below meth c s.heap [] 0 0 (MQ below (mp_Qs (some (.int z))) args s 0 0 (fun _ => False)) (F0 m 0 ls []) := by
  obtain ⟨hx, hb, -, hml, hown, hts, -⟩ := id cx
  unfold fR_nextOf at h
  refine lv_aload_n hx hb dR_nextOf_0 rfl (lv_at hl 0 rfl) ?_
  refine lv_iload_n hx hb dR_nextOf_1 rfl (lv_at hl 1 rfl) ?_
  obtain ⟨x1, ex1, h⟩ := mp_bs h
  refine mp_si (mp_runV (As := [.int a1]) (rest := []) cx kV_R_56 (cR_isOver l k ad g a1 x1 ex1) ⟨rfl, rfl, Nat.le_of_ble_eq_true rfl, Nat.le_of_ble_eq_true rfl⟩ ⟨Nat.zero_le _, Nat.zero_le _⟩ hE hP hD va_S.rf 0 rfl rfl rfl hl.1 rfl (Nat.le_of_ble_eq_true rfl) dR_nextOf_2) ?_
  refine lv_if_eq (tgt := 13) hx hb dR_nextOf_5 (by decide) (fun c2 => ?_) (fun c2 => ?_)
  · have h := mp_t c2 h
    refine lv_aload_n hx hb dR_nextOf_13 rfl (lv_at hl 0 rfl) ?_
    refine mp_gR cx hE hP iR 0 rfl 0 (by decide) wq_401 rfl (v := .ref (ad 1)) rfl dR_nextOf_14 ?_
    refine lv_sipush (v := 159) hx hb dR_nextOf_17 (by decide) ?_
    refine lv_bipush (v := 6) hx hb dR_nextOf_20 (by decide) ?_
    refine lv_iload_n hx hb dR_nextOf_22 rfl (lv_at hl 1 rfl) ?_
    refine lv_imul hx hb dR_nextOf_23 ?_
    refine lv_iadd hx hb dR_nextOf_24 ?_
    refine lv_aload_n hx hb dR_nextOf_25 rfl (lv_at hl 0 rfl) ?_
    refine mp_gR cx hE hP iR 0 rfl 0 (by decide) wq_401 rfl (v := .ref (ad 1)) rfl dR_nextOf_26 ?_
    refine lv_sipush (v := 135) hx hb dR_nextOf_29 (by decide) ?_
    refine lv_iload_n hx hb dR_nextOf_32 rfl (lv_at hl 1 rfl) ?_
    refine lv_iadd hx hb dR_nextOf_33 ?_
    obtain ⟨hi, x3, ex3, h⟩ := mp_lds h
    refine va_iald hx hb hE.1 hP 1 0 (f := g.1) (n := 231) rfl rfl hi dR_nextOf_34 ?_
    refine mp_top ex3 ?_
    refine lv_iadd hx hb dR_nextOf_35 ?_
    obtain ⟨hi, x4, ex4, h⟩ := mp_lds h
    refine va_iald hx hb hE.1 hP 1 0 (f := g.1) (n := 231) rfl rfl hi dR_nextOf_36 ?_
    refine mp_top ex4 ?_
    exact mp_ri cx h dR_nextOf_37
  · have h := mp_f c2 h
    refine lv_bipush (v := (-9)) hx hb dR_nextOf_8 (by decide) ?_
    refine lv_goto (tgt := 37) hx hb dR_nextOf_10 (by decide) ?_
    exact mp_ri cx h dR_nextOf_37
theorem cR_nextOf (l : Launch) (k : KK) (ad : Nat → Nat) (g : SR) (a1 : Int32) (z : Int32) (h : fR_nextOf g a1 = some z) : mp_CS l k yR_nextOf bR_nextOf 2 (some .int) rmR_nextOf [.ref (ad 0), .int a1] (cR k ad g) (some (.int z)) := by
  refine Met.ofW (cc := bR_nextOf) (maxL := 2) (ret := (some .int)) (by decide) rfl ?_
  intro p e s m args below meth c s₁ B hml hv
  obtain ⟨rfl, hP, hD, hE⟩ := hv
  have hl := lv_entry ([.ref (ad 0), .int a1]) (n := 2) (Nat.le_of_ble_eq_true rfl)
  rw [lg_entry_eq]
  generalize (lg_sl ([.ref (ad 0), .int a1]) ++ List.replicate (2 - (lg_sl ([.ref (ad 0), .int a1])).length) Slot.unset).toArray = ls at hl ⊢
  exact wR_nextOf (mp_C.of B hml) k ad g a1 z hE hP hD h ls hl
-- MovingPlacesModel.ofThread
abbrev rmR_ofThread : Room := { frames := 2, cells := 0, slots := 0, locals := 43 }
def fR_ofThread (g : SR) (a1 : Int32) (a2 : Int32) : Option Int32 := (fR_isThread g a1).bind fun x1 => (if x1 = 0 then some (-1) else (if a2 = 0 then mp_ld g.1 231 (111 + a1) fun x4 => some x4 else if a2 = 1 then mp_ld g.1 231 (135 + a1) fun x6 => some x6 else if a2 = 2 then mp_ld g.1 231 (123 + a1) fun x8 => some x8 else if a2 = 3 then mp_ld g.1 231 (147 + a1) fun x10 => some x10 else if a2 = 4 then (fR_nextOf g a1).bind fun x12 => some x12 else some (-2)))
set_option maxHeartbeats 4000000 in
set_option maxRecDepth 100000 in
theorem wR_ofThread {p : Program} {l : Launch} {e : Env} {s : State} {m : MethodId} {args : Array Value} {below : List Frame} {meth : Method} {c : Code} (cx : mp_C p s m args meth c bR_ofThread 3 (some .int) rR) (k : KK) (ad : Nat → Nat) (g : SR) (a1 : Int32) (a2 : Int32) (z : Int32) (hE : mp_E k s) (hP : va_P (kD k) mp_cls (cR k ad g) s.heap) (hD : va_D (mp_N k) (cR k ad g)) (h : fR_ofThread g a1 a2 = some z) (ls : Array Slot) (hl : lv_has ls 3 [(0, .ref (ad 0)), (1, .int a1), (2, .int a2)]) : W p l e rmR_ofThread s m args below meth c s.heap [] 0 0 (MQ below (mp_Qs (some (.int z))) args s 0 0 (fun _ => False)) (F0 m 0 ls []) := by
  obtain ⟨hx, hb, -, hml, hown, hts, -⟩ := id cx
  unfold fR_ofThread at h
  refine lv_aload_n hx hb dR_ofThread_0 rfl (lv_at hl 0 rfl) ?_
  refine lv_iload_n hx hb dR_ofThread_1 rfl (lv_at hl 1 rfl) ?_
  obtain ⟨x1, ex1, h⟩ := mp_bs h
  refine mp_si (mp_runV (As := [.int a1]) (rest := []) cx kV_R_59 (cR_isThread l k ad g a1 x1 ex1) ⟨rfl, rfl, Nat.le_of_ble_eq_true rfl, Nat.le_of_ble_eq_true rfl⟩ ⟨Nat.zero_le _, Nat.zero_le _⟩ hE hP hD va_S.rf 0 rfl rfl rfl hl.1 rfl (Nat.le_of_ble_eq_true rfl) dR_ofThread_2) ?_
  refine lv_if_ne (tgt := 10) hx hb dR_ofThread_5 (by decide) (fun c2 => ?_) (fun c2 => ?_)
  · have h := mp_f c2 h
    refine lv_iload_n hx hb dR_ofThread_10 rfl (lv_at hl 2 rfl) ?_
    by_cases c3 : a2 = 0
    · have h := mp_t c3 h
      refine lv_tableIn (off := 33) (tgt := 44) hx hb dR_ofThread_11 (by rw [c3]; decide) (by rw [c3]; decide) (by rw [c3]; rfl) (by decide) ?_
      refine lv_aload_n hx hb dR_ofThread_44 rfl (lv_at hl 0 rfl) ?_
      refine mp_gR cx hE hP iR 0 rfl 0 (by decide) wq_401 rfl (v := .ref (ad 1)) rfl dR_ofThread_45 ?_
      refine lv_bipush (v := 111) hx hb dR_ofThread_48 (by decide) ?_
      refine lv_iload_n hx hb dR_ofThread_50 rfl (lv_at hl 1 rfl) ?_
      refine lv_iadd hx hb dR_ofThread_51 ?_
      obtain ⟨hi, x4, ex4, h⟩ := mp_lds h
      refine va_iald hx hb hE.1 hP 1 0 (f := g.1) (n := 231) rfl rfl hi dR_ofThread_52 ?_
      refine mp_top ex4 ?_
      exact mp_ri cx h dR_ofThread_53
    have h := mp_f c3 h
    by_cases c5 : a2 = 1
    · have h := mp_t c5 h
      refine lv_tableIn (off := 43) (tgt := 54) hx hb dR_ofThread_11 (by rw [c5]; decide) (by rw [c5]; decide) (by rw [c5]; rfl) (by decide) ?_
      refine lv_aload_n hx hb dR_ofThread_54 rfl (lv_at hl 0 rfl) ?_
      refine mp_gR cx hE hP iR 0 rfl 0 (by decide) wq_401 rfl (v := .ref (ad 1)) rfl dR_ofThread_55 ?_
      refine lv_sipush (v := 135) hx hb dR_ofThread_58 (by decide) ?_
      refine lv_iload_n hx hb dR_ofThread_61 rfl (lv_at hl 1 rfl) ?_
      refine lv_iadd hx hb dR_ofThread_62 ?_
      obtain ⟨hi, x6, ex6, h⟩ := mp_lds h
      refine va_iald hx hb hE.1 hP 1 0 (f := g.1) (n := 231) rfl rfl hi dR_ofThread_63 ?_
      refine mp_top ex6 ?_
      exact mp_ri cx h dR_ofThread_64
    have h := mp_f c5 h
    by_cases c7 : a2 = 2
    · have h := mp_t c7 h
      refine lv_tableIn (off := 54) (tgt := 65) hx hb dR_ofThread_11 (by rw [c7]; decide) (by rw [c7]; decide) (by rw [c7]; rfl) (by decide) ?_
      refine lv_aload_n hx hb dR_ofThread_65 rfl (lv_at hl 0 rfl) ?_
      refine mp_gR cx hE hP iR 0 rfl 0 (by decide) wq_401 rfl (v := .ref (ad 1)) rfl dR_ofThread_66 ?_
      refine lv_bipush (v := 123) hx hb dR_ofThread_69 (by decide) ?_
      refine lv_iload_n hx hb dR_ofThread_71 rfl (lv_at hl 1 rfl) ?_
      refine lv_iadd hx hb dR_ofThread_72 ?_
      obtain ⟨hi, x8, ex8, h⟩ := mp_lds h
      refine va_iald hx hb hE.1 hP 1 0 (f := g.1) (n := 231) rfl rfl hi dR_ofThread_73 ?_
      refine mp_top ex8 ?_
      exact mp_ri cx h dR_ofThread_74
    have h := mp_f c7 h
    by_cases c9 : a2 = 3
    · have h := mp_t c9 h
      refine lv_tableIn (off := 64) (tgt := 75) hx hb dR_ofThread_11 (by rw [c9]; decide) (by rw [c9]; decide) (by rw [c9]; rfl) (by decide) ?_
      refine lv_aload_n hx hb dR_ofThread_75 rfl (lv_at hl 0 rfl) ?_
      refine mp_gR cx hE hP iR 0 rfl 0 (by decide) wq_401 rfl (v := .ref (ad 1)) rfl dR_ofThread_76 ?_
      refine lv_sipush (v := 147) hx hb dR_ofThread_79 (by decide) ?_
      refine lv_iload_n hx hb dR_ofThread_82 rfl (lv_at hl 1 rfl) ?_
      refine lv_iadd hx hb dR_ofThread_83 ?_
      obtain ⟨hi, x10, ex10, h⟩ := mp_lds h
      refine va_iald hx hb hE.1 hP 1 0 (f := g.1) (n := 231) rfl rfl hi dR_ofThread_84 ?_
      refine mp_top ex10 ?_
      exact mp_ri cx h dR_ofThread_85
    have h := mp_f c9 h
    by_cases c11 : a2 = 4
    · have h := mp_t c11 h
      refine lv_tableIn (off := 75) (tgt := 86) hx hb dR_ofThread_11 (by rw [c11]; decide) (by rw [c11]; decide) (by rw [c11]; rfl) (by decide) ?_
      refine lv_aload_n hx hb dR_ofThread_86 rfl (lv_at hl 0 rfl) ?_
      refine lv_iload_n hx hb dR_ofThread_87 rfl (lv_at hl 1 rfl) ?_
      obtain ⟨x12, ex12, h⟩ := mp_bs h
      refine mp_si (mp_runV (As := [.int a1]) (rest := []) cx kV_R_62 (cR_nextOf l k ad g a1 x12 ex12) ⟨rfl, rfl, Nat.le_of_ble_eq_true rfl, Nat.le_of_ble_eq_true rfl⟩ ⟨Nat.zero_le _, Nat.zero_le _⟩ hE hP hD va_S.rf 0 rfl rfl rfl hl.1 rfl (Nat.le_of_ble_eq_true rfl) dR_ofThread_88) ?_
      exact mp_ri cx h dR_ofThread_91
    have h := mp_f c11 h
    have qc3 : (a2).toInt ≠ 0 := mp_ne c3
    have qc5 : (a2).toInt ≠ 1 := mp_ne c5
    have qc7 : (a2).toInt ≠ 2 := mp_ne c7
    have qc9 : (a2).toInt ≠ 3 := mp_ne c9
    have qc11 : (a2).toInt ≠ 4 := mp_ne c11
    refine lv_tableOut (tgt := 92) hx hb dR_ofThread_11 (by omega) (by decide) ?_
    refine lv_bipush (v := (-2)) hx hb dR_ofThread_92 (by decide) ?_
    exact mp_ri cx h dR_ofThread_94
  · have h := mp_t c2 h
    refine lv_iconst (v := (-1)) hx hb dR_ofThread_8 (by decide) ?_
    exact mp_ri cx h dR_ofThread_9
theorem cR_ofThread (l : Launch) (k : KK) (ad : Nat → Nat) (g : SR) (a1 : Int32) (a2 : Int32) (z : Int32) (h : fR_ofThread g a1 a2 = some z) : mp_CS l k yR_ofThread bR_ofThread 3 (some .int) rmR_ofThread [.ref (ad 0), .int a1, .int a2] (cR k ad g) (some (.int z)) := by
  refine Met.ofW (cc := bR_ofThread) (maxL := 3) (ret := (some .int)) (by decide) rfl ?_
  intro p e s m args below meth c s₁ B hml hv
  obtain ⟨rfl, hP, hD, hE⟩ := hv
  have hl := lv_entry ([.ref (ad 0), .int a1, .int a2]) (n := 3) (Nat.le_of_ble_eq_true rfl)
  rw [lg_entry_eq]
  generalize (lg_sl ([.ref (ad 0), .int a1, .int a2]) ++ List.replicate (3 - (lg_sl ([.ref (ad 0), .int a1, .int a2])).length) Slot.unset).toArray = ls at hl ⊢
  exact wR_ofThread (mp_C.of B hml) k ad g a1 a2 z hE hP hD h ls hl
-- MovingPlacesModel.isWithin
abbrev rmR_isWithin : Room := { frames := 2, cells := 0, slots := 0, locals := 43 }
def fR_isWithin_20 (g : SR) (a2 : Int32) : Nat → Int32 → Option Int32
  | 0, _ => none
  | n + 1, a3 => (if a3 = 0 then some 0 else mp_ld g.1 231 (15 + a3) fun x2 => (if x2 = a2 then some 1 else mp_ld g.1 231 (15 + a3) fun x4 => fR_isWithin_20 g a2 n x4))
theorem fR_isWithin_20_s (g : SR) (a2 : Int32) (n : Nat) (a3 : Int32) : fR_isWithin_20 g a2 (n + 1) a3 = (if a3 = 0 then some 0 else mp_ld g.1 231 (15 + a3) fun x2 => (if x2 = a2 then some 1 else mp_ld g.1 231 (15 + a3) fun x4 => fR_isWithin_20 g a2 n x4)) := rfl
set_option maxHeartbeats 4000000 in
set_option maxRecDepth 100000 in
theorem lR_isWithin_20 {p : Program} {l : Launch} {e : Env} {s : State} {m : MethodId} {args : Array Value} {below : List Frame} {meth : Method} {c : Code} (cx : mp_C p s m args meth c bR_isWithin 4 (some .boolean) rR) (k : KK) (ad : Nat → Nat) (g : SR) (a2 : Int32) (z : Int32) (hE : mp_E k s) (hP : va_P (kD k) mp_cls (cR k ad g) s.heap) (hD : va_D (mp_N k) (cR k ad g)) : ∀ (n : Nat) (a3 : Int32), fR_isWithin_20 g a2 n a3 = some z → ∀ (ls : Array Slot), lv_has ls 4 [(0, .ref (ad 0)), (2, .int a2), (3, .int a3)] → W p l e rmR_isWithin s m args below meth c s.heap [] 0 0 (MQ below (mp_Qs (some (.int z))) args s 0 0 (fun _ => False)) (F0 m 20 ls []) := by
  obtain ⟨hx, hb, -, hml, hown, hts, -⟩ := id cx
  intro n
  induction n with
  | zero =>
    intro a3 h
    have h : (none : Option Int32) = some z := h
    cases h
  | succ n ih =>
    intro a3 h ls hl
    rw [fR_isWithin_20_s] at h
    refine lv_iload_n hx hb dR_isWithin_20 rfl (lv_at hl 2 rfl) ?_
    refine lv_if_eq (tgt := 52) hx hb dR_isWithin_21 (by decide) (fun c1 => ?_) (fun c1 => ?_)
    · have h := mp_t c1 h
      refine lv_iconst (v := 0) hx hb dR_isWithin_52 (by decide) ?_
      exact mp_rz cx rfl h dR_isWithin_53
    · have h := mp_f c1 h
      refine lv_aload_n hx hb dR_isWithin_24 rfl (lv_at hl 0 rfl) ?_
      refine mp_gR cx hE hP iR 0 rfl 0 (by decide) wq_401 rfl (v := .ref (ad 1)) rfl dR_isWithin_25 ?_
      refine lv_bipush (v := 15) hx hb dR_isWithin_28 (by decide) ?_
      refine lv_iload_n hx hb dR_isWithin_30 rfl (lv_at hl 2 rfl) ?_
      refine lv_iadd hx hb dR_isWithin_31 ?_
      obtain ⟨hi, x2, ex2, h⟩ := mp_lds h
      refine va_iald hx hb hE.1 hP 1 0 (f := g.1) (n := 231) rfl rfl hi dR_isWithin_32 ?_
      refine mp_top ex2 ?_
      refine lv_iload_n hx hb dR_isWithin_33 rfl (lv_at hl 1 rfl) ?_
      refine lv_icmp_ne (tgt := 39) hx hb dR_isWithin_34 (by decide) (fun c3 => ?_) (fun c3 => ?_)
      · have h := mp_f c3 h
        refine lv_aload_n hx hb dR_isWithin_39 rfl (lv_at hl 0 rfl) ?_
        refine mp_gR cx hE hP iR 0 rfl 0 (by decide) wq_401 rfl (v := .ref (ad 1)) rfl dR_isWithin_40 ?_
        refine lv_bipush (v := 15) hx hb dR_isWithin_43 (by decide) ?_
        refine lv_iload_n hx hb dR_isWithin_45 rfl (lv_at hl 2 rfl) ?_
        refine lv_iadd hx hb dR_isWithin_46 ?_
        obtain ⟨hi, x4, ex4, h⟩ := mp_lds h
        refine va_iald hx hb hE.1 hP 1 0 (f := g.1) (n := 231) rfl rfl hi dR_isWithin_47 ?_
        refine mp_top ex4 ?_
        refine lv_istore_n (lv' := [(3, .int x4), (0, .ref (ad 0)), (2, .int a2)]) hx hb dR_isWithin_48 rfl hl (by decide) rfl (fun ls hl => ?_)
        refine lv_goto (tgt := 20) hx hb dR_isWithin_49 (by decide) ?_
        exact ih x4 h ls (lv_sub hl [1, 2, 0] rfl)
      · have h := mp_t c3 h
        refine lv_iconst (v := 1) hx hb dR_isWithin_37 (by decide) ?_
        exact mp_rz cx rfl h dR_isWithin_38
def fR_isWithin (g : SR) (a1 : Int32) (a2 : Int32) : Option Int32 := (fR_isPlace g a1).bind fun x1 => (if x1 = 0 then some 0 else (fR_isPlace g a2).bind fun x3 => (if x3 = 0 then some 0 else fR_isWithin_20 g a2 2000 a1))
set_option maxHeartbeats 4000000 in
set_option maxRecDepth 100000 in
theorem wR_isWithin {p : Program} {l : Launch} {e : Env} {s : State} {m : MethodId} {args : Array Value} {below : List Frame} {meth : Method} {c : Code} (cx : mp_C p s m args meth c bR_isWithin 4 (some .boolean) rR) (k : KK) (ad : Nat → Nat) (g : SR) (a1 : Int32) (a2 : Int32) (z : Int32) (hE : mp_E k s) (hP : va_P (kD k) mp_cls (cR k ad g) s.heap) (hD : va_D (mp_N k) (cR k ad g)) (h : fR_isWithin g a1 a2 = some z) (ls : Array Slot) (hl : lv_has ls 4 [(0, .ref (ad 0)), (1, .int a1), (2, .int a2)]) : W p l e rmR_isWithin s m args below meth c s.heap [] 0 0 (MQ below (mp_Qs (some (.int z))) args s 0 0 (fun _ => False)) (F0 m 0 ls []) := by
  obtain ⟨hx, hb, -, hml, hown, hts, -⟩ := id cx
  unfold fR_isWithin at h
  refine lv_aload_n hx hb dR_isWithin_0 rfl (lv_at hl 0 rfl) ?_
  refine lv_iload_n hx hb dR_isWithin_1 rfl (lv_at hl 1 rfl) ?_
  obtain ⟨x1, ex1, h⟩ := mp_bs h
  refine mp_si (mp_runV (As := [.int a1]) (rest := []) cx kV_R_30 (cR_isPlace l k ad g a1 x1 ex1) ⟨rfl, rfl, Nat.le_of_ble_eq_true rfl, Nat.le_of_ble_eq_true rfl⟩ ⟨Nat.zero_le _, Nat.zero_le _⟩ hE hP hD va_S.rf 0 rfl rfl rfl hl.1 rfl (Nat.le_of_ble_eq_true rfl) dR_isWithin_2) ?_
  refine lv_if_eq (tgt := 16) hx hb dR_isWithin_5 (by decide) (fun c2 => ?_) (fun c2 => ?_)
  · have h := mp_t c2 h
    refine lv_iconst (v := 0) hx hb dR_isWithin_16 (by decide) ?_
    exact mp_rz cx rfl h dR_isWithin_17
  · have h := mp_f c2 h
    refine lv_aload_n hx hb dR_isWithin_8 rfl (lv_at hl 0 rfl) ?_
    refine lv_iload_n hx hb dR_isWithin_9 rfl (lv_at hl 2 rfl) ?_
    obtain ⟨x3, ex3, h⟩ := mp_bs h
    refine mp_si (mp_runV (As := [.int a2]) (rest := []) cx kV_R_30 (cR_isPlace l k ad g a2 x3 ex3) ⟨rfl, rfl, Nat.le_of_ble_eq_true rfl, Nat.le_of_ble_eq_true rfl⟩ ⟨Nat.zero_le _, Nat.zero_le _⟩ hE hP hD va_S.rf 0 rfl rfl rfl hl.1 rfl (Nat.le_of_ble_eq_true rfl) dR_isWithin_10) ?_
    refine lv_if_ne (tgt := 18) hx hb dR_isWithin_13 (by decide) (fun c4 => ?_) (fun c4 => ?_)
    · have h := mp_f c4 h
      refine lv_iload_n hx hb dR_isWithin_18 rfl (lv_at hl 1 rfl) ?_
      refine lv_istore_n (lv' := [(3, .int a1), (0, .ref (ad 0)), (1, .int a1), (2, .int a2)]) hx hb dR_isWithin_19 rfl hl (by decide) rfl (fun ls hl => ?_)
      exact lR_isWithin_20 cx k ad g a2 z hE hP hD _ a1 h ls (lv_sub hl [1, 3, 0] rfl)
    · have h := mp_t c4 h
      refine lv_iconst (v := 0) hx hb dR_isWithin_16 (by decide) ?_
      exact mp_rz cx rfl h dR_isWithin_17
theorem cR_isWithin (l : Launch) (k : KK) (ad : Nat → Nat) (g : SR) (a1 : Int32) (a2 : Int32) (z : Int32) (h : fR_isWithin g a1 a2 = some z) : mp_CS l k yR_isWithin bR_isWithin 4 (some .boolean) rmR_isWithin [.ref (ad 0), .int a1, .int a2] (cR k ad g) (some (.int z)) := by
  refine Met.ofW (cc := bR_isWithin) (maxL := 4) (ret := (some .boolean)) (by decide) rfl ?_
  intro p e s m args below meth c s₁ B hml hv
  obtain ⟨rfl, hP, hD, hE⟩ := hv
  have hl := lv_entry ([.ref (ad 0), .int a1, .int a2]) (n := 4) (Nat.le_of_ble_eq_true rfl)
  rw [lg_entry_eq]
  generalize (lg_sl ([.ref (ad 0), .int a1, .int a2]) ++ List.replicate (4 - (lg_sl ([.ref (ad 0), .int a1, .int a2])).length) Slot.unset).toArray = ls at hl ⊢
  exact wR_isWithin (mp_C.of B hml) k ad g a1 a2 z hE hP hD h ls hl
-- MovingPlacesModel.within
abbrev rmR_within : Room := { frames := 3, cells := 0, slots := 0, locals := 66 }
def fR_within (g : SR) (a1 : Int32) (a2 : Int32) : Option Int32 := (fR_isPlace g a1).bind fun x1 => (if x1 = 0 then some (-1) else (fR_isPlace g a2).bind fun x3 => (if x3 = 0 then some (-1) else (fR_isWithin g a1 a2).bind fun x5 => (if x5 = 0 then some 0 else some 1)))
set_option maxHeartbeats 4000000 in
set_option maxRecDepth 100000 in
theorem wR_within {p : Program} {l : Launch} {e : Env} {s : State} {m : MethodId} {args : Array Value} {below : List Frame} {meth : Method} {c : Code} (cx : mp_C p s m args meth c bR_within 3 (some .int) rR) (k : KK) (ad : Nat → Nat) (g : SR) (a1 : Int32) (a2 : Int32) (z : Int32) (hE : mp_E k s) (hP : va_P (kD k) mp_cls (cR k ad g) s.heap) (hD : va_D (mp_N k) (cR k ad g)) (h : fR_within g a1 a2 = some z) (ls : Array Slot) (hl : lv_has ls 3 [(0, .ref (ad 0)), (1, .int a1), (2, .int a2)]) : W p l e rmR_within s m args below meth c s.heap [] 0 0 (MQ below (mp_Qs (some (.int z))) args s 0 0 (fun _ => False)) (F0 m 0 ls []) := by
  obtain ⟨hx, hb, -, hml, hown, hts, -⟩ := id cx
  unfold fR_within at h
  refine lv_aload_n hx hb dR_within_0 rfl (lv_at hl 0 rfl) ?_
  refine lv_iload_n hx hb dR_within_1 rfl (lv_at hl 1 rfl) ?_
  obtain ⟨x1, ex1, h⟩ := mp_bs h
  refine mp_si (mp_runV (As := [.int a1]) (rest := []) cx kV_R_30 (cR_isPlace l k ad g a1 x1 ex1) ⟨rfl, rfl, Nat.le_of_ble_eq_true rfl, Nat.le_of_ble_eq_true rfl⟩ ⟨Nat.zero_le _, Nat.zero_le _⟩ hE hP hD va_S.rf 0 rfl rfl rfl hl.1 rfl (Nat.le_of_ble_eq_true rfl) dR_within_2) ?_
  refine lv_if_eq (tgt := 16) hx hb dR_within_5 (by decide) (fun c2 => ?_) (fun c2 => ?_)
  · have h := mp_t c2 h
    refine lv_iconst (v := (-1)) hx hb dR_within_16 (by decide) ?_
    exact mp_ri cx h dR_within_17
  · have h := mp_f c2 h
    refine lv_aload_n hx hb dR_within_8 rfl (lv_at hl 0 rfl) ?_
    refine lv_iload_n hx hb dR_within_9 rfl (lv_at hl 2 rfl) ?_
    obtain ⟨x3, ex3, h⟩ := mp_bs h
    refine mp_si (mp_runV (As := [.int a2]) (rest := []) cx kV_R_30 (cR_isPlace l k ad g a2 x3 ex3) ⟨rfl, rfl, Nat.le_of_ble_eq_true rfl, Nat.le_of_ble_eq_true rfl⟩ ⟨Nat.zero_le _, Nat.zero_le _⟩ hE hP hD va_S.rf 0 rfl rfl rfl hl.1 rfl (Nat.le_of_ble_eq_true rfl) dR_within_10) ?_
    refine lv_if_ne (tgt := 18) hx hb dR_within_13 (by decide) (fun c4 => ?_) (fun c4 => ?_)
    · have h := mp_f c4 h
      refine lv_aload_n hx hb dR_within_18 rfl (lv_at hl 0 rfl) ?_
      refine lv_iload_n hx hb dR_within_19 rfl (lv_at hl 1 rfl) ?_
      refine lv_iload_n hx hb dR_within_20 rfl (lv_at hl 2 rfl) ?_
      obtain ⟨x5, ex5, h⟩ := mp_bs h
      refine mp_si (mp_runV (As := [.int a1, .int a2]) (rest := []) cx kV_R_65 (cR_isWithin l k ad g a1 a2 x5 ex5) ⟨rfl, rfl, Nat.le_of_ble_eq_true rfl, Nat.le_of_ble_eq_true rfl⟩ ⟨Nat.zero_le _, Nat.zero_le _⟩ hE hP hD va_S.rf 0 rfl rfl rfl hl.1 rfl (Nat.le_of_ble_eq_true rfl) dR_within_21) ?_
      refine lv_if_eq (tgt := 31) hx hb dR_within_24 (by decide) (fun c6 => ?_) (fun c6 => ?_)
      · have h := mp_t c6 h
        refine lv_iconst (v := 0) hx hb dR_within_31 (by decide) ?_
        exact mp_ri cx h dR_within_32
      · have h := mp_f c6 h
        refine lv_iconst (v := 1) hx hb dR_within_27 (by decide) ?_
        refine lv_goto (tgt := 32) hx hb dR_within_28 (by decide) ?_
        exact mp_ri cx h dR_within_32
    · have h := mp_t c4 h
      refine lv_iconst (v := (-1)) hx hb dR_within_16 (by decide) ?_
      exact mp_ri cx h dR_within_17
theorem cR_within (l : Launch) (k : KK) (ad : Nat → Nat) (g : SR) (a1 : Int32) (a2 : Int32) (z : Int32) (h : fR_within g a1 a2 = some z) : mp_CS l k yR_within bR_within 3 (some .int) rmR_within [.ref (ad 0), .int a1, .int a2] (cR k ad g) (some (.int z)) := by
  refine Met.ofW (cc := bR_within) (maxL := 3) (ret := (some .int)) (by decide) rfl ?_
  intro p e s m args below meth c s₁ B hml hv
  obtain ⟨rfl, hP, hD, hE⟩ := hv
  have hl := lv_entry ([.ref (ad 0), .int a1, .int a2]) (n := 3) (Nat.le_of_ble_eq_true rfl)
  rw [lg_entry_eq]
  generalize (lg_sl ([.ref (ad 0), .int a1, .int a2]) ++ List.replicate (3 - (lg_sl ([.ref (ad 0), .int a1, .int a2])).length) Slot.unset).toArray = ls at hl ⊢
  exact wR_within (mp_C.of B hml) k ad g a1 a2 z hE hP hD h ls hl
