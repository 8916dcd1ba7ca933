theorem dM_isName_0 : decode bM_isName 0 = .ok (.iload_n 0, 1) := by decide +kernel
theorem dM_isName_1 : decode bM_isName 1 = .ok (.ifCond .lt 13, 3) := by decide +kernel
theorem dM_isName_4 : decode bM_isName 4 = .ok (.iload_n 0, 1) := by decide +kernel
theorem dM_isName_5 : decode bM_isName 5 = .ok (.bipush 6, 2) := by decide +kernel
theorem dM_isName_7 : decode bM_isName 7 = .ok (.if_icmp .ge 7, 3) := by decide +kernel
theorem dM_isName_10 : decode bM_isName 10 = .ok (.iconst 1, 1) := by decide +kernel
theorem dM_isName_11 : decode bM_isName 11 = .ok (.goto 4, 3) := by decide +kernel
theorem dM_isName_14 : decode bM_isName 14 = .ok (.iconst 0, 1) := by decide +kernel
theorem dM_isName_15 : decode bM_isName 15 = .ok (.ireturn, 1) := by decide +kernel
theorem dM_isAct_0 : decode bM_isAct 0 = .ok (.iload_n 0, 1) := by decide +kernel
theorem dM_isAct_1 : decode bM_isAct 1 = .ok (.bipush 10, 2) := by decide +kernel
theorem dM_isAct_3 : decode bM_isAct 3 = .ok (.idiv, 1) := by decide +kernel
theorem dM_isAct_4 : decode bM_isAct 4 = .ok (.istore_n 1, 1) := by decide +kernel
theorem dM_isAct_5 : decode bM_isAct 5 = .ok (.iload_n 0, 1) := by decide +kernel
theorem dM_isAct_6 : decode bM_isAct 6 = .ok (.bipush 10, 2) := by decide +kernel
theorem dM_isAct_8 : decode bM_isAct 8 = .ok (.irem, 1) := by decide +kernel
theorem dM_isAct_9 : decode bM_isAct 9 = .ok (.istore_n 2, 1) := by decide +kernel
theorem dM_isAct_10 : decode bM_isAct 10 = .ok (.iload_n 1, 1) := by decide +kernel
theorem dM_isAct_11 : decode bM_isAct 11 = .ok (.iconst 5, 1) := by decide +kernel
theorem dM_isAct_12 : decode bM_isAct 12 = .ok (.if_icmp .ne 13, 3) := by decide +kernel
theorem dM_isAct_15 : decode bM_isAct 15 = .ok (.iload_n 2, 1) := by decide +kernel
theorem dM_isAct_16 : decode bM_isAct 16 = .ok (.ifCond .ne 7, 3) := by decide +kernel
theorem dM_isAct_19 : decode bM_isAct 19 = .ok (.iconst 1, 1) := by decide +kernel
theorem dM_isAct_20 : decode bM_isAct 20 = .ok (.goto 4, 3) := by decide +kernel
theorem dM_isAct_23 : decode bM_isAct 23 = .ok (.iconst 0, 1) := by decide +kernel
theorem dM_isAct_24 : decode bM_isAct 24 = .ok (.ireturn, 1) := by decide +kernel
theorem dM_isAct_25 : decode bM_isAct 25 = .ok (.iload_n 1, 1) := by decide +kernel
theorem dM_isAct_26 : decode bM_isAct 26 = .ok (.iconst 1, 1) := by decide +kernel
theorem dM_isAct_27 : decode bM_isAct 27 = .ok (.if_icmp .lt 25, 3) := by decide +kernel
theorem dM_isAct_30 : decode bM_isAct 30 = .ok (.iload_n 1, 1) := by decide +kernel
theorem dM_isAct_31 : decode bM_isAct 31 = .ok (.iconst 4, 1) := by decide +kernel
theorem dM_isAct_32 : decode bM_isAct 32 = .ok (.if_icmp .gt 20, 3) := by decide +kernel
theorem dM_isAct_35 : decode bM_isAct 35 = .ok (.iload_n 2, 1) := by decide +kernel
theorem dM_isAct_36 : decode bM_isAct 36 = .ok (.invokestatic 35, 3) := by decide +kernel
theorem dM_isAct_39 : decode bM_isAct 39 = .ok (.ifCond .ne 9, 3) := by decide +kernel
theorem dM_isAct_42 : decode bM_isAct 42 = .ok (.iload_n 2, 1) := by decide +kernel
theorem dM_isAct_43 : decode bM_isAct 43 = .ok (.bipush 9, 2) := by decide +kernel
theorem dM_isAct_45 : decode bM_isAct 45 = .ok (.if_icmp .ne 7, 3) := by decide +kernel
theorem dM_isAct_48 : decode bM_isAct 48 = .ok (.iconst 1, 1) := by decide +kernel
theorem dM_isAct_49 : decode bM_isAct 49 = .ok (.goto 4, 3) := by decide +kernel
theorem dM_isAct_52 : decode bM_isAct 52 = .ok (.iconst 0, 1) := by decide +kernel
theorem dM_isAct_53 : decode bM_isAct 53 = .ok (.ireturn, 1) := by decide +kernel
theorem dM_countActs_0 : decode bM_countActs 0 = .ok (.lload_n 0, 1) := by decide +kernel
theorem dM_countActs_1 : decode bM_countActs 1 = .ok (.lconst 0, 1) := by decide +kernel
theorem dM_countActs_2 : decode bM_countActs 2 = .ok (.lcmp, 1) := by decide +kernel
theorem dM_countActs_3 : decode bM_countActs 3 = .ok (.ifCond .gt 5, 3) := by decide +kernel
theorem dM_countActs_6 : decode bM_countActs 6 = .ok (.iconst 0, 1) := by decide +kernel
theorem dM_countActs_7 : decode bM_countActs 7 = .ok (.ireturn, 1) := by decide +kernel
theorem dM_countActs_8 : decode bM_countActs 8 = .ok (.lload_n 0, 1) := by decide +kernel
theorem dM_countActs_9 : decode bM_countActs 9 = .ok (.lstore_n 2, 1) := by decide +kernel
theorem dM_countActs_10 : decode bM_countActs 10 = .ok (.iconst 1, 1) := by decide +kernel
theorem dM_countActs_11 : decode bM_countActs 11 = .ok (.istore 4, 2) := by decide +kernel
theorem dM_countActs_13 : decode bM_countActs 13 = .ok (.iload 4, 2) := by decide +kernel
theorem dM_countActs_15 : decode bM_countActs 15 = .ok (.bipush 6, 2) := by decide +kernel
theorem dM_countActs_17 : decode bM_countActs 17 = .ok (.if_icmp .gt 38, 3) := by decide +kernel
theorem dM_countActs_20 : decode bM_countActs 20 = .ok (.lload_n 2, 1) := by decide +kernel
theorem dM_countActs_21 : decode bM_countActs 21 = .ok (.ldc2_w 159, 3) := by decide +kernel
theorem dM_countActs_24 : decode bM_countActs 24 = .ok (.lrem, 1) := by decide +kernel
theorem dM_countActs_25 : decode bM_countActs 25 = .ok (.l2i, 1) := by decide +kernel
theorem dM_countActs_26 : decode bM_countActs 26 = .ok (.invokestatic 161, 3) := by decide +kernel
theorem dM_countActs_29 : decode bM_countActs 29 = .ok (.ifCond .ne 5, 3) := by decide +kernel
theorem dM_countActs_32 : decode bM_countActs 32 = .ok (.iconst 0, 1) := by decide +kernel
theorem dM_countActs_33 : decode bM_countActs 33 = .ok (.ireturn, 1) := by decide +kernel
theorem dM_countActs_34 : decode bM_countActs 34 = .ok (.lload_n 2, 1) := by decide +kernel
theorem dM_countActs_35 : decode bM_countActs 35 = .ok (.ldc2_w 159, 3) := by decide +kernel
theorem dM_countActs_38 : decode bM_countActs 38 = .ok (.ldiv, 1) := by decide +kernel
theorem dM_countActs_39 : decode bM_countActs 39 = .ok (.lstore_n 2, 1) := by decide +kernel
theorem dM_countActs_40 : decode bM_countActs 40 = .ok (.lload_n 2, 1) := by decide +kernel
theorem dM_countActs_41 : decode bM_countActs 41 = .ok (.lconst 0, 1) := by decide +kernel
theorem dM_countActs_42 : decode bM_countActs 42 = .ok (.lcmp, 1) := by decide +kernel
theorem dM_countActs_43 : decode bM_countActs 43 = .ok (.ifCond .ne 6, 3) := by decide +kernel
theorem dM_countActs_46 : decode bM_countActs 46 = .ok (.iload 4, 2) := by decide +kernel
theorem dM_countActs_48 : decode bM_countActs 48 = .ok (.ireturn, 1) := by decide +kernel
theorem dM_countActs_49 : decode bM_countActs 49 = .ok (.iinc 4 1, 3) := by decide +kernel
theorem dM_countActs_52 : decode bM_countActs 52 = .ok (.goto (-39), 3) := by decide +kernel
theorem dM_countActs_55 : decode bM_countActs 55 = .ok (.iconst 0, 1) := by decide +kernel
theorem dM_countActs_56 : decode bM_countActs 56 = .ok (.ireturn, 1) := by decide +kernel
theorem dJ_bitCount_0 : decode bJ_bitCount 0 = .ok (.iload_n 0, 1) := by decide +kernel
theorem dJ_bitCount_1 : decode bJ_bitCount 1 = .ok (.iload_n 0, 1) := by decide +kernel
theorem dJ_bitCount_2 : decode bJ_bitCount 2 = .ok (.iconst 1, 1) := by decide +kernel
theorem dJ_bitCount_3 : decode bJ_bitCount 3 = .ok (.iushr, 1) := by decide +kernel
theorem dJ_bitCount_4 : decode bJ_bitCount 4 = .ok (.ldc_w 265, 3) := by decide +kernel
theorem dJ_bitCount_7 : decode bJ_bitCount 7 = .ok (.iand, 1) := by decide +kernel
theorem dJ_bitCount_8 : decode bJ_bitCount 8 = .ok (.isub, 1) := by decide +kernel
theorem dJ_bitCount_9 : decode bJ_bitCount 9 = .ok (.istore_n 0, 1) := by decide +kernel
theorem dJ_bitCount_10 : decode bJ_bitCount 10 = .ok (.iload_n 0, 1) := by decide +kernel
theorem dJ_bitCount_11 : decode bJ_bitCount 11 = .ok (.ldc_w 266, 3) := by decide +kernel
theorem dJ_bitCount_14 : decode bJ_bitCount 14 = .ok (.iand, 1) := by decide +kernel
theorem dJ_bitCount_15 : decode bJ_bitCount 15 = .ok (.iload_n 0, 1) := by decide +kernel
theorem dJ_bitCount_16 : decode bJ_bitCount 16 = .ok (.iconst 2, 1) := by decide +kernel
theorem dJ_bitCount_17 : decode bJ_bitCount 17 = .ok (.iushr, 1) := by decide +kernel
theorem dJ_bitCount_18 : decode bJ_bitCount 18 = .ok (.ldc_w 266, 3) := by decide +kernel
theorem dJ_bitCount_21 : decode bJ_bitCount 21 = .ok (.iand, 1) := by decide +kernel
theorem dJ_bitCount_22 : decode bJ_bitCount 22 = .ok (.iadd, 1) := by decide +kernel
theorem dJ_bitCount_23 : decode bJ_bitCount 23 = .ok (.istore_n 0, 1) := by decide +kernel
theorem dJ_bitCount_24 : decode bJ_bitCount 24 = .ok (.iload_n 0, 1) := by decide +kernel
theorem dJ_bitCount_25 : decode bJ_bitCount 25 = .ok (.iload_n 0, 1) := by decide +kernel
theorem dJ_bitCount_26 : decode bJ_bitCount 26 = .ok (.iconst 4, 1) := by decide +kernel
theorem dJ_bitCount_27 : decode bJ_bitCount 27 = .ok (.iushr, 1) := by decide +kernel
theorem dJ_bitCount_28 : decode bJ_bitCount 28 = .ok (.iadd, 1) := by decide +kernel
theorem dJ_bitCount_29 : decode bJ_bitCount 29 = .ok (.ldc_w 267, 3) := by decide +kernel
theorem dJ_bitCount_32 : decode bJ_bitCount 32 = .ok (.iand, 1) := by decide +kernel
theorem dJ_bitCount_33 : decode bJ_bitCount 33 = .ok (.istore_n 0, 1) := by decide +kernel
theorem dJ_bitCount_34 : decode bJ_bitCount 34 = .ok (.iload_n 0, 1) := by decide +kernel
theorem dJ_bitCount_35 : decode bJ_bitCount 35 = .ok (.iload_n 0, 1) := by decide +kernel
theorem dJ_bitCount_36 : decode bJ_bitCount 36 = .ok (.bipush 8, 2) := by decide +kernel
theorem dJ_bitCount_38 : decode bJ_bitCount 38 = .ok (.iushr, 1) := by decide +kernel
theorem dJ_bitCount_39 : decode bJ_bitCount 39 = .ok (.iadd, 1) := by decide +kernel
theorem dJ_bitCount_40 : decode bJ_bitCount 40 = .ok (.istore_n 0, 1) := by decide +kernel
theorem dJ_bitCount_41 : decode bJ_bitCount 41 = .ok (.iload_n 0, 1) := by decide +kernel
theorem dJ_bitCount_42 : decode bJ_bitCount 42 = .ok (.iload_n 0, 1) := by decide +kernel
theorem dJ_bitCount_43 : decode bJ_bitCount 43 = .ok (.bipush 16, 2) := by decide +kernel
theorem dJ_bitCount_45 : decode bJ_bitCount 45 = .ok (.iushr, 1) := by decide +kernel
theorem dJ_bitCount_46 : decode bJ_bitCount 46 = .ok (.iadd, 1) := by decide +kernel
theorem dJ_bitCount_47 : decode bJ_bitCount 47 = .ok (.istore_n 0, 1) := by decide +kernel
theorem dJ_bitCount_48 : decode bJ_bitCount 48 = .ok (.iload_n 0, 1) := by decide +kernel
theorem dJ_bitCount_49 : decode bJ_bitCount 49 = .ok (.bipush 63, 2) := by decide +kernel
theorem dJ_bitCount_51 : decode bJ_bitCount 51 = .ok (.iand, 1) := by decide +kernel
theorem dJ_bitCount_52 : decode bJ_bitCount 52 = .ok (.ireturn, 1) := by decide +kernel
theorem dW_isPlace_0 : decode bW_isPlace 0 = .ok (.iload_n 1, 1) := by decide +kernel
theorem dW_isPlace_1 : decode bW_isPlace 1 = .ok (.ifCond .lt 26, 3) := by decide +kernel
theorem dW_isPlace_4 : decode bW_isPlace 4 = .ok (.iload_n 1, 1) := by decide +kernel
theorem dW_isPlace_5 : decode bW_isPlace 5 = .ok (.aload_n 0, 1) := by decide +kernel
theorem dW_isPlace_6 : decode bW_isPlace 6 = .ok (.getfield 9, 3) := by decide +kernel
theorem dW_isPlace_9 : decode bW_isPlace 9 = .ok (.if_icmp .ge 18, 3) := by decide +kernel
theorem dW_isPlace_12 : decode bW_isPlace 12 = .ok (.aload_n 0, 1) := by decide +kernel
theorem dW_isPlace_13 : decode bW_isPlace 13 = .ok (.getfield 15, 3) := by decide +kernel
theorem dW_isPlace_16 : decode bW_isPlace 16 = .ok (.iload_n 1, 1) := by decide +kernel
theorem dW_isPlace_17 : decode bW_isPlace 17 = .ok (.ishr, 1) := by decide +kernel
theorem dW_isPlace_18 : decode bW_isPlace 18 = .ok (.iconst 1, 1) := by decide +kernel
theorem dW_isPlace_19 : decode bW_isPlace 19 = .ok (.iand, 1) := by decide +kernel
theorem dW_isPlace_20 : decode bW_isPlace 20 = .ok (.ifCond .ne 7, 3) := by decide +kernel
theorem dW_isPlace_23 : decode bW_isPlace 23 = .ok (.iconst 1, 1) := by decide +kernel
theorem dW_isPlace_24 : decode bW_isPlace 24 = .ok (.goto 4, 3) := by decide +kernel
theorem dW_isPlace_27 : decode bW_isPlace 27 = .ok (.iconst 0, 1) := by decide +kernel
theorem dW_isPlace_28 : decode bW_isPlace 28 = .ok (.ireturn, 1) := by decide +kernel
theorem dW_addPlace_0 : decode bW_addPlace 0 = .ok (.aload_n 0, 1) := by decide +kernel
theorem dW_addPlace_1 : decode bW_addPlace 1 = .ok (.getfield 9, 3) := by decide +kernel
theorem dW_addPlace_4 : decode bW_addPlace 4 = .ok (.bipush 12, 2) := by decide +kernel
theorem dW_addPlace_6 : decode bW_addPlace 6 = .ok (.if_icmp .lt 6, 3) := by decide +kernel
theorem dW_addPlace_9 : decode bW_addPlace 9 = .ok (.bipush (-4), 2) := by decide +kernel
theorem dW_addPlace_11 : decode bW_addPlace 11 = .ok (.ireturn, 1) := by decide +kernel
theorem dW_addPlace_12 : decode bW_addPlace 12 = .ok (.aload_n 0, 1) := by decide +kernel
theorem dW_addPlace_13 : decode bW_addPlace 13 = .ok (.getfield 9, 3) := by decide +kernel
theorem dW_addPlace_16 : decode bW_addPlace 16 = .ok (.istore_n 3, 1) := by decide +kernel
theorem dW_addPlace_17 : decode bW_addPlace 17 = .ok (.aload_n 0, 1) := by decide +kernel
theorem dW_addPlace_18 : decode bW_addPlace 18 = .ok (.iload_n 3, 1) := by decide +kernel
theorem dW_addPlace_19 : decode bW_addPlace 19 = .ok (.iconst 1, 1) := by decide +kernel
theorem dW_addPlace_20 : decode bW_addPlace 20 = .ok (.iadd, 1) := by decide +kernel
theorem dW_addPlace_21 : decode bW_addPlace 21 = .ok (.putfield 9, 3) := by decide +kernel
theorem dW_addPlace_24 : decode bW_addPlace 24 = .ok (.aload_n 0, 1) := by decide +kernel
theorem dW_addPlace_25 : decode bW_addPlace 25 = .ok (.getfield 21, 3) := by decide +kernel
theorem dW_addPlace_28 : decode bW_addPlace 28 = .ok (.iload_n 3, 1) := by decide +kernel
theorem dW_addPlace_29 : decode bW_addPlace 29 = .ok (.iload_n 2, 1) := by decide +kernel
theorem dW_addPlace_30 : decode bW_addPlace 30 = .ok (.iastore, 1) := by decide +kernel
theorem dW_addPlace_31 : decode bW_addPlace 31 = .ok (.aload_n 0, 1) := by decide +kernel
theorem dW_addPlace_32 : decode bW_addPlace 32 = .ok (.getfield 25, 3) := by decide +kernel
theorem dW_addPlace_35 : decode bW_addPlace 35 = .ok (.iload_n 3, 1) := by decide +kernel
theorem dW_addPlace_36 : decode bW_addPlace 36 = .ok (.iload_n 1, 1) := by decide +kernel
theorem dW_addPlace_37 : decode bW_addPlace 37 = .ok (.iastore, 1) := by decide +kernel
theorem dW_addPlace_38 : decode bW_addPlace 38 = .ok (.aload_n 0, 1) := by decide +kernel
theorem dW_addPlace_39 : decode bW_addPlace 39 = .ok (.aload_n 0, 1) := by decide +kernel
theorem dW_addPlace_40 : decode bW_addPlace 40 = .ok (.getfield 18, 3) := by decide +kernel
theorem dW_addPlace_43 : decode bW_addPlace 43 = .ok (.iconst 1, 1) := by decide +kernel
theorem dW_addPlace_44 : decode bW_addPlace 44 = .ok (.iload_n 3, 1) := by decide +kernel
theorem dW_addPlace_45 : decode bW_addPlace 45 = .ok (.ishl, 1) := by decide +kernel
theorem dW_addPlace_46 : decode bW_addPlace 46 = .ok (.iconst (-1), 1) := by decide +kernel
theorem dW_addPlace_47 : decode bW_addPlace 47 = .ok (.ixor, 1) := by decide +kernel
theorem dW_addPlace_48 : decode bW_addPlace 48 = .ok (.iand, 1) := by decide +kernel
theorem dW_addPlace_49 : decode bW_addPlace 49 = .ok (.putfield 18, 3) := by decide +kernel
theorem dW_addPlace_52 : decode bW_addPlace 52 = .ok (.iconst 0, 1) := by decide +kernel
theorem dW_addPlace_53 : decode bW_addPlace 53 = .ok (.istore 4, 2) := by decide +kernel
theorem dW_addPlace_55 : decode bW_addPlace 55 = .ok (.iload 4, 2) := by decide +kernel
theorem dW_addPlace_57 : decode bW_addPlace 57 = .ok (.bipush 6, 2) := by decide +kernel
theorem dW_addPlace_59 : decode bW_addPlace 59 = .ok (.if_icmp .ge 22, 3) := by decide +kernel
theorem dW_addPlace_62 : decode bW_addPlace 62 = .ok (.aload_n 0, 1) := by decide +kernel
theorem dW_addPlace_63 : decode bW_addPlace 63 = .ok (.getfield 28, 3) := by decide +kernel
theorem dW_addPlace_66 : decode bW_addPlace 66 = .ok (.iload_n 3, 1) := by decide +kernel
theorem dW_addPlace_67 : decode bW_addPlace 67 = .ok (.bipush 6, 2) := by decide +kernel
theorem dW_addPlace_69 : decode bW_addPlace 69 = .ok (.imul, 1) := by decide +kernel
theorem dW_addPlace_70 : decode bW_addPlace 70 = .ok (.iload 4, 2) := by decide +kernel
theorem dW_addPlace_72 : decode bW_addPlace 72 = .ok (.iadd, 1) := by decide +kernel
theorem dW_addPlace_73 : decode bW_addPlace 73 = .ok (.iconst 0, 1) := by decide +kernel
theorem dW_addPlace_74 : decode bW_addPlace 74 = .ok (.iastore, 1) := by decide +kernel
theorem dW_addPlace_75 : decode bW_addPlace 75 = .ok (.iinc 4 1, 3) := by decide +kernel
theorem dW_addPlace_78 : decode bW_addPlace 78 = .ok (.goto (-23), 3) := by decide +kernel
theorem dW_addPlace_81 : decode bW_addPlace 81 = .ok (.iload_n 3, 1) := by decide +kernel
theorem dW_addPlace_82 : decode bW_addPlace 82 = .ok (.ireturn, 1) := by decide +kernel
theorem dW_nameOf_0 : decode bW_nameOf 0 = .ok (.aload_n 0, 1) := by decide +kernel
theorem dW_nameOf_1 : decode bW_nameOf 1 = .ok (.iload_n 1, 1) := by decide +kernel
theorem dW_nameOf_2 : decode bW_nameOf 2 = .ok (.invokevirtual 56, 3) := by decide +kernel
theorem dW_nameOf_5 : decode bW_nameOf 5 = .ok (.ifCond .eq 12, 3) := by decide +kernel
theorem dW_nameOf_8 : decode bW_nameOf 8 = .ok (.aload_n 0, 1) := by decide +kernel
theorem dW_nameOf_9 : decode bW_nameOf 9 = .ok (.getfield 21, 3) := by decide +kernel
theorem dW_nameOf_12 : decode bW_nameOf 12 = .ok (.iload_n 1, 1) := by decide +kernel
theorem dW_nameOf_13 : decode bW_nameOf 13 = .ok (.iaload, 1) := by decide +kernel
theorem dW_nameOf_14 : decode bW_nameOf 14 = .ok (.goto 5, 3) := by decide +kernel
theorem dW_nameOf_17 : decode bW_nameOf 17 = .ok (.bipush (-9), 2) := by decide +kernel
theorem dW_nameOf_19 : decode bW_nameOf 19 = .ok (.ireturn, 1) := by decide +kernel
theorem dW_placeAround_0 : decode bW_placeAround 0 = .ok (.aload_n 0, 1) := by decide +kernel
theorem dW_placeAround_1 : decode bW_placeAround 1 = .ok (.iload_n 1, 1) := by decide +kernel
theorem dW_placeAround_2 : decode bW_placeAround 2 = .ok (.invokevirtual 56, 3) := by decide +kernel
theorem dW_placeAround_5 : decode bW_placeAround 5 = .ok (.ifCond .eq 12, 3) := by decide +kernel
theorem dW_placeAround_8 : decode bW_placeAround 8 = .ok (.aload_n 0, 1) := by decide +kernel
theorem dW_placeAround_9 : decode bW_placeAround 9 = .ok (.getfield 25, 3) := by decide +kernel
theorem dW_placeAround_12 : decode bW_placeAround 12 = .ok (.iload_n 1, 1) := by decide +kernel
theorem dW_placeAround_13 : decode bW_placeAround 13 = .ok (.iaload, 1) := by decide +kernel
theorem dW_placeAround_14 : decode bW_placeAround 14 = .ok (.goto 5, 3) := by decide +kernel
theorem dW_placeAround_17 : decode bW_placeAround 17 = .ok (.bipush (-9), 2) := by decide +kernel
theorem dW_placeAround_19 : decode bW_placeAround 19 = .ok (.ireturn, 1) := by decide +kernel
theorem dW_isSealed_0 : decode bW_isSealed 0 = .ok (.aload_n 0, 1) := by decide +kernel
theorem dW_isSealed_1 : decode bW_isSealed 1 = .ok (.iload_n 1, 1) := by decide +kernel
theorem dW_isSealed_2 : decode bW_isSealed 2 = .ok (.invokevirtual 56, 3) := by decide +kernel
theorem dW_isSealed_5 : decode bW_isSealed 5 = .ok (.ifCond .eq 19, 3) := by decide +kernel
theorem dW_isSealed_8 : decode bW_isSealed 8 = .ok (.aload_n 0, 1) := by decide +kernel
theorem dW_isSealed_9 : decode bW_isSealed 9 = .ok (.getfield 18, 3) := by decide +kernel
theorem dW_isSealed_12 : decode bW_isSealed 12 = .ok (.iload_n 1, 1) := by decide +kernel
theorem dW_isSealed_13 : decode bW_isSealed 13 = .ok (.ishr, 1) := by decide +kernel
theorem dW_isSealed_14 : decode bW_isSealed 14 = .ok (.iconst 1, 1) := by decide +kernel
theorem dW_isSealed_15 : decode bW_isSealed 15 = .ok (.iand, 1) := by decide +kernel
theorem dW_isSealed_16 : decode bW_isSealed 16 = .ok (.iconst 1, 1) := by decide +kernel
theorem dW_isSealed_17 : decode bW_isSealed 17 = .ok (.if_icmp .ne 7, 3) := by decide +kernel
theorem dW_isSealed_20 : decode bW_isSealed 20 = .ok (.iconst 1, 1) := by decide +kernel
theorem dW_isSealed_21 : decode bW_isSealed 21 = .ok (.goto 4, 3) := by decide +kernel
theorem dW_isSealed_24 : decode bW_isSealed 24 = .ok (.iconst 0, 1) := by decide +kernel
theorem dW_isSealed_25 : decode bW_isSealed 25 = .ok (.ireturn, 1) := by decide +kernel
theorem dW_turnSeal_0 : decode bW_turnSeal 0 = .ok (.aload_n 0, 1) := by decide +kernel
theorem dW_turnSeal_1 : decode bW_turnSeal 1 = .ok (.iload_n 1, 1) := by decide +kernel
theorem dW_turnSeal_2 : decode bW_turnSeal 2 = .ok (.invokevirtual 56, 3) := by decide +kernel
theorem dW_turnSeal_5 : decode bW_turnSeal 5 = .ok (.ifCond .eq 15, 3) := by decide +kernel
theorem dW_turnSeal_8 : decode bW_turnSeal 8 = .ok (.aload_n 0, 1) := by decide +kernel
theorem dW_turnSeal_9 : decode bW_turnSeal 9 = .ok (.aload_n 0, 1) := by decide +kernel
theorem dW_turnSeal_10 : decode bW_turnSeal 10 = .ok (.getfield 18, 3) := by decide +kernel
theorem dW_turnSeal_13 : decode bW_turnSeal 13 = .ok (.iconst 1, 1) := by decide +kernel
theorem dW_turnSeal_14 : decode bW_turnSeal 14 = .ok (.iload_n 1, 1) := by decide +kernel
theorem dW_turnSeal_15 : decode bW_turnSeal 15 = .ok (.ishl, 1) := by decide +kernel
theorem dW_turnSeal_16 : decode bW_turnSeal 16 = .ok (.ixor, 1) := by decide +kernel
theorem dW_turnSeal_17 : decode bW_turnSeal 17 = .ok (.putfield 18, 3) := by decide +kernel
theorem dW_turnSeal_20 : decode bW_turnSeal 20 = .ok (.return_, 1) := by decide +kernel
theorem dW_messagesOf_0 : decode bW_messagesOf 0 = .ok (.aload_n 0, 1) := by decide +kernel
theorem dW_messagesOf_1 : decode bW_messagesOf 1 = .ok (.iload_n 1, 1) := by decide +kernel
theorem dW_messagesOf_2 : decode bW_messagesOf 2 = .ok (.invokevirtual 56, 3) := by decide +kernel
theorem dW_messagesOf_5 : decode bW_messagesOf 5 = .ok (.ifCond .eq 24, 3) := by decide +kernel
theorem dW_messagesOf_8 : decode bW_messagesOf 8 = .ok (.iload_n 2, 1) := by decide +kernel
theorem dW_messagesOf_9 : decode bW_messagesOf 9 = .ok (.invokestatic 60, 3) := by decide +kernel
theorem dW_messagesOf_12 : decode bW_messagesOf 12 = .ok (.ifCond .eq 17, 3) := by decide +kernel
theorem dW_messagesOf_15 : decode bW_messagesOf 15 = .ok (.aload_n 0, 1) := by decide +kernel
theorem dW_messagesOf_16 : decode bW_messagesOf 16 = .ok (.getfield 28, 3) := by decide +kernel
theorem dW_messagesOf_19 : decode bW_messagesOf 19 = .ok (.iload_n 1, 1) := by decide +kernel
theorem dW_messagesOf_20 : decode bW_messagesOf 20 = .ok (.bipush 6, 2) := by decide +kernel
theorem dW_messagesOf_22 : decode bW_messagesOf 22 = .ok (.imul, 1) := by decide +kernel
theorem dW_messagesOf_23 : decode bW_messagesOf 23 = .ok (.iload_n 2, 1) := by decide +kernel
theorem dW_messagesOf_24 : decode bW_messagesOf 24 = .ok (.iadd, 1) := by decide +kernel
theorem dW_messagesOf_25 : decode bW_messagesOf 25 = .ok (.iaload, 1) := by decide +kernel
theorem dW_messagesOf_26 : decode bW_messagesOf 26 = .ok (.goto 4, 3) := by decide +kernel
theorem dW_messagesOf_29 : decode bW_messagesOf 29 = .ok (.iconst 0, 1) := by decide +kernel
theorem dW_messagesOf_30 : decode bW_messagesOf 30 = .ok (.ireturn, 1) := by decide +kernel
theorem dW_addMessages_0 : decode bW_addMessages 0 = .ok (.aload_n 0, 1) := by decide +kernel
theorem dW_addMessages_1 : decode bW_addMessages 1 = .ok (.iload_n 1, 1) := by decide +kernel
theorem dW_addMessages_2 : decode bW_addMessages 2 = .ok (.invokevirtual 56, 3) := by decide +kernel
theorem dW_addMessages_5 : decode bW_addMessages 5 = .ok (.ifCond .eq 25, 3) := by decide +kernel
theorem dW_addMessages_8 : decode bW_addMessages 8 = .ok (.iload_n 2, 1) := by decide +kernel
theorem dW_addMessages_9 : decode bW_addMessages 9 = .ok (.invokestatic 60, 3) := by decide +kernel
theorem dW_addMessages_12 : decode bW_addMessages 12 = .ok (.ifCond .eq 18, 3) := by decide +kernel
theorem dW_addMessages_15 : decode bW_addMessages 15 = .ok (.aload_n 0, 1) := by decide +kernel
theorem dW_addMessages_16 : decode bW_addMessages 16 = .ok (.getfield 28, 3) := by decide +kernel
theorem dW_addMessages_19 : decode bW_addMessages 19 = .ok (.iload_n 1, 1) := by decide +kernel
theorem dW_addMessages_20 : decode bW_addMessages 20 = .ok (.bipush 6, 2) := by decide +kernel
theorem dW_addMessages_22 : decode bW_addMessages 22 = .ok (.imul, 1) := by decide +kernel
theorem dW_addMessages_23 : decode bW_addMessages 23 = .ok (.iload_n 2, 1) := by decide +kernel
theorem dW_addMessages_24 : decode bW_addMessages 24 = .ok (.iadd, 1) := by decide +kernel
theorem dW_addMessages_25 : decode bW_addMessages 25 = .ok (.dup2, 1) := by decide +kernel
theorem dW_addMessages_26 : decode bW_addMessages 26 = .ok (.iaload, 1) := by decide +kernel
theorem dW_addMessages_27 : decode bW_addMessages 27 = .ok (.iload_n 3, 1) := by decide +kernel
theorem dW_addMessages_28 : decode bW_addMessages 28 = .ok (.iadd, 1) := by decide +kernel
theorem dW_addMessages_29 : decode bW_addMessages 29 = .ok (.iastore, 1) := by decide +kernel
theorem dW_addMessages_30 : decode bW_addMessages 30 = .ok (.return_, 1) := by decide +kernel
theorem dW_placesIn_0 : decode bW_placesIn 0 = .ok (.iconst 0, 1) := by decide +kernel
theorem dW_placesIn_1 : decode bW_placesIn 1 = .ok (.istore_n 2, 1) := by decide +kernel
theorem dW_placesIn_2 : decode bW_placesIn 2 = .ok (.iconst 0, 1) := by decide +kernel
theorem dW_placesIn_3 : decode bW_placesIn 3 = .ok (.istore_n 3, 1) := by decide +kernel
theorem dW_placesIn_4 : decode bW_placesIn 4 = .ok (.iload_n 3, 1) := by decide +kernel
theorem dW_placesIn_5 : decode bW_placesIn 5 = .ok (.aload_n 0, 1) := by decide +kernel
theorem dW_placesIn_6 : decode bW_placesIn 6 = .ok (.getfield 9, 3) := by decide +kernel
theorem dW_placesIn_9 : decode bW_placesIn 9 = .ok (.if_icmp .ge 25, 3) := by decide +kernel
theorem dW_placesIn_12 : decode bW_placesIn 12 = .ok (.aload_n 0, 1) := by decide +kernel
theorem dW_placesIn_13 : decode bW_placesIn 13 = .ok (.getfield 25, 3) := by decide +kernel
theorem dW_placesIn_16 : decode bW_placesIn 16 = .ok (.iload_n 3, 1) := by decide +kernel
theorem dW_placesIn_17 : decode bW_placesIn 17 = .ok (.iaload, 1) := by decide +kernel
theorem dW_placesIn_18 : decode bW_placesIn 18 = .ok (.iload_n 1, 1) := by decide +kernel
theorem dW_placesIn_19 : decode bW_placesIn 19 = .ok (.if_icmp .ne 9, 3) := by decide +kernel
theorem dW_placesIn_22 : decode bW_placesIn 22 = .ok (.iload_n 2, 1) := by decide +kernel
theorem dW_placesIn_23 : decode bW_placesIn 23 = .ok (.iconst 1, 1) := by decide +kernel
theorem dW_placesIn_24 : decode bW_placesIn 24 = .ok (.iload_n 3, 1) := by decide +kernel
theorem dW_placesIn_25 : decode bW_placesIn 25 = .ok (.ishl, 1) := by decide +kernel
theorem dW_placesIn_26 : decode bW_placesIn 26 = .ok (.ior, 1) := by decide +kernel
theorem dW_placesIn_27 : decode bW_placesIn 27 = .ok (.istore_n 2, 1) := by decide +kernel
theorem dW_placesIn_28 : decode bW_placesIn 28 = .ok (.iinc 3 1, 3) := by decide +kernel
theorem dW_placesIn_31 : decode bW_placesIn 31 = .ok (.goto (-27), 3) := by decide +kernel
theorem dW_placesIn_34 : decode bW_placesIn 34 = .ok (.iload_n 2, 1) := by decide +kernel
theorem dW_placesIn_35 : decode bW_placesIn 35 = .ok (.ireturn, 1) := by decide +kernel
theorem dW_threadsIn_0 : decode bW_threadsIn 0 = .ok (.iconst 0, 1) := by decide +kernel
theorem dW_threadsIn_1 : decode bW_threadsIn 1 = .ok (.istore_n 2, 1) := by decide +kernel
theorem dW_threadsIn_2 : decode bW_threadsIn 2 = .ok (.iconst 0, 1) := by decide +kernel
theorem dW_threadsIn_3 : decode bW_threadsIn 3 = .ok (.istore_n 3, 1) := by decide +kernel
theorem dW_threadsIn_4 : decode bW_threadsIn 4 = .ok (.iload_n 3, 1) := by decide +kernel
theorem dW_threadsIn_5 : decode bW_threadsIn 5 = .ok (.aload_n 0, 1) := by decide +kernel
theorem dW_threadsIn_6 : decode bW_threadsIn 6 = .ok (.getfield 31, 3) := by decide +kernel
theorem dW_threadsIn_9 : decode bW_threadsIn 9 = .ok (.if_icmp .ge 25, 3) := by decide +kernel
theorem dW_threadsIn_12 : decode bW_threadsIn 12 = .ok (.aload_n 0, 1) := by decide +kernel
theorem dW_threadsIn_13 : decode bW_threadsIn 13 = .ok (.getfield 34, 3) := by decide +kernel
theorem dW_threadsIn_16 : decode bW_threadsIn 16 = .ok (.iload_n 3, 1) := by decide +kernel
theorem dW_threadsIn_17 : decode bW_threadsIn 17 = .ok (.iaload, 1) := by decide +kernel
theorem dW_threadsIn_18 : decode bW_threadsIn 18 = .ok (.iload_n 1, 1) := by decide +kernel
theorem dW_threadsIn_19 : decode bW_threadsIn 19 = .ok (.if_icmp .ne 9, 3) := by decide +kernel
theorem dW_threadsIn_22 : decode bW_threadsIn 22 = .ok (.iload_n 2, 1) := by decide +kernel
theorem dW_threadsIn_23 : decode bW_threadsIn 23 = .ok (.iconst 1, 1) := by decide +kernel
theorem dW_threadsIn_24 : decode bW_threadsIn 24 = .ok (.iload_n 3, 1) := by decide +kernel
theorem dW_threadsIn_25 : decode bW_threadsIn 25 = .ok (.ishl, 1) := by decide +kernel
theorem dW_threadsIn_26 : decode bW_threadsIn 26 = .ok (.ior, 1) := by decide +kernel
theorem dW_threadsIn_27 : decode bW_threadsIn 27 = .ok (.istore_n 2, 1) := by decide +kernel
theorem dW_threadsIn_28 : decode bW_threadsIn 28 = .ok (.iinc 3 1, 3) := by decide +kernel
theorem dW_threadsIn_31 : decode bW_threadsIn 31 = .ok (.goto (-27), 3) := by decide +kernel
theorem dW_threadsIn_34 : decode bW_threadsIn 34 = .ok (.iload_n 2, 1) := by decide +kernel
theorem dW_threadsIn_35 : decode bW_threadsIn 35 = .ok (.ireturn, 1) := by decide +kernel
theorem dW_depthOf_0 : decode bW_depthOf 0 = .ok (.iconst 0, 1) := by decide +kernel
theorem dW_depthOf_1 : decode bW_depthOf 1 = .ok (.istore_n 2, 1) := by decide +kernel
theorem dW_depthOf_2 : decode bW_depthOf 2 = .ok (.aload_n 0, 1) := by decide +kernel
theorem dW_depthOf_3 : decode bW_depthOf 3 = .ok (.iload_n 1, 1) := by decide +kernel
theorem dW_depthOf_4 : decode bW_depthOf 4 = .ok (.invokevirtual 63, 3) := by decide +kernel
theorem dW_depthOf_7 : decode bW_depthOf 7 = .ok (.istore_n 3, 1) := by decide +kernel
theorem dW_depthOf_8 : decode bW_depthOf 8 = .ok (.iload_n 3, 1) := by decide +kernel
theorem dW_depthOf_9 : decode bW_depthOf 9 = .ok (.bipush (-9), 2) := by decide +kernel
theorem dW_depthOf_11 : decode bW_depthOf 11 = .ok (.if_icmp .eq 21, 3) := by decide +kernel
theorem dW_depthOf_14 : decode bW_depthOf 14 = .ok (.iload_n 2, 1) := by decide +kernel
theorem dW_depthOf_15 : decode bW_depthOf 15 = .ok (.bipush 12, 2) := by decide +kernel
theorem dW_depthOf_17 : decode bW_depthOf 17 = .ok (.if_icmp .ge 15, 3) := by decide +kernel
theorem dW_depthOf_20 : decode bW_depthOf 20 = .ok (.iinc 2 1, 3) := by decide +kernel
theorem dW_depthOf_23 : decode bW_depthOf 23 = .ok (.aload_n 0, 1) := by decide +kernel
theorem dW_depthOf_24 : decode bW_depthOf 24 = .ok (.iload_n 3, 1) := by decide +kernel
theorem dW_depthOf_25 : decode bW_depthOf 25 = .ok (.invokevirtual 63, 3) := by decide +kernel
theorem dW_depthOf_28 : decode bW_depthOf 28 = .ok (.istore_n 3, 1) := by decide +kernel
theorem dW_depthOf_29 : decode bW_depthOf 29 = .ok (.goto (-21), 3) := by decide +kernel
theorem dW_depthOf_32 : decode bW_depthOf 32 = .ok (.iload_n 2, 1) := by decide +kernel
theorem dW_depthOf_33 : decode bW_depthOf 33 = .ok (.ireturn, 1) := by decide +kernel
theorem dW_isWithin_0 : decode bW_isWithin 0 = .ok (.aload_n 0, 1) := by decide +kernel
theorem dW_isWithin_1 : decode bW_isWithin 1 = .ok (.iload_n 1, 1) := by decide +kernel
theorem dW_isWithin_2 : decode bW_isWithin 2 = .ok (.invokevirtual 63, 3) := by decide +kernel
theorem dW_isWithin_5 : decode bW_isWithin 5 = .ok (.istore_n 3, 1) := by decide +kernel
theorem dW_isWithin_6 : decode bW_isWithin 6 = .ok (.iconst 0, 1) := by decide +kernel
theorem dW_isWithin_7 : decode bW_isWithin 7 = .ok (.istore 4, 2) := by decide +kernel
theorem dW_isWithin_9 : decode bW_isWithin 9 = .ok (.iload 4, 2) := by decide +kernel
theorem dW_isWithin_11 : decode bW_isWithin 11 = .ok (.bipush 12, 2) := by decide +kernel
theorem dW_isWithin_13 : decode bW_isWithin 13 = .ok (.if_icmp .ge 28, 3) := by decide +kernel
theorem dW_isWithin_16 : decode bW_isWithin 16 = .ok (.iload_n 3, 1) := by decide +kernel
theorem dW_isWithin_17 : decode bW_isWithin 17 = .ok (.bipush (-9), 2) := by decide +kernel
theorem dW_isWithin_19 : decode bW_isWithin 19 = .ok (.if_icmp .eq 22, 3) := by decide +kernel
theorem dW_isWithin_22 : decode bW_isWithin 22 = .ok (.iload_n 3, 1) := by decide +kernel
theorem dW_isWithin_23 : decode bW_isWithin 23 = .ok (.iload_n 2, 1) := by decide +kernel
theorem dW_isWithin_24 : decode bW_isWithin 24 = .ok (.if_icmp .ne 5, 3) := by decide +kernel
theorem dW_isWithin_27 : decode bW_isWithin 27 = .ok (.iconst 1, 1) := by decide +kernel
theorem dW_isWithin_28 : decode bW_isWithin 28 = .ok (.ireturn, 1) := by decide +kernel
theorem dW_isWithin_29 : decode bW_isWithin 29 = .ok (.aload_n 0, 1) := by decide +kernel
theorem dW_isWithin_30 : decode bW_isWithin 30 = .ok (.iload_n 3, 1) := by decide +kernel
theorem dW_isWithin_31 : decode bW_isWithin 31 = .ok (.invokevirtual 63, 3) := by decide +kernel
theorem dW_isWithin_34 : decode bW_isWithin 34 = .ok (.istore_n 3, 1) := by decide +kernel
theorem dW_isWithin_35 : decode bW_isWithin 35 = .ok (.iinc 4 1, 3) := by decide +kernel
theorem dW_isWithin_38 : decode bW_isWithin 38 = .ok (.goto (-29), 3) := by decide +kernel
theorem dW_isWithin_41 : decode bW_isWithin 41 = .ok (.iconst 0, 1) := by decide +kernel
theorem dW_isWithin_42 : decode bW_isWithin 42 = .ok (.ireturn, 1) := by decide +kernel
theorem dW_placesThatAre_0 : decode bW_placesThatAre 0 = .ok (.aload_n 0, 1) := by decide +kernel
theorem dW_placesThatAre_1 : decode bW_placesThatAre 1 = .ok (.getfield 9, 3) := by decide +kernel
theorem dW_placesThatAre_4 : decode bW_placesThatAre 4 = .ok (.aload_n 0, 1) := by decide +kernel
theorem dW_placesThatAre_5 : decode bW_placesThatAre 5 = .ok (.getfield 15, 3) := by decide +kernel
theorem dW_placesThatAre_8 : decode bW_placesThatAre 8 = .ok (.invokestatic 67, 3) := by decide +kernel
theorem dW_placesThatAre_11 : decode bW_placesThatAre 11 = .ok (.isub, 1) := by decide +kernel
theorem dW_placesThatAre_12 : decode bW_placesThatAre 12 = .ok (.ireturn, 1) := by decide +kernel
theorem dW_placesInAll_0 : decode bW_placesInAll 0 = .ok (.aload_n 0, 1) := by decide +kernel
theorem dW_placesInAll_1 : decode bW_placesInAll 1 = .ok (.getfield 9, 3) := by decide +kernel
theorem dW_placesInAll_4 : decode bW_placesInAll 4 = .ok (.ireturn, 1) := by decide +kernel
theorem dW_messagesInAll_0 : decode bW_messagesInAll 0 = .ok (.iconst 0, 1) := by decide +kernel
theorem dW_messagesInAll_1 : decode bW_messagesInAll 1 = .ok (.istore_n 1, 1) := by decide +kernel
theorem dW_messagesInAll_2 : decode bW_messagesInAll 2 = .ok (.iconst 0, 1) := by decide +kernel
theorem dW_messagesInAll_3 : decode bW_messagesInAll 3 = .ok (.istore_n 2, 1) := by decide +kernel
theorem dW_messagesInAll_4 : decode bW_messagesInAll 4 = .ok (.iload_n 2, 1) := by decide +kernel
theorem dW_messagesInAll_5 : decode bW_messagesInAll 5 = .ok (.aload_n 0, 1) := by decide +kernel
theorem dW_messagesInAll_6 : decode bW_messagesInAll 6 = .ok (.getfield 9, 3) := by decide +kernel
theorem dW_messagesInAll_9 : decode bW_messagesInAll 9 = .ok (.if_icmp .ge 32, 3) := by decide +kernel
theorem dW_messagesInAll_12 : decode bW_messagesInAll 12 = .ok (.iconst 0, 1) := by decide +kernel
theorem dW_messagesInAll_13 : decode bW_messagesInAll 13 = .ok (.istore_n 3, 1) := by decide +kernel
theorem dW_messagesInAll_14 : decode bW_messagesInAll 14 = .ok (.iload_n 3, 1) := by decide +kernel
theorem dW_messagesInAll_15 : decode bW_messagesInAll 15 = .ok (.bipush 6, 2) := by decide +kernel
theorem dW_messagesInAll_17 : decode bW_messagesInAll 17 = .ok (.if_icmp .ge 18, 3) := by decide +kernel
theorem dW_messagesInAll_20 : decode bW_messagesInAll 20 = .ok (.iload_n 1, 1) := by decide +kernel
theorem dW_messagesInAll_21 : decode bW_messagesInAll 21 = .ok (.aload_n 0, 1) := by decide +kernel
theorem dW_messagesInAll_22 : decode bW_messagesInAll 22 = .ok (.iload_n 2, 1) := by decide +kernel
theorem dW_messagesInAll_23 : decode bW_messagesInAll 23 = .ok (.iload_n 3, 1) := by decide +kernel
theorem dW_messagesInAll_24 : decode bW_messagesInAll 24 = .ok (.invokevirtual 72, 3) := by decide +kernel
theorem dW_messagesInAll_27 : decode bW_messagesInAll 27 = .ok (.iadd, 1) := by decide +kernel
theorem dW_messagesInAll_28 : decode bW_messagesInAll 28 = .ok (.istore_n 1, 1) := by decide +kernel
theorem dW_messagesInAll_29 : decode bW_messagesInAll 29 = .ok (.iinc 3 1, 3) := by decide +kernel
theorem dW_messagesInAll_32 : decode bW_messagesInAll 32 = .ok (.goto (-18), 3) := by decide +kernel
theorem dW_messagesInAll_35 : decode bW_messagesInAll 35 = .ok (.iinc 2 1, 3) := by decide +kernel
theorem dW_messagesInAll_38 : decode bW_messagesInAll 38 = .ok (.goto (-34), 3) := by decide +kernel
theorem dW_messagesInAll_41 : decode bW_messagesInAll 41 = .ok (.iload_n 1, 1) := by decide +kernel
theorem dW_messagesInAll_42 : decode bW_messagesInAll 42 = .ok (.ireturn, 1) := by decide +kernel
theorem dW_isThread_0 : decode bW_isThread 0 = .ok (.iload_n 1, 1) := by decide +kernel
theorem dW_isThread_1 : decode bW_isThread 1 = .ok (.ifCond .lt 15, 3) := by decide +kernel
theorem dW_isThread_4 : decode bW_isThread 4 = .ok (.iload_n 1, 1) := by decide +kernel
theorem dW_isThread_5 : decode bW_isThread 5 = .ok (.aload_n 0, 1) := by decide +kernel
theorem dW_isThread_6 : decode bW_isThread 6 = .ok (.getfield 31, 3) := by decide +kernel
theorem dW_isThread_9 : decode bW_isThread 9 = .ok (.if_icmp .ge 7, 3) := by decide +kernel
theorem dW_isThread_12 : decode bW_isThread 12 = .ok (.iconst 1, 1) := by decide +kernel
theorem dW_isThread_13 : decode bW_isThread 13 = .ok (.goto 4, 3) := by decide +kernel
theorem dW_isThread_16 : decode bW_isThread 16 = .ok (.iconst 0, 1) := by decide +kernel
theorem dW_isThread_17 : decode bW_isThread 17 = .ok (.ireturn, 1) := by decide +kernel
theorem dW_addThread_0 : decode bW_addThread 0 = .ok (.aload_n 0, 1) := by decide +kernel
theorem dW_addThread_1 : decode bW_addThread 1 = .ok (.getfield 31, 3) := by decide +kernel
theorem dW_addThread_4 : decode bW_addThread 4 = .ok (.bipush 12, 2) := by decide +kernel
theorem dW_addThread_6 : decode bW_addThread 6 = .ok (.if_icmp .lt 6, 3) := by decide +kernel
theorem dW_addThread_9 : decode bW_addThread 9 = .ok (.bipush (-4), 2) := by decide +kernel
theorem dW_addThread_11 : decode bW_addThread 11 = .ok (.ireturn, 1) := by decide +kernel
theorem dW_addThread_12 : decode bW_addThread 12 = .ok (.aload_n 0, 1) := by decide +kernel
theorem dW_addThread_13 : decode bW_addThread 13 = .ok (.getfield 31, 3) := by decide +kernel
theorem dW_addThread_16 : decode bW_addThread 16 = .ok (.istore 5, 2) := by decide +kernel
theorem dW_addThread_18 : decode bW_addThread 18 = .ok (.aload_n 0, 1) := by decide +kernel
theorem dW_addThread_19 : decode bW_addThread 19 = .ok (.iload 5, 2) := by decide +kernel
theorem dW_addThread_21 : decode bW_addThread 21 = .ok (.iconst 1, 1) := by decide +kernel
theorem dW_addThread_22 : decode bW_addThread 22 = .ok (.iadd, 1) := by decide +kernel
theorem dW_addThread_23 : decode bW_addThread 23 = .ok (.putfield 31, 3) := by decide +kernel
theorem dW_addThread_26 : decode bW_addThread 26 = .ok (.aload_n 0, 1) := by decide +kernel
theorem dW_addThread_27 : decode bW_addThread 27 = .ok (.getfield 34, 3) := by decide +kernel
theorem dW_addThread_30 : decode bW_addThread 30 = .ok (.iload 5, 2) := by decide +kernel
theorem dW_addThread_32 : decode bW_addThread 32 = .ok (.iload_n 1, 1) := by decide +kernel
theorem dW_addThread_33 : decode bW_addThread 33 = .ok (.iastore, 1) := by decide +kernel
theorem dW_addThread_34 : decode bW_addThread 34 = .ok (.aload_n 0, 1) := by decide +kernel
theorem dW_addThread_35 : decode bW_addThread 35 = .ok (.getfield 37, 3) := by decide +kernel
theorem dW_addThread_38 : decode bW_addThread 38 = .ok (.iload 5, 2) := by decide +kernel
theorem dW_addThread_40 : decode bW_addThread 40 = .ok (.lload_n 2, 1) := by decide +kernel
theorem dW_addThread_41 : decode bW_addThread 41 = .ok (.lastore, 1) := by decide +kernel
theorem dW_addThread_42 : decode bW_addThread 42 = .ok (.aload_n 0, 1) := by decide +kernel
theorem dW_addThread_43 : decode bW_addThread 43 = .ok (.getfield 41, 3) := by decide +kernel
theorem dW_addThread_46 : decode bW_addThread 46 = .ok (.iload 5, 2) := by decide +kernel
theorem dW_addThread_48 : decode bW_addThread 48 = .ok (.iload 4, 2) := by decide +kernel
theorem dW_addThread_50 : decode bW_addThread 50 = .ok (.iastore, 1) := by decide +kernel
theorem dW_addThread_51 : decode bW_addThread 51 = .ok (.aload_n 0, 1) := by decide +kernel
theorem dW_addThread_52 : decode bW_addThread 52 = .ok (.getfield 44, 3) := by decide +kernel
theorem dW_addThread_55 : decode bW_addThread 55 = .ok (.iload 5, 2) := by decide +kernel
theorem dW_addThread_57 : decode bW_addThread 57 = .ok (.iconst 0, 1) := by decide +kernel
theorem dW_addThread_58 : decode bW_addThread 58 = .ok (.iastore, 1) := by decide +kernel
theorem dW_addThread_59 : decode bW_addThread 59 = .ok (.aload_n 0, 1) := by decide +kernel
theorem dW_addThread_60 : decode bW_addThread 60 = .ok (.getfield 47, 3) := by decide +kernel
theorem dW_addThread_63 : decode bW_addThread 63 = .ok (.iload 5, 2) := by decide +kernel
theorem dW_addThread_65 : decode bW_addThread 65 = .ok (.bipush (-9), 2) := by decide +kernel
theorem dW_addThread_67 : decode bW_addThread 67 = .ok (.iastore, 1) := by decide +kernel
theorem dW_addThread_68 : decode bW_addThread 68 = .ok (.iload 5, 2) := by decide +kernel
theorem dW_addThread_70 : decode bW_addThread 70 = .ok (.ireturn, 1) := by decide +kernel
theorem dW_placeOfThread_0 : decode bW_placeOfThread 0 = .ok (.aload_n 0, 1) := by decide +kernel
theorem dW_placeOfThread_1 : decode bW_placeOfThread 1 = .ok (.iload_n 1, 1) := by decide +kernel
theorem dW_placeOfThread_2 : decode bW_placeOfThread 2 = .ok (.invokevirtual 76, 3) := by decide +kernel
theorem dW_placeOfThread_5 : decode bW_placeOfThread 5 = .ok (.ifCond .eq 12, 3) := by decide +kernel
theorem dW_placeOfThread_8 : decode bW_placeOfThread 8 = .ok (.aload_n 0, 1) := by decide +kernel
theorem dW_placeOfThread_9 : decode bW_placeOfThread 9 = .ok (.getfield 34, 3) := by decide +kernel
theorem dW_placeOfThread_12 : decode bW_placeOfThread 12 = .ok (.iload_n 1, 1) := by decide +kernel
theorem dW_placeOfThread_13 : decode bW_placeOfThread 13 = .ok (.iaload, 1) := by decide +kernel
theorem dW_placeOfThread_14 : decode bW_placeOfThread 14 = .ok (.goto 5, 3) := by decide +kernel
theorem dW_placeOfThread_17 : decode bW_placeOfThread 17 = .ok (.bipush (-9), 2) := by decide +kernel
theorem dW_placeOfThread_19 : decode bW_placeOfThread 19 = .ok (.ireturn, 1) := by decide +kernel
theorem dW_actsDone_0 : decode bW_actsDone 0 = .ok (.aload_n 0, 1) := by decide +kernel
theorem dW_actsDone_1 : decode bW_actsDone 1 = .ok (.iload_n 1, 1) := by decide +kernel
theorem dW_actsDone_2 : decode bW_actsDone 2 = .ok (.invokevirtual 76, 3) := by decide +kernel
theorem dW_actsDone_5 : decode bW_actsDone 5 = .ok (.ifCond .eq 12, 3) := by decide +kernel
theorem dW_actsDone_8 : decode bW_actsDone 8 = .ok (.aload_n 0, 1) := by decide +kernel
theorem dW_actsDone_9 : decode bW_actsDone 9 = .ok (.getfield 44, 3) := by decide +kernel
theorem dW_actsDone_12 : decode bW_actsDone 12 = .ok (.iload_n 1, 1) := by decide +kernel
theorem dW_actsDone_13 : decode bW_actsDone 13 = .ok (.iaload, 1) := by decide +kernel
theorem dW_actsDone_14 : decode bW_actsDone 14 = .ok (.goto 4, 3) := by decide +kernel
theorem dW_actsDone_17 : decode bW_actsDone 17 = .ok (.iconst 0, 1) := by decide +kernel
theorem dW_actsDone_18 : decode bW_actsDone 18 = .ok (.ireturn, 1) := by decide +kernel
theorem dW_actsInAll_0 : decode bW_actsInAll 0 = .ok (.aload_n 0, 1) := by decide +kernel
theorem dW_actsInAll_1 : decode bW_actsInAll 1 = .ok (.iload_n 1, 1) := by decide +kernel
theorem dW_actsInAll_2 : decode bW_actsInAll 2 = .ok (.invokevirtual 76, 3) := by decide +kernel
theorem dW_actsInAll_5 : decode bW_actsInAll 5 = .ok (.ifCond .eq 12, 3) := by decide +kernel
theorem dW_actsInAll_8 : decode bW_actsInAll 8 = .ok (.aload_n 0, 1) := by decide +kernel
theorem dW_actsInAll_9 : decode bW_actsInAll 9 = .ok (.getfield 41, 3) := by decide +kernel
theorem dW_actsInAll_12 : decode bW_actsInAll 12 = .ok (.iload_n 1, 1) := by decide +kernel
theorem dW_actsInAll_13 : decode bW_actsInAll 13 = .ok (.iaload, 1) := by decide +kernel
theorem dW_actsInAll_14 : decode bW_actsInAll 14 = .ok (.goto 4, 3) := by decide +kernel
theorem dW_actsInAll_17 : decode bW_actsInAll 17 = .ok (.iconst 0, 1) := by decide +kernel
theorem dW_actsInAll_18 : decode bW_actsInAll 18 = .ok (.ireturn, 1) := by decide +kernel
theorem wq_120 : Cond.methodLink rM 35 yM_isName ∈ wT := wT_in 120 rfl rfl
theorem wq_121 : Cond.static yM_isName ∈ wT := wT_in 121 rfl rfl
theorem wq_37 : Cond.initialized rM ∈ wT := wT_in 37 rfl rfl
theorem wq_122 : Cond.code yM_isName bM_isName 1 (some .boolean) ∈ wT := wT_in 122 rfl rfl
theorem kT_M_35 : mp_T rM 35 yM_isName bM_isName 1 (some .boolean) 1 := ⟨wq_120, wq_121, wq_37, wq_122, ⟨by decide, by decide, by decide +kernel⟩⟩
theorem wq_134 : Cond.constantLong rM 159 100 ∈ wT := wT_in 134 rfl rfl
theorem wq_135 : Cond.methodLink rM 161 yM_isAct ∈ wT := wT_in 135 rfl rfl
theorem wq_136 : Cond.static yM_isAct ∈ wT := wT_in 136 rfl rfl
theorem wq_137 : Cond.code yM_isAct bM_isAct 3 (some .boolean) ∈ wT := wT_in 137 rfl rfl
theorem kT_M_161 : mp_T rM 161 yM_isAct bM_isAct 3 (some .boolean) 1 := ⟨wq_135, wq_136, wq_37, wq_137, ⟨by decide, by decide, by decide +kernel⟩⟩
theorem wq_305 : Cond.constant rJ 265 1431655765 ∈ wT := wT_in 305 rfl rfl
theorem wq_306 : Cond.constant rJ 266 858993459 ∈ wT := wT_in 306 rfl rfl
theorem wq_307 : Cond.constant rJ 267 252645135 ∈ wT := wT_in 307 rfl rfl
theorem wq_56 : Cond.fieldLink rW 9 rW "placeCount" "I" ∈ wT := wT_in 56 rfl rfl
theorem wq_57 : Cond.fieldLink rW 15 rW "goneSet" "I" ∈ wT := wT_in 57 rfl rfl
theorem wq_59 : Cond.fieldLink rW 21 rW "names" "[I" ∈ wT := wT_in 59 rfl rfl
theorem wq_60 : Cond.fieldLink rW 25 rW "around" "[I" ∈ wT := wT_in 60 rfl rfl
theorem wq_58 : Cond.fieldLink rW 18 rW "sealedSet" "I" ∈ wT := wT_in 58 rfl rfl
theorem wq_61 : Cond.fieldLink rW 28 rW "messages" "[I" ∈ wT := wT_in 61 rfl rfl
theorem wq_150 : Cond.methodLink rW 56 yW_isPlace ∈ wT := wT_in 150 rfl rfl
theorem wq_117 : Cond.instanceMethod yW_isPlace ∈ wT := wT_in 117 rfl rfl
theorem wq_118 : Cond.selects rW yW_isPlace yW_isPlace ∈ wT := wT_in 118 rfl rfl
theorem wq_38 : Cond.initialized rW ∈ wT := wT_in 38 rfl rfl
theorem wq_119 : Cond.code yW_isPlace bW_isPlace 2 (some .boolean) ∈ wT := wT_in 119 rfl rfl
theorem kV_W_56 : mp_V rW 56 yW_isPlace bW_isPlace 2 (some .boolean) 1 := ⟨wq_150, wq_117, wq_118, wq_38, wq_119, ⟨by decide, by decide, by decide +kernel⟩⟩
theorem kN_M_isName : Cond.static yM_isName ∈ wT ∧ Cond.initialized yM_isName.cls ∈ wT ∧ Cond.code yM_isName bM_isName 1 (some .boolean) ∈ wT ∧ (yM_isName.cls ≠ "java/lang/invoke/MethodHandle" ∧ yM_isName.cls ≠ "java/lang/invoke/VarHandle" ∧ (parseMethodDescriptor yM_isName.desc).map (fun d => d.parameters.length) = some 1) := ⟨wq_121, wq_37, wq_122, by decide, by decide, by decide +kernel⟩
theorem wq_62 : Cond.fieldLink rW 31 rW "threadCount" "I" ∈ wT := wT_in 62 rfl rfl
theorem wq_63 : Cond.fieldLink rW 34 rW "spots" "[I" ∈ wT := wT_in 63 rfl rfl
theorem wq_192 : Cond.methodLink rW 63 yW_placeAround ∈ wT := wT_in 192 rfl rfl
theorem wq_177 : Cond.instanceMethod yW_placeAround ∈ wT := wT_in 177 rfl rfl
theorem wq_178 : Cond.selects rW yW_placeAround yW_placeAround ∈ wT := wT_in 178 rfl rfl
theorem wq_179 : Cond.code yW_placeAround bW_placeAround 2 (some .int) ∈ wT := wT_in 179 rfl rfl
theorem kV_W_63 : mp_V rW 63 yW_placeAround bW_placeAround 2 (some .int) 1 := ⟨wq_192, wq_177, wq_178, wq_38, wq_179, ⟨by decide, by decide, by decide +kernel⟩⟩
theorem wq_382 : Cond.methodLink rW 67 yJ_bitCount ∈ wT := wT_in 382 rfl rfl
theorem wq_303 : Cond.static yJ_bitCount ∈ wT := wT_in 303 rfl rfl
theorem wq_40 : Cond.initialized rJ ∈ wT := wT_in 40 rfl rfl
theorem wq_304 : Cond.code yJ_bitCount bJ_bitCount 1 (some .int) ∈ wT := wT_in 304 rfl rfl
theorem kT_W_67 : mp_T rW 67 yJ_bitCount bJ_bitCount 1 (some .int) 1 := ⟨wq_382, wq_303, wq_40, wq_304, ⟨by decide, by decide, by decide +kernel⟩⟩
theorem wq_267 : Cond.methodLink rW 72 yW_messagesOf ∈ wT := wT_in 267 rfl rfl
theorem wq_160 : Cond.instanceMethod yW_messagesOf ∈ wT := wT_in 160 rfl rfl
theorem wq_161 : Cond.selects rW yW_messagesOf yW_messagesOf ∈ wT := wT_in 161 rfl rfl
theorem wq_162 : Cond.code yW_messagesOf bW_messagesOf 3 (some .int) ∈ wT := wT_in 162 rfl rfl
theorem kV_W_72 : mp_V rW 72 yW_messagesOf bW_messagesOf 3 (some .int) 2 := ⟨wq_267, wq_160, wq_161, wq_38, wq_162, ⟨by decide, by decide, by decide +kernel⟩⟩
theorem wq_64 : Cond.fieldLink rW 37 rW "acts" "[J" ∈ wT := wT_in 64 rfl rfl
theorem wq_65 : Cond.fieldLink rW 41 rW "actCounts" "[I" ∈ wT := wT_in 65 rfl rfl
theorem wq_66 : Cond.fieldLink rW 44 rW "doneCounts" "[I" ∈ wT := wT_in 66 rfl rfl
theorem wq_67 : Cond.fieldLink rW 47 rW "heard" "[I" ∈ wT := wT_in 67 rfl rfl
theorem wq_205 : Cond.methodLink rW 76 yW_isThread ∈ wT := wT_in 205 rfl rfl
theorem wq_198 : Cond.instanceMethod yW_isThread ∈ wT := wT_in 198 rfl rfl
theorem wq_199 : Cond.selects rW yW_isThread yW_isThread ∈ wT := wT_in 199 rfl rfl
theorem wq_200 : Cond.code yW_isThread bW_isThread 2 (some .boolean) ∈ wT := wT_in 200 rfl rfl
theorem kV_W_76 : mp_V rW 76 yW_isThread bW_isThread 2 (some .boolean) 1 := ⟨wq_205, wq_198, wq_199, wq_38, wq_200, ⟨by decide, by decide, by decide +kernel⟩⟩
-- MovingPlaces.isName
abbrev rmM_isName : Room := { frames := 0, cells := 0, slots := 0, locals := 0 }
def fM_isName (a0 : Int32) : Option Int32 := (if a0 < 0 then some 0 else (if 6 ≤ a0 then some 0 else some 1))
set_option maxHeartbeats 4000000 in
set_option maxRecDepth 100000 in
theorem wM_isName {p : Program} {l : Launch} {e : Env} {s : State} {m : MethodId} {args : Array Value} {below : List Frame} {meth : Method} {c : Code} (cx : mp_C p s m args meth c bM_isName 1 (some .boolean) rM) (k : KK) (a0 : Int32) (z : Int32) (hE : mp_E k s) (h : fM_isName a0 = some z) (ls : Array Slot) (hl : lv_has ls 1 [(0, .int a0)]) : W p l e rmM_isName s m args below meth c s.heap [] 0 0 (MQ below (mp_Qs (some (.int z))) args s 0 0 (fun _ => False)) (F0 m 0 ls []) := by
  obtain ⟨hx, hb, -, hml, hown, hts, -⟩ := id cx
  unfold fM_isName at h
  refine lv_iload_n hx hb dM_isName_0 rfl (lv_at hl 0 rfl) ?_
  refine lv_if_lt (tgt := 14) hx hb dM_isName_1 (by decide) (fun c1 => ?_) (fun c1 => ?_)
  · have h := mp_t c1 h
    refine lv_iconst (v := 0) hx hb dM_isName_14 (by decide) ?_
    exact mp_rz cx rfl h dM_isName_15
  · have h := mp_f c1 h
    refine lv_iload_n hx hb dM_isName_4 rfl (lv_at hl 0 rfl) ?_
    refine lv_bipush (v := 6) hx hb dM_isName_5 (by decide) ?_
    refine lv_icmp_ge (tgt := 14) hx hb dM_isName_7 (by decide) (fun c2 => ?_) (fun c2 => ?_)
    · have h := mp_t c2 h
      refine lv_iconst (v := 0) hx hb dM_isName_14 (by decide) ?_
      exact mp_rz cx rfl h dM_isName_15
    · have h := mp_f c2 h
      refine lv_iconst (v := 1) hx hb dM_isName_10 (by decide) ?_
      refine lv_goto (tgt := 15) hx hb dM_isName_11 (by decide) ?_
      exact mp_rz cx rfl h dM_isName_15
theorem cM_isName (l : Launch) (k : KK) (a0 : Int32) (z : Int32) (h : fM_isName a0 = some z) : mp_CS l k yM_isName bM_isName 1 (some .boolean) rmM_isName [.int a0] [] (some (.int z)) := by
  refine Met.ofW (cc := bM_isName) (maxL := 1) (ret := (some .boolean)) (by decide) rfl ?_
  intro p e s m args below meth c s₁ B hml hv
  obtain ⟨rfl, hP, hD, hE⟩ := hv
  have hl := lv_entry ([.int a0]) (n := 1) (Nat.le_of_ble_eq_true rfl)
  rw [lg_entry_eq]
  generalize (lg_sl ([.int a0]) ++ List.replicate (1 - (lg_sl ([.int a0])).length) Slot.unset).toArray = ls at hl ⊢
  exact wM_isName (mp_C.of B hml) k a0 z hE h ls hl
-- MovingPlaces.isAct
abbrev rmM_isAct : Room := { frames := 1, cells := 0, slots := 0, locals := 20 }
def fM_isAct (a0 : Int32) : Option Int32 := (if (a0 / 10) = 5 then (if (a0 - a0 / 10 * 10) = 0 then some 1 else some 0) else (if (a0 / 10) < 1 then some 0 else (if 4 < (a0 / 10) then some 0 else (fM_isName (a0 - a0 / 10 * 10)).bind fun x4 => (if x4 = 0 then (if (a0 - a0 / 10 * 10) = 9 then some 1 else some 0) else some 1))))
set_option maxHeartbeats 4000000 in
set_option maxRecDepth 100000 in
theorem wM_isAct {p : Program} {l : Launch} {e : Env} {s : State} {m : MethodId} {args : Array Value} {below : List Frame} {meth : Method} {c : Code} (cx : mp_C p s m args meth c bM_isAct 3 (some .boolean) rM) (k : KK) (a0 : Int32) (z : Int32) (hE : mp_E k s) (h : fM_isAct a0 = some z) (ls : Array Slot) (hl : lv_has ls 3 [(0, .int a0)]) : W p l e rmM_isAct s m args below meth c s.heap [] 0 0 (MQ below (mp_Qs (some (.int z))) args s 0 0 (fun _ => False)) (F0 m 0 ls []) := by
  obtain ⟨hx, hb, -, hml, hown, hts, -⟩ := id cx
  unfold fM_isAct at h
  refine lv_iload_n hx hb dM_isAct_0 rfl (lv_at hl 0 rfl) ?_
  refine lv_bipush (v := 10) hx hb dM_isAct_1 (by decide) ?_
  refine lv_idiv hx hb dM_isAct_3 (by decide) ?_
  refine lv_istore_n (lv' := [(1, .int (a0 / 10)), (0, .int a0)]) hx hb dM_isAct_4 rfl hl (by decide) rfl (fun ls hl => ?_)
  refine lv_iload_n hx hb dM_isAct_5 rfl (lv_at hl 1 rfl) ?_
  refine lv_bipush (v := 10) hx hb dM_isAct_6 (by decide) ?_
  refine lv_irem hx hb dM_isAct_8 (by decide) ?_
  refine lv_istore_n (lv' := [(2, .int (a0 - a0 / 10 * 10)), (1, .int (a0 / 10)), (0, .int a0)]) hx hb dM_isAct_9 rfl hl (by decide) rfl (fun ls hl => ?_)
  refine lv_iload_n hx hb dM_isAct_10 rfl (lv_at hl 1 rfl) ?_
  refine lv_iconst (v := 5) hx hb dM_isAct_11 (by decide) ?_
  refine lv_icmp_ne (tgt := 25) hx hb dM_isAct_12 (by decide) (fun c1 => ?_) (fun c1 => ?_)
  · have h := mp_f c1 h
    refine lv_iload_n hx hb dM_isAct_25 rfl (lv_at hl 1 rfl) ?_
    refine lv_iconst (v := 1) hx hb dM_isAct_26 (by decide) ?_
    refine lv_icmp_lt (tgt := 52) hx hb dM_isAct_27 (by decide) (fun c2 => ?_) (fun c2 => ?_)
    · have h := mp_t c2 h
      refine lv_iconst (v := 0) hx hb dM_isAct_52 (by decide) ?_
      exact mp_rz cx rfl h dM_isAct_53
    · have h := mp_f c2 h
      refine lv_iload_n hx hb dM_isAct_30 rfl (lv_at hl 1 rfl) ?_
      refine lv_iconst (v := 4) hx hb dM_isAct_31 (by decide) ?_
      refine lv_icmp_gt (tgt := 52) hx hb dM_isAct_32 (by decide) (fun c3 => ?_) (fun c3 => ?_)
      · have h := mp_t c3 h
        refine lv_iconst (v := 0) hx hb dM_isAct_52 (by decide) ?_
        exact mp_rz cx rfl h dM_isAct_53
      · have h := mp_f c3 h
        refine lv_iload_n hx hb dM_isAct_35 rfl (lv_at hl 0 rfl) ?_
        obtain ⟨x4, ex4, h⟩ := mp_bs h
        refine mp_si (mp_runT (As := [.int (a0 - a0 / 10 * 10)]) (rest := []) cx kT_M_35 (cM_isName l k (a0 - a0 / 10 * 10) x4 ex4) ⟨rfl, rfl, Nat.le_of_ble_eq_true rfl, Nat.le_of_ble_eq_true rfl⟩ ⟨Nat.zero_le _, Nat.zero_le _⟩ hE mp_P0 mp_D0 va_S.rf hl.1 rfl (Nat.le_of_ble_eq_true rfl) dM_isAct_36) ?_
        refine lv_if_ne (tgt := 48) hx hb dM_isAct_39 (by decide) (fun c5 => ?_) (fun c5 => ?_)
        · have h := mp_f c5 h
          refine lv_iconst (v := 1) hx hb dM_isAct_48 (by decide) ?_
          refine lv_goto (tgt := 53) hx hb dM_isAct_49 (by decide) ?_
          exact mp_rz cx rfl h dM_isAct_53
        · have h := mp_t c5 h
          refine lv_iload_n hx hb dM_isAct_42 rfl (lv_at hl 0 rfl) ?_
          refine lv_bipush (v := 9) hx hb dM_isAct_43 (by decide) ?_
          refine lv_icmp_ne (tgt := 52) hx hb dM_isAct_45 (by decide) (fun c6 => ?_) (fun c6 => ?_)
          · have h := mp_f c6 h
            refine lv_iconst (v := 0) hx hb dM_isAct_52 (by decide) ?_
            exact mp_rz cx rfl h dM_isAct_53
          · have h := mp_t c6 h
            refine lv_iconst (v := 1) hx hb dM_isAct_48 (by decide) ?_
            refine lv_goto (tgt := 53) hx hb dM_isAct_49 (by decide) ?_
            exact mp_rz cx rfl h dM_isAct_53
  · have h := mp_t c1 h
    refine lv_iload_n hx hb dM_isAct_15 rfl (lv_at hl 0 rfl) ?_
    refine lv_if_ne (tgt := 23) hx hb dM_isAct_16 (by decide) (fun c7 => ?_) (fun c7 => ?_)
    · have h := mp_f c7 h
      refine lv_iconst (v := 0) hx hb dM_isAct_23 (by decide) ?_
      exact mp_rz cx rfl h dM_isAct_24
    · have h := mp_t c7 h
      refine lv_iconst (v := 1) hx hb dM_isAct_19 (by decide) ?_
      refine lv_goto (tgt := 24) hx hb dM_isAct_20 (by decide) ?_
      exact mp_rz cx rfl h dM_isAct_24
theorem cM_isAct (l : Launch) (k : KK) (a0 : Int32) (z : Int32) (h : fM_isAct a0 = some z) : mp_CS l k yM_isAct bM_isAct 3 (some .boolean) rmM_isAct [.int a0] [] (some (.int z)) := by
  refine Met.ofW (cc := bM_isAct) (maxL := 3) (ret := (some .boolean)) (by decide) rfl ?_
  intro p e s m args below meth c s₁ B hml hv
  obtain ⟨rfl, hP, hD, hE⟩ := hv
  have hl := lv_entry ([.int a0]) (n := 3) (Nat.le_of_ble_eq_true rfl)
  rw [lg_entry_eq]
  generalize (lg_sl ([.int a0]) ++ List.replicate (3 - (lg_sl ([.int a0])).length) Slot.unset).toArray = ls at hl ⊢
  exact wM_isAct (mp_C.of B hml) k a0 z hE h ls hl
-- MovingPlaces.countActs
abbrev rmM_countActs : Room := { frames := 2, cells := 0, slots := 0, locals := 42 }
def fM_countActs_13  : Nat → Int64 → Int32 → Option Int32
  | 0, _, _ => none
  | n + 1, a2, a4 => (if 6 < a4 then some 0 else (fM_isAct (Int64.toInt32 (a2 - a2 / 100 * 100))).bind fun x2 => (if x2 = 0 then some 0 else (if (lg_cmp (a2 / 100) 0) = 0 then some a4 else fM_countActs_13  n (a2 / 100) (a4 + 1))))
theorem fM_countActs_13_s (n : Nat) (a2 : Int64) (a4 : Int32) : fM_countActs_13  (n + 1) a2 a4 = (if 6 < a4 then some 0 else (fM_isAct (Int64.toInt32 (a2 - a2 / 100 * 100))).bind fun x2 => (if x2 = 0 then some 0 else (if (lg_cmp (a2 / 100) 0) = 0 then some a4 else fM_countActs_13  n (a2 / 100) (a4 + 1)))) := rfl
set_option maxHeartbeats 4000000 in
set_option maxRecDepth 100000 in
theorem lM_countActs_13 {p : Program} {l : Launch} {e : Env} {s : State} {m : MethodId} {args : Array Value} {below : List Frame} {meth : Method} {c : Code} (cx : mp_C p s m args meth c bM_countActs 5 (some .int) rM) (k : KK)  (z : Int32) (hE : mp_E k s) : ∀ (n : Nat) (a2 : Int64) (a4 : Int32), fM_countActs_13  n a2 a4 = some z → ∀ (ls : Array Slot), lv_has ls 5 [(2, .long a2), (4, .int a4)] → W p l e rmM_countActs s m args below meth c s.heap [] 0 0 (MQ below (mp_Qs (some (.int z))) args s 0 0 (fun _ => False)) (F0 m 13 ls []) := by
  obtain ⟨hx, hb, -, hml, hown, hts, -⟩ := id cx
  intro n
  induction n with
  | zero =>
    intro a2 a4 h
    have h : (none : Option Int32) = some z := h
    cases h
  | succ n ih =>
    intro a2 a4 h ls hl
    rw [fM_countActs_13_s] at h
    refine lv_iload hx hb dM_countActs_13 (lv_at hl 1 rfl) ?_
    refine lv_bipush (v := 6) hx hb dM_countActs_15 (by decide) ?_
    refine lv_icmp_gt (tgt := 55) hx hb dM_countActs_17 (by decide) (fun c1 => ?_) (fun c1 => ?_)
    · have h := mp_t c1 h
      refine lv_iconst (v := 0) hx hb dM_countActs_55 (by decide) ?_
      exact mp_ri cx h dM_countActs_56
    · have h := mp_f c1 h
      refine lv_lload_n hx hb dM_countActs_20 rfl (lv_at hl 0 rfl) ?_
      refine lv_ldc2 (v := 100) hx hb hown (hts _ wq_134) dM_countActs_21 ?_
      refine lv_lrem hx hb dM_countActs_24 (by decide) ?_
      refine lv_l2i hx hb dM_countActs_25 rfl ?_
      obtain ⟨x2, ex2, h⟩ := mp_bs h
      refine mp_si (mp_runT (As := [.int (Int64.toInt32 (a2 - a2 / 100 * 100))]) (rest := []) cx kT_M_161 (cM_isAct l k (Int64.toInt32 (a2 - a2 / 100 * 100)) x2 ex2) ⟨rfl, rfl, Nat.le_of_ble_eq_true rfl, Nat.le_of_ble_eq_true rfl⟩ ⟨Nat.zero_le _, Nat.zero_le _⟩ hE mp_P0 mp_D0 va_S.rf hl.1 rfl (Nat.le_of_ble_eq_true rfl) dM_countActs_26) ?_
      refine lv_if_ne (tgt := 34) hx hb dM_countActs_29 (by decide) (fun c3 => ?_) (fun c3 => ?_)
      · have h := mp_f c3 h
        refine lv_lload_n hx hb dM_countActs_34 rfl (lv_at hl 0 rfl) ?_
        refine lv_ldc2 (v := 100) hx hb hown (hts _ wq_134) dM_countActs_35 ?_
        refine lv_ldiv hx hb dM_countActs_38 (by decide) ?_
        refine lv_lstore_n (lv' := [(2, .long (a2 / 100)), (4, .int a4)]) hx hb dM_countActs_39 rfl hl (by decide) rfl (fun ls hl => ?_)
        refine lv_lload_n hx hb dM_countActs_40 rfl (lv_at hl 0 rfl) ?_
        refine lv_lconst (v := 0) hx hb dM_countActs_41 (by decide) ?_
        refine W.lcmp hx hb dM_countActs_42 ?_
        refine lv_if_ne (tgt := 49) hx hb dM_countActs_43 (by decide) (fun c4 => ?_) (fun c4 => ?_)
        · have h := mp_f c4 h
          refine lv_iinc (v := (a4 + 1)) (lv' := [(4, .int (a4 + 1)), (2, .long (a2 / 100))]) hx hb dM_countActs_49 hl (k := 1) rfl rfl (by decide) rfl (fun ls hl => ?_)
          refine lv_goto (tgt := 13) hx hb dM_countActs_52 (by decide) ?_
          exact ih (a2 / 100) (a4 + 1) h ls (lv_sub hl [1, 0] rfl)
        · have h := mp_t c4 h
          refine lv_iload hx hb dM_countActs_46 (lv_at hl 1 rfl) ?_
          exact mp_ri cx h dM_countActs_48
      · have h := mp_t c3 h
        refine lv_iconst (v := 0) hx hb dM_countActs_32 (by decide) ?_
        exact mp_ri cx h dM_countActs_33
def fM_countActs (a0 : Int64) : Option Int32 := (if 0 < (lg_cmp a0 0) then fM_countActs_13  2000 a0 1 else some 0)
set_option maxHeartbeats 4000000 in
set_option maxRecDepth 100000 in
theorem wM_countActs {p : Program} {l : Launch} {e : Env} {s : State} {m : MethodId} {args : Array Value} {below : List Frame} {meth : Method} {c : Code} (cx : mp_C p s m args meth c bM_countActs 5 (some .int) rM) (k : KK) (a0 : Int64) (z : Int32) (hE : mp_E k s) (h : fM_countActs a0 = some z) (ls : Array Slot) (hl : lv_has ls 5 [(0, .long a0)]) : W p l e rmM_countActs s m args below meth c s.heap [] 0 0 (MQ below (mp_Qs (some (.int z))) args s 0 0 (fun _ => False)) (F0 m 0 ls []) := by
  obtain ⟨hx, hb, -, hml, hown, hts, -⟩ := id cx
  unfold fM_countActs at h
  refine lv_lload_n hx hb dM_countActs_0 rfl (lv_at hl 0 rfl) ?_
  refine lv_lconst (v := 0) hx hb dM_countActs_1 (by decide) ?_
  refine W.lcmp hx hb dM_countActs_2 ?_
  refine lv_if_gt (tgt := 8) hx hb dM_countActs_3 (by decide) (fun c1 => ?_) (fun c1 => ?_)
  · have h := mp_t c1 h
    refine lv_lload_n hx hb dM_countActs_8 rfl (lv_at hl 0 rfl) ?_
    refine lv_lstore_n (lv' := [(2, .long a0), (0, .long a0)]) hx hb dM_countActs_9 rfl hl (by decide) rfl (fun ls hl => ?_)
    refine lv_iconst (v := 1) hx hb dM_countActs_10 (by decide) ?_
    refine lv_istore (lv' := [(4, .int 1), (2, .long a0), (0, .long a0)]) hx hb dM_countActs_11 hl (by decide) rfl (fun ls hl => ?_)
    exact lM_countActs_13 cx k  z hE _ a0 1 h ls (lv_sub hl [1, 0] rfl)
  · have h := mp_f c1 h
    refine lv_iconst (v := 0) hx hb dM_countActs_6 (by decide) ?_
    exact mp_ri cx h dM_countActs_7
theorem cM_countActs (l : Launch) (k : KK) (a0 : Int64) (z : Int32) (h : fM_countActs a0 = some z) : mp_CS l k yM_countActs bM_countActs 5 (some .int) rmM_countActs [.long a0] [] (some (.int z)) := by
  refine Met.ofW (cc := bM_countActs) (maxL := 5) (ret := (some .int)) (by decide) rfl ?_
  intro p e s m args below meth c s₁ B hml hv
  obtain ⟨rfl, hP, hD, hE⟩ := hv
  have hl := lv_entry ([.long a0]) (n := 5) (Nat.le_of_ble_eq_true rfl)
  rw [lg_entry_eq]
  generalize (lg_sl ([.long a0]) ++ List.replicate (5 - (lg_sl ([.long a0])).length) Slot.unset).toArray = ls at hl ⊢
  exact wM_countActs (mp_C.of B hml) k a0 z hE h ls hl
-- java/lang/Integer.bitCount
abbrev rmJ_bitCount : Room := { frames := 0, cells := 0, slots := 0, locals := 0 }
def fJ_bitCount (a0 : Int32) : Option Int32 := mp_lt (a0 - ((Int32.toUInt32 a0 >>> (Int32.toUInt32 1 &&& Int32.toUInt32 31)).toInt32 &&& 1431655765)) fun x1 => mp_lt ((x1 &&& 858993459) + ((Int32.toUInt32 x1 >>> (Int32.toUInt32 2 &&& Int32.toUInt32 31)).toInt32 &&& 858993459)) fun x2 => mp_lt ((x2 + (Int32.toUInt32 x2 >>> (Int32.toUInt32 4 &&& Int32.toUInt32 31)).toInt32) &&& 252645135) fun x3 => mp_lt (x3 + (Int32.toUInt32 x3 >>> (Int32.toUInt32 8 &&& Int32.toUInt32 31)).toInt32) fun x4 => mp_lt (x4 + (Int32.toUInt32 x4 >>> (Int32.toUInt32 16 &&& Int32.toUInt32 31)).toInt32) fun x5 => some (x5 &&& 63)
set_option maxHeartbeats 4000000 in
set_option maxRecDepth 100000 in
theorem wJ_bitCount {p : Program} {l : Launch} {e : Env} {s : State} {m : MethodId} {args : Array Value} {below : List Frame} {meth : Method} {c : Code} (cx : mp_C p s m args meth c bJ_bitCount 1 (some .int) rJ) (k : KK) (a0 : Int32) (z : Int32) (hE : mp_E k s) (h : fJ_bitCount a0 = some z) (ls : Array Slot) (hl : lv_has ls 1 [(0, .int a0)]) : W p l e rmJ_bitCount s m args below meth c s.heap [] 0 0 (MQ below (mp_Qs (some (.int z))) args s 0 0 (fun _ => False)) (F0 m 0 ls []) := by
  obtain ⟨hx, hb, -, hml, hown, hts, -⟩ := id cx
  unfold fJ_bitCount at h
  refine lv_iload_n hx hb dJ_bitCount_0 rfl (lv_at hl 0 rfl) ?_
  refine lv_iload_n hx hb dJ_bitCount_1 rfl (lv_at hl 0 rfl) ?_
  refine lv_iconst (v := 1) hx hb dJ_bitCount_2 (by decide) ?_
  refine lv_iushr (v := (Int32.toUInt32 a0 >>> (Int32.toUInt32 1 &&& Int32.toUInt32 31)).toInt32) hx hb dJ_bitCount_3 rfl ?_
  refine lv_ldcw (v := 1431655765) hx hb hown (hts _ wq_305) dJ_bitCount_4 ?_
  refine lv_iand hx hb dJ_bitCount_7 ?_
  refine lv_isub hx hb dJ_bitCount_8 ?_
  obtain ⟨x1, ex1, h⟩ := mp_lts h
  refine mp_top ex1 ?_
  refine lv_istore_n (lv' := [(0, .int x1)]) hx hb dJ_bitCount_9 rfl hl (by decide) rfl (fun ls hl => ?_)
  refine lv_iload_n hx hb dJ_bitCount_10 rfl (lv_at hl 0 rfl) ?_
  refine lv_ldcw (v := 858993459) hx hb hown (hts _ wq_306) dJ_bitCount_11 ?_
  refine lv_iand hx hb dJ_bitCount_14 ?_
  refine lv_iload_n hx hb dJ_bitCount_15 rfl (lv_at hl 0 rfl) ?_
  refine lv_iconst (v := 2) hx hb dJ_bitCount_16 (by decide) ?_
  refine lv_iushr (v := (Int32.toUInt32 x1 >>> (Int32.toUInt32 2 &&& Int32.toUInt32 31)).toInt32) hx hb dJ_bitCount_17 rfl ?_
  refine lv_ldcw (v := 858993459) hx hb hown (hts _ wq_306) dJ_bitCount_18 ?_
  refine lv_iand hx hb dJ_bitCount_21 ?_
  refine lv_iadd hx hb dJ_bitCount_22 ?_
  obtain ⟨x2, ex2, h⟩ := mp_lts h
  refine mp_top ex2 ?_
  refine lv_istore_n (lv' := [(0, .int x2)]) hx hb dJ_bitCount_23 rfl hl (by decide) rfl (fun ls hl => ?_)
  refine lv_iload_n hx hb dJ_bitCount_24 rfl (lv_at hl 0 rfl) ?_
  refine lv_iload_n hx hb dJ_bitCount_25 rfl (lv_at hl 0 rfl) ?_
  refine lv_iconst (v := 4) hx hb dJ_bitCount_26 (by decide) ?_
  refine lv_iushr (v := (Int32.toUInt32 x2 >>> (Int32.toUInt32 4 &&& Int32.toUInt32 31)).toInt32) hx hb dJ_bitCount_27 rfl ?_
  refine lv_iadd hx hb dJ_bitCount_28 ?_
  refine lv_ldcw (v := 252645135) hx hb hown (hts _ wq_307) dJ_bitCount_29 ?_
  refine lv_iand hx hb dJ_bitCount_32 ?_
  obtain ⟨x3, ex3, h⟩ := mp_lts h
  refine mp_top ex3 ?_
  refine lv_istore_n (lv' := [(0, .int x3)]) hx hb dJ_bitCount_33 rfl hl (by decide) rfl (fun ls hl => ?_)
  refine lv_iload_n hx hb dJ_bitCount_34 rfl (lv_at hl 0 rfl) ?_
  refine lv_iload_n hx hb dJ_bitCount_35 rfl (lv_at hl 0 rfl) ?_
  refine lv_bipush (v := 8) hx hb dJ_bitCount_36 (by decide) ?_
  refine lv_iushr (v := (Int32.toUInt32 x3 >>> (Int32.toUInt32 8 &&& Int32.toUInt32 31)).toInt32) hx hb dJ_bitCount_38 rfl ?_
  refine lv_iadd hx hb dJ_bitCount_39 ?_
  obtain ⟨x4, ex4, h⟩ := mp_lts h
  refine mp_top ex4 ?_
  refine lv_istore_n (lv' := [(0, .int x4)]) hx hb dJ_bitCount_40 rfl hl (by decide) rfl (fun ls hl => ?_)
  refine lv_iload_n hx hb dJ_bitCount_41 rfl (lv_at hl 0 rfl) ?_
  refine lv_iload_n hx hb dJ_bitCount_42 rfl (lv_at hl 0 rfl) ?_
  refine lv_bipush (v := 16) hx hb dJ_bitCount_43 (by decide) ?_
  refine lv_iushr (v := (Int32.toUInt32 x4 >>> (Int32.toUInt32 16 &&& Int32.toUInt32 31)).toInt32) hx hb dJ_bitCount_45 rfl ?_
  refine lv_iadd hx hb dJ_bitCount_46 ?_
  obtain ⟨x5, ex5, h⟩ := mp_lts h
  refine mp_top ex5 ?_
  refine lv_istore_n (lv' := [(0, .int x5)]) hx hb dJ_bitCount_47 rfl hl (by decide) rfl (fun ls hl => ?_)
  refine lv_iload_n hx hb dJ_bitCount_48 rfl (lv_at hl 0 rfl) ?_
  refine lv_bipush (v := 63) hx hb dJ_bitCount_49 (by decide) ?_
  refine lv_iand hx hb dJ_bitCount_51 ?_
  exact mp_ri cx h dJ_bitCount_52
theorem cJ_bitCount (l : Launch) (k : KK) (a0 : Int32) (z : Int32) (h : fJ_bitCount a0 = some z) : mp_CS l k yJ_bitCount bJ_bitCount 1 (some .int) rmJ_bitCount [.int a0] [] (some (.int z)) := by
  refine Met.ofW (cc := bJ_bitCount) (maxL := 1) (ret := (some .int)) (by decide) rfl ?_
  intro p e s m args below meth c s₁ B hml hv
  obtain ⟨rfl, hP, hD, hE⟩ := hv
  have hl := lv_entry ([.int a0]) (n := 1) (Nat.le_of_ble_eq_true rfl)
  rw [lg_entry_eq]
  generalize (lg_sl ([.int a0]) ++ List.replicate (1 - (lg_sl ([.int a0])).length) Slot.unset).toArray = ls at hl ⊢
  exact wJ_bitCount (mp_C.of B hml) k a0 z hE h ls hl
-- MovingPlaces$World.isPlace
abbrev rmW_isPlace : Room := { frames := 0, cells := 0, slots := 0, locals := 0 }
def fW_isPlace (w : SW) (a1 : Int32) : Option Int32 := (if a1 < 0 then some 0 else (if w.1 ≤ a1 then some 0 else (if ((w.2.1 >>> (a1 &&& 31)) &&& 1) = 0 then some 1 else some 0)))
set_option maxHeartbeats 4000000 in
set_option maxRecDepth 100000 in
theorem wW_isPlace {p : Program} {l : Launch} {e : Env} {s : State} {m : MethodId} {args : Array Value} {below : List Frame} {meth : Method} {c : Code} (cx : mp_C p s m args meth c bW_isPlace 2 (some .boolean) rW) (k : KK) (ad : Nat → Nat) (w : SW) (a1 : Int32) (z : Int32) (hE : mp_E k s) (hP : va_P (kD k) mp_cls (cW k ad w) s.heap) (hD : va_D (mp_N k) (cW k ad w)) (h : fW_isPlace w a1 = some z) (ls : Array Slot) (hl : lv_has ls 2 [(0, .ref (ad 0)), (1, .int a1)]) : W p l e rmW_isPlace s m args below meth c s.heap [] 0 0 (MQ below (mp_Qs (some (.int z))) args s 0 0 (fun _ => False)) (F0 m 0 ls []) := by
  obtain ⟨hx, hb, -, hml, hown, hts, -⟩ := id cx
  unfold fW_isPlace at h
  refine lv_iload_n hx hb dW_isPlace_0 rfl (lv_at hl 1 rfl) ?_
  refine lv_if_lt (tgt := 27) hx hb dW_isPlace_1 (by decide) (fun c1 => ?_) (fun c1 => ?_)
  · have h := mp_t c1 h
    refine lv_iconst (v := 0) hx hb dW_isPlace_27 (by decide) ?_
    exact mp_rz cx rfl h dW_isPlace_28
  · have h := mp_f c1 h
    refine lv_iload_n hx hb dW_isPlace_4 rfl (lv_at hl 1 rfl) ?_
    refine lv_aload_n hx hb dW_isPlace_5 rfl (lv_at hl 0 rfl) ?_
    refine mp_gW cx hE hP iW 0 rfl 0 (by decide) wq_56 rfl (v := .int w.1) rfl dW_isPlace_6 ?_
    refine lv_icmp_ge (tgt := 27) hx hb dW_isPlace_9 (by decide) (fun c2 => ?_) (fun c2 => ?_)
    · have h := mp_t c2 h
      refine lv_iconst (v := 0) hx hb dW_isPlace_27 (by decide) ?_
      exact mp_rz cx rfl h dW_isPlace_28
    · have h := mp_f c2 h
      refine lv_aload_n hx hb dW_isPlace_12 rfl (lv_at hl 0 rfl) ?_
      refine mp_gW cx hE hP iW 0 rfl 1 (by decide) wq_57 rfl (v := .int w.2.1) rfl dW_isPlace_13 ?_
      refine lv_iload_n hx hb dW_isPlace_16 rfl (lv_at hl 1 rfl) ?_
      refine lv_ishr hx hb dW_isPlace_17 ?_
      refine lv_iconst (v := 1) hx hb dW_isPlace_18 (by decide) ?_
      refine lv_iand hx hb dW_isPlace_19 ?_
      refine lv_if_ne (tgt := 27) hx hb dW_isPlace_20 (by decide) (fun c3 => ?_) (fun c3 => ?_)
      · have h := mp_f c3 h
        refine lv_iconst (v := 0) hx hb dW_isPlace_27 (by decide) ?_
        exact mp_rz cx rfl h dW_isPlace_28
      · have h := mp_t c3 h
        refine lv_iconst (v := 1) hx hb dW_isPlace_23 (by decide) ?_
        refine lv_goto (tgt := 28) hx hb dW_isPlace_24 (by decide) ?_
        exact mp_rz cx rfl h dW_isPlace_28
theorem cW_isPlace (l : Launch) (k : KK) (ad : Nat → Nat) (w : SW) (a1 : Int32) (z : Int32) (h : fW_isPlace w a1 = some z) : mp_CS l k yW_isPlace bW_isPlace 2 (some .boolean) rmW_isPlace [.ref (ad 0), .int a1] (cW k ad w) (some (.int z)) := by
  refine Met.ofW (cc := bW_isPlace) (maxL := 2) (ret := (some .boolean)) (by decide) rfl ?_
  intro p e s m args below meth c s₁ B hml hv
  obtain ⟨rfl, hP, hD, hE⟩ := hv
  have hl := lv_entry ([.ref (ad 0), .int a1]) (n := 2) (Nat.le_of_ble_eq_true rfl)
  rw [lg_entry_eq]
  generalize (lg_sl ([.ref (ad 0), .int a1]) ++ List.replicate (2 - (lg_sl ([.ref (ad 0), .int a1])).length) Slot.unset).toArray = ls at hl ⊢
  exact wW_isPlace (mp_C.of B hml) k ad w a1 z hE hP hD h ls hl
-- MovingPlaces$World.addPlace
abbrev rmW_addPlace : Room := { frames := 0, cells := 0, slots := 0, locals := 0 }
def fW_addPlace_55 (a3 : Int32) : Nat → SW → Int32 → Option (Int32 × SW)
  | 0, _, _ => none
  | n + 1, w, a4 => (if 6 ≤ a4 then some (a3, w) else mp_st 72 ((a3 * 6) + a4) (fW_addPlace_55 a3 n (w.1, w.2.1, w.2.2.1, w.2.2.2.1, w.2.2.2.2.1, (upd w.2.2.2.2.2.1 (Int32.toNatClampNeg ((a3 * 6) + a4)) 0), w.2.2.2.2.2.2.1, w.2.2.2.2.2.2.2.1, w.2.2.2.2.2.2.2.2.1, w.2.2.2.2.2.2.2.2.2.1, w.2.2.2.2.2.2.2.2.2.2.1, w.2.2.2.2.2.2.2.2.2.2.2) (a4 + 1)))
theorem fW_addPlace_55_s (a3 : Int32) (n : Nat) (w : SW) (a4 : Int32) : fW_addPlace_55 a3 (n + 1) w a4 = (if 6 ≤ a4 then some (a3, w) else mp_st 72 ((a3 * 6) + a4) (fW_addPlace_55 a3 n (w.1, w.2.1, w.2.2.1, w.2.2.2.1, w.2.2.2.2.1, (upd w.2.2.2.2.2.1 (Int32.toNatClampNeg ((a3 * 6) + a4)) 0), w.2.2.2.2.2.2.1, w.2.2.2.2.2.2.2.1, w.2.2.2.2.2.2.2.2.1, w.2.2.2.2.2.2.2.2.2.1, w.2.2.2.2.2.2.2.2.2.2.1, w.2.2.2.2.2.2.2.2.2.2.2) (a4 + 1))) := rfl
set_option maxHeartbeats 4000000 in
set_option maxRecDepth 100000 in
theorem lW_addPlace_55 {p : Program} {l : Launch} {e : Env} {s : State} {m : MethodId} {args : Array Value} {below : List Frame} {meth : Method} {c : Code} (cx : mp_C p s m args meth c bW_addPlace 5 (some .int) rW) (k : KK) (ad : Nat → Nat) (a3 : Int32) (z : (Int32 × SW)) (hE : mp_E k s) (hAN : ∀ q, mp_A (aW ad) q → mp_N k q) : ∀ (n : Nat) (w : SW) (a4 : Int32), fW_addPlace_55 a3 n w a4 = some z → ∀ (H : Heap) (locs : List Loc), va_P (kD k) mp_cls (cW k ad w) H → va_D (mp_A (aW ad)) (cW k ad w) → va_S (mp_A (aW ad)) s.heap H locs → ∀ (ls : Array Slot), lv_has ls 5 [(0, .ref (ad 0)), (3, .int a3), (4, .int a4)] → W p l e rmW_addPlace s m args below meth c H locs 0 0 (MQ below (mp_Qm k (some (.int z.1)) (cW k ad z.2) (aW ad)) args s 0 0 (mp_A (aW ad))) (F0 m 55 ls []) := by
  obtain ⟨hx, hb, -, hml, hown, hts, -⟩ := id cx
  intro n
  induction n with
  | zero =>
    intro w a4 h
    have h : (none : Option (Int32 × SW)) = some z := h
    cases h
  | succ n ih =>
    intro w a4 h H locs hP hD hS ls hl
    rw [fW_addPlace_55_s] at h
    refine lv_iload hx hb dW_addPlace_55 (lv_at hl 2 rfl) ?_
    refine lv_bipush (v := 6) hx hb dW_addPlace_57 (by decide) ?_
    refine lv_icmp_ge (tgt := 81) hx hb dW_addPlace_59 (by decide) (fun c1 => ?_) (fun c1 => ?_)
    · have h := mp_t c1 h
      refine lv_iload_n hx hb dW_addPlace_81 rfl (lv_at hl 1 rfl) ?_
      exact mp_rim (cf := cW k ad) cx h hP hS dW_addPlace_82
    · have h := mp_f c1 h
      refine lv_aload_n hx hb dW_addPlace_62 rfl (lv_at hl 0 rfl) ?_
      refine mp_gW cx hE hP iW 0 rfl 5 (by decide) wq_61 rfl (v := .ref (ad 3)) rfl dW_addPlace_63 ?_
      refine lv_iload_n hx hb dW_addPlace_66 rfl (lv_at hl 1 rfl) ?_
      refine lv_bipush (v := 6) hx hb dW_addPlace_67 (by decide) ?_
      refine lv_imul hx hb dW_addPlace_69 ?_
      refine lv_iload hx hb dW_addPlace_70 (lv_at hl 2 rfl) ?_
      refine lv_iadd hx hb dW_addPlace_72 ?_
      refine lv_iconst (v := 0) hx hb dW_addPlace_73 (by decide) ?_
      obtain ⟨hi, h⟩ := mp_sts h
      refine va_iast hx hb hE.1 hP hD hS 3 0 (f := w.2.2.2.2.2.1) (n := 72) rfl rfl hi dW_addPlace_74 (fun H locs hP hD hS => ?_)
      have hP : va_P (kD k) mp_cls (cW k ad (w.1, w.2.1, w.2.2.1, w.2.2.2.1, w.2.2.2.2.1, (upd w.2.2.2.2.2.1 (Int32.toNatClampNeg ((a3 * 6) + a4)) 0), w.2.2.2.2.2.2.1, w.2.2.2.2.2.2.2.1, w.2.2.2.2.2.2.2.2.1, w.2.2.2.2.2.2.2.2.2.1, w.2.2.2.2.2.2.2.2.2.2.1, w.2.2.2.2.2.2.2.2.2.2.2)) H := hP
      have hD : va_D (mp_A (aW ad)) (cW k ad (w.1, w.2.1, w.2.2.1, w.2.2.2.1, w.2.2.2.2.1, (upd w.2.2.2.2.2.1 (Int32.toNatClampNeg ((a3 * 6) + a4)) 0), w.2.2.2.2.2.2.1, w.2.2.2.2.2.2.2.1, w.2.2.2.2.2.2.2.2.1, w.2.2.2.2.2.2.2.2.2.1, w.2.2.2.2.2.2.2.2.2.2.1, w.2.2.2.2.2.2.2.2.2.2.2)) := hD
      refine lv_iinc (v := (a4 + 1)) (lv' := [(4, .int (a4 + 1)), (0, .ref (ad 0)), (3, .int a3)]) hx hb dW_addPlace_75 hl (k := 2) rfl rfl (by decide) rfl (fun ls hl => ?_)
      refine lv_goto (tgt := 55) hx hb dW_addPlace_78 (by decide) ?_
      exact ih (w.1, w.2.1, w.2.2.1, w.2.2.2.1, w.2.2.2.2.1, (upd w.2.2.2.2.2.1 (Int32.toNatClampNeg ((a3 * 6) + a4)) 0), w.2.2.2.2.2.2.1, w.2.2.2.2.2.2.2.1, w.2.2.2.2.2.2.2.2.1, w.2.2.2.2.2.2.2.2.2.1, w.2.2.2.2.2.2.2.2.2.2.1, w.2.2.2.2.2.2.2.2.2.2.2) (a4 + 1) h _ _ hP hD hS ls (lv_sub hl [1, 2, 0] rfl)
def fW_addPlace (w : SW) (a1 : Int32) (a2 : Int32) : Option (Int32 × SW) := (if w.1 < 12 then mp_st 12 w.1 (mp_st 12 w.1 (fW_addPlace_55 w.1 2000 ((w.1 + 1), w.2.1, (w.2.2.1 &&& ((1 <<< (w.1 &&& 31)) ^^^ (-1))), (upd w.2.2.2.1 (Int32.toNatClampNeg w.1) a2), (upd w.2.2.2.2.1 (Int32.toNatClampNeg w.1) a1), w.2.2.2.2.2.1, w.2.2.2.2.2.2.1, w.2.2.2.2.2.2.2.1, w.2.2.2.2.2.2.2.2.1, w.2.2.2.2.2.2.2.2.2.1, w.2.2.2.2.2.2.2.2.2.2.1, w.2.2.2.2.2.2.2.2.2.2.2) 0)) else some ((-4), w))
set_option maxHeartbeats 4000000 in
set_option maxRecDepth 100000 in
theorem wW_addPlace {p : Program} {l : Launch} {e : Env} {s : State} {m : MethodId} {args : Array Value} {below : List Frame} {meth : Method} {c : Code} (cx : mp_C p s m args meth c bW_addPlace 5 (some .int) rW) (k : KK) (ad : Nat → Nat) (w : SW) (a1 : Int32) (a2 : Int32) (z : (Int32 × SW)) (hE : mp_E k s) (hAN : ∀ q, mp_A (aW ad) q → mp_N k q) {H : Heap} {locs : List Loc} (hP : va_P (kD k) mp_cls (cW k ad w) H) (hD : va_D (mp_A (aW ad)) (cW k ad w)) (hS : va_S (mp_A (aW ad)) s.heap H locs) (h : fW_addPlace w a1 a2 = some z) (ls : Array Slot) (hl : lv_has ls 5 [(0, .ref (ad 0)), (1, .int a1), (2, .int a2)]) : W p l e rmW_addPlace s m args below meth c H locs 0 0 (MQ below (mp_Qm k (some (.int z.1)) (cW k ad z.2) (aW ad)) args s 0 0 (mp_A (aW ad))) (F0 m 0 ls []) := by
  obtain ⟨hx, hb, -, hml, hown, hts, -⟩ := id cx
  unfold fW_addPlace at h
  refine lv_aload_n hx hb dW_addPlace_0 rfl (lv_at hl 0 rfl) ?_
  refine mp_gW cx hE hP iW 0 rfl 0 (by decide) wq_56 rfl (v := .int w.1) rfl dW_addPlace_1 ?_
  refine lv_bipush (v := 12) hx hb dW_addPlace_4 (by decide) ?_
  refine lv_icmp_lt (tgt := 12) hx hb dW_addPlace_6 (by decide) (fun c1 => ?_) (fun c1 => ?_)
  · have h := mp_t c1 h
    refine lv_aload_n hx hb dW_addPlace_12 rfl (lv_at hl 0 rfl) ?_
    refine mp_gW cx hE hP iW 0 rfl 0 (by decide) wq_56 rfl (v := .int w.1) rfl dW_addPlace_13 ?_
    refine lv_istore_n (lv' := [(3, .int w.1), (0, .ref (ad 0)), (1, .int a1), (2, .int a2)]) hx hb dW_addPlace_16 rfl hl (by decide) rfl (fun ls hl => ?_)
    refine lv_aload_n hx hb dW_addPlace_17 rfl (lv_at hl 1 rfl) ?_
    refine lv_iload_n hx hb dW_addPlace_18 rfl (lv_at hl 0 rfl) ?_
    refine lv_iconst (v := 1) hx hb dW_addPlace_19 (by decide) ?_
    refine lv_iadd hx hb dW_addPlace_20 ?_
    refine va_put (D := kD k) (ci := 0) (v := .int (w.1 + 1)) (ty := .int) (C := rW) (T := tW) (N := 12) hx hb hts iW gW gW_ok nW hown hE.1 hP hD hS 0 rfl rfl 0 (by decide) (hts _ wq_56) (fun _ h9 => h9) rfl (by decide +kernel) rfl rfl (Nat.le_of_ble_eq_true rfl) dW_addPlace_21 (fun H locs hP hD hS => ?_)
    have hP : va_P (kD k) mp_cls (cW k ad ((w.1 + 1), w.2.1, w.2.2.1, w.2.2.2.1, w.2.2.2.2.1, w.2.2.2.2.2.1, w.2.2.2.2.2.2.1, w.2.2.2.2.2.2.2.1, w.2.2.2.2.2.2.2.2.1, w.2.2.2.2.2.2.2.2.2.1, w.2.2.2.2.2.2.2.2.2.2.1, w.2.2.2.2.2.2.2.2.2.2.2)) H := hP
    have hD : va_D (mp_A (aW ad)) (cW k ad ((w.1 + 1), w.2.1, w.2.2.1, w.2.2.2.1, w.2.2.2.2.1, w.2.2.2.2.2.1, w.2.2.2.2.2.2.1, w.2.2.2.2.2.2.2.1, w.2.2.2.2.2.2.2.2.1, w.2.2.2.2.2.2.2.2.2.1, w.2.2.2.2.2.2.2.2.2.2.1, w.2.2.2.2.2.2.2.2.2.2.2)) := hD
    refine lv_aload_n hx hb dW_addPlace_24 rfl (lv_at hl 1 rfl) ?_
    refine mp_gW cx hE hP iW 0 rfl 3 (by decide) wq_59 rfl (v := .ref (ad 1)) rfl dW_addPlace_25 ?_
    refine lv_iload_n hx hb dW_addPlace_28 rfl (lv_at hl 0 rfl) ?_
    refine lv_iload_n hx hb dW_addPlace_29 rfl (lv_at hl 3 rfl) ?_
    obtain ⟨hi, h⟩ := mp_sts h
    refine va_iast hx hb hE.1 hP hD hS 1 0 (f := w.2.2.2.1) (n := 12) rfl rfl hi dW_addPlace_30 (fun H locs hP hD hS => ?_)
    have hP : va_P (kD k) mp_cls (cW k ad ((w.1 + 1), w.2.1, w.2.2.1, (upd w.2.2.2.1 (Int32.toNatClampNeg w.1) a2), w.2.2.2.2.1, w.2.2.2.2.2.1, w.2.2.2.2.2.2.1, w.2.2.2.2.2.2.2.1, w.2.2.2.2.2.2.2.2.1, w.2.2.2.2.2.2.2.2.2.1, w.2.2.2.2.2.2.2.2.2.2.1, w.2.2.2.2.2.2.2.2.2.2.2)) H := hP
    have hD : va_D (mp_A (aW ad)) (cW k ad ((w.1 + 1), w.2.1, w.2.2.1, (upd w.2.2.2.1 (Int32.toNatClampNeg w.1) a2), w.2.2.2.2.1, w.2.2.2.2.2.1, w.2.2.2.2.2.2.1, w.2.2.2.2.2.2.2.1, w.2.2.2.2.2.2.2.2.1, w.2.2.2.2.2.2.2.2.2.1, w.2.2.2.2.2.2.2.2.2.2.1, w.2.2.2.2.2.2.2.2.2.2.2)) := hD
    refine lv_aload_n hx hb dW_addPlace_31 rfl (lv_at hl 1 rfl) ?_
    refine mp_gW cx hE hP iW 0 rfl 4 (by decide) wq_60 rfl (v := .ref (ad 2)) rfl dW_addPlace_32 ?_
    refine lv_iload_n hx hb dW_addPlace_35 rfl (lv_at hl 0 rfl) ?_
    refine lv_iload_n hx hb dW_addPlace_36 rfl (lv_at hl 2 rfl) ?_
    obtain ⟨hi, h⟩ := mp_sts h
    refine va_iast hx hb hE.1 hP hD hS 2 0 (f := w.2.2.2.2.1) (n := 12) rfl rfl hi dW_addPlace_37 (fun H locs hP hD hS => ?_)
    have hP : va_P (kD k) mp_cls (cW k ad ((w.1 + 1), w.2.1, w.2.2.1, (upd w.2.2.2.1 (Int32.toNatClampNeg w.1) a2), (upd w.2.2.2.2.1 (Int32.toNatClampNeg w.1) a1), w.2.2.2.2.2.1, w.2.2.2.2.2.2.1, w.2.2.2.2.2.2.2.1, w.2.2.2.2.2.2.2.2.1, w.2.2.2.2.2.2.2.2.2.1, w.2.2.2.2.2.2.2.2.2.2.1, w.2.2.2.2.2.2.2.2.2.2.2)) H := hP
    have hD : va_D (mp_A (aW ad)) (cW k ad ((w.1 + 1), w.2.1, w.2.2.1, (upd w.2.2.2.1 (Int32.toNatClampNeg w.1) a2), (upd w.2.2.2.2.1 (Int32.toNatClampNeg w.1) a1), w.2.2.2.2.2.1, w.2.2.2.2.2.2.1, w.2.2.2.2.2.2.2.1, w.2.2.2.2.2.2.2.2.1, w.2.2.2.2.2.2.2.2.2.1, w.2.2.2.2.2.2.2.2.2.2.1, w.2.2.2.2.2.2.2.2.2.2.2)) := hD
    refine lv_aload_n hx hb dW_addPlace_38 rfl (lv_at hl 1 rfl) ?_
    refine lv_aload_n hx hb dW_addPlace_39 rfl (lv_at hl 1 rfl) ?_
    refine mp_gW cx hE hP iW 0 rfl 2 (by decide) wq_58 rfl (v := .int w.2.2.1) rfl dW_addPlace_40 ?_
    refine lv_iconst (v := 1) hx hb dW_addPlace_43 (by decide) ?_
    refine lv_iload_n hx hb dW_addPlace_44 rfl (lv_at hl 0 rfl) ?_
    refine lv_ishl hx hb dW_addPlace_45 ?_
    refine lv_iconst (v := (-1)) hx hb dW_addPlace_46 (by decide) ?_
    refine lv_ixor hx hb dW_addPlace_47 ?_
    refine lv_iand hx hb dW_addPlace_48 ?_
    refine va_put (D := kD k) (ci := 0) (v := .int (w.2.2.1 &&& ((1 <<< (w.1 &&& 31)) ^^^ (-1)))) (ty := .int) (C := rW) (T := tW) (N := 12) hx hb hts iW gW gW_ok nW hown hE.1 hP hD hS 0 rfl rfl 2 (by decide) (hts _ wq_58) (fun _ h9 => h9) rfl (by decide +kernel) rfl rfl (Nat.le_of_ble_eq_true rfl) dW_addPlace_49 (fun H locs hP hD hS => ?_)
    have hP : va_P (kD k) mp_cls (cW k ad ((w.1 + 1), w.2.1, (w.2.2.1 &&& ((1 <<< (w.1 &&& 31)) ^^^ (-1))), (upd w.2.2.2.1 (Int32.toNatClampNeg w.1) a2), (upd w.2.2.2.2.1 (Int32.toNatClampNeg w.1) a1), w.2.2.2.2.2.1, w.2.2.2.2.2.2.1, w.2.2.2.2.2.2.2.1, w.2.2.2.2.2.2.2.2.1, w.2.2.2.2.2.2.2.2.2.1, w.2.2.2.2.2.2.2.2.2.2.1, w.2.2.2.2.2.2.2.2.2.2.2)) H := hP
    have hD : va_D (mp_A (aW ad)) (cW k ad ((w.1 + 1), w.2.1, (w.2.2.1 &&& ((1 <<< (w.1 &&& 31)) ^^^ (-1))), (upd w.2.2.2.1 (Int32.toNatClampNeg w.1) a2), (upd w.2.2.2.2.1 (Int32.toNatClampNeg w.1) a1), w.2.2.2.2.2.1, w.2.2.2.2.2.2.1, w.2.2.2.2.2.2.2.1, w.2.2.2.2.2.2.2.2.1, w.2.2.2.2.2.2.2.2.2.1, w.2.2.2.2.2.2.2.2.2.2.1, w.2.2.2.2.2.2.2.2.2.2.2)) := hD
    refine lv_iconst (v := 0) hx hb dW_addPlace_52 (by decide) ?_
    refine lv_istore (lv' := [(4, .int 0), (3, .int w.1), (0, .ref (ad 0)), (1, .int a1), (2, .int a2)]) hx hb dW_addPlace_53 hl (by decide) rfl (fun ls hl => ?_)
    exact lW_addPlace_55 cx k ad w.1 z hE hAN _ ((w.1 + 1), w.2.1, (w.2.2.1 &&& ((1 <<< (w.1 &&& 31)) ^^^ (-1))), (upd w.2.2.2.1 (Int32.toNatClampNeg w.1) a2), (upd w.2.2.2.2.1 (Int32.toNatClampNeg w.1) a1), w.2.2.2.2.2.1, w.2.2.2.2.2.2.1, w.2.2.2.2.2.2.2.1, w.2.2.2.2.2.2.2.2.1, w.2.2.2.2.2.2.2.2.2.1, w.2.2.2.2.2.2.2.2.2.2.1, w.2.2.2.2.2.2.2.2.2.2.2) 0 h _ _ hP hD hS ls (lv_sub hl [2, 1, 0] rfl)
  · have h := mp_f c1 h
    refine lv_bipush (v := (-4)) hx hb dW_addPlace_9 (by decide) ?_
    exact mp_rim (cf := cW k ad) cx h hP hS dW_addPlace_11
theorem cW_addPlace (l : Launch) (k : KK) (ad : Nat → Nat) (w : SW) (a1 : Int32) (a2 : Int32) (z : (Int32 × SW)) (h : fW_addPlace w a1 a2 = some z) : mp_CM l k yW_addPlace bW_addPlace 5 (some .int) rmW_addPlace [.ref (ad 0), .int a1, .int a2] (cW k ad w) (cW k ad z.2) (aW ad) (some (.int z.1)) := by
  refine Met.ofW (cc := bW_addPlace) (maxL := 5) (ret := (some .int)) (by decide) rfl ?_
  intro p e s m args below meth c s₁ B hml hv
  obtain ⟨rfl, hP, hD, hE⟩ := hv
  have hl := lv_entry ([.ref (ad 0), .int a1, .int a2]) (n := 5) (Nat.le_of_ble_eq_true rfl)
  rw [lg_entry_eq]
  generalize (lg_sl ([.ref (ad 0), .int a1, .int a2]) ++ List.replicate (5 - (lg_sl ([.ref (ad 0), .int a1, .int a2])).length) Slot.unset).toArray = ls at hl ⊢
  exact wW_addPlace (mp_C.of B hml) k ad w a1 a2 z hE (mp_new hD rfl) hP (mp_own hD rfl) va_S.rf h ls hl
-- MovingPlaces$World.nameOf
abbrev rmW_nameOf : Room := { frames := 1, cells := 0, slots := 0, locals := 21 }
def fW_nameOf (w : SW) (a1 : Int32) : Option Int32 := (fW_isPlace w a1).bind fun x1 => (if x1 = 0 then some (-9) else mp_ld w.2.2.2.1 12 a1 fun x3 => some x3)
set_option maxHeartbeats 4000000 in
set_option maxRecDepth 100000 in
theorem wW_nameOf {p : Program} {l : Launch} {e : Env} {s : State} {m : MethodId} {args : Array Value} {below : List Frame} {meth : Method} {c : Code} (cx : mp_C p s m args meth c bW_nameOf 2 (some .int) rW) (k : KK) (ad : Nat → Nat) (w : SW) (a1 : Int32) (z : Int32) (hE : mp_E k s) (hP : va_P (kD k) mp_cls (cW k ad w) s.heap) (hD : va_D (mp_N k) (cW k ad w)) (h : fW_nameOf w a1 = some z) (ls : Array Slot) (hl : lv_has ls 2 [(0, .ref (ad 0)), (1, .int a1)]) : W p l e rmW_nameOf s m args below meth c s.heap [] 0 0 (MQ below (mp_Qs (some (.int z))) args s 0 0 (fun _ => False)) (F0 m 0 ls []) := by
  obtain ⟨hx, hb, -, hml, hown, hts, -⟩ := id cx
  unfold fW_nameOf at h
  refine lv_aload_n hx hb dW_nameOf_0 rfl (lv_at hl 0 rfl) ?_
  refine lv_iload_n hx hb dW_nameOf_1 rfl (lv_at hl 1 rfl) ?_
  obtain ⟨x1, ex1, h⟩ := mp_bs h
  refine mp_si (mp_runV (As := [.int a1]) (rest := []) cx kV_W_56 (cW_isPlace l k ad w a1 x1 ex1) ⟨rfl, rfl, Nat.le_of_ble_eq_true rfl, Nat.le_of_ble_eq_true rfl⟩ ⟨Nat.zero_le _, Nat.zero_le _⟩ hE hP hD va_S.rf 0 rfl rfl rfl hl.1 rfl (Nat.le_of_ble_eq_true rfl) dW_nameOf_2) ?_
  refine lv_if_eq (tgt := 17) hx hb dW_nameOf_5 (by decide) (fun c2 => ?_) (fun c2 => ?_)
  · have h := mp_t c2 h
    refine lv_bipush (v := (-9)) hx hb dW_nameOf_17 (by decide) ?_
    exact mp_ri cx h dW_nameOf_19
  · have h := mp_f c2 h
    refine lv_aload_n hx hb dW_nameOf_8 rfl (lv_at hl 0 rfl) ?_
    refine mp_gW cx hE hP iW 0 rfl 3 (by decide) wq_59 rfl (v := .ref (ad 1)) rfl dW_nameOf_9 ?_
    refine lv_iload_n hx hb dW_nameOf_12 rfl (lv_at hl 1 rfl) ?_
    obtain ⟨hi, x3, ex3, h⟩ := mp_lds h
    refine va_iald hx hb hE.1 hP 1 0 (f := w.2.2.2.1) (n := 12) rfl rfl hi dW_nameOf_13 ?_
    refine mp_top ex3 ?_
    refine lv_goto (tgt := 19) hx hb dW_nameOf_14 (by decide) ?_
    exact mp_ri cx h dW_nameOf_19
theorem cW_nameOf (l : Launch) (k : KK) (ad : Nat → Nat) (w : SW) (a1 : Int32) (z : Int32) (h : fW_nameOf w a1 = some z) : mp_CS l k yW_nameOf bW_nameOf 2 (some .int) rmW_nameOf [.ref (ad 0), .int a1] (cW k ad w) (some (.int z)) := by
  refine Met.ofW (cc := bW_nameOf) (maxL := 2) (ret := (some .int)) (by decide) rfl ?_
  intro p e s m args below meth c s₁ B hml hv
  obtain ⟨rfl, hP, hD, hE⟩ := hv
  have hl := lv_entry ([.ref (ad 0), .int a1]) (n := 2) (Nat.le_of_ble_eq_true rfl)
  rw [lg_entry_eq]
  generalize (lg_sl ([.ref (ad 0), .int a1]) ++ List.replicate (2 - (lg_sl ([.ref (ad 0), .int a1])).length) Slot.unset).toArray = ls at hl ⊢
  exact wW_nameOf (mp_C.of B hml) k ad w a1 z hE hP hD h ls hl
-- MovingPlaces$World.placeAround
abbrev rmW_placeAround : Room := { frames := 1, cells := 0, slots := 0, locals := 21 }
def fW_placeAround (w : SW) (a1 : Int32) : Option Int32 := (fW_isPlace w a1).bind fun x1 => (if x1 = 0 then some (-9) else mp_ld w.2.2.2.2.1 12 a1 fun x3 => some x3)
set_option maxHeartbeats 4000000 in
set_option maxRecDepth 100000 in
theorem wW_placeAround {p : Program} {l : Launch} {e : Env} {s : State} {m : MethodId} {args : Array Value} {below : List Frame} {meth : Method} {c : Code} (cx : mp_C p s m args meth c bW_placeAround 2 (some .int) rW) (k : KK) (ad : Nat → Nat) (w : SW) (a1 : Int32) (z : Int32) (hE : mp_E k s) (hP : va_P (kD k) mp_cls (cW k ad w) s.heap) (hD : va_D (mp_N k) (cW k ad w)) (h : fW_placeAround w a1 = some z) (ls : Array Slot) (hl : lv_has ls 2 [(0, .ref (ad 0)), (1, .int a1)]) : W p l e rmW_placeAround s m args below meth c s.heap [] 0 0 (MQ below (mp_Qs (some (.int z))) args s 0 0 (fun _ => False)) (F0 m 0 ls []) := by
  obtain ⟨hx, hb, -, hml, hown, hts, -⟩ := id cx
  unfold fW_placeAround at h
  refine lv_aload_n hx hb dW_placeAround_0 rfl (lv_at hl 0 rfl) ?_
  refine lv_iload_n hx hb dW_placeAround_1 rfl (lv_at hl 1 rfl) ?_
  obtain ⟨x1, ex1, h⟩ := mp_bs h
  refine mp_si (mp_runV (As := [.int a1]) (rest := []) cx kV_W_56 (cW_isPlace l k ad w a1 x1 ex1) ⟨rfl, rfl, Nat.le_of_ble_eq_true rfl, Nat.le_of_ble_eq_true rfl⟩ ⟨Nat.zero_le _, Nat.zero_le _⟩ hE hP hD va_S.rf 0 rfl rfl rfl hl.1 rfl (Nat.le_of_ble_eq_true rfl) dW_placeAround_2) ?_
  refine lv_if_eq (tgt := 17) hx hb dW_placeAround_5 (by decide) (fun c2 => ?_) (fun c2 => ?_)
  · have h := mp_t c2 h
    refine lv_bipush (v := (-9)) hx hb dW_placeAround_17 (by decide) ?_
    exact mp_ri cx h dW_placeAround_19
  · have h := mp_f c2 h
    refine lv_aload_n hx hb dW_placeAround_8 rfl (lv_at hl 0 rfl) ?_
    refine mp_gW cx hE hP iW 0 rfl 4 (by decide) wq_60 rfl (v := .ref (ad 2)) rfl dW_placeAround_9 ?_
    refine lv_iload_n hx hb dW_placeAround_12 rfl (lv_at hl 1 rfl) ?_
    obtain ⟨hi, x3, ex3, h⟩ := mp_lds h
    refine va_iald hx hb hE.1 hP 2 0 (f := w.2.2.2.2.1) (n := 12) rfl rfl hi dW_placeAround_13 ?_
    refine mp_top ex3 ?_
    refine lv_goto (tgt := 19) hx hb dW_placeAround_14 (by decide) ?_
    exact mp_ri cx h dW_placeAround_19
theorem cW_placeAround (l : Launch) (k : KK) (ad : Nat → Nat) (w : SW) (a1 : Int32) (z : Int32) (h : fW_placeAround w a1 = some z) : mp_CS l k yW_placeAround bW_placeAround 2 (some .int) rmW_placeAround [.ref (ad 0), .int a1] (cW k ad w) (some (.int z)) := by
  refine Met.ofW (cc := bW_placeAround) (maxL := 2) (ret := (some .int)) (by decide) rfl ?_
  intro p e s m args below meth c s₁ B hml hv
  obtain ⟨rfl, hP, hD, hE⟩ := hv
  have hl := lv_entry ([.ref (ad 0), .int a1]) (n := 2) (Nat.le_of_ble_eq_true rfl)
  rw [lg_entry_eq]
  generalize (lg_sl ([.ref (ad 0), .int a1]) ++ List.replicate (2 - (lg_sl ([.ref (ad 0), .int a1])).length) Slot.unset).toArray = ls at hl ⊢
  exact wW_placeAround (mp_C.of B hml) k ad w a1 z hE hP hD h ls hl
-- MovingPlaces$World.isSealed
abbrev rmW_isSealed : Room := { frames := 1, cells := 0, slots := 0, locals := 21 }
def fW_isSealed (w : SW) (a1 : Int32) : Option Int32 := (fW_isPlace w a1).bind fun x1 => (if x1 = 0 then some 0 else (if ((w.2.2.1 >>> (a1 &&& 31)) &&& 1) = 1 then some 1 else some 0))
set_option maxHeartbeats 4000000 in
set_option maxRecDepth 100000 in
theorem wW_isSealed {p : Program} {l : Launch} {e : Env} {s : State} {m : MethodId} {args : Array Value} {below : List Frame} {meth : Method} {c : Code} (cx : mp_C p s m args meth c bW_isSealed 2 (some .boolean) rW) (k : KK) (ad : Nat → Nat) (w : SW) (a1 : Int32) (z : Int32) (hE : mp_E k s) (hP : va_P (kD k) mp_cls (cW k ad w) s.heap) (hD : va_D (mp_N k) (cW k ad w)) (h : fW_isSealed w a1 = some z) (ls : Array Slot) (hl : lv_has ls 2 [(0, .ref (ad 0)), (1, .int a1)]) : W p l e rmW_isSealed s m args below meth c s.heap [] 0 0 (MQ below (mp_Qs (some (.int z))) args s 0 0 (fun _ => False)) (F0 m 0 ls []) := by
  obtain ⟨hx, hb, -, hml, hown, hts, -⟩ := id cx
  unfold fW_isSealed at h
  refine lv_aload_n hx hb dW_isSealed_0 rfl (lv_at hl 0 rfl) ?_
  refine lv_iload_n hx hb dW_isSealed_1 rfl (lv_at hl 1 rfl) ?_
  obtain ⟨x1, ex1, h⟩ := mp_bs h
  refine mp_si (mp_runV (As := [.int a1]) (rest := []) cx kV_W_56 (cW_isPlace l k ad w a1 x1 ex1) ⟨rfl, rfl, Nat.le_of_ble_eq_true rfl, Nat.le_of_ble_eq_true rfl⟩ ⟨Nat.zero_le _, Nat.zero_le _⟩ hE hP hD va_S.rf 0 rfl rfl rfl hl.1 rfl (Nat.le_of_ble_eq_true rfl) dW_isSealed_2) ?_
  refine lv_if_eq (tgt := 24) hx hb dW_isSealed_5 (by decide) (fun c2 => ?_) (fun c2 => ?_)
  · have h := mp_t c2 h
    refine lv_iconst (v := 0) hx hb dW_isSealed_24 (by decide) ?_
    exact mp_rz cx rfl h dW_isSealed_25
  · have h := mp_f c2 h
    refine lv_aload_n hx hb dW_isSealed_8 rfl (lv_at hl 0 rfl) ?_
    refine mp_gW cx hE hP iW 0 rfl 2 (by decide) wq_58 rfl (v := .int w.2.2.1) rfl dW_isSealed_9 ?_
    refine lv_iload_n hx hb dW_isSealed_12 rfl (lv_at hl 1 rfl) ?_
    refine lv_ishr hx hb dW_isSealed_13 ?_
    refine lv_iconst (v := 1) hx hb dW_isSealed_14 (by decide) ?_
    refine lv_iand hx hb dW_isSealed_15 ?_
    refine lv_iconst (v := 1) hx hb dW_isSealed_16 (by decide) ?_
    refine lv_icmp_ne (tgt := 24) hx hb dW_isSealed_17 (by decide) (fun c3 => ?_) (fun c3 => ?_)
    · have h := mp_f c3 h
      refine lv_iconst (v := 0) hx hb dW_isSealed_24 (by decide) ?_
      exact mp_rz cx rfl h dW_isSealed_25
    · have h := mp_t c3 h
      refine lv_iconst (v := 1) hx hb dW_isSealed_20 (by decide) ?_
      refine lv_goto (tgt := 25) hx hb dW_isSealed_21 (by decide) ?_
      exact mp_rz cx rfl h dW_isSealed_25
theorem cW_isSealed (l : Launch) (k : KK) (ad : Nat → Nat) (w : SW) (a1 : Int32) (z : Int32) (h : fW_isSealed w a1 = some z) : mp_CS l k yW_isSealed bW_isSealed 2 (some .boolean) rmW_isSealed [.ref (ad 0), .int a1] (cW k ad w) (some (.int z)) := by
  refine Met.ofW (cc := bW_isSealed) (maxL := 2) (ret := (some .boolean)) (by decide) rfl ?_
  intro p e s m args below meth c s₁ B hml hv
  obtain ⟨rfl, hP, hD, hE⟩ := hv
  have hl := lv_entry ([.ref (ad 0), .int a1]) (n := 2) (Nat.le_of_ble_eq_true rfl)
  rw [lg_entry_eq]
  generalize (lg_sl ([.ref (ad 0), .int a1]) ++ List.replicate (2 - (lg_sl ([.ref (ad 0), .int a1])).length) Slot.unset).toArray = ls at hl ⊢
  exact wW_isSealed (mp_C.of B hml) k ad w a1 z hE hP hD h ls hl
-- MovingPlaces$World.turnSeal
abbrev rmW_turnSeal : Room := { frames := 1, cells := 0, slots := 0, locals := 21 }
def fW_turnSeal (w : SW) (a1 : Int32) : Option SW := (fW_isPlace w a1).bind fun x1 => (if x1 = 0 then some w else some (w.1, w.2.1, (w.2.2.1 ^^^ (1 <<< (a1 &&& 31))), w.2.2.2.1, w.2.2.2.2.1, w.2.2.2.2.2.1, w.2.2.2.2.2.2.1, w.2.2.2.2.2.2.2.1, w.2.2.2.2.2.2.2.2.1, w.2.2.2.2.2.2.2.2.2.1, w.2.2.2.2.2.2.2.2.2.2.1, w.2.2.2.2.2.2.2.2.2.2.2))
set_option maxHeartbeats 4000000 in
set_option maxRecDepth 100000 in
theorem wW_turnSeal {p : Program} {l : Launch} {e : Env} {s : State} {m : MethodId} {args : Array Value} {below : List Frame} {meth : Method} {c : Code} (cx : mp_C p s m args meth c bW_turnSeal 2 none rW) (k : KK) (ad : Nat → Nat) (w : SW) (a1 : Int32) (z : SW) (hE : mp_E k s) (hAN : ∀ q, mp_A (aW ad) q → mp_N k q) {H : Heap} {locs : List Loc} (hP : va_P (kD k) mp_cls (cW k ad w) H) (hD : va_D (mp_A (aW ad)) (cW k ad w)) (hS : va_S (mp_A (aW ad)) s.heap H locs) (h : fW_turnSeal w a1 = some z) (ls : Array Slot) (hl : lv_has ls 2 [(0, .ref (ad 0)), (1, .int a1)]) : W p l e rmW_turnSeal s m args below meth c H locs 0 0 (MQ below (mp_Qm k none (cW k ad z) (aW ad)) args s 0 0 (mp_A (aW ad))) (F0 m 0 ls []) := by
  obtain ⟨hx, hb, -, hml, hown, hts, -⟩ := id cx
  unfold fW_turnSeal at h
  refine lv_aload_n hx hb dW_turnSeal_0 rfl (lv_at hl 0 rfl) ?_
  refine lv_iload_n hx hb dW_turnSeal_1 rfl (lv_at hl 1 rfl) ?_
  obtain ⟨x1, ex1, h⟩ := mp_bs h
  refine mp_si (mp_runV (As := [.int a1]) (rest := []) cx kV_W_56 (cW_isPlace l k ad w a1 x1 ex1) ⟨rfl, rfl, Nat.le_of_ble_eq_true rfl, Nat.le_of_ble_eq_true rfl⟩ ⟨Nat.zero_le _, Nat.zero_le _⟩ hE hP (mp_Dw hD hAN) (mp_S hS hAN) 0 rfl rfl rfl hl.1 rfl (Nat.le_of_ble_eq_true rfl) dW_turnSeal_2) ?_
  refine lv_if_eq (tgt := 20) hx hb dW_turnSeal_5 (by decide) (fun c2 => ?_) (fun c2 => ?_)
  · have h := mp_t c2 h
    exact mp_rvm (cf := cW k ad) cx h hP hS dW_turnSeal_20
  · have h := mp_f c2 h
    refine lv_aload_n hx hb dW_turnSeal_8 rfl (lv_at hl 0 rfl) ?_
    refine lv_aload_n hx hb dW_turnSeal_9 rfl (lv_at hl 0 rfl) ?_
    refine mp_gW cx hE hP iW 0 rfl 2 (by decide) wq_58 rfl (v := .int w.2.2.1) rfl dW_turnSeal_10 ?_
    refine lv_iconst (v := 1) hx hb dW_turnSeal_13 (by decide) ?_
    refine lv_iload_n hx hb dW_turnSeal_14 rfl (lv_at hl 1 rfl) ?_
    refine lv_ishl hx hb dW_turnSeal_15 ?_
    refine lv_ixor hx hb dW_turnSeal_16 ?_
    refine va_put (D := kD k) (ci := 0) (v := .int (w.2.2.1 ^^^ (1 <<< (a1 &&& 31)))) (ty := .int) (C := rW) (T := tW) (N := 12) hx hb hts iW gW gW_ok nW hown hE.1 hP hD hS 0 rfl rfl 2 (by decide) (hts _ wq_58) (fun _ h9 => h9) rfl (by decide +kernel) rfl rfl (Nat.le_of_ble_eq_true rfl) dW_turnSeal_17 (fun H locs hP hD hS => ?_)
    have hP : va_P (kD k) mp_cls (cW k ad (w.1, w.2.1, (w.2.2.1 ^^^ (1 <<< (a1 &&& 31))), w.2.2.2.1, w.2.2.2.2.1, w.2.2.2.2.2.1, w.2.2.2.2.2.2.1, w.2.2.2.2.2.2.2.1, w.2.2.2.2.2.2.2.2.1, w.2.2.2.2.2.2.2.2.2.1, w.2.2.2.2.2.2.2.2.2.2.1, w.2.2.2.2.2.2.2.2.2.2.2)) H := hP
    have hD : va_D (mp_A (aW ad)) (cW k ad (w.1, w.2.1, (w.2.2.1 ^^^ (1 <<< (a1 &&& 31))), w.2.2.2.1, w.2.2.2.2.1, w.2.2.2.2.2.1, w.2.2.2.2.2.2.1, w.2.2.2.2.2.2.2.1, w.2.2.2.2.2.2.2.2.1, w.2.2.2.2.2.2.2.2.2.1, w.2.2.2.2.2.2.2.2.2.2.1, w.2.2.2.2.2.2.2.2.2.2.2)) := hD
    exact mp_rvm (cf := cW k ad) cx h hP hS dW_turnSeal_20
theorem cW_turnSeal (l : Launch) (k : KK) (ad : Nat → Nat) (w : SW) (a1 : Int32) (z : SW) (h : fW_turnSeal w a1 = some z) : mp_CM l k yW_turnSeal bW_turnSeal 2 none rmW_turnSeal [.ref (ad 0), .int a1] (cW k ad w) (cW k ad z) (aW ad) (none) := by
  refine Met.ofW (cc := bW_turnSeal) (maxL := 2) (ret := none) (by decide) rfl ?_
  intro p e s m args below meth c s₁ B hml hv
  obtain ⟨rfl, hP, hD, hE⟩ := hv
  have hl := lv_entry ([.ref (ad 0), .int a1]) (n := 2) (Nat.le_of_ble_eq_true rfl)
  rw [lg_entry_eq]
  generalize (lg_sl ([.ref (ad 0), .int a1]) ++ List.replicate (2 - (lg_sl ([.ref (ad 0), .int a1])).length) Slot.unset).toArray = ls at hl ⊢
  exact wW_turnSeal (mp_C.of B hml) k ad w a1 z hE (mp_new hD rfl) hP (mp_own hD rfl) va_S.rf h ls hl
-- MovingPlaces$World.messagesOf
abbrev rmW_messagesOf : Room := { frames := 1, cells := 0, slots := 0, locals := 21 }
def fW_messagesOf (w : SW) (a1 : Int32) (a2 : Int32) : Option Int32 := (fW_isPlace w a1).bind fun x1 => (if x1 = 0 then some 0 else (fM_isName a2).bind fun x3 => (if x3 = 0 then some 0 else mp_ld w.2.2.2.2.2.1 72 ((a1 * 6) + a2) fun x5 => some x5))
set_option maxHeartbeats 4000000 in
set_option maxRecDepth 100000 in
theorem wW_messagesOf {p : Program} {l : Launch} {e : Env} {s : State} {m : MethodId} {args : Array Value} {below : List Frame} {meth : Method} {c : Code} (cx : mp_C p s m args meth c bW_messagesOf 3 (some .int) rW) (k : KK) (ad : Nat → Nat) (w : SW) (a1 : Int32) (a2 : Int32) (z : Int32) (hE : mp_E k s) (hP : va_P (kD k) mp_cls (cW k ad w) s.heap) (hD : va_D (mp_N k) (cW k ad w)) (h : fW_messagesOf w a1 a2 = some z) (ls : Array Slot) (hl : lv_has ls 3 [(0, .ref (ad 0)), (1, .int a1), (2, .int a2)]) : W p l e rmW_messagesOf s m args below meth c s.heap [] 0 0 (MQ below (mp_Qs (some (.int z))) args s 0 0 (fun _ => False)) (F0 m 0 ls []) := by
  obtain ⟨hx, hb, -, hml, hown, hts, -⟩ := id cx
  unfold fW_messagesOf at h
  refine lv_aload_n hx hb dW_messagesOf_0 rfl (lv_at hl 0 rfl) ?_
  refine lv_iload_n hx hb dW_messagesOf_1 rfl (lv_at hl 1 rfl) ?_
  obtain ⟨x1, ex1, h⟩ := mp_bs h
  refine mp_si (mp_runV (As := [.int a1]) (rest := []) cx kV_W_56 (cW_isPlace l k ad w a1 x1 ex1) ⟨rfl, rfl, Nat.le_of_ble_eq_true rfl, Nat.le_of_ble_eq_true rfl⟩ ⟨Nat.zero_le _, Nat.zero_le _⟩ hE hP hD va_S.rf 0 rfl rfl rfl hl.1 rfl (Nat.le_of_ble_eq_true rfl) dW_messagesOf_2) ?_
  refine lv_if_eq (tgt := 29) hx hb dW_messagesOf_5 (by decide) (fun c2 => ?_) (fun c2 => ?_)
  · have h := mp_t c2 h
    refine lv_iconst (v := 0) hx hb dW_messagesOf_29 (by decide) ?_
    exact mp_ri cx h dW_messagesOf_30
  · have h := mp_f c2 h
    refine lv_iload_n hx hb dW_messagesOf_8 rfl (lv_at hl 2 rfl) ?_
    obtain ⟨x3, ex3, h⟩ := mp_bs h
    refine mp_si (mp_runN (As := [.int a2]) (rest := []) cx hE.2.1 kN_M_isName (cM_isName l k a2 x3 ex3) ⟨rfl, rfl, Nat.le_of_ble_eq_true rfl, Nat.le_of_ble_eq_true rfl⟩ ⟨Nat.zero_le _, Nat.zero_le _⟩ hE mp_P0 mp_D0 va_S.rf hl.1 rfl (Nat.le_of_ble_eq_true rfl) dW_messagesOf_9) ?_
    refine lv_if_eq (tgt := 29) hx hb dW_messagesOf_12 (by decide) (fun c4 => ?_) (fun c4 => ?_)
    · have h := mp_t c4 h
      refine lv_iconst (v := 0) hx hb dW_messagesOf_29 (by decide) ?_
      exact mp_ri cx h dW_messagesOf_30
    · have h := mp_f c4 h
      refine lv_aload_n hx hb dW_messagesOf_15 rfl (lv_at hl 0 rfl) ?_
      refine mp_gW cx hE hP iW 0 rfl 5 (by decide) wq_61 rfl (v := .ref (ad 3)) rfl dW_messagesOf_16 ?_
      refine lv_iload_n hx hb dW_messagesOf_19 rfl (lv_at hl 1 rfl) ?_
      refine lv_bipush (v := 6) hx hb dW_messagesOf_20 (by decide) ?_
      refine lv_imul hx hb dW_messagesOf_22 ?_
      refine lv_iload_n hx hb dW_messagesOf_23 rfl (lv_at hl 2 rfl) ?_
      refine lv_iadd hx hb dW_messagesOf_24 ?_
      obtain ⟨hi, x5, ex5, h⟩ := mp_lds h
      refine va_iald hx hb hE.1 hP 3 0 (f := w.2.2.2.2.2.1) (n := 72) rfl rfl hi dW_messagesOf_25 ?_
      refine mp_top ex5 ?_
      refine lv_goto (tgt := 30) hx hb dW_messagesOf_26 (by decide) ?_
      exact mp_ri cx h dW_messagesOf_30
theorem cW_messagesOf (l : Launch) (k : KK) (ad : Nat → Nat) (w : SW) (a1 : Int32) (a2 : Int32) (z : Int32) (h : fW_messagesOf w a1 a2 = some z) : mp_CS l k yW_messagesOf bW_messagesOf 3 (some .int) rmW_messagesOf [.ref (ad 0), .int a1, .int a2] (cW k ad w) (some (.int z)) := by
  refine Met.ofW (cc := bW_messagesOf) (maxL := 3) (ret := (some .int)) (by decide) rfl ?_
  intro p e s m args below meth c s₁ B hml hv
  obtain ⟨rfl, hP, hD, hE⟩ := hv
  have hl := lv_entry ([.ref (ad 0), .int a1, .int a2]) (n := 3) (Nat.le_of_ble_eq_true rfl)
  rw [lg_entry_eq]
  generalize (lg_sl ([.ref (ad 0), .int a1, .int a2]) ++ List.replicate (3 - (lg_sl ([.ref (ad 0), .int a1, .int a2])).length) Slot.unset).toArray = ls at hl ⊢
  exact wW_messagesOf (mp_C.of B hml) k ad w a1 a2 z hE hP hD h ls hl
-- MovingPlaces$World.addMessages
abbrev rmW_addMessages : Room := { frames := 1, cells := 0, slots := 0, locals := 21 }
def fW_addMessages (w : SW) (a1 : Int32) (a2 : Int32) (a3 : Int32) : Option SW := (fW_isPlace w a1).bind fun x1 => (if x1 = 0 then some w else (fM_isName a2).bind fun x3 => (if x3 = 0 then some w else mp_ld w.2.2.2.2.2.1 72 ((a1 * 6) + a2) fun x5 => mp_st 72 ((a1 * 6) + a2) (some (w.1, w.2.1, w.2.2.1, w.2.2.2.1, w.2.2.2.2.1, (upd w.2.2.2.2.2.1 (Int32.toNatClampNeg ((a1 * 6) + a2)) (x5 + a3)), w.2.2.2.2.2.2.1, w.2.2.2.2.2.2.2.1, w.2.2.2.2.2.2.2.2.1, w.2.2.2.2.2.2.2.2.2.1, w.2.2.2.2.2.2.2.2.2.2.1, w.2.2.2.2.2.2.2.2.2.2.2))))
set_option maxHeartbeats 4000000 in
set_option maxRecDepth 100000 in
theorem wW_addMessages {p : Program} {l : Launch} {e : Env} {s : State} {m : MethodId} {args : Array Value} {below : List Frame} {meth : Method} {c : Code} (cx : mp_C p s m args meth c bW_addMessages 4 none rW) (k : KK) (ad : Nat → Nat) (w : SW) (a1 : Int32) (a2 : Int32) (a3 : Int32) (z : SW) (hE : mp_E k s) (hAN : ∀ q, mp_A (aW ad) q → mp_N k q) {H : Heap} {locs : List Loc} (hP : va_P (kD k) mp_cls (cW k ad w) H) (hD : va_D (mp_A (aW ad)) (cW k ad w)) (hS : va_S (mp_A (aW ad)) s.heap H locs) (h : fW_addMessages w a1 a2 a3 = some z) (ls : Array Slot) (hl : lv_has ls 4 [(0, .ref (ad 0)), (1, .int a1), (2, .int a2), (3, .int a3)]) : W p l e rmW_addMessages s m args below meth c H locs 0 0 (MQ below (mp_Qm k none (cW k ad z) (aW ad)) args s 0 0 (mp_A (aW ad))) (F0 m 0 ls []) := by
  obtain ⟨hx, hb, -, hml, hown, hts, -⟩ := id cx
  unfold fW_addMessages at h
  refine lv_aload_n hx hb dW_addMessages_0 rfl (lv_at hl 0 rfl) ?_
  refine lv_iload_n hx hb dW_addMessages_1 rfl (lv_at hl 1 rfl) ?_
  obtain ⟨x1, ex1, h⟩ := mp_bs h
  refine mp_si (mp_runV (As := [.int a1]) (rest := []) cx kV_W_56 (cW_isPlace l k ad w a1 x1 ex1) ⟨rfl, rfl, Nat.le_of_ble_eq_true rfl, Nat.le_of_ble_eq_true rfl⟩ ⟨Nat.zero_le _, Nat.zero_le _⟩ hE hP (mp_Dw hD hAN) (mp_S hS hAN) 0 rfl rfl rfl hl.1 rfl (Nat.le_of_ble_eq_true rfl) dW_addMessages_2) ?_
  refine lv_if_eq (tgt := 30) hx hb dW_addMessages_5 (by decide) (fun c2 => ?_) (fun c2 => ?_)
  · have h := mp_t c2 h
    exact mp_rvm (cf := cW k ad) cx h hP hS dW_addMessages_30
  · have h := mp_f c2 h
    refine lv_iload_n hx hb dW_addMessages_8 rfl (lv_at hl 2 rfl) ?_
    obtain ⟨x3, ex3, h⟩ := mp_bs h
    refine mp_si (mp_runN (As := [.int a2]) (rest := []) cx hE.2.1 kN_M_isName (cM_isName l k a2 x3 ex3) ⟨rfl, rfl, Nat.le_of_ble_eq_true rfl, Nat.le_of_ble_eq_true rfl⟩ ⟨Nat.zero_le _, Nat.zero_le _⟩ hE mp_P0 mp_D0 (mp_S hS hAN) hl.1 rfl (Nat.le_of_ble_eq_true rfl) dW_addMessages_9) ?_
    refine lv_if_eq (tgt := 30) hx hb dW_addMessages_12 (by decide) (fun c4 => ?_) (fun c4 => ?_)
    · have h := mp_t c4 h
      exact mp_rvm (cf := cW k ad) cx h hP hS dW_addMessages_30
    · have h := mp_f c4 h
      refine lv_aload_n hx hb dW_addMessages_15 rfl (lv_at hl 0 rfl) ?_
      refine mp_gW cx hE hP iW 0 rfl 5 (by decide) wq_61 rfl (v := .ref (ad 3)) rfl dW_addMessages_16 ?_
      refine lv_iload_n hx hb dW_addMessages_19 rfl (lv_at hl 1 rfl) ?_
      refine lv_bipush (v := 6) hx hb dW_addMessages_20 (by decide) ?_
      refine lv_imul hx hb dW_addMessages_22 ?_
      refine lv_iload_n hx hb dW_addMessages_23 rfl (lv_at hl 2 rfl) ?_
      refine lv_iadd hx hb dW_addMessages_24 ?_
      refine lv_dup2_11 hx hb dW_addMessages_25 rfl rfl ?_
      obtain ⟨hi, x5, ex5, h⟩ := mp_lds h
      refine va_iald hx hb hE.1 hP 3 0 (f := w.2.2.2.2.2.1) (n := 72) rfl rfl hi dW_addMessages_26 ?_
      refine mp_top ex5 ?_
      refine lv_iload_n hx hb dW_addMessages_27 rfl (lv_at hl 3 rfl) ?_
      refine lv_iadd hx hb dW_addMessages_28 ?_
      obtain ⟨hi, h⟩ := mp_sts h
      refine va_iast hx hb hE.1 hP hD hS 3 0 (f := w.2.2.2.2.2.1) (n := 72) rfl rfl hi dW_addMessages_29 (fun H locs hP hD hS => ?_)
      have hP : va_P (kD k) mp_cls (cW k ad (w.1, w.2.1, w.2.2.1, w.2.2.2.1, w.2.2.2.2.1, (upd w.2.2.2.2.2.1 (Int32.toNatClampNeg ((a1 * 6) + a2)) (x5 + a3)), w.2.2.2.2.2.2.1, w.2.2.2.2.2.2.2.1, w.2.2.2.2.2.2.2.2.1, w.2.2.2.2.2.2.2.2.2.1, w.2.2.2.2.2.2.2.2.2.2.1, w.2.2.2.2.2.2.2.2.2.2.2)) H := hP
      have hD : va_D (mp_A (aW ad)) (cW k ad (w.1, w.2.1, w.2.2.1, w.2.2.2.1, w.2.2.2.2.1, (upd w.2.2.2.2.2.1 (Int32.toNatClampNeg ((a1 * 6) + a2)) (x5 + a3)), w.2.2.2.2.2.2.1, w.2.2.2.2.2.2.2.1, w.2.2.2.2.2.2.2.2.1, w.2.2.2.2.2.2.2.2.2.1, w.2.2.2.2.2.2.2.2.2.2.1, w.2.2.2.2.2.2.2.2.2.2.2)) := hD
      exact mp_rvm (cf := cW k ad) cx h hP hS dW_addMessages_30
theorem cW_addMessages (l : Launch) (k : KK) (ad : Nat → Nat) (w : SW) (a1 : Int32) (a2 : Int32) (a3 : Int32) (z : SW) (h : fW_addMessages w a1 a2 a3 = some z) : mp_CM l k yW_addMessages bW_addMessages 4 none rmW_addMessages [.ref (ad 0), .int a1, .int a2, .int a3] (cW k ad w) (cW k ad z) (aW ad) (none) := by
  refine Met.ofW (cc := bW_addMessages) (maxL := 4) (ret := none) (by decide) rfl ?_
  intro p e s m args below meth c s₁ B hml hv
  obtain ⟨rfl, hP, hD, hE⟩ := hv
  have hl := lv_entry ([.ref (ad 0), .int a1, .int a2, .int a3]) (n := 4) (Nat.le_of_ble_eq_true rfl)
  rw [lg_entry_eq]
  generalize (lg_sl ([.ref (ad 0), .int a1, .int a2, .int a3]) ++ List.replicate (4 - (lg_sl ([.ref (ad 0), .int a1, .int a2, .int a3])).length) Slot.unset).toArray = ls at hl ⊢
  exact wW_addMessages (mp_C.of B hml) k ad w a1 a2 a3 z hE (mp_new hD rfl) hP (mp_own hD rfl) va_S.rf h ls hl
-- MovingPlaces$World.placesIn
abbrev rmW_placesIn : Room := { frames := 0, cells := 0, slots := 0, locals := 0 }
def fW_placesIn_4 (w : SW) (a1 : Int32) : Nat → Int32 → Int32 → Option Int32
  | 0, _, _ => none
  | n + 1, a2, a3 => (if w.1 ≤ a3 then some a2 else mp_ld w.2.2.2.2.1 12 a3 fun x2 => (if x2 = a1 then mp_lt (a2 ||| (1 <<< (a3 &&& 31))) fun x4 => fW_placesIn_4 w a1 n x4 (a3 + 1) else fW_placesIn_4 w a1 n a2 (a3 + 1)))
theorem fW_placesIn_4_s (w : SW) (a1 : Int32) (n : Nat) (a2 : Int32) (a3 : Int32) : fW_placesIn_4 w a1 (n + 1) a2 a3 = (if w.1 ≤ a3 then some a2 else mp_ld w.2.2.2.2.1 12 a3 fun x2 => (if x2 = a1 then mp_lt (a2 ||| (1 <<< (a3 &&& 31))) fun x4 => fW_placesIn_4 w a1 n x4 (a3 + 1) else fW_placesIn_4 w a1 n a2 (a3 + 1))) := rfl
set_option maxHeartbeats 4000000 in
set_option maxRecDepth 100000 in
theorem lW_placesIn_4 {p : Program} {l : Launch} {e : Env} {s : State} {m : MethodId} {args : Array Value} {below : List Frame} {meth : Method} {c : Code} (cx : mp_C p s m args meth c bW_placesIn 4 (some .int) rW) (k : KK) (ad : Nat → Nat) (w : SW) (a1 : Int32) (z : Int32) (hE : mp_E k s) (hP : va_P (kD k) mp_cls (cW k ad w) s.heap) (hD : va_D (mp_N k) (cW k ad w)) : ∀ (n : Nat) (a2 : Int32) (a3 : Int32), fW_placesIn_4 w a1 n a2 a3 = some z → ∀ (ls : Array Slot), lv_has ls 4 [(0, .ref (ad 0)), (1, .int a1), (2, .int a2), (3, .int a3)] → W p l e rmW_placesIn s m args below meth c s.heap [] 0 0 (MQ below (mp_Qs (some (.int z))) args s 0 0 (fun _ => False)) (F0 m 4 ls []) := by
  obtain ⟨hx, hb, -, hml, hown, hts, -⟩ := id cx
  intro n
  induction n with
  | zero =>
    intro a2 a3 h
    have h : (none : Option Int32) = some z := h
    cases h
  | succ n ih =>
    intro a2 a3 h ls hl
    rw [fW_placesIn_4_s] at h
    refine lv_iload_n hx hb dW_placesIn_4 rfl (lv_at hl 3 rfl) ?_
    refine lv_aload_n hx hb dW_placesIn_5 rfl (lv_at hl 0 rfl) ?_
    refine mp_gW cx hE hP iW 0 rfl 0 (by decide) wq_56 rfl (v := .int w.1) rfl dW_placesIn_6 ?_
    refine lv_icmp_ge (tgt := 34) hx hb dW_placesIn_9 (by decide) (fun c1 => ?_) (fun c1 => ?_)
    · have h := mp_t c1 h
      refine lv_iload_n hx hb dW_placesIn_34 rfl (lv_at hl 2 rfl) ?_
      exact mp_ri cx h dW_placesIn_35
    · have h := mp_f c1 h
      refine lv_aload_n hx hb dW_placesIn_12 rfl (lv_at hl 0 rfl) ?_
      refine mp_gW cx hE hP iW 0 rfl 4 (by decide) wq_60 rfl (v := .ref (ad 2)) rfl dW_placesIn_13 ?_
      refine lv_iload_n hx hb dW_placesIn_16 rfl (lv_at hl 3 rfl) ?_
      obtain ⟨hi, x2, ex2, h⟩ := mp_lds h
      refine va_iald hx hb hE.1 hP 2 0 (f := w.2.2.2.2.1) (n := 12) rfl rfl hi dW_placesIn_17 ?_
      refine mp_top ex2 ?_
      refine lv_iload_n hx hb dW_placesIn_18 rfl (lv_at hl 1 rfl) ?_
      refine lv_icmp_ne (tgt := 28) hx hb dW_placesIn_19 (by decide) (fun c3 => ?_) (fun c3 => ?_)
      · have h := mp_f c3 h
        refine lv_iinc (v := (a3 + 1)) (lv' := [(3, .int (a3 + 1)), (0, .ref (ad 0)), (1, .int a1), (2, .int a2)]) hx hb dW_placesIn_28 hl (k := 3) rfl rfl (by decide) rfl (fun ls hl => ?_)
        refine lv_goto (tgt := 4) hx hb dW_placesIn_31 (by decide) ?_
        exact ih a2 (a3 + 1) h ls (lv_sub hl [1, 2, 3, 0] rfl)
      · have h := mp_t c3 h
        refine lv_iload_n hx hb dW_placesIn_22 rfl (lv_at hl 2 rfl) ?_
        refine lv_iconst (v := 1) hx hb dW_placesIn_23 (by decide) ?_
        refine lv_iload_n hx hb dW_placesIn_24 rfl (lv_at hl 3 rfl) ?_
        refine lv_ishl hx hb dW_placesIn_25 ?_
        refine lv_ior hx hb dW_placesIn_26 ?_
        obtain ⟨x4, ex4, h⟩ := mp_lts h
        refine mp_top ex4 ?_
        refine lv_istore_n (lv' := [(2, .int x4), (0, .ref (ad 0)), (1, .int a1), (3, .int a3)]) hx hb dW_placesIn_27 rfl hl (by decide) rfl (fun ls hl => ?_)
        refine lv_iinc (v := (a3 + 1)) (lv' := [(3, .int (a3 + 1)), (2, .int x4), (0, .ref (ad 0)), (1, .int a1)]) hx hb dW_placesIn_28 hl (k := 3) rfl rfl (by decide) rfl (fun ls hl => ?_)
        refine lv_goto (tgt := 4) hx hb dW_placesIn_31 (by decide) ?_
        exact ih x4 (a3 + 1) h ls (lv_sub hl [2, 3, 1, 0] rfl)
def fW_placesIn (w : SW) (a1 : Int32) : Option Int32 := fW_placesIn_4 w a1 2000 0 0
set_option maxHeartbeats 4000000 in
set_option maxRecDepth 100000 in
theorem wW_placesIn {p : Program} {l : Launch} {e : Env} {s : State} {m : MethodId} {args : Array Value} {below : List Frame} {meth : Method} {c : Code} (cx : mp_C p s m args meth c bW_placesIn 4 (some .int) rW) (k : KK) (ad : Nat → Nat) (w : SW) (a1 : Int32) (z : Int32) (hE : mp_E k s) (hP : va_P (kD k) mp_cls (cW k ad w) s.heap) (hD : va_D (mp_N k) (cW k ad w)) (h : fW_placesIn w a1 = some z) (ls : Array Slot) (hl : lv_has ls 4 [(0, .ref (ad 0)), (1, .int a1)]) : W p l e rmW_placesIn s m args below meth c s.heap [] 0 0 (MQ below (mp_Qs (some (.int z))) args s 0 0 (fun _ => False)) (F0 m 0 ls []) := by
  obtain ⟨hx, hb, -, hml, hown, hts, -⟩ := id cx
  unfold fW_placesIn at h
  refine lv_iconst (v := 0) hx hb dW_placesIn_0 (by decide) ?_
  refine lv_istore_n (lv' := [(2, .int 0), (0, .ref (ad 0)), (1, .int a1)]) hx hb dW_placesIn_1 rfl hl (by decide) rfl (fun ls hl => ?_)
  refine lv_iconst (v := 0) hx hb dW_placesIn_2 (by decide) ?_
  refine lv_istore_n (lv' := [(3, .int 0), (2, .int 0), (0, .ref (ad 0)), (1, .int a1)]) hx hb dW_placesIn_3 rfl hl (by decide) rfl (fun ls hl => ?_)
  exact lW_placesIn_4 cx k ad w a1 z hE hP hD _ 0 0 h ls (lv_sub hl [2, 3, 1, 0] rfl)
theorem cW_placesIn (l : Launch) (k : KK) (ad : Nat → Nat) (w : SW) (a1 : Int32) (z : Int32) (h : fW_placesIn w a1 = some z) : mp_CS l k yW_placesIn bW_placesIn 4 (some .int) rmW_placesIn [.ref (ad 0), .int a1] (cW k ad w) (some (.int z)) := by
  refine Met.ofW (cc := bW_placesIn) (maxL := 4) (ret := (some .int)) (by decide) rfl ?_
  intro p e s m args below meth c s₁ B hml hv
  obtain ⟨rfl, hP, hD, hE⟩ := hv
  have hl := lv_entry ([.ref (ad 0), .int a1]) (n := 4) (Nat.le_of_ble_eq_true rfl)
  rw [lg_entry_eq]
  generalize (lg_sl ([.ref (ad 0), .int a1]) ++ List.replicate (4 - (lg_sl ([.ref (ad 0), .int a1])).length) Slot.unset).toArray = ls at hl ⊢
  exact wW_placesIn (mp_C.of B hml) k ad w a1 z hE hP hD h ls hl
-- MovingPlaces$World.threadsIn
abbrev rmW_threadsIn : Room := { frames := 0, cells := 0, slots := 0, locals := 0 }
def fW_threadsIn_4 (w : SW) (a1 : Int32) : Nat → Int32 → Int32 → Option Int32
  | 0, _, _ => none
  | n + 1, a2, a3 => (if w.2.2.2.2.2.2.1 ≤ a3 then some a2 else mp_ld w.2.2.2.2.2.2.2.1 12 a3 fun x2 => (if x2 = a1 then mp_lt (a2 ||| (1 <<< (a3 &&& 31))) fun x4 => fW_threadsIn_4 w a1 n x4 (a3 + 1) else fW_threadsIn_4 w a1 n a2 (a3 + 1)))
theorem fW_threadsIn_4_s (w : SW) (a1 : Int32) (n : Nat) (a2 : Int32) (a3 : Int32) : fW_threadsIn_4 w a1 (n + 1) a2 a3 = (if w.2.2.2.2.2.2.1 ≤ a3 then some a2 else mp_ld w.2.2.2.2.2.2.2.1 12 a3 fun x2 => (if x2 = a1 then mp_lt (a2 ||| (1 <<< (a3 &&& 31))) fun x4 => fW_threadsIn_4 w a1 n x4 (a3 + 1) else fW_threadsIn_4 w a1 n a2 (a3 + 1))) := rfl
set_option maxHeartbeats 4000000 in
set_option maxRecDepth 100000 in
theorem lW_threadsIn_4 {p : Program} {l : Launch} {e : Env} {s : State} {m : MethodId} {args : Array Value} {below : List Frame} {meth : Method} {c : Code} (cx : mp_C p s m args meth c bW_threadsIn 4 (some .int) rW) (k : KK) (ad : Nat → Nat) (w : SW) (a1 : Int32) (z : Int32) (hE : mp_E k s) (hP : va_P (kD k) mp_cls (cW k ad w) s.heap) (hD : va_D (mp_N k) (cW k ad w)) : ∀ (n : Nat) (a2 : Int32) (a3 : Int32), fW_threadsIn_4 w a1 n a2 a3 = some z → ∀ (ls : Array Slot), lv_has ls 4 [(0, .ref (ad 0)), (1, .int a1), (2, .int a2), (3, .int a3)] → W p l e rmW_threadsIn s m args below meth c s.heap [] 0 0 (MQ below (mp_Qs (some (.int z))) args s 0 0 (fun _ => False)) (F0 m 4 ls []) := by
  obtain ⟨hx, hb, -, hml, hown, hts, -⟩ := id cx
  intro n
  induction n with
  | zero =>
    intro a2 a3 h
    have h : (none : Option Int32) = some z := h
    cases h
  | succ n ih =>
    intro a2 a3 h ls hl
    rw [fW_threadsIn_4_s] at h
    refine lv_iload_n hx hb dW_threadsIn_4 rfl (lv_at hl 3 rfl) ?_
    refine lv_aload_n hx hb dW_threadsIn_5 rfl (lv_at hl 0 rfl) ?_
    refine mp_gW cx hE hP iW 0 rfl 6 (by decide) wq_62 rfl (v := .int w.2.2.2.2.2.2.1) rfl dW_threadsIn_6 ?_
    refine lv_icmp_ge (tgt := 34) hx hb dW_threadsIn_9 (by decide) (fun c1 => ?_) (fun c1 => ?_)
    · have h := mp_t c1 h
      refine lv_iload_n hx hb dW_threadsIn_34 rfl (lv_at hl 2 rfl) ?_
      exact mp_ri cx h dW_threadsIn_35
    · have h := mp_f c1 h
      refine lv_aload_n hx hb dW_threadsIn_12 rfl (lv_at hl 0 rfl) ?_
      refine mp_gW cx hE hP iW 0 rfl 7 (by decide) wq_63 rfl (v := .ref (ad 4)) rfl dW_threadsIn_13 ?_
      refine lv_iload_n hx hb dW_threadsIn_16 rfl (lv_at hl 3 rfl) ?_
      obtain ⟨hi, x2, ex2, h⟩ := mp_lds h
      refine va_iald hx hb hE.1 hP 4 0 (f := w.2.2.2.2.2.2.2.1) (n := 12) rfl rfl hi dW_threadsIn_17 ?_
      refine mp_top ex2 ?_
      refine lv_iload_n hx hb dW_threadsIn_18 rfl (lv_at hl 1 rfl) ?_
      refine lv_icmp_ne (tgt := 28) hx hb dW_threadsIn_19 (by decide) (fun c3 => ?_) (fun c3 => ?_)
      · have h := mp_f c3 h
        refine lv_iinc (v := (a3 + 1)) (lv' := [(3, .int (a3 + 1)), (0, .ref (ad 0)), (1, .int a1), (2, .int a2)]) hx hb dW_threadsIn_28 hl (k := 3) rfl rfl (by decide) rfl (fun ls hl => ?_)
        refine lv_goto (tgt := 4) hx hb dW_threadsIn_31 (by decide) ?_
        exact ih a2 (a3 + 1) h ls (lv_sub hl [1, 2, 3, 0] rfl)
      · have h := mp_t c3 h
        refine lv_iload_n hx hb dW_threadsIn_22 rfl (lv_at hl 2 rfl) ?_
        refine lv_iconst (v := 1) hx hb dW_threadsIn_23 (by decide) ?_
        refine lv_iload_n hx hb dW_threadsIn_24 rfl (lv_at hl 3 rfl) ?_
        refine lv_ishl hx hb dW_threadsIn_25 ?_
        refine lv_ior hx hb dW_threadsIn_26 ?_
        obtain ⟨x4, ex4, h⟩ := mp_lts h
        refine mp_top ex4 ?_
        refine lv_istore_n (lv' := [(2, .int x4), (0, .ref (ad 0)), (1, .int a1), (3, .int a3)]) hx hb dW_threadsIn_27 rfl hl (by decide) rfl (fun ls hl => ?_)
        refine lv_iinc (v := (a3 + 1)) (lv' := [(3, .int (a3 + 1)), (2, .int x4), (0, .ref (ad 0)), (1, .int a1)]) hx hb dW_threadsIn_28 hl (k := 3) rfl rfl (by decide) rfl (fun ls hl => ?_)
        refine lv_goto (tgt := 4) hx hb dW_threadsIn_31 (by decide) ?_
        exact ih x4 (a3 + 1) h ls (lv_sub hl [2, 3, 1, 0] rfl)
def fW_threadsIn (w : SW) (a1 : Int32) : Option Int32 := fW_threadsIn_4 w a1 2000 0 0
set_option maxHeartbeats 4000000 in
set_option maxRecDepth 100000 in
theorem wW_threadsIn {p : Program} {l : Launch} {e : Env} {s : State} {m : MethodId} {args : Array Value} {below : List Frame} {meth : Method} {c : Code} (cx : mp_C p s m args meth c bW_threadsIn 4 (some .int) rW) (k : KK) (ad : Nat → Nat) (w : SW) (a1 : Int32) (z : Int32) (hE : mp_E k s) (hP : va_P (kD k) mp_cls (cW k ad w) s.heap) (hD : va_D (mp_N k) (cW k ad w)) (h : fW_threadsIn w a1 = some z) (ls : Array Slot) (hl : lv_has ls 4 [(0, .ref (ad 0)), (1, .int a1)]) : W p l e rmW_threadsIn s m args below meth c s.heap [] 0 0 (MQ below (mp_Qs (some (.int z))) args s 0 0 (fun _ => False)) (F0 m 0 ls []) := by
  obtain ⟨hx, hb, -, hml, hown, hts, -⟩ := id cx
  unfold fW_threadsIn at h
  refine lv_iconst (v := 0) hx hb dW_threadsIn_0 (by decide) ?_
  refine lv_istore_n (lv' := [(2, .int 0), (0, .ref (ad 0)), (1, .int a1)]) hx hb dW_threadsIn_1 rfl hl (by decide) rfl (fun ls hl => ?_)
  refine lv_iconst (v := 0) hx hb dW_threadsIn_2 (by decide) ?_
  refine lv_istore_n (lv' := [(3, .int 0), (2, .int 0), (0, .ref (ad 0)), (1, .int a1)]) hx hb dW_threadsIn_3 rfl hl (by decide) rfl (fun ls hl => ?_)
  exact lW_threadsIn_4 cx k ad w a1 z hE hP hD _ 0 0 h ls (lv_sub hl [2, 3, 1, 0] rfl)
theorem cW_threadsIn (l : Launch) (k : KK) (ad : Nat → Nat) (w : SW) (a1 : Int32) (z : Int32) (h : fW_threadsIn w a1 = some z) : mp_CS l k yW_threadsIn bW_threadsIn 4 (some .int) rmW_threadsIn [.ref (ad 0), .int a1] (cW k ad w) (some (.int z)) := by
  refine Met.ofW (cc := bW_threadsIn) (maxL := 4) (ret := (some .int)) (by decide) rfl ?_
  intro p e s m args below meth c s₁ B hml hv
  obtain ⟨rfl, hP, hD, hE⟩ := hv
  have hl := lv_entry ([.ref (ad 0), .int a1]) (n := 4) (Nat.le_of_ble_eq_true rfl)
  rw [lg_entry_eq]
  generalize (lg_sl ([.ref (ad 0), .int a1]) ++ List.replicate (4 - (lg_sl ([.ref (ad 0), .int a1])).length) Slot.unset).toArray = ls at hl ⊢
  exact wW_threadsIn (mp_C.of B hml) k ad w a1 z hE hP hD h ls hl
-- MovingPlaces$World.depthOf
abbrev rmW_depthOf : Room := { frames := 2, cells := 0, slots := 0, locals := 42 }
def fW_depthOf_8 (w : SW) : Nat → Int32 → Int32 → Option Int32
  | 0, _, _ => none
  | n + 1, a2, a3 => (if a3 = (-9) then some a2 else (if 12 ≤ a2 then some a2 else (fW_placeAround w a3).bind fun x3 => fW_depthOf_8 w n (a2 + 1) x3))
theorem fW_depthOf_8_s (w : SW) (n : Nat) (a2 : Int32) (a3 : Int32) : fW_depthOf_8 w (n + 1) a2 a3 = (if a3 = (-9) then some a2 else (if 12 ≤ a2 then some a2 else (fW_placeAround w a3).bind fun x3 => fW_depthOf_8 w n (a2 + 1) x3)) := rfl
set_option maxHeartbeats 4000000 in
set_option maxRecDepth 100000 in
theorem lW_depthOf_8 {p : Program} {l : Launch} {e : Env} {s : State} {m : MethodId} {args : Array Value} {below : List Frame} {meth : Method} {c : Code} (cx : mp_C p s m args meth c bW_depthOf 4 (some .int) rW) (k : KK) (ad : Nat → Nat) (w : SW) (z : Int32) (hE : mp_E k s) (hP : va_P (kD k) mp_cls (cW k ad w) s.heap) (hD : va_D (mp_N k) (cW k ad w)) : ∀ (n : Nat) (a2 : Int32) (a3 : Int32), fW_depthOf_8 w n a2 a3 = some z → ∀ (ls : Array Slot), lv_has ls 4 [(0, .ref (ad 0)), (2, .int a2), (3, .int a3)] → W p l e rmW_depthOf s m args below meth c s.heap [] 0 0 (MQ below (mp_Qs (some (.int z))) args s 0 0 (fun _ => False)) (F0 m 8 ls []) := by
  obtain ⟨hx, hb, -, hml, hown, hts, -⟩ := id cx
  intro n
  induction n with
  | zero =>
    intro a2 a3 h
    have h : (none : Option Int32) = some z := h
    cases h
  | succ n ih =>
    intro a2 a3 h ls hl
    rw [fW_depthOf_8_s] at h
    refine lv_iload_n hx hb dW_depthOf_8 rfl (lv_at hl 2 rfl) ?_
    refine lv_bipush (v := (-9)) hx hb dW_depthOf_9 (by decide) ?_
    refine lv_icmp_eq (tgt := 32) hx hb dW_depthOf_11 (by decide) (fun c1 => ?_) (fun c1 => ?_)
    · have h := mp_t c1 h
      refine lv_iload_n hx hb dW_depthOf_32 rfl (lv_at hl 1 rfl) ?_
      exact mp_ri cx h dW_depthOf_33
    · have h := mp_f c1 h
      refine lv_iload_n hx hb dW_depthOf_14 rfl (lv_at hl 1 rfl) ?_
      refine lv_bipush (v := 12) hx hb dW_depthOf_15 (by decide) ?_
      refine lv_icmp_ge (tgt := 32) hx hb dW_depthOf_17 (by decide) (fun c2 => ?_) (fun c2 => ?_)
      · have h := mp_t c2 h
        refine lv_iload_n hx hb dW_depthOf_32 rfl (lv_at hl 1 rfl) ?_
        exact mp_ri cx h dW_depthOf_33
      · have h := mp_f c2 h
        refine lv_iinc (v := (a2 + 1)) (lv' := [(2, .int (a2 + 1)), (0, .ref (ad 0)), (3, .int a3)]) hx hb dW_depthOf_20 hl (k := 1) rfl rfl (by decide) rfl (fun ls hl => ?_)
        refine lv_aload_n hx hb dW_depthOf_23 rfl (lv_at hl 1 rfl) ?_
        refine lv_iload_n hx hb dW_depthOf_24 rfl (lv_at hl 2 rfl) ?_
        obtain ⟨x3, ex3, h⟩ := mp_bs h
        refine mp_si (mp_runV (As := [.int a3]) (rest := []) cx kV_W_63 (cW_placeAround l k ad w a3 x3 ex3) ⟨rfl, rfl, Nat.le_of_ble_eq_true rfl, Nat.le_of_ble_eq_true rfl⟩ ⟨Nat.zero_le _, Nat.zero_le _⟩ hE hP hD va_S.rf 0 rfl rfl rfl hl.1 rfl (Nat.le_of_ble_eq_true rfl) dW_depthOf_25) ?_
        refine lv_istore_n (lv' := [(3, .int x3), (2, .int (a2 + 1)), (0, .ref (ad 0))]) hx hb dW_depthOf_28 rfl hl (by decide) rfl (fun ls hl => ?_)
        refine lv_goto (tgt := 8) hx hb dW_depthOf_29 (by decide) ?_
        exact ih (a2 + 1) x3 h ls (lv_sub hl [2, 1, 0] rfl)
def fW_depthOf (w : SW) (a1 : Int32) : Option Int32 := (fW_placeAround w a1).bind fun x1 => fW_depthOf_8 w 2000 0 x1
set_option maxHeartbeats 4000000 in
set_option maxRecDepth 100000 in
theorem wW_depthOf {p : Program} {l : Launch} {e : Env} {s : State} {m : MethodId} {args : Array Value} {below : List Frame} {meth : Method} {c : Code} (cx : mp_C p s m args meth c bW_depthOf 4 (some .int) rW) (k : KK) (ad : Nat → Nat) (w : SW) (a1 : Int32) (z : Int32) (hE : mp_E k s) (hP : va_P (kD k) mp_cls (cW k ad w) s.heap) (hD : va_D (mp_N k) (cW k ad w)) (h : fW_depthOf w a1 = some z) (ls : Array Slot) (hl : lv_has ls 4 [(0, .ref (ad 0)), (1, .int a1)]) : W p l e rmW_depthOf s m args below meth c s.heap [] 0 0 (MQ below (mp_Qs (some (.int z))) args s 0 0 (fun _ => False)) (F0 m 0 ls []) := by
  obtain ⟨hx, hb, -, hml, hown, hts, -⟩ := id cx
  unfold fW_depthOf at h
  refine lv_iconst (v := 0) hx hb dW_depthOf_0 (by decide) ?_
  refine lv_istore_n (lv' := [(2, .int 0), (0, .ref (ad 0)), (1, .int a1)]) hx hb dW_depthOf_1 rfl hl (by decide) rfl (fun ls hl => ?_)
  refine lv_aload_n hx hb dW_depthOf_2 rfl (lv_at hl 1 rfl) ?_
  refine lv_iload_n hx hb dW_depthOf_3 rfl (lv_at hl 2 rfl) ?_
  obtain ⟨x1, ex1, h⟩ := mp_bs h
  refine mp_si (mp_runV (As := [.int a1]) (rest := []) cx kV_W_63 (cW_placeAround l k ad w a1 x1 ex1) ⟨rfl, rfl, Nat.le_of_ble_eq_true rfl, Nat.le_of_ble_eq_true rfl⟩ ⟨Nat.zero_le _, Nat.zero_le _⟩ hE hP hD va_S.rf 0 rfl rfl rfl hl.1 rfl (Nat.le_of_ble_eq_true rfl) dW_depthOf_4) ?_
  refine lv_istore_n (lv' := [(3, .int x1), (2, .int 0), (0, .ref (ad 0)), (1, .int a1)]) hx hb dW_depthOf_7 rfl hl (by decide) rfl (fun ls hl => ?_)
  exact lW_depthOf_8 cx k ad w z hE hP hD _ 0 x1 h ls (lv_sub hl [2, 1, 0] rfl)
theorem cW_depthOf (l : Launch) (k : KK) (ad : Nat → Nat) (w : SW) (a1 : Int32) (z : Int32) (h : fW_depthOf w a1 = some z) : mp_CS l k yW_depthOf bW_depthOf 4 (some .int) rmW_depthOf [.ref (ad 0), .int a1] (cW k ad w) (some (.int z)) := by
  refine Met.ofW (cc := bW_depthOf) (maxL := 4) (ret := (some .int)) (by decide) rfl ?_
  intro p e s m args below meth c s₁ B hml hv
  obtain ⟨rfl, hP, hD, hE⟩ := hv
  have hl := lv_entry ([.ref (ad 0), .int a1]) (n := 4) (Nat.le_of_ble_eq_true rfl)
  rw [lg_entry_eq]
  generalize (lg_sl ([.ref (ad 0), .int a1]) ++ List.replicate (4 - (lg_sl ([.ref (ad 0), .int a1])).length) Slot.unset).toArray = ls at hl ⊢
  exact wW_depthOf (mp_C.of B hml) k ad w a1 z hE hP hD h ls hl
-- MovingPlaces$World.isWithin
abbrev rmW_isWithin : Room := { frames := 2, cells := 0, slots := 0, locals := 42 }
def fW_isWithin_9 (w : SW) (a2 : Int32) : Nat → Int32 → Int32 → Option Int32
  | 0, _, _ => none
  | n + 1, a3, a4 => (if 12 ≤ a4 then some 0 else (if a3 = (-9) then some 0 else (if a3 = a2 then some 1 else (fW_placeAround w a3).bind fun x4 => fW_isWithin_9 w a2 n x4 (a4 + 1))))
theorem fW_isWithin_9_s (w : SW) (a2 : Int32) (n : Nat) (a3 : Int32) (a4 : Int32) : fW_isWithin_9 w a2 (n + 1) a3 a4 = (if 12 ≤ a4 then some 0 else (if a3 = (-9) then some 0 else (if a3 = a2 then some 1 else (fW_placeAround w a3).bind fun x4 => fW_isWithin_9 w a2 n x4 (a4 + 1)))) := rfl
set_option maxHeartbeats 4000000 in
set_option maxRecDepth 100000 in
theorem lW_isWithin_9 {p : Program} {l : Launch} {e : Env} {s : State} {m : MethodId} {args : Array Value} {below : List Frame} {meth : Method} {c : Code} (cx : mp_C p s m args meth c bW_isWithin 5 (some .boolean) rW) (k : KK) (ad : Nat → Nat) (w : SW) (a2 : Int32) (z : Int32) (hE : mp_E k s) (hP : va_P (kD k) mp_cls (cW k ad w) s.heap) (hD : va_D (mp_N k) (cW k ad w)) : ∀ (n : Nat) (a3 : Int32) (a4 : Int32), fW_isWithin_9 w a2 n a3 a4 = some z → ∀ (ls : Array Slot), lv_has ls 5 [(0, .ref (ad 0)), (2, .int a2), (3, .int a3), (4, .int a4)] → W p l e rmW_isWithin s m args below meth c s.heap [] 0 0 (MQ below (mp_Qs (some (.int z))) args s 0 0 (fun _ => False)) (F0 m 9 ls []) := by
  obtain ⟨hx, hb, -, hml, hown, hts, -⟩ := id cx
  intro n
  induction n with
  | zero =>
    intro a3 a4 h
    have h : (none : Option Int32) = some z := h
    cases h
  | succ n ih =>
    intro a3 a4 h ls hl
    rw [fW_isWithin_9_s] at h
    refine lv_iload hx hb dW_isWithin_9 (lv_at hl 3 rfl) ?_
    refine lv_bipush (v := 12) hx hb dW_isWithin_11 (by decide) ?_
    refine lv_icmp_ge (tgt := 41) hx hb dW_isWithin_13 (by decide) (fun c1 => ?_) (fun c1 => ?_)
    · have h := mp_t c1 h
      refine lv_iconst (v := 0) hx hb dW_isWithin_41 (by decide) ?_
      exact mp_rz cx rfl h dW_isWithin_42
    · have h := mp_f c1 h
      refine lv_iload_n hx hb dW_isWithin_16 rfl (lv_at hl 2 rfl) ?_
      refine lv_bipush (v := (-9)) hx hb dW_isWithin_17 (by decide) ?_
      refine lv_icmp_eq (tgt := 41) hx hb dW_isWithin_19 (by decide) (fun c2 => ?_) (fun c2 => ?_)
      · have h := mp_t c2 h
        refine lv_iconst (v := 0) hx hb dW_isWithin_41 (by decide) ?_
        exact mp_rz cx rfl h dW_isWithin_42
      · have h := mp_f c2 h
        refine lv_iload_n hx hb dW_isWithin_22 rfl (lv_at hl 2 rfl) ?_
        refine lv_iload_n hx hb dW_isWithin_23 rfl (lv_at hl 1 rfl) ?_
        refine lv_icmp_ne (tgt := 29) hx hb dW_isWithin_24 (by decide) (fun c3 => ?_) (fun c3 => ?_)
        · have h := mp_f c3 h
          refine lv_aload_n hx hb dW_isWithin_29 rfl (lv_at hl 0 rfl) ?_
          refine lv_iload_n hx hb dW_isWithin_30 rfl (lv_at hl 2 rfl) ?_
          obtain ⟨x4, ex4, h⟩ := mp_bs h
          refine mp_si (mp_runV (As := [.int a3]) (rest := []) cx kV_W_63 (cW_placeAround l k ad w a3 x4 ex4) ⟨rfl, rfl, Nat.le_of_ble_eq_true rfl, Nat.le_of_ble_eq_true rfl⟩ ⟨Nat.zero_le _, Nat.zero_le _⟩ hE hP hD va_S.rf 0 rfl rfl rfl hl.1 rfl (Nat.le_of_ble_eq_true rfl) dW_isWithin_31) ?_
          refine lv_istore_n (lv' := [(3, .int x4), (0, .ref (ad 0)), (2, .int a2), (4, .int a4)]) hx hb dW_isWithin_34 rfl hl (by decide) rfl (fun ls hl => ?_)
          refine lv_iinc (v := (a4 + 1)) (lv' := [(4, .int (a4 + 1)), (3, .int x4), (0, .ref (ad 0)), (2, .int a2)]) hx hb dW_isWithin_35 hl (k := 3) rfl rfl (by decide) rfl (fun ls hl => ?_)
          refine lv_goto (tgt := 9) hx hb dW_isWithin_38 (by decide) ?_
          exact ih x4 (a4 + 1) h ls (lv_sub hl [2, 3, 1, 0] rfl)
        · have h := mp_t c3 h
          refine lv_iconst (v := 1) hx hb dW_isWithin_27 (by decide) ?_
          exact mp_rz cx rfl h dW_isWithin_28
def fW_isWithin (w : SW) (a1 : Int32) (a2 : Int32) : Option Int32 := (fW_placeAround w a1).bind fun x1 => fW_isWithin_9 w a2 2000 x1 0
set_option maxHeartbeats 4000000 in
set_option maxRecDepth 100000 in
theorem wW_isWithin {p : Program} {l : Launch} {e : Env} {s : State} {m : MethodId} {args : Array Value} {below : List Frame} {meth : Method} {c : Code} (cx : mp_C p s m args meth c bW_isWithin 5 (some .boolean) rW) (k : KK) (ad : Nat → Nat) (w : SW) (a1 : Int32) (a2 : Int32) (z : Int32) (hE : mp_E k s) (hP : va_P (kD k) mp_cls (cW k ad w) s.heap) (hD : va_D (mp_N k) (cW k ad w)) (h : fW_isWithin w a1 a2 = some z) (ls : Array Slot) (hl : lv_has ls 5 [(0, .ref (ad 0)), (1, .int a1), (2, .int a2)]) : W p l e rmW_isWithin s m args below meth c s.heap [] 0 0 (MQ below (mp_Qs (some (.int z))) args s 0 0 (fun _ => False)) (F0 m 0 ls []) := by
  obtain ⟨hx, hb, -, hml, hown, hts, -⟩ := id cx
  unfold fW_isWithin at h
  refine lv_aload_n hx hb dW_isWithin_0 rfl (lv_at hl 0 rfl) ?_
  refine lv_iload_n hx hb dW_isWithin_1 rfl (lv_at hl 1 rfl) ?_
  obtain ⟨x1, ex1, h⟩ := mp_bs h
  refine mp_si (mp_runV (As := [.int a1]) (rest := []) cx kV_W_63 (cW_placeAround l k ad w a1 x1 ex1) ⟨rfl, rfl, Nat.le_of_ble_eq_true rfl, Nat.le_of_ble_eq_true rfl⟩ ⟨Nat.zero_le _, Nat.zero_le _⟩ hE hP hD va_S.rf 0 rfl rfl rfl hl.1 rfl (Nat.le_of_ble_eq_true rfl) dW_isWithin_2) ?_
  refine lv_istore_n (lv' := [(3, .int x1), (0, .ref (ad 0)), (1, .int a1), (2, .int a2)]) hx hb dW_isWithin_5 rfl hl (by decide) rfl (fun ls hl => ?_)
  refine lv_iconst (v := 0) hx hb dW_isWithin_6 (by decide) ?_
  refine lv_istore (lv' := [(4, .int 0), (3, .int x1), (0, .ref (ad 0)), (1, .int a1), (2, .int a2)]) hx hb dW_isWithin_7 hl (by decide) rfl (fun ls hl => ?_)
  exact lW_isWithin_9 cx k ad w a2 z hE hP hD _ x1 0 h ls (lv_sub hl [2, 4, 1, 0] rfl)
theorem cW_isWithin (l : Launch) (k : KK) (ad : Nat → Nat) (w : SW) (a1 : Int32) (a2 : Int32) (z : Int32) (h : fW_isWithin w a1 a2 = some z) : mp_CS l k yW_isWithin bW_isWithin 5 (some .boolean) rmW_isWithin [.ref (ad 0), .int a1, .int a2] (cW k ad w) (some (.int z)) := by
  refine Met.ofW (cc := bW_isWithin) (maxL := 5) (ret := (some .boolean)) (by decide) rfl ?_
  intro p e s m args below meth c s₁ B hml hv
  obtain ⟨rfl, hP, hD, hE⟩ := hv
  have hl := lv_entry ([.ref (ad 0), .int a1, .int a2]) (n := 5) (Nat.le_of_ble_eq_true rfl)
  rw [lg_entry_eq]
  generalize (lg_sl ([.ref (ad 0), .int a1, .int a2]) ++ List.replicate (5 - (lg_sl ([.ref (ad 0), .int a1, .int a2])).length) Slot.unset).toArray = ls at hl ⊢
  exact wW_isWithin (mp_C.of B hml) k ad w a1 a2 z hE hP hD h ls hl
-- MovingPlaces$World.placesThatAre
abbrev rmW_placesThatAre : Room := { frames := 1, cells := 0, slots := 0, locals := 20 }
def fW_placesThatAre (w : SW) : Option Int32 := (fJ_bitCount w.2.1).bind fun x1 => some (w.1 - x1)
set_option maxHeartbeats 4000000 in
set_option maxRecDepth 100000 in
theorem wW_placesThatAre {p : Program} {l : Launch} {e : Env} {s : State} {m : MethodId} {args : Array Value} {below : List Frame} {meth : Method} {c : Code} (cx : mp_C p s m args meth c bW_placesThatAre 1 (some .int) rW) (k : KK) (ad : Nat → Nat) (w : SW) (z : Int32) (hE : mp_E k s) (hP : va_P (kD k) mp_cls (cW k ad w) s.heap) (hD : va_D (mp_N k) (cW k ad w)) (h : fW_placesThatAre w = some z) (ls : Array Slot) (hl : lv_has ls 1 [(0, .ref (ad 0))]) : W p l e rmW_placesThatAre s m args below meth c s.heap [] 0 0 (MQ below (mp_Qs (some (.int z))) args s 0 0 (fun _ => False)) (F0 m 0 ls []) := by
  obtain ⟨hx, hb, -, hml, hown, hts, -⟩ := id cx
  unfold fW_placesThatAre at h
  refine lv_aload_n hx hb dW_placesThatAre_0 rfl (lv_at hl 0 rfl) ?_
  refine mp_gW cx hE hP iW 0 rfl 0 (by decide) wq_56 rfl (v := .int w.1) rfl dW_placesThatAre_1 ?_
  refine lv_aload_n hx hb dW_placesThatAre_4 rfl (lv_at hl 0 rfl) ?_
  refine mp_gW cx hE hP iW 0 rfl 1 (by decide) wq_57 rfl (v := .int w.2.1) rfl dW_placesThatAre_5 ?_
  obtain ⟨x1, ex1, h⟩ := mp_bs h
  refine mp_si (mp_runT (As := [.int w.2.1]) (rest := [.int w.1]) cx kT_W_67 (cJ_bitCount l k w.2.1 x1 ex1) ⟨rfl, rfl, Nat.le_of_ble_eq_true rfl, Nat.le_of_ble_eq_true rfl⟩ ⟨Nat.zero_le _, Nat.zero_le _⟩ hE mp_P0 mp_D0 va_S.rf hl.1 rfl (Nat.le_of_ble_eq_true rfl) dW_placesThatAre_8) ?_
  refine lv_isub hx hb dW_placesThatAre_11 ?_
  exact mp_ri cx h dW_placesThatAre_12
theorem cW_placesThatAre (l : Launch) (k : KK) (ad : Nat → Nat) (w : SW) (z : Int32) (h : fW_placesThatAre w = some z) : mp_CS l k yW_placesThatAre bW_placesThatAre 1 (some .int) rmW_placesThatAre [.ref (ad 0)] (cW k ad w) (some (.int z)) := by
  refine Met.ofW (cc := bW_placesThatAre) (maxL := 1) (ret := (some .int)) (by decide) rfl ?_
  intro p e s m args below meth c s₁ B hml hv
  obtain ⟨rfl, hP, hD, hE⟩ := hv
  have hl := lv_entry ([.ref (ad 0)]) (n := 1) (Nat.le_of_ble_eq_true rfl)
  rw [lg_entry_eq]
  generalize (lg_sl ([.ref (ad 0)]) ++ List.replicate (1 - (lg_sl ([.ref (ad 0)])).length) Slot.unset).toArray = ls at hl ⊢
  exact wW_placesThatAre (mp_C.of B hml) k ad w z hE hP hD h ls hl
-- MovingPlaces$World.placesInAll
abbrev rmW_placesInAll : Room := { frames := 0, cells := 0, slots := 0, locals := 0 }
def fW_placesInAll (w : SW) : Option Int32 := some w.1
set_option maxHeartbeats 4000000 in
set_option maxRecDepth 100000 in
theorem wW_placesInAll {p : Program} {l : Launch} {e : Env} {s : State} {m : MethodId} {args : Array Value} {below : List Frame} {meth : Method} {c : Code} (cx : mp_C p s m args meth c bW_placesInAll 1 (some .int) rW) (k : KK) (ad : Nat → Nat) (w : SW) (z : Int32) (hE : mp_E k s) (hP : va_P (kD k) mp_cls (cW k ad w) s.heap) (hD : va_D (mp_N k) (cW k ad w)) (h : fW_placesInAll w = some z) (ls : Array Slot) (hl : lv_has ls 1 [(0, .ref (ad 0))]) : W p l e rmW_placesInAll s m args below meth c s.heap [] 0 0 (MQ below (mp_Qs (some (.int z))) args s 0 0 (fun _ => False)) (F0 m 0 ls []) := by
  obtain ⟨hx, hb, -, hml, hown, hts, -⟩ := id cx
  unfold fW_placesInAll at h
  refine lv_aload_n hx hb dW_placesInAll_0 rfl (lv_at hl 0 rfl) ?_
  refine mp_gW cx hE hP iW 0 rfl 0 (by decide) wq_56 rfl (v := .int w.1) rfl dW_placesInAll_1 ?_
  exact mp_ri cx h dW_placesInAll_4
theorem cW_placesInAll (l : Launch) (k : KK) (ad : Nat → Nat) (w : SW) (z : Int32) (h : fW_placesInAll w = some z) : mp_CS l k yW_placesInAll bW_placesInAll 1 (some .int) rmW_placesInAll [.ref (ad 0)] (cW k ad w) (some (.int z)) := by
  refine Met.ofW (cc := bW_placesInAll) (maxL := 1) (ret := (some .int)) (by decide) rfl ?_
  intro p e s m args below meth c s₁ B hml hv
  obtain ⟨rfl, hP, hD, hE⟩ := hv
  have hl := lv_entry ([.ref (ad 0)]) (n := 1) (Nat.le_of_ble_eq_true rfl)
  rw [lg_entry_eq]
  generalize (lg_sl ([.ref (ad 0)]) ++ List.replicate (1 - (lg_sl ([.ref (ad 0)])).length) Slot.unset).toArray = ls at hl ⊢
  exact wW_placesInAll (mp_C.of B hml) k ad w z hE hP hD h ls hl
-- MovingPlaces$World.messagesInAll
abbrev rmW_messagesInAll : Room := { frames := 2, cells := 0, slots := 0, locals := 43 }
def fW_messagesInAll_14 (w : SW) (a2 : Int32) (kk : Int32 → Option Int32) : Nat → Int32 → Int32 → Option Int32
  | 0, _, _ => none
  | n + 1, a1, a3 => (if 6 ≤ a3 then kk a1 else (fW_messagesOf w a2 a3).bind fun x2 => fW_messagesInAll_14 w a2 kk n (a1 + x2) (a3 + 1))
theorem fW_messagesInAll_14_s (w : SW) (a2 : Int32) (kk : Int32 → Option Int32) (n : Nat) (a1 : Int32) (a3 : Int32) : fW_messagesInAll_14 w a2 kk (n + 1) a1 a3 = (if 6 ≤ a3 then kk a1 else (fW_messagesOf w a2 a3).bind fun x2 => fW_messagesInAll_14 w a2 kk n (a1 + x2) (a3 + 1)) := rfl
set_option maxHeartbeats 4000000 in
set_option maxRecDepth 100000 in
theorem lW_messagesInAll_14 {p : Program} {l : Launch} {e : Env} {s : State} {m : MethodId} {args : Array Value} {below : List Frame} {meth : Method} {c : Code} (cx : mp_C p s m args meth c bW_messagesInAll 4 (some .int) rW) (k : KK) (ad : Nat → Nat) (w : SW) (a2 : Int32) (kk : Int32 → Option Int32) (z : Int32) (hE : mp_E k s) (hP : va_P (kD k) mp_cls (cW k ad w) s.heap) (hD : va_D (mp_N k) (cW k ad w)) (hk : ∀ (a1 : Int32), kk a1 = some z → ∀ (ls : Array Slot), lv_has ls 4 [(0, .ref (ad 0)), (1, .int a1), (2, .int a2)] → W p l e rmW_messagesInAll s m args below meth c s.heap [] 0 0 (MQ below (mp_Qs (some (.int z))) args s 0 0 (fun _ => False)) (F0 m 35 ls [])) : ∀ (n : Nat) (a1 : Int32) (a3 : Int32), fW_messagesInAll_14 w a2 kk n a1 a3 = some z → ∀ (ls : Array Slot), lv_has ls 4 [(0, .ref (ad 0)), (1, .int a1), (2, .int a2), (3, .int a3)] → W p l e rmW_messagesInAll s m args below meth c s.heap [] 0 0 (MQ below (mp_Qs (some (.int z))) args s 0 0 (fun _ => False)) (F0 m 14 ls []) := by
  obtain ⟨hx, hb, -, hml, hown, hts, -⟩ := id cx
  intro n
  induction n with
  | zero =>
    intro a1 a3 h
    have h : (none : Option Int32) = some z := h
    cases h
  | succ n ih =>
    intro a1 a3 h ls hl
    rw [fW_messagesInAll_14_s] at h
    refine lv_iload_n hx hb dW_messagesInAll_14 rfl (lv_at hl 3 rfl) ?_
    refine lv_bipush (v := 6) hx hb dW_messagesInAll_15 (by decide) ?_
    refine lv_icmp_ge (tgt := 35) hx hb dW_messagesInAll_17 (by decide) (fun c1 => ?_) (fun c1 => ?_)
    · have h := mp_t c1 h
      exact hk a1 h ls (lv_sub hl [0, 1, 2] rfl)
    · have h := mp_f c1 h
      refine lv_iload_n hx hb dW_messagesInAll_20 rfl (lv_at hl 1 rfl) ?_
      refine lv_aload_n hx hb dW_messagesInAll_21 rfl (lv_at hl 0 rfl) ?_
      refine lv_iload_n hx hb dW_messagesInAll_22 rfl (lv_at hl 2 rfl) ?_
      refine lv_iload_n hx hb dW_messagesInAll_23 rfl (lv_at hl 3 rfl) ?_
      obtain ⟨x2, ex2, h⟩ := mp_bs h
      refine mp_si (mp_runV (As := [.int a2, .int a3]) (rest := [.int a1]) cx kV_W_72 (cW_messagesOf l k ad w a2 a3 x2 ex2) ⟨rfl, rfl, Nat.le_of_ble_eq_true rfl, Nat.le_of_ble_eq_true rfl⟩ ⟨Nat.zero_le _, Nat.zero_le _⟩ hE hP hD va_S.rf 0 rfl rfl rfl hl.1 rfl (Nat.le_of_ble_eq_true rfl) dW_messagesInAll_24) ?_
      refine lv_iadd hx hb dW_messagesInAll_27 ?_
      refine lv_istore_n (lv' := [(1, .int (a1 + x2)), (0, .ref (ad 0)), (2, .int a2), (3, .int a3)]) hx hb dW_messagesInAll_28 rfl hl (by decide) rfl (fun ls hl => ?_)
      refine lv_iinc (v := (a3 + 1)) (lv' := [(3, .int (a3 + 1)), (1, .int (a1 + x2)), (0, .ref (ad 0)), (2, .int a2)]) hx hb dW_messagesInAll_29 hl (k := 3) rfl rfl (by decide) rfl (fun ls hl => ?_)
      refine lv_goto (tgt := 14) hx hb dW_messagesInAll_32 (by decide) ?_
      exact ih (a1 + x2) (a3 + 1) h ls (lv_sub hl [2, 1, 3, 0] rfl)
def fW_messagesInAll_4 (w : SW) : Nat → Int32 → Int32 → Option Int32
  | 0, _, _ => none
  | n + 1, a1, a2 => (if w.1 ≤ a2 then some a1 else fW_messagesInAll_14 w a2 (fun y2 => fW_messagesInAll_4 w n y2 (a2 + 1)) 2000 a1 0)
theorem fW_messagesInAll_4_s (w : SW) (n : Nat) (a1 : Int32) (a2 : Int32) : fW_messagesInAll_4 w (n + 1) a1 a2 = (if w.1 ≤ a2 then some a1 else fW_messagesInAll_14 w a2 (fun y2 => fW_messagesInAll_4 w n y2 (a2 + 1)) 2000 a1 0) := rfl
set_option maxHeartbeats 4000000 in
set_option maxRecDepth 100000 in
theorem lW_messagesInAll_4 {p : Program} {l : Launch} {e : Env} {s : State} {m : MethodId} {args : Array Value} {below : List Frame} {meth : Method} {c : Code} (cx : mp_C p s m args meth c bW_messagesInAll 4 (some .int) rW) (k : KK) (ad : Nat → Nat) (w : SW) (z : Int32) (hE : mp_E k s) (hP : va_P (kD k) mp_cls (cW k ad w) s.heap) (hD : va_D (mp_N k) (cW k ad w)) : ∀ (n : Nat) (a1 : Int32) (a2 : Int32), fW_messagesInAll_4 w n a1 a2 = some z → ∀ (ls : Array Slot), lv_has ls 4 [(0, .ref (ad 0)), (1, .int a1), (2, .int a2)] → W p l e rmW_messagesInAll s m args below meth c s.heap [] 0 0 (MQ below (mp_Qs (some (.int z))) args s 0 0 (fun _ => False)) (F0 m 4 ls []) := by
  obtain ⟨hx, hb, -, hml, hown, hts, -⟩ := id cx
  intro n
  induction n with
  | zero =>
    intro a1 a2 h
    have h : (none : Option Int32) = some z := h
    cases h
  | succ n ih =>
    intro a1 a2 h ls hl
    rw [fW_messagesInAll_4_s] at h
    refine lv_iload_n hx hb dW_messagesInAll_4 rfl (lv_at hl 2 rfl) ?_
    refine lv_aload_n hx hb dW_messagesInAll_5 rfl (lv_at hl 0 rfl) ?_
    refine mp_gW cx hE hP iW 0 rfl 0 (by decide) wq_56 rfl (v := .int w.1) rfl dW_messagesInAll_6 ?_
    refine lv_icmp_ge (tgt := 41) hx hb dW_messagesInAll_9 (by decide) (fun c1 => ?_) (fun c1 => ?_)
    · have h := mp_t c1 h
      refine lv_iload_n hx hb dW_messagesInAll_41 rfl (lv_at hl 1 rfl) ?_
      exact mp_ri cx h dW_messagesInAll_42
    · have h := mp_f c1 h
      refine lv_iconst (v := 0) hx hb dW_messagesInAll_12 (by decide) ?_
      refine lv_istore_n (lv' := [(3, .int 0), (0, .ref (ad 0)), (1, .int a1), (2, .int a2)]) hx hb dW_messagesInAll_13 rfl hl (by decide) rfl (fun ls hl => ?_)
      refine lW_messagesInAll_14 cx k ad w a2 _ z hE hP hD (fun y2 h ls hl => ?_) _ a1 0 h ls (lv_sub hl [1, 2, 3, 0] rfl)
      refine lv_iinc (v := (a2 + 1)) (lv' := [(2, .int (a2 + 1)), (0, .ref (ad 0)), (1, .int y2)]) hx hb dW_messagesInAll_35 hl (k := 2) rfl rfl (by decide) rfl (fun ls hl => ?_)
      refine lv_goto (tgt := 4) hx hb dW_messagesInAll_38 (by decide) ?_
      exact ih y2 (a2 + 1) h ls (lv_sub hl [1, 2, 0] rfl)
def fW_messagesInAll (w : SW) : Option Int32 := fW_messagesInAll_4 w 2000 0 0
set_option maxHeartbeats 4000000 in
set_option maxRecDepth 100000 in
theorem wW_messagesInAll {p : Program} {l : Launch} {e : Env} {s : State} {m : MethodId} {args : Array Value} {below : List Frame} {meth : Method} {c : Code} (cx : mp_C p s m args meth c bW_messagesInAll 4 (some .int) rW) (k : KK) (ad : Nat → Nat) (w : SW) (z : Int32) (hE : mp_E k s) (hP : va_P (kD k) mp_cls (cW k ad w) s.heap) (hD : va_D (mp_N k) (cW k ad w)) (h : fW_messagesInAll w = some z) (ls : Array Slot) (hl : lv_has ls 4 [(0, .ref (ad 0))]) : W p l e rmW_messagesInAll s m args below meth c s.heap [] 0 0 (MQ below (mp_Qs (some (.int z))) args s 0 0 (fun _ => False)) (F0 m 0 ls []) := by
  obtain ⟨hx, hb, -, hml, hown, hts, -⟩ := id cx
  unfold fW_messagesInAll at h
  refine lv_iconst (v := 0) hx hb dW_messagesInAll_0 (by decide) ?_
  refine lv_istore_n (lv' := [(1, .int 0), (0, .ref (ad 0))]) hx hb dW_messagesInAll_1 rfl hl (by decide) rfl (fun ls hl => ?_)
  refine lv_iconst (v := 0) hx hb dW_messagesInAll_2 (by decide) ?_
  refine lv_istore_n (lv' := [(2, .int 0), (1, .int 0), (0, .ref (ad 0))]) hx hb dW_messagesInAll_3 rfl hl (by decide) rfl (fun ls hl => ?_)
  exact lW_messagesInAll_4 cx k ad w z hE hP hD _ 0 0 h ls (lv_sub hl [2, 1, 0] rfl)
theorem cW_messagesInAll (l : Launch) (k : KK) (ad : Nat → Nat) (w : SW) (z : Int32) (h : fW_messagesInAll w = some z) : mp_CS l k yW_messagesInAll bW_messagesInAll 4 (some .int) rmW_messagesInAll [.ref (ad 0)] (cW k ad w) (some (.int z)) := by
  refine Met.ofW (cc := bW_messagesInAll) (maxL := 4) (ret := (some .int)) (by decide) rfl ?_
  intro p e s m args below meth c s₁ B hml hv
  obtain ⟨rfl, hP, hD, hE⟩ := hv
  have hl := lv_entry ([.ref (ad 0)]) (n := 4) (Nat.le_of_ble_eq_true rfl)
  rw [lg_entry_eq]
  generalize (lg_sl ([.ref (ad 0)]) ++ List.replicate (4 - (lg_sl ([.ref (ad 0)])).length) Slot.unset).toArray = ls at hl ⊢
  exact wW_messagesInAll (mp_C.of B hml) k ad w z hE hP hD h ls hl
-- MovingPlaces$World.isThread
abbrev rmW_isThread : Room := { frames := 0, cells := 0, slots := 0, locals := 0 }
def fW_isThread (w : SW) (a1 : Int32) : Option Int32 := (if a1 < 0 then some 0 else (if w.2.2.2.2.2.2.1 ≤ a1 then some 0 else some 1))
set_option maxHeartbeats 4000000 in
set_option maxRecDepth 100000 in
theorem wW_isThread {p : Program} {l : Launch} {e : Env} {s : State} {m : MethodId} {args : Array Value} {below : List Frame} {meth : Method} {c : Code} (cx : mp_C p s m args meth c bW_isThread 2 (some .boolean) rW) (k : KK) (ad : Nat → Nat) (w : SW) (a1 : Int32) (z : Int32) (hE : mp_E k s) (hP : va_P (kD k) mp_cls (cW k ad w) s.heap) (hD : va_D (mp_N k) (cW k ad w)) (h : fW_isThread w a1 = some z) (ls : Array Slot) (hl : lv_has ls 2 [(0, .ref (ad 0)), (1, .int a1)]) : W p l e rmW_isThread s m args below meth c s.heap [] 0 0 (MQ below (mp_Qs (some (.int z))) args s 0 0 (fun _ => False)) (F0 m 0 ls []) := by
  obtain ⟨hx, hb, -, hml, hown, hts, -⟩ := id cx
  unfold fW_isThread at h
  refine lv_iload_n hx hb dW_isThread_0 rfl (lv_at hl 1 rfl) ?_
  refine lv_if_lt (tgt := 16) hx hb dW_isThread_1 (by decide) (fun c1 => ?_) (fun c1 => ?_)
  · have h := mp_t c1 h
    refine lv_iconst (v := 0) hx hb dW_isThread_16 (by decide) ?_
    exact mp_rz cx rfl h dW_isThread_17
  · have h := mp_f c1 h
    refine lv_iload_n hx hb dW_isThread_4 rfl (lv_at hl 1 rfl) ?_
    refine lv_aload_n hx hb dW_isThread_5 rfl (lv_at hl 0 rfl) ?_
    refine mp_gW cx hE hP iW 0 rfl 6 (by decide) wq_62 rfl (v := .int w.2.2.2.2.2.2.1) rfl dW_isThread_6 ?_
    refine lv_icmp_ge (tgt := 16) hx hb dW_isThread_9 (by decide) (fun c2 => ?_) (fun c2 => ?_)
    · have h := mp_t c2 h
      refine lv_iconst (v := 0) hx hb dW_isThread_16 (by decide) ?_
      exact mp_rz cx rfl h dW_isThread_17
    · have h := mp_f c2 h
      refine lv_iconst (v := 1) hx hb dW_isThread_12 (by decide) ?_
      refine lv_goto (tgt := 17) hx hb dW_isThread_13 (by decide) ?_
      exact mp_rz cx rfl h dW_isThread_17
theorem cW_isThread (l : Launch) (k : KK) (ad : Nat → Nat) (w : SW) (a1 : Int32) (z : Int32) (h : fW_isThread w a1 = some z) : mp_CS l k yW_isThread bW_isThread 2 (some .boolean) rmW_isThread [.ref (ad 0), .int a1] (cW k ad w) (some (.int z)) := by
  refine Met.ofW (cc := bW_isThread) (maxL := 2) (ret := (some .boolean)) (by decide) rfl ?_
  intro p e s m args below meth c s₁ B hml hv
  obtain ⟨rfl, hP, hD, hE⟩ := hv
  have hl := lv_entry ([.ref (ad 0), .int a1]) (n := 2) (Nat.le_of_ble_eq_true rfl)
  rw [lg_entry_eq]
  generalize (lg_sl ([.ref (ad 0), .int a1]) ++ List.replicate (2 - (lg_sl ([.ref (ad 0), .int a1])).length) Slot.unset).toArray = ls at hl ⊢
  exact wW_isThread (mp_C.of B hml) k ad w a1 z hE hP hD h ls hl
-- MovingPlaces$World.addThread
abbrev rmW_addThread : Room := { frames := 0, cells := 0, slots := 0, locals := 0 }
def fW_addThread (w : SW) (a1 : Int32) (a2 : Int64) (a4 : Int32) : Option (Int32 × SW) := (if w.2.2.2.2.2.2.1 < 12 then mp_st 12 w.2.2.2.2.2.2.1 (mp_st 12 w.2.2.2.2.2.2.1 (mp_st 12 w.2.2.2.2.2.2.1 (mp_st 12 w.2.2.2.2.2.2.1 (mp_st 12 w.2.2.2.2.2.2.1 (some (w.2.2.2.2.2.2.1, (w.1, w.2.1, w.2.2.1, w.2.2.2.1, w.2.2.2.2.1, w.2.2.2.2.2.1, (w.2.2.2.2.2.2.1 + 1), (upd w.2.2.2.2.2.2.2.1 (Int32.toNatClampNeg w.2.2.2.2.2.2.1) a1), (vp_updL w.2.2.2.2.2.2.2.2.1 (Int32.toNatClampNeg w.2.2.2.2.2.2.1) a2), (upd w.2.2.2.2.2.2.2.2.2.1 (Int32.toNatClampNeg w.2.2.2.2.2.2.1) a4), (upd w.2.2.2.2.2.2.2.2.2.2.1 (Int32.toNatClampNeg w.2.2.2.2.2.2.1) 0), (upd w.2.2.2.2.2.2.2.2.2.2.2 (Int32.toNatClampNeg w.2.2.2.2.2.2.1) (-9))))))))) else some ((-4), w))
set_option maxHeartbeats 4000000 in
set_option maxRecDepth 100000 in
theorem wW_addThread {p : Program} {l : Launch} {e : Env} {s : State} {m : MethodId} {args : Array Value} {below : List Frame} {meth : Method} {c : Code} (cx : mp_C p s m args meth c bW_addThread 6 (some .int) rW) (k : KK) (ad : Nat → Nat) (w : SW) (a1 : Int32) (a2 : Int64) (a4 : Int32) (z : (Int32 × SW)) (hE : mp_E k s) (hAN : ∀ q, mp_A (aW ad) q → mp_N k q) {H : Heap} {locs : List Loc} (hP : va_P (kD k) mp_cls (cW k ad w) H) (hD : va_D (mp_A (aW ad)) (cW k ad w)) (hS : va_S (mp_A (aW ad)) s.heap H locs) (h : fW_addThread w a1 a2 a4 = some z) (ls : Array Slot) (hl : lv_has ls 6 [(0, .ref (ad 0)), (1, .int a1), (2, .long a2), (4, .int a4)]) : W p l e rmW_addThread s m args below meth c H locs 0 0 (MQ below (mp_Qm k (some (.int z.1)) (cW k ad z.2) (aW ad)) args s 0 0 (mp_A (aW ad))) (F0 m 0 ls []) := by
  obtain ⟨hx, hb, -, hml, hown, hts, -⟩ := id cx
  unfold fW_addThread at h
  refine lv_aload_n hx hb dW_addThread_0 rfl (lv_at hl 0 rfl) ?_
  refine mp_gW cx hE hP iW 0 rfl 6 (by decide) wq_62 rfl (v := .int w.2.2.2.2.2.2.1) rfl dW_addThread_1 ?_
  refine lv_bipush (v := 12) hx hb dW_addThread_4 (by decide) ?_
  refine lv_icmp_lt (tgt := 12) hx hb dW_addThread_6 (by decide) (fun c1 => ?_) (fun c1 => ?_)
  · have h := mp_t c1 h
    refine lv_aload_n hx hb dW_addThread_12 rfl (lv_at hl 0 rfl) ?_
    refine mp_gW cx hE hP iW 0 rfl 6 (by decide) wq_62 rfl (v := .int w.2.2.2.2.2.2.1) rfl dW_addThread_13 ?_
    refine lv_istore (lv' := [(5, .int w.2.2.2.2.2.2.1), (0, .ref (ad 0)), (1, .int a1), (2, .long a2), (4, .int a4)]) hx hb dW_addThread_16 hl (by decide) rfl (fun ls hl => ?_)
    refine lv_aload_n hx hb dW_addThread_18 rfl (lv_at hl 1 rfl) ?_
    refine lv_iload hx hb dW_addThread_19 (lv_at hl 0 rfl) ?_
    refine lv_iconst (v := 1) hx hb dW_addThread_21 (by decide) ?_
    refine lv_iadd hx hb dW_addThread_22 ?_
    refine va_put (D := kD k) (ci := 0) (v := .int (w.2.2.2.2.2.2.1 + 1)) (ty := .int) (C := rW) (T := tW) (N := 12) hx hb hts iW gW gW_ok nW hown hE.1 hP hD hS 0 rfl rfl 6 (by decide) (hts _ wq_62) (fun _ h9 => h9) rfl (by decide +kernel) rfl rfl (Nat.le_of_ble_eq_true rfl) dW_addThread_23 (fun H locs hP hD hS => ?_)
    have hP : va_P (kD k) mp_cls (cW k ad (w.1, w.2.1, w.2.2.1, w.2.2.2.1, w.2.2.2.2.1, w.2.2.2.2.2.1, (w.2.2.2.2.2.2.1 + 1), w.2.2.2.2.2.2.2.1, w.2.2.2.2.2.2.2.2.1, w.2.2.2.2.2.2.2.2.2.1, w.2.2.2.2.2.2.2.2.2.2.1, w.2.2.2.2.2.2.2.2.2.2.2)) H := hP
    have hD : va_D (mp_A (aW ad)) (cW k ad (w.1, w.2.1, w.2.2.1, w.2.2.2.1, w.2.2.2.2.1, w.2.2.2.2.2.1, (w.2.2.2.2.2.2.1 + 1), w.2.2.2.2.2.2.2.1, w.2.2.2.2.2.2.2.2.1, w.2.2.2.2.2.2.2.2.2.1, w.2.2.2.2.2.2.2.2.2.2.1, w.2.2.2.2.2.2.2.2.2.2.2)) := hD
    refine lv_aload_n hx hb dW_addThread_26 rfl (lv_at hl 1 rfl) ?_
    refine mp_gW cx hE hP iW 0 rfl 7 (by decide) wq_63 rfl (v := .ref (ad 4)) rfl dW_addThread_27 ?_
    refine lv_iload hx hb dW_addThread_30 (lv_at hl 0 rfl) ?_
    refine lv_iload_n hx hb dW_addThread_32 rfl (lv_at hl 2 rfl) ?_
    obtain ⟨hi, h⟩ := mp_sts h
    refine va_iast hx hb hE.1 hP hD hS 4 0 (f := w.2.2.2.2.2.2.2.1) (n := 12) rfl rfl hi dW_addThread_33 (fun H locs hP hD hS => ?_)
    have hP : va_P (kD k) mp_cls (cW k ad (w.1, w.2.1, w.2.2.1, w.2.2.2.1, w.2.2.2.2.1, w.2.2.2.2.2.1, (w.2.2.2.2.2.2.1 + 1), (upd w.2.2.2.2.2.2.2.1 (Int32.toNatClampNeg w.2.2.2.2.2.2.1) a1), w.2.2.2.2.2.2.2.2.1, w.2.2.2.2.2.2.2.2.2.1, w.2.2.2.2.2.2.2.2.2.2.1, w.2.2.2.2.2.2.2.2.2.2.2)) H := hP
    have hD : va_D (mp_A (aW ad)) (cW k ad (w.1, w.2.1, w.2.2.1, w.2.2.2.1, w.2.2.2.2.1, w.2.2.2.2.2.1, (w.2.2.2.2.2.2.1 + 1), (upd w.2.2.2.2.2.2.2.1 (Int32.toNatClampNeg w.2.2.2.2.2.2.1) a1), w.2.2.2.2.2.2.2.2.1, w.2.2.2.2.2.2.2.2.2.1, w.2.2.2.2.2.2.2.2.2.2.1, w.2.2.2.2.2.2.2.2.2.2.2)) := hD
    refine lv_aload_n hx hb dW_addThread_34 rfl (lv_at hl 1 rfl) ?_
    refine mp_gW cx hE hP iW 0 rfl 8 (by decide) wq_64 rfl (v := .ref (ad 5)) rfl dW_addThread_35 ?_
    refine lv_iload hx hb dW_addThread_38 (lv_at hl 0 rfl) ?_
    refine lv_lload_n hx hb dW_addThread_40 rfl (lv_at hl 3 rfl) ?_
    obtain ⟨hi, h⟩ := mp_sts h
    refine va_last hx hb hE.1 hP hD hS 5 1 (f := w.2.2.2.2.2.2.2.2.1) (n := 12) rfl rfl hi dW_addThread_41 (fun H locs hP hD hS => ?_)
    have hP : va_P (kD k) mp_cls (cW k ad (w.1, w.2.1, w.2.2.1, w.2.2.2.1, w.2.2.2.2.1, w.2.2.2.2.2.1, (w.2.2.2.2.2.2.1 + 1), (upd w.2.2.2.2.2.2.2.1 (Int32.toNatClampNeg w.2.2.2.2.2.2.1) a1), (vp_updL w.2.2.2.2.2.2.2.2.1 (Int32.toNatClampNeg w.2.2.2.2.2.2.1) a2), w.2.2.2.2.2.2.2.2.2.1, w.2.2.2.2.2.2.2.2.2.2.1, w.2.2.2.2.2.2.2.2.2.2.2)) H := hP
    have hD : va_D (mp_A (aW ad)) (cW k ad (w.1, w.2.1, w.2.2.1, w.2.2.2.1, w.2.2.2.2.1, w.2.2.2.2.2.1, (w.2.2.2.2.2.2.1 + 1), (upd w.2.2.2.2.2.2.2.1 (Int32.toNatClampNeg w.2.2.2.2.2.2.1) a1), (vp_updL w.2.2.2.2.2.2.2.2.1 (Int32.toNatClampNeg w.2.2.2.2.2.2.1) a2), w.2.2.2.2.2.2.2.2.2.1, w.2.2.2.2.2.2.2.2.2.2.1, w.2.2.2.2.2.2.2.2.2.2.2)) := hD
    refine lv_aload_n hx hb dW_addThread_42 rfl (lv_at hl 1 rfl) ?_
    refine mp_gW cx hE hP iW 0 rfl 9 (by decide) wq_65 rfl (v := .ref (ad 6)) rfl dW_addThread_43 ?_
    refine lv_iload hx hb dW_addThread_46 (lv_at hl 0 rfl) ?_
    refine lv_iload hx hb dW_addThread_48 (lv_at hl 4 rfl) ?_
    obtain ⟨hi, h⟩ := mp_sts h
    refine va_iast hx hb hE.1 hP hD hS 6 0 (f := w.2.2.2.2.2.2.2.2.2.1) (n := 12) rfl rfl hi dW_addThread_50 (fun H locs hP hD hS => ?_)
    have hP : va_P (kD k) mp_cls (cW k ad (w.1, w.2.1, w.2.2.1, w.2.2.2.1, w.2.2.2.2.1, w.2.2.2.2.2.1, (w.2.2.2.2.2.2.1 + 1), (upd w.2.2.2.2.2.2.2.1 (Int32.toNatClampNeg w.2.2.2.2.2.2.1) a1), (vp_updL w.2.2.2.2.2.2.2.2.1 (Int32.toNatClampNeg w.2.2.2.2.2.2.1) a2), (upd w.2.2.2.2.2.2.2.2.2.1 (Int32.toNatClampNeg w.2.2.2.2.2.2.1) a4), w.2.2.2.2.2.2.2.2.2.2.1, w.2.2.2.2.2.2.2.2.2.2.2)) H := hP
    have hD : va_D (mp_A (aW ad)) (cW k ad (w.1, w.2.1, w.2.2.1, w.2.2.2.1, w.2.2.2.2.1, w.2.2.2.2.2.1, (w.2.2.2.2.2.2.1 + 1), (upd w.2.2.2.2.2.2.2.1 (Int32.toNatClampNeg w.2.2.2.2.2.2.1) a1), (vp_updL w.2.2.2.2.2.2.2.2.1 (Int32.toNatClampNeg w.2.2.2.2.2.2.1) a2), (upd w.2.2.2.2.2.2.2.2.2.1 (Int32.toNatClampNeg w.2.2.2.2.2.2.1) a4), w.2.2.2.2.2.2.2.2.2.2.1, w.2.2.2.2.2.2.2.2.2.2.2)) := hD
    refine lv_aload_n hx hb dW_addThread_51 rfl (lv_at hl 1 rfl) ?_
    refine mp_gW cx hE hP iW 0 rfl 10 (by decide) wq_66 rfl (v := .ref (ad 7)) rfl dW_addThread_52 ?_
    refine lv_iload hx hb dW_addThread_55 (lv_at hl 0 rfl) ?_
    refine lv_iconst (v := 0) hx hb dW_addThread_57 (by decide) ?_
    obtain ⟨hi, h⟩ := mp_sts h
    refine va_iast hx hb hE.1 hP hD hS 7 0 (f := w.2.2.2.2.2.2.2.2.2.2.1) (n := 12) rfl rfl hi dW_addThread_58 (fun H locs hP hD hS => ?_)
    have hP : va_P (kD k) mp_cls (cW k ad (w.1, w.2.1, w.2.2.1, w.2.2.2.1, w.2.2.2.2.1, w.2.2.2.2.2.1, (w.2.2.2.2.2.2.1 + 1), (upd w.2.2.2.2.2.2.2.1 (Int32.toNatClampNeg w.2.2.2.2.2.2.1) a1), (vp_updL w.2.2.2.2.2.2.2.2.1 (Int32.toNatClampNeg w.2.2.2.2.2.2.1) a2), (upd w.2.2.2.2.2.2.2.2.2.1 (Int32.toNatClampNeg w.2.2.2.2.2.2.1) a4), (upd w.2.2.2.2.2.2.2.2.2.2.1 (Int32.toNatClampNeg w.2.2.2.2.2.2.1) 0), w.2.2.2.2.2.2.2.2.2.2.2)) H := hP
    have hD : va_D (mp_A (aW ad)) (cW k ad (w.1, w.2.1, w.2.2.1, w.2.2.2.1, w.2.2.2.2.1, w.2.2.2.2.2.1, (w.2.2.2.2.2.2.1 + 1), (upd w.2.2.2.2.2.2.2.1 (Int32.toNatClampNeg w.2.2.2.2.2.2.1) a1), (vp_updL w.2.2.2.2.2.2.2.2.1 (Int32.toNatClampNeg w.2.2.2.2.2.2.1) a2), (upd w.2.2.2.2.2.2.2.2.2.1 (Int32.toNatClampNeg w.2.2.2.2.2.2.1) a4), (upd w.2.2.2.2.2.2.2.2.2.2.1 (Int32.toNatClampNeg w.2.2.2.2.2.2.1) 0), w.2.2.2.2.2.2.2.2.2.2.2)) := hD
    refine lv_aload_n hx hb dW_addThread_59 rfl (lv_at hl 1 rfl) ?_
    refine mp_gW cx hE hP iW 0 rfl 11 (by decide) wq_67 rfl (v := .ref (ad 8)) rfl dW_addThread_60 ?_
    refine lv_iload hx hb dW_addThread_63 (lv_at hl 0 rfl) ?_
    refine lv_bipush (v := (-9)) hx hb dW_addThread_65 (by decide) ?_
    obtain ⟨hi, h⟩ := mp_sts h
    refine va_iast hx hb hE.1 hP hD hS 8 0 (f := w.2.2.2.2.2.2.2.2.2.2.2) (n := 12) rfl rfl hi dW_addThread_67 (fun H locs hP hD hS => ?_)
    have hP : va_P (kD k) mp_cls (cW k ad (w.1, w.2.1, w.2.2.1, w.2.2.2.1, w.2.2.2.2.1, w.2.2.2.2.2.1, (w.2.2.2.2.2.2.1 + 1), (upd w.2.2.2.2.2.2.2.1 (Int32.toNatClampNeg w.2.2.2.2.2.2.1) a1), (vp_updL w.2.2.2.2.2.2.2.2.1 (Int32.toNatClampNeg w.2.2.2.2.2.2.1) a2), (upd w.2.2.2.2.2.2.2.2.2.1 (Int32.toNatClampNeg w.2.2.2.2.2.2.1) a4), (upd w.2.2.2.2.2.2.2.2.2.2.1 (Int32.toNatClampNeg w.2.2.2.2.2.2.1) 0), (upd w.2.2.2.2.2.2.2.2.2.2.2 (Int32.toNatClampNeg w.2.2.2.2.2.2.1) (-9)))) H := hP
    have hD : va_D (mp_A (aW ad)) (cW k ad (w.1, w.2.1, w.2.2.1, w.2.2.2.1, w.2.2.2.2.1, w.2.2.2.2.2.1, (w.2.2.2.2.2.2.1 + 1), (upd w.2.2.2.2.2.2.2.1 (Int32.toNatClampNeg w.2.2.2.2.2.2.1) a1), (vp_updL w.2.2.2.2.2.2.2.2.1 (Int32.toNatClampNeg w.2.2.2.2.2.2.1) a2), (upd w.2.2.2.2.2.2.2.2.2.1 (Int32.toNatClampNeg w.2.2.2.2.2.2.1) a4), (upd w.2.2.2.2.2.2.2.2.2.2.1 (Int32.toNatClampNeg w.2.2.2.2.2.2.1) 0), (upd w.2.2.2.2.2.2.2.2.2.2.2 (Int32.toNatClampNeg w.2.2.2.2.2.2.1) (-9)))) := hD
    refine lv_iload hx hb dW_addThread_68 (lv_at hl 0 rfl) ?_
    exact mp_rim (cf := cW k ad) cx h hP hS dW_addThread_70
  · have h := mp_f c1 h
    refine lv_bipush (v := (-4)) hx hb dW_addThread_9 (by decide) ?_
    exact mp_rim (cf := cW k ad) cx h hP hS dW_addThread_11
theorem cW_addThread (l : Launch) (k : KK) (ad : Nat → Nat) (w : SW) (a1 : Int32) (a2 : Int64) (a4 : Int32) (z : (Int32 × SW)) (h : fW_addThread w a1 a2 a4 = some z) : mp_CM l k yW_addThread bW_addThread 6 (some .int) rmW_addThread [.ref (ad 0), .int a1, .long a2, .int a4] (cW k ad w) (cW k ad z.2) (aW ad) (some (.int z.1)) := by
  refine Met.ofW (cc := bW_addThread) (maxL := 6) (ret := (some .int)) (by decide) rfl ?_
  intro p e s m args below meth c s₁ B hml hv
  obtain ⟨rfl, hP, hD, hE⟩ := hv
  have hl := lv_entry ([.ref (ad 0), .int a1, .long a2, .int a4]) (n := 6) (Nat.le_of_ble_eq_true rfl)
  rw [lg_entry_eq]
  generalize (lg_sl ([.ref (ad 0), .int a1, .long a2, .int a4]) ++ List.replicate (6 - (lg_sl ([.ref (ad 0), .int a1, .long a2, .int a4])).length) Slot.unset).toArray = ls at hl ⊢
  exact wW_addThread (mp_C.of B hml) k ad w a1 a2 a4 z hE (mp_new hD rfl) hP (mp_own hD rfl) va_S.rf h ls hl
-- MovingPlaces$World.placeOfThread
abbrev rmW_placeOfThread : Room := { frames := 1, cells := 0, slots := 0, locals := 21 }
def fW_placeOfThread (w : SW) (a1 : Int32) : Option Int32 := (fW_isThread w a1).bind fun x1 => (if x1 = 0 then some (-9) else mp_ld w.2.2.2.2.2.2.2.1 12 a1 fun x3 => some x3)
set_option maxHeartbeats 4000000 in
set_option maxRecDepth 100000 in
theorem wW_placeOfThread {p : Program} {l : Launch} {e : Env} {s : State} {m : MethodId} {args : Array Value} {below : List Frame} {meth : Method} {c : Code} (cx : mp_C p s m args meth c bW_placeOfThread 2 (some .int) rW) (k : KK) (ad : Nat → Nat) (w : SW) (a1 : Int32) (z : Int32) (hE : mp_E k s) (hP : va_P (kD k) mp_cls (cW k ad w) s.heap) (hD : va_D (mp_N k) (cW k ad w)) (h : fW_placeOfThread w a1 = some z) (ls : Array Slot) (hl : lv_has ls 2 [(0, .ref (ad 0)), (1, .int a1)]) : W p l e rmW_placeOfThread s m args below meth c s.heap [] 0 0 (MQ below (mp_Qs (some (.int z))) args s 0 0 (fun _ => False)) (F0 m 0 ls []) := by
  obtain ⟨hx, hb, -, hml, hown, hts, -⟩ := id cx
  unfold fW_placeOfThread at h
  refine lv_aload_n hx hb dW_placeOfThread_0 rfl (lv_at hl 0 rfl) ?_
  refine lv_iload_n hx hb dW_placeOfThread_1 rfl (lv_at hl 1 rfl) ?_
  obtain ⟨x1, ex1, h⟩ := mp_bs h
  refine mp_si (mp_runV (As := [.int a1]) (rest := []) cx kV_W_76 (cW_isThread l k ad w a1 x1 ex1) ⟨rfl, rfl, Nat.le_of_ble_eq_true rfl, Nat.le_of_ble_eq_true rfl⟩ ⟨Nat.zero_le _, Nat.zero_le _⟩ hE hP hD va_S.rf 0 rfl rfl rfl hl.1 rfl (Nat.le_of_ble_eq_true rfl) dW_placeOfThread_2) ?_
  refine lv_if_eq (tgt := 17) hx hb dW_placeOfThread_5 (by decide) (fun c2 => ?_) (fun c2 => ?_)
  · have h := mp_t c2 h
    refine lv_bipush (v := (-9)) hx hb dW_placeOfThread_17 (by decide) ?_
    exact mp_ri cx h dW_placeOfThread_19
  · have h := mp_f c2 h
    refine lv_aload_n hx hb dW_placeOfThread_8 rfl (lv_at hl 0 rfl) ?_
    refine mp_gW cx hE hP iW 0 rfl 7 (by decide) wq_63 rfl (v := .ref (ad 4)) rfl dW_placeOfThread_9 ?_
    refine lv_iload_n hx hb dW_placeOfThread_12 rfl (lv_at hl 1 rfl) ?_
    obtain ⟨hi, x3, ex3, h⟩ := mp_lds h
    refine va_iald hx hb hE.1 hP 4 0 (f := w.2.2.2.2.2.2.2.1) (n := 12) rfl rfl hi dW_placeOfThread_13 ?_
    refine mp_top ex3 ?_
    refine lv_goto (tgt := 19) hx hb dW_placeOfThread_14 (by decide) ?_
    exact mp_ri cx h dW_placeOfThread_19
theorem cW_placeOfThread (l : Launch) (k : KK) (ad : Nat → Nat) (w : SW) (a1 : Int32) (z : Int32) (h : fW_placeOfThread w a1 = some z) : mp_CS l k yW_placeOfThread bW_placeOfThread 2 (some .int) rmW_placeOfThread [.ref (ad 0), .int a1] (cW k ad w) (some (.int z)) := by
  refine Met.ofW (cc := bW_placeOfThread) (maxL := 2) (ret := (some .int)) (by decide) rfl ?_
  intro p e s m args below meth c s₁ B hml hv
  obtain ⟨rfl, hP, hD, hE⟩ := hv
  have hl := lv_entry ([.ref (ad 0), .int a1]) (n := 2) (Nat.le_of_ble_eq_true rfl)
  rw [lg_entry_eq]
  generalize (lg_sl ([.ref (ad 0), .int a1]) ++ List.replicate (2 - (lg_sl ([.ref (ad 0), .int a1])).length) Slot.unset).toArray = ls at hl ⊢
  exact wW_placeOfThread (mp_C.of B hml) k ad w a1 z hE hP hD h ls hl
-- MovingPlaces$World.actsDone
abbrev rmW_actsDone : Room := { frames := 1, cells := 0, slots := 0, locals := 21 }
def fW_actsDone (w : SW) (a1 : Int32) : Option Int32 := (fW_isThread w a1).bind fun x1 => (if x1 = 0 then some 0 else mp_ld w.2.2.2.2.2.2.2.2.2.2.1 12 a1 fun x3 => some x3)
set_option maxHeartbeats 4000000 in
set_option maxRecDepth 100000 in
theorem wW_actsDone {p : Program} {l : Launch} {e : Env} {s : State} {m : MethodId} {args : Array Value} {below : List Frame} {meth : Method} {c : Code} (cx : mp_C p s m args meth c bW_actsDone 2 (some .int) rW) (k : KK) (ad : Nat → Nat) (w : SW) (a1 : Int32) (z : Int32) (hE : mp_E k s) (hP : va_P (kD k) mp_cls (cW k ad w) s.heap) (hD : va_D (mp_N k) (cW k ad w)) (h : fW_actsDone w a1 = some z) (ls : Array Slot) (hl : lv_has ls 2 [(0, .ref (ad 0)), (1, .int a1)]) : W p l e rmW_actsDone s m args below meth c s.heap [] 0 0 (MQ below (mp_Qs (some (.int z))) args s 0 0 (fun _ => False)) (F0 m 0 ls []) := by
  obtain ⟨hx, hb, -, hml, hown, hts, -⟩ := id cx
  unfold fW_actsDone at h
  refine lv_aload_n hx hb dW_actsDone_0 rfl (lv_at hl 0 rfl) ?_
  refine lv_iload_n hx hb dW_actsDone_1 rfl (lv_at hl 1 rfl) ?_
  obtain ⟨x1, ex1, h⟩ := mp_bs h
  refine mp_si (mp_runV (As := [.int a1]) (rest := []) cx kV_W_76 (cW_isThread l k ad w a1 x1 ex1) ⟨rfl, rfl, Nat.le_of_ble_eq_true rfl, Nat.le_of_ble_eq_true rfl⟩ ⟨Nat.zero_le _, Nat.zero_le _⟩ hE hP hD va_S.rf 0 rfl rfl rfl hl.1 rfl (Nat.le_of_ble_eq_true rfl) dW_actsDone_2) ?_
  refine lv_if_eq (tgt := 17) hx hb dW_actsDone_5 (by decide) (fun c2 => ?_) (fun c2 => ?_)
  · have h := mp_t c2 h
    refine lv_iconst (v := 0) hx hb dW_actsDone_17 (by decide) ?_
    exact mp_ri cx h dW_actsDone_18
  · have h := mp_f c2 h
    refine lv_aload_n hx hb dW_actsDone_8 rfl (lv_at hl 0 rfl) ?_
    refine mp_gW cx hE hP iW 0 rfl 10 (by decide) wq_66 rfl (v := .ref (ad 7)) rfl dW_actsDone_9 ?_
    refine lv_iload_n hx hb dW_actsDone_12 rfl (lv_at hl 1 rfl) ?_
    obtain ⟨hi, x3, ex3, h⟩ := mp_lds h
    refine va_iald hx hb hE.1 hP 7 0 (f := w.2.2.2.2.2.2.2.2.2.2.1) (n := 12) rfl rfl hi dW_actsDone_13 ?_
    refine mp_top ex3 ?_
    refine lv_goto (tgt := 18) hx hb dW_actsDone_14 (by decide) ?_
    exact mp_ri cx h dW_actsDone_18
theorem cW_actsDone (l : Launch) (k : KK) (ad : Nat → Nat) (w : SW) (a1 : Int32) (z : Int32) (h : fW_actsDone w a1 = some z) : mp_CS l k yW_actsDone bW_actsDone 2 (some .int) rmW_actsDone [.ref (ad 0), .int a1] (cW k ad w) (some (.int z)) := by
  refine Met.ofW (cc := bW_actsDone) (maxL := 2) (ret := (some .int)) (by decide) rfl ?_
  intro p e s m args below meth c s₁ B hml hv
  obtain ⟨rfl, hP, hD, hE⟩ := hv
  have hl := lv_entry ([.ref (ad 0), .int a1]) (n := 2) (Nat.le_of_ble_eq_true rfl)
  rw [lg_entry_eq]
  generalize (lg_sl ([.ref (ad 0), .int a1]) ++ List.replicate (2 - (lg_sl ([.ref (ad 0), .int a1])).length) Slot.unset).toArray = ls at hl ⊢
  exact wW_actsDone (mp_C.of B hml) k ad w a1 z hE hP hD h ls hl
-- MovingPlaces$World.actsInAll
abbrev rmW_actsInAll : Room := { frames := 1, cells := 0, slots := 0, locals := 21 }
def fW_actsInAll (w : SW) (a1 : Int32) : Option Int32 := (fW_isThread w a1).bind fun x1 => (if x1 = 0 then some 0 else mp_ld w.2.2.2.2.2.2.2.2.2.1 12 a1 fun x3 => some x3)
set_option maxHeartbeats 4000000 in
set_option maxRecDepth 100000 in
theorem wW_actsInAll {p : Program} {l : Launch} {e : Env} {s : State} {m : MethodId} {args : Array Value} {below : List Frame} {meth : Method} {c : Code} (cx : mp_C p s m args meth c bW_actsInAll 2 (some .int) rW) (k : KK) (ad : Nat → Nat) (w : SW) (a1 : Int32) (z : Int32) (hE : mp_E k s) (hP : va_P (kD k) mp_cls (cW k ad w) s.heap) (hD : va_D (mp_N k) (cW k ad w)) (h : fW_actsInAll w a1 = some z) (ls : Array Slot) (hl : lv_has ls 2 [(0, .ref (ad 0)), (1, .int a1)]) : W p l e rmW_actsInAll s m args below meth c s.heap [] 0 0 (MQ below (mp_Qs (some (.int z))) args s 0 0 (fun _ => False)) (F0 m 0 ls []) := by
  obtain ⟨hx, hb, -, hml, hown, hts, -⟩ := id cx
  unfold fW_actsInAll at h
  refine lv_aload_n hx hb dW_actsInAll_0 rfl (lv_at hl 0 rfl) ?_
  refine lv_iload_n hx hb dW_actsInAll_1 rfl (lv_at hl 1 rfl) ?_
  obtain ⟨x1, ex1, h⟩ := mp_bs h
  refine mp_si (mp_runV (As := [.int a1]) (rest := []) cx kV_W_76 (cW_isThread l k ad w a1 x1 ex1) ⟨rfl, rfl, Nat.le_of_ble_eq_true rfl, Nat.le_of_ble_eq_true rfl⟩ ⟨Nat.zero_le _, Nat.zero_le _⟩ hE hP hD va_S.rf 0 rfl rfl rfl hl.1 rfl (Nat.le_of_ble_eq_true rfl) dW_actsInAll_2) ?_
  refine lv_if_eq (tgt := 17) hx hb dW_actsInAll_5 (by decide) (fun c2 => ?_) (fun c2 => ?_)
  · have h := mp_t c2 h
    refine lv_iconst (v := 0) hx hb dW_actsInAll_17 (by decide) ?_
    exact mp_ri cx h dW_actsInAll_18
  · have h := mp_f c2 h
    refine lv_aload_n hx hb dW_actsInAll_8 rfl (lv_at hl 0 rfl) ?_
    refine mp_gW cx hE hP iW 0 rfl 9 (by decide) wq_65 rfl (v := .ref (ad 6)) rfl dW_actsInAll_9 ?_
    refine lv_iload_n hx hb dW_actsInAll_12 rfl (lv_at hl 1 rfl) ?_
    obtain ⟨hi, x3, ex3, h⟩ := mp_lds h
    refine va_iald hx hb hE.1 hP 6 0 (f := w.2.2.2.2.2.2.2.2.2.1) (n := 12) rfl rfl hi dW_actsInAll_13 ?_
    refine mp_top ex3 ?_
    refine lv_goto (tgt := 18) hx hb dW_actsInAll_14 (by decide) ?_
    exact mp_ri cx h dW_actsInAll_18
theorem cW_actsInAll (l : Launch) (k : KK) (ad : Nat → Nat) (w : SW) (a1 : Int32) (z : Int32) (h : fW_actsInAll w a1 = some z) : mp_CS l k yW_actsInAll bW_actsInAll 2 (some .int) rmW_actsInAll [.ref (ad 0), .int a1] (cW k ad w) (some (.int z)) := by
  refine Met.ofW (cc := bW_actsInAll) (maxL := 2) (ret := (some .int)) (by decide) rfl ?_
  intro p e s m args below meth c s₁ B hml hv
  obtain ⟨rfl, hP, hD, hE⟩ := hv
  have hl := lv_entry ([.ref (ad 0), .int a1]) (n := 2) (Nat.le_of_ble_eq_true rfl)
  rw [lg_entry_eq]
  generalize (lg_sl ([.ref (ad 0), .int a1]) ++ List.replicate (2 - (lg_sl ([.ref (ad 0), .int a1])).length) Slot.unset).toArray = ls at hl ⊢
  exact wW_actsInAll (mp_C.of B hml) k ad w a1 z hE hP hD h ls hl
