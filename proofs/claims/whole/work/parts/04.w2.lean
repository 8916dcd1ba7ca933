theorem dW_heardBy_0 : decode bW_heardBy 0 = .ok (.aload_n 0, 1) := by decide +kernel
theorem dW_heardBy_1 : decode bW_heardBy 1 = .ok (.iload_n 1, 1) := by decide +kernel
theorem dW_heardBy_2 : decode bW_heardBy 2 = .ok (.invokevirtual 76, 3) := by decide +kernel
theorem dW_heardBy_5 : decode bW_heardBy 5 = .ok (.ifCond .eq 12, 3) := by decide +kernel
theorem dW_heardBy_8 : decode bW_heardBy 8 = .ok (.aload_n 0, 1) := by decide +kernel
theorem dW_heardBy_9 : decode bW_heardBy 9 = .ok (.getfield 47, 3) := by decide +kernel
theorem dW_heardBy_12 : decode bW_heardBy 12 = .ok (.iload_n 1, 1) := by decide +kernel
theorem dW_heardBy_13 : decode bW_heardBy 13 = .ok (.iaload, 1) := by decide +kernel
theorem dW_heardBy_14 : decode bW_heardBy 14 = .ok (.goto 5, 3) := by decide +kernel
theorem dW_heardBy_17 : decode bW_heardBy 17 = .ok (.bipush (-9), 2) := by decide +kernel
theorem dW_heardBy_19 : decode bW_heardBy 19 = .ok (.ireturn, 1) := by decide +kernel
theorem dW_isOver_0 : decode bW_isOver 0 = .ok (.aload_n 0, 1) := by decide +kernel
theorem dW_isOver_1 : decode bW_isOver 1 = .ok (.iload_n 1, 1) := by decide +kernel
theorem dW_isOver_2 : decode bW_isOver 2 = .ok (.invokevirtual 79, 3) := by decide +kernel
theorem dW_isOver_5 : decode bW_isOver 5 = .ok (.aload_n 0, 1) := by decide +kernel
theorem dW_isOver_6 : decode bW_isOver 6 = .ok (.iload_n 1, 1) := by decide +kernel
theorem dW_isOver_7 : decode bW_isOver 7 = .ok (.invokevirtual 82, 3) := by decide +kernel
theorem dW_isOver_10 : decode bW_isOver 10 = .ok (.if_icmp .lt 7, 3) := by decide +kernel
theorem dW_isOver_13 : decode bW_isOver 13 = .ok (.iconst 1, 1) := by decide +kernel
theorem dW_isOver_14 : decode bW_isOver 14 = .ok (.goto 4, 3) := by decide +kernel
theorem dW_isOver_17 : decode bW_isOver 17 = .ok (.iconst 0, 1) := by decide +kernel
theorem dW_isOver_18 : decode bW_isOver 18 = .ok (.ireturn, 1) := by decide +kernel
theorem dW_actOf_0 : decode bW_actOf 0 = .ok (.aload_n 0, 1) := by decide +kernel
theorem dW_actOf_1 : decode bW_actOf 1 = .ok (.iload_n 1, 1) := by decide +kernel
theorem dW_actOf_2 : decode bW_actOf 2 = .ok (.invokevirtual 82, 3) := by decide +kernel
theorem dW_actOf_5 : decode bW_actOf 5 = .ok (.iconst 1, 1) := by decide +kernel
theorem dW_actOf_6 : decode bW_actOf 6 = .ok (.isub, 1) := by decide +kernel
theorem dW_actOf_7 : decode bW_actOf 7 = .ok (.iload_n 2, 1) := by decide +kernel
theorem dW_actOf_8 : decode bW_actOf 8 = .ok (.isub, 1) := by decide +kernel
theorem dW_actOf_9 : decode bW_actOf 9 = .ok (.istore_n 3, 1) := by decide +kernel
theorem dW_actOf_10 : decode bW_actOf 10 = .ok (.aload_n 0, 1) := by decide +kernel
theorem dW_actOf_11 : decode bW_actOf 11 = .ok (.iload_n 1, 1) := by decide +kernel
theorem dW_actOf_12 : decode bW_actOf 12 = .ok (.invokevirtual 76, 3) := by decide +kernel
theorem dW_actOf_15 : decode bW_actOf 15 = .ok (.ifCond .eq 15, 3) := by decide +kernel
theorem dW_actOf_18 : decode bW_actOf 18 = .ok (.iload_n 3, 1) := by decide +kernel
theorem dW_actOf_19 : decode bW_actOf 19 = .ok (.ifCond .lt 11, 3) := by decide +kernel
theorem dW_actOf_22 : decode bW_actOf 22 = .ok (.iload_n 3, 1) := by decide +kernel
theorem dW_actOf_23 : decode bW_actOf 23 = .ok (.getstatic 85, 3) := by decide +kernel
theorem dW_actOf_26 : decode bW_actOf 26 = .ok (.arraylength, 1) := by decide +kernel
theorem dW_actOf_27 : decode bW_actOf 27 = .ok (.if_icmp .lt 5, 3) := by decide +kernel
theorem dW_actOf_30 : decode bW_actOf 30 = .ok (.iconst 0, 1) := by decide +kernel
theorem dW_actOf_31 : decode bW_actOf 31 = .ok (.ireturn, 1) := by decide +kernel
theorem dW_actOf_32 : decode bW_actOf 32 = .ok (.aload_n 0, 1) := by decide +kernel
theorem dW_actOf_33 : decode bW_actOf 33 = .ok (.getfield 37, 3) := by decide +kernel
theorem dW_actOf_36 : decode bW_actOf 36 = .ok (.iload_n 1, 1) := by decide +kernel
theorem dW_actOf_37 : decode bW_actOf 37 = .ok (.laload, 1) := by decide +kernel
theorem dW_actOf_38 : decode bW_actOf 38 = .ok (.getstatic 85, 3) := by decide +kernel
theorem dW_actOf_41 : decode bW_actOf 41 = .ok (.iload_n 3, 1) := by decide +kernel
theorem dW_actOf_42 : decode bW_actOf 42 = .ok (.laload, 1) := by decide +kernel
theorem dW_actOf_43 : decode bW_actOf 43 = .ok (.ldiv, 1) := by decide +kernel
theorem dW_actOf_44 : decode bW_actOf 44 = .ok (.ldc2_w 88, 3) := by decide +kernel
theorem dW_actOf_47 : decode bW_actOf 47 = .ok (.lrem, 1) := by decide +kernel
theorem dW_actOf_48 : decode bW_actOf 48 = .ok (.l2i, 1) := by decide +kernel
theorem dW_actOf_49 : decode bW_actOf 49 = .ok (.ireturn, 1) := by decide +kernel
theorem dW_threadsInAll_0 : decode bW_threadsInAll 0 = .ok (.aload_n 0, 1) := by decide +kernel
theorem dW_threadsInAll_1 : decode bW_threadsInAll 1 = .ok (.getfield 31, 3) := by decide +kernel
theorem dW_threadsInAll_4 : decode bW_threadsInAll 4 = .ok (.ireturn, 1) := by decide +kernel
theorem dW_threadsOver_0 : decode bW_threadsOver 0 = .ok (.iconst 0, 1) := by decide +kernel
theorem dW_threadsOver_1 : decode bW_threadsOver 1 = .ok (.istore_n 1, 1) := by decide +kernel
theorem dW_threadsOver_2 : decode bW_threadsOver 2 = .ok (.iconst 0, 1) := by decide +kernel
theorem dW_threadsOver_3 : decode bW_threadsOver 3 = .ok (.istore_n 2, 1) := by decide +kernel
theorem dW_threadsOver_4 : decode bW_threadsOver 4 = .ok (.iload_n 2, 1) := by decide +kernel
theorem dW_threadsOver_5 : decode bW_threadsOver 5 = .ok (.aload_n 0, 1) := by decide +kernel
theorem dW_threadsOver_6 : decode bW_threadsOver 6 = .ok (.getfield 31, 3) := by decide +kernel
theorem dW_threadsOver_9 : decode bW_threadsOver 9 = .ok (.if_icmp .ge 20, 3) := by decide +kernel
theorem dW_threadsOver_12 : decode bW_threadsOver 12 = .ok (.aload_n 0, 1) := by decide +kernel
theorem dW_threadsOver_13 : decode bW_threadsOver 13 = .ok (.iload_n 2, 1) := by decide +kernel
theorem dW_threadsOver_14 : decode bW_threadsOver 14 = .ok (.invokevirtual 90, 3) := by decide +kernel
theorem dW_threadsOver_17 : decode bW_threadsOver 17 = .ok (.ifCond .eq 6, 3) := by decide +kernel
theorem dW_threadsOver_20 : decode bW_threadsOver 20 = .ok (.iinc 1 1, 3) := by decide +kernel
theorem dW_threadsOver_23 : decode bW_threadsOver 23 = .ok (.iinc 2 1, 3) := by decide +kernel
theorem dW_threadsOver_26 : decode bW_threadsOver 26 = .ok (.goto (-22), 3) := by decide +kernel
theorem dW_threadsOver_29 : decode bW_threadsOver 29 = .ok (.iload_n 1, 1) := by decide +kernel
theorem dW_threadsOver_30 : decode bW_threadsOver 30 = .ok (.ireturn, 1) := by decide +kernel
theorem dW_leastUnsealed_0 : decode bW_leastUnsealed 0 = .ok (.iconst 0, 1) := by decide +kernel
theorem dW_leastUnsealed_1 : decode bW_leastUnsealed 1 = .ok (.istore 4, 2) := by decide +kernel
theorem dW_leastUnsealed_3 : decode bW_leastUnsealed 3 = .ok (.iload 4, 2) := by decide +kernel
theorem dW_leastUnsealed_5 : decode bW_leastUnsealed 5 = .ok (.aload_n 0, 1) := by decide +kernel
theorem dW_leastUnsealed_6 : decode bW_leastUnsealed 6 = .ok (.getfield 9, 3) := by decide +kernel
theorem dW_leastUnsealed_9 : decode bW_leastUnsealed 9 = .ok (.if_icmp .ge 65, 3) := by decide +kernel
theorem dW_leastUnsealed_12 : decode bW_leastUnsealed 12 = .ok (.aload_n 0, 1) := by decide +kernel
theorem dW_leastUnsealed_13 : decode bW_leastUnsealed 13 = .ok (.getfield 18, 3) := by decide +kernel
theorem dW_leastUnsealed_16 : decode bW_leastUnsealed 16 = .ok (.iload 4, 2) := by decide +kernel
theorem dW_leastUnsealed_18 : decode bW_leastUnsealed 18 = .ok (.ishr, 1) := by decide +kernel
theorem dW_leastUnsealed_19 : decode bW_leastUnsealed 19 = .ok (.iconst 1, 1) := by decide +kernel
theorem dW_leastUnsealed_20 : decode bW_leastUnsealed 20 = .ok (.iand, 1) := by decide +kernel
theorem dW_leastUnsealed_21 : decode bW_leastUnsealed 21 = .ok (.iconst 1, 1) := by decide +kernel
theorem dW_leastUnsealed_22 : decode bW_leastUnsealed 22 = .ok (.if_icmp .ne 7, 3) := by decide +kernel
theorem dW_leastUnsealed_25 : decode bW_leastUnsealed 25 = .ok (.iconst 1, 1) := by decide +kernel
theorem dW_leastUnsealed_26 : decode bW_leastUnsealed 26 = .ok (.goto 4, 3) := by decide +kernel
theorem dW_leastUnsealed_29 : decode bW_leastUnsealed 29 = .ok (.iconst 0, 1) := by decide +kernel
theorem dW_leastUnsealed_30 : decode bW_leastUnsealed 30 = .ok (.istore 5, 2) := by decide +kernel
theorem dW_leastUnsealed_32 : decode bW_leastUnsealed 32 = .ok (.iload 4, 2) := by decide +kernel
theorem dW_leastUnsealed_34 : decode bW_leastUnsealed 34 = .ok (.iload_n 3, 1) := by decide +kernel
theorem dW_leastUnsealed_35 : decode bW_leastUnsealed 35 = .ok (.if_icmp .eq 33, 3) := by decide +kernel
theorem dW_leastUnsealed_38 : decode bW_leastUnsealed 38 = .ok (.aload_n 0, 1) := by decide +kernel
theorem dW_leastUnsealed_39 : decode bW_leastUnsealed 39 = .ok (.getfield 25, 3) := by decide +kernel
theorem dW_leastUnsealed_42 : decode bW_leastUnsealed 42 = .ok (.iload 4, 2) := by decide +kernel
theorem dW_leastUnsealed_44 : decode bW_leastUnsealed 44 = .ok (.iaload, 1) := by decide +kernel
theorem dW_leastUnsealed_45 : decode bW_leastUnsealed 45 = .ok (.iload_n 1, 1) := by decide +kernel
theorem dW_leastUnsealed_46 : decode bW_leastUnsealed 46 = .ok (.if_icmp .ne 22, 3) := by decide +kernel
theorem dW_leastUnsealed_49 : decode bW_leastUnsealed 49 = .ok (.aload_n 0, 1) := by decide +kernel
theorem dW_leastUnsealed_50 : decode bW_leastUnsealed 50 = .ok (.getfield 21, 3) := by decide +kernel
theorem dW_leastUnsealed_53 : decode bW_leastUnsealed 53 = .ok (.iload 4, 2) := by decide +kernel
theorem dW_leastUnsealed_55 : decode bW_leastUnsealed 55 = .ok (.iaload, 1) := by decide +kernel
theorem dW_leastUnsealed_56 : decode bW_leastUnsealed 56 = .ok (.iload_n 2, 1) := by decide +kernel
theorem dW_leastUnsealed_57 : decode bW_leastUnsealed 57 = .ok (.if_icmp .ne 11, 3) := by decide +kernel
theorem dW_leastUnsealed_60 : decode bW_leastUnsealed 60 = .ok (.iload 5, 2) := by decide +kernel
theorem dW_leastUnsealed_62 : decode bW_leastUnsealed 62 = .ok (.ifCond .ne 6, 3) := by decide +kernel
theorem dW_leastUnsealed_65 : decode bW_leastUnsealed 65 = .ok (.iload 4, 2) := by decide +kernel
theorem dW_leastUnsealed_67 : decode bW_leastUnsealed 67 = .ok (.ireturn, 1) := by decide +kernel
theorem dW_leastUnsealed_68 : decode bW_leastUnsealed 68 = .ok (.iinc 4 1, 3) := by decide +kernel
theorem dW_leastUnsealed_71 : decode bW_leastUnsealed 71 = .ok (.goto (-68), 3) := by decide +kernel
theorem dW_leastUnsealed_74 : decode bW_leastUnsealed 74 = .ok (.bipush (-9), 2) := by decide +kernel
theorem dW_leastUnsealed_76 : decode bW_leastUnsealed 76 = .ok (.ireturn, 1) := by decide +kernel
theorem dW_unsealedAround_0 : decode bW_unsealedAround 0 = .ok (.aload_n 0, 1) := by decide +kernel
theorem dW_unsealedAround_1 : decode bW_unsealedAround 1 = .ok (.iload_n 1, 1) := by decide +kernel
theorem dW_unsealedAround_2 : decode bW_unsealedAround 2 = .ok (.invokevirtual 63, 3) := by decide +kernel
theorem dW_unsealedAround_5 : decode bW_unsealedAround 5 = .ok (.istore_n 3, 1) := by decide +kernel
theorem dW_unsealedAround_6 : decode bW_unsealedAround 6 = .ok (.aload_n 0, 1) := by decide +kernel
theorem dW_unsealedAround_7 : decode bW_unsealedAround 7 = .ok (.iload_n 3, 1) := by decide +kernel
theorem dW_unsealedAround_8 : decode bW_unsealedAround 8 = .ok (.invokevirtual 109, 3) := by decide +kernel
theorem dW_unsealedAround_11 : decode bW_unsealedAround 11 = .ok (.iload_n 2, 1) := by decide +kernel
theorem dW_unsealedAround_12 : decode bW_unsealedAround 12 = .ok (.if_icmp .ne 15, 3) := by decide +kernel
theorem dW_unsealedAround_15 : decode bW_unsealedAround 15 = .ok (.aload_n 0, 1) := by decide +kernel
theorem dW_unsealedAround_16 : decode bW_unsealedAround 16 = .ok (.iload_n 3, 1) := by decide +kernel
theorem dW_unsealedAround_17 : decode bW_unsealedAround 17 = .ok (.invokevirtual 112, 3) := by decide +kernel
theorem dW_unsealedAround_20 : decode bW_unsealedAround 20 = .ok (.ifCond .ne 7, 3) := by decide +kernel
theorem dW_unsealedAround_23 : decode bW_unsealedAround 23 = .ok (.iload_n 3, 1) := by decide +kernel
theorem dW_unsealedAround_24 : decode bW_unsealedAround 24 = .ok (.goto 5, 3) := by decide +kernel
theorem dW_unsealedAround_27 : decode bW_unsealedAround 27 = .ok (.bipush (-9), 2) := by decide +kernel
theorem dW_unsealedAround_29 : decode bW_unsealedAround 29 = .ok (.ireturn, 1) := by decide +kernel
theorem dW_leastMessage_0 : decode bW_leastMessage 0 = .ok (.iconst 0, 1) := by decide +kernel
theorem dW_leastMessage_1 : decode bW_leastMessage 1 = .ok (.istore_n 2, 1) := by decide +kernel
theorem dW_leastMessage_2 : decode bW_leastMessage 2 = .ok (.iload_n 2, 1) := by decide +kernel
theorem dW_leastMessage_3 : decode bW_leastMessage 3 = .ok (.bipush 6, 2) := by decide +kernel
theorem dW_leastMessage_5 : decode bW_leastMessage 5 = .ok (.if_icmp .ge 20, 3) := by decide +kernel
theorem dW_leastMessage_8 : decode bW_leastMessage 8 = .ok (.aload_n 0, 1) := by decide +kernel
theorem dW_leastMessage_9 : decode bW_leastMessage 9 = .ok (.iload_n 1, 1) := by decide +kernel
theorem dW_leastMessage_10 : decode bW_leastMessage 10 = .ok (.iload_n 2, 1) := by decide +kernel
theorem dW_leastMessage_11 : decode bW_leastMessage 11 = .ok (.invokevirtual 72, 3) := by decide +kernel
theorem dW_leastMessage_14 : decode bW_leastMessage 14 = .ok (.ifCond .le 5, 3) := by decide +kernel
theorem dW_leastMessage_17 : decode bW_leastMessage 17 = .ok (.iload_n 2, 1) := by decide +kernel
theorem dW_leastMessage_18 : decode bW_leastMessage 18 = .ok (.ireturn, 1) := by decide +kernel
theorem dW_leastMessage_19 : decode bW_leastMessage 19 = .ok (.iinc 2 1, 3) := by decide +kernel
theorem dW_leastMessage_22 : decode bW_leastMessage 22 = .ok (.goto (-20), 3) := by decide +kernel
theorem dW_leastMessage_25 : decode bW_leastMessage 25 = .ok (.bipush (-9), 2) := by decide +kernel
theorem dW_leastMessage_27 : decode bW_leastMessage 27 = .ok (.ireturn, 1) := by decide +kernel
theorem dW_aimOf_0 : decode bW_aimOf 0 = .ok (.aload_n 0, 1) := by decide +kernel
theorem dW_aimOf_1 : decode bW_aimOf 1 = .ok (.iload_n 1, 1) := by decide +kernel
theorem dW_aimOf_2 : decode bW_aimOf 2 = .ok (.invokevirtual 76, 3) := by decide +kernel
theorem dW_aimOf_5 : decode bW_aimOf 5 = .ok (.ifCond .eq 11, 3) := by decide +kernel
theorem dW_aimOf_8 : decode bW_aimOf 8 = .ok (.aload_n 0, 1) := by decide +kernel
theorem dW_aimOf_9 : decode bW_aimOf 9 = .ok (.iload_n 1, 1) := by decide +kernel
theorem dW_aimOf_10 : decode bW_aimOf 10 = .ok (.invokevirtual 90, 3) := by decide +kernel
theorem dW_aimOf_13 : decode bW_aimOf 13 = .ok (.ifCond .eq 6, 3) := by decide +kernel
theorem dW_aimOf_16 : decode bW_aimOf 16 = .ok (.bipush (-9), 2) := by decide +kernel
theorem dW_aimOf_18 : decode bW_aimOf 18 = .ok (.ireturn, 1) := by decide +kernel
theorem dW_aimOf_19 : decode bW_aimOf 19 = .ok (.aload_n 0, 1) := by decide +kernel
theorem dW_aimOf_20 : decode bW_aimOf 20 = .ok (.getfield 34, 3) := by decide +kernel
theorem dW_aimOf_23 : decode bW_aimOf 23 = .ok (.iload_n 1, 1) := by decide +kernel
theorem dW_aimOf_24 : decode bW_aimOf 24 = .ok (.iaload, 1) := by decide +kernel
theorem dW_aimOf_25 : decode bW_aimOf 25 = .ok (.istore_n 2, 1) := by decide +kernel
theorem dW_aimOf_26 : decode bW_aimOf 26 = .ok (.aload_n 0, 1) := by decide +kernel
theorem dW_aimOf_27 : decode bW_aimOf 27 = .ok (.iload_n 1, 1) := by decide +kernel
theorem dW_aimOf_28 : decode bW_aimOf 28 = .ok (.aload_n 0, 1) := by decide +kernel
theorem dW_aimOf_29 : decode bW_aimOf 29 = .ok (.getfield 44, 3) := by decide +kernel
theorem dW_aimOf_32 : decode bW_aimOf 32 = .ok (.iload_n 1, 1) := by decide +kernel
theorem dW_aimOf_33 : decode bW_aimOf 33 = .ok (.iaload, 1) := by decide +kernel
theorem dW_aimOf_34 : decode bW_aimOf 34 = .ok (.invokevirtual 96, 3) := by decide +kernel
theorem dW_aimOf_37 : decode bW_aimOf 37 = .ok (.istore_n 3, 1) := by decide +kernel
theorem dW_aimOf_38 : decode bW_aimOf 38 = .ok (.iload_n 3, 1) := by decide +kernel
theorem dW_aimOf_39 : decode bW_aimOf 39 = .ok (.bipush 10, 2) := by decide +kernel
theorem dW_aimOf_41 : decode bW_aimOf 41 = .ok (.irem, 1) := by decide +kernel
theorem dW_aimOf_42 : decode bW_aimOf 42 = .ok (.bipush 9, 2) := by decide +kernel
theorem dW_aimOf_44 : decode bW_aimOf 44 = .ok (.if_icmp .ne 12, 3) := by decide +kernel
theorem dW_aimOf_47 : decode bW_aimOf 47 = .ok (.aload_n 0, 1) := by decide +kernel
theorem dW_aimOf_48 : decode bW_aimOf 48 = .ok (.getfield 47, 3) := by decide +kernel
theorem dW_aimOf_51 : decode bW_aimOf 51 = .ok (.iload_n 1, 1) := by decide +kernel
theorem dW_aimOf_52 : decode bW_aimOf 52 = .ok (.iaload, 1) := by decide +kernel
theorem dW_aimOf_53 : decode bW_aimOf 53 = .ok (.goto 7, 3) := by decide +kernel
theorem dW_aimOf_56 : decode bW_aimOf 56 = .ok (.iload_n 3, 1) := by decide +kernel
theorem dW_aimOf_57 : decode bW_aimOf 57 = .ok (.bipush 10, 2) := by decide +kernel
theorem dW_aimOf_59 : decode bW_aimOf 59 = .ok (.irem, 1) := by decide +kernel
theorem dW_aimOf_60 : decode bW_aimOf 60 = .ok (.istore 4, 2) := by decide +kernel
theorem dW_aimOf_62 : decode bW_aimOf 62 = .ok (.iload 4, 2) := by decide +kernel
theorem dW_aimOf_64 : decode bW_aimOf 64 = .ok (.bipush (-9), 2) := by decide +kernel
theorem dW_aimOf_66 : decode bW_aimOf 66 = .ok (.if_icmp .ne 6, 3) := by decide +kernel
theorem dW_aimOf_69 : decode bW_aimOf 69 = .ok (.bipush (-9), 2) := by decide +kernel
theorem dW_aimOf_71 : decode bW_aimOf 71 = .ok (.ireturn, 1) := by decide +kernel
theorem dW_aimOf_72 : decode bW_aimOf 72 = .ok (.iload_n 3, 1) := by decide +kernel
theorem dW_aimOf_73 : decode bW_aimOf 73 = .ok (.bipush 10, 2) := by decide +kernel
theorem dW_aimOf_75 : decode bW_aimOf 75 = .ok (.idiv, 1) := by decide +kernel
theorem dW_aimOf_76 : decode bW_aimOf 76 = .ok (.tableswitch 85 1 5 #[36, 58, 66, 76, 79], 36) := by decide +kernel
theorem dW_aimOf_112 : decode bW_aimOf 112 = .ok (.iload_n 2, 1) := by decide +kernel
theorem dW_aimOf_113 : decode bW_aimOf 113 = .ok (.ifCond .ne 8, 3) := by decide +kernel
theorem dW_aimOf_116 : decode bW_aimOf 116 = .ok (.bipush (-9), 2) := by decide +kernel
theorem dW_aimOf_118 : decode bW_aimOf 118 = .ok (.goto 15, 3) := by decide +kernel
theorem dW_aimOf_121 : decode bW_aimOf 121 = .ok (.aload_n 0, 1) := by decide +kernel
theorem dW_aimOf_122 : decode bW_aimOf 122 = .ok (.aload_n 0, 1) := by decide +kernel
theorem dW_aimOf_123 : decode bW_aimOf 123 = .ok (.iload_n 2, 1) := by decide +kernel
theorem dW_aimOf_124 : decode bW_aimOf 124 = .ok (.invokevirtual 63, 3) := by decide +kernel
theorem dW_aimOf_127 : decode bW_aimOf 127 = .ok (.iload 4, 2) := by decide +kernel
theorem dW_aimOf_129 : decode bW_aimOf 129 = .ok (.iload_n 2, 1) := by decide +kernel
theorem dW_aimOf_130 : decode bW_aimOf 130 = .ok (.invokevirtual 99, 3) := by decide +kernel
theorem dW_aimOf_133 : decode bW_aimOf 133 = .ok (.ireturn, 1) := by decide +kernel
theorem dW_aimOf_134 : decode bW_aimOf 134 = .ok (.aload_n 0, 1) := by decide +kernel
theorem dW_aimOf_135 : decode bW_aimOf 135 = .ok (.iload_n 2, 1) := by decide +kernel
theorem dW_aimOf_136 : decode bW_aimOf 136 = .ok (.iload 4, 2) := by decide +kernel
theorem dW_aimOf_138 : decode bW_aimOf 138 = .ok (.invokevirtual 103, 3) := by decide +kernel
theorem dW_aimOf_141 : decode bW_aimOf 141 = .ok (.ireturn, 1) := by decide +kernel
theorem dW_aimOf_142 : decode bW_aimOf 142 = .ok (.aload_n 0, 1) := by decide +kernel
theorem dW_aimOf_143 : decode bW_aimOf 143 = .ok (.iload_n 2, 1) := by decide +kernel
theorem dW_aimOf_144 : decode bW_aimOf 144 = .ok (.iload 4, 2) := by decide +kernel
theorem dW_aimOf_146 : decode bW_aimOf 146 = .ok (.bipush (-9), 2) := by decide +kernel
theorem dW_aimOf_148 : decode bW_aimOf 148 = .ok (.invokevirtual 99, 3) := by decide +kernel
theorem dW_aimOf_151 : decode bW_aimOf 151 = .ok (.ireturn, 1) := by decide +kernel
theorem dW_aimOf_152 : decode bW_aimOf 152 = .ok (.iload 4, 2) := by decide +kernel
theorem dW_aimOf_154 : decode bW_aimOf 154 = .ok (.ireturn, 1) := by decide +kernel
theorem dW_aimOf_155 : decode bW_aimOf 155 = .ok (.aload_n 0, 1) := by decide +kernel
theorem dW_aimOf_156 : decode bW_aimOf 156 = .ok (.iload_n 2, 1) := by decide +kernel
theorem dW_aimOf_157 : decode bW_aimOf 157 = .ok (.invokevirtual 106, 3) := by decide +kernel
theorem dW_aimOf_160 : decode bW_aimOf 160 = .ok (.ireturn, 1) := by decide +kernel
theorem dW_aimOf_161 : decode bW_aimOf 161 = .ok (.bipush (-9), 2) := by decide +kernel
theorem dW_aimOf_163 : decode bW_aimOf 163 = .ok (.ireturn, 1) := by decide +kernel
theorem dW_threadsThatCan_0 : decode bW_threadsThatCan 0 = .ok (.iconst 0, 1) := by decide +kernel
theorem dW_threadsThatCan_1 : decode bW_threadsThatCan 1 = .ok (.istore_n 1, 1) := by decide +kernel
theorem dW_threadsThatCan_2 : decode bW_threadsThatCan 2 = .ok (.iconst 0, 1) := by decide +kernel
theorem dW_threadsThatCan_3 : decode bW_threadsThatCan 3 = .ok (.istore_n 2, 1) := by decide +kernel
theorem dW_threadsThatCan_4 : decode bW_threadsThatCan 4 = .ok (.iload_n 2, 1) := by decide +kernel
theorem dW_threadsThatCan_5 : decode bW_threadsThatCan 5 = .ok (.aload_n 0, 1) := by decide +kernel
theorem dW_threadsThatCan_6 : decode bW_threadsThatCan 6 = .ok (.getfield 31, 3) := by decide +kernel
theorem dW_threadsThatCan_9 : decode bW_threadsThatCan 9 = .ok (.if_icmp .ge 25, 3) := by decide +kernel
theorem dW_threadsThatCan_12 : decode bW_threadsThatCan 12 = .ok (.aload_n 0, 1) := by decide +kernel
theorem dW_threadsThatCan_13 : decode bW_threadsThatCan 13 = .ok (.iload_n 2, 1) := by decide +kernel
theorem dW_threadsThatCan_14 : decode bW_threadsThatCan 14 = .ok (.invokevirtual 93, 3) := by decide +kernel
theorem dW_threadsThatCan_17 : decode bW_threadsThatCan 17 = .ok (.bipush (-9), 2) := by decide +kernel
theorem dW_threadsThatCan_19 : decode bW_threadsThatCan 19 = .ok (.if_icmp .eq 9, 3) := by decide +kernel
theorem dW_threadsThatCan_22 : decode bW_threadsThatCan 22 = .ok (.iload_n 1, 1) := by decide +kernel
theorem dW_threadsThatCan_23 : decode bW_threadsThatCan 23 = .ok (.iconst 1, 1) := by decide +kernel
theorem dW_threadsThatCan_24 : decode bW_threadsThatCan 24 = .ok (.iload_n 2, 1) := by decide +kernel
theorem dW_threadsThatCan_25 : decode bW_threadsThatCan 25 = .ok (.ishl, 1) := by decide +kernel
theorem dW_threadsThatCan_26 : decode bW_threadsThatCan 26 = .ok (.ior, 1) := by decide +kernel
theorem dW_threadsThatCan_27 : decode bW_threadsThatCan 27 = .ok (.istore_n 1, 1) := by decide +kernel
theorem dW_threadsThatCan_28 : decode bW_threadsThatCan 28 = .ok (.iinc 2 1, 3) := by decide +kernel
theorem dW_threadsThatCan_31 : decode bW_threadsThatCan 31 = .ok (.goto (-27), 3) := by decide +kernel
theorem dW_threadsThatCan_34 : decode bW_threadsThatCan 34 = .ok (.iload_n 1, 1) := by decide +kernel
theorem dW_threadsThatCan_35 : decode bW_threadsThatCan 35 = .ok (.ireturn, 1) := by decide +kernel
theorem dW_putInto_0 : decode bW_putInto 0 = .ok (.aload_n 0, 1) := by decide +kernel
theorem dW_putInto_1 : decode bW_putInto 1 = .ok (.iload_n 1, 1) := by decide +kernel
theorem dW_putInto_2 : decode bW_putInto 2 = .ok (.invokevirtual 56, 3) := by decide +kernel
theorem dW_putInto_5 : decode bW_putInto 5 = .ok (.ifCond .eq 18, 3) := by decide +kernel
theorem dW_putInto_8 : decode bW_putInto 8 = .ok (.aload_n 0, 1) := by decide +kernel
theorem dW_putInto_9 : decode bW_putInto 9 = .ok (.iload_n 2, 1) := by decide +kernel
theorem dW_putInto_10 : decode bW_putInto 10 = .ok (.invokevirtual 56, 3) := by decide +kernel
theorem dW_putInto_13 : decode bW_putInto 13 = .ok (.ifCond .eq 10, 3) := by decide +kernel
theorem dW_putInto_16 : decode bW_putInto 16 = .ok (.aload_n 0, 1) := by decide +kernel
theorem dW_putInto_17 : decode bW_putInto 17 = .ok (.getfield 25, 3) := by decide +kernel
theorem dW_putInto_20 : decode bW_putInto 20 = .ok (.iload_n 1, 1) := by decide +kernel
theorem dW_putInto_21 : decode bW_putInto 21 = .ok (.iload_n 2, 1) := by decide +kernel
theorem dW_putInto_22 : decode bW_putInto 22 = .ok (.iastore, 1) := by decide +kernel
theorem dW_putInto_23 : decode bW_putInto 23 = .ok (.return_, 1) := by decide +kernel
theorem wq_222 : Cond.methodLink rW 79 yW_actsDone ∈ wT := wT_in 222 rfl rfl
theorem wq_207 : Cond.instanceMethod yW_actsDone ∈ wT := wT_in 207 rfl rfl
theorem wq_208 : Cond.selects rW yW_actsDone yW_actsDone ∈ wT := wT_in 208 rfl rfl
theorem wq_209 : Cond.code yW_actsDone bW_actsDone 2 (some .int) ∈ wT := wT_in 209 rfl rfl
theorem kV_W_79 : mp_V rW 79 yW_actsDone bW_actsDone 2 (some .int) 1 := ⟨wq_222, wq_207, wq_208, wq_38, wq_209, ⟨by decide, by decide, by decide +kernel⟩⟩
theorem wq_223 : Cond.methodLink rW 82 yW_actsInAll ∈ wT := wT_in 223 rfl rfl
theorem wq_211 : Cond.instanceMethod yW_actsInAll ∈ wT := wT_in 211 rfl rfl
theorem wq_212 : Cond.selects rW yW_actsInAll yW_actsInAll ∈ wT := wT_in 212 rfl rfl
theorem wq_213 : Cond.code yW_actsInAll bW_actsInAll 2 (some .int) ∈ wT := wT_in 213 rfl rfl
theorem kV_W_82 : mp_V rW 82 yW_actsInAll bW_actsInAll 2 (some .int) 1 := ⟨wq_223, wq_211, wq_212, wq_38, wq_213, ⟨by decide, by decide, by decide +kernel⟩⟩
theorem wq_230 : Cond.constantLong rW 88 100 ∈ wT := wT_in 230 rfl rfl
theorem wq_251 : Cond.methodLink rW 90 yW_isOver ∈ wT := wT_in 251 rfl rfl
theorem wq_219 : Cond.instanceMethod yW_isOver ∈ wT := wT_in 219 rfl rfl
theorem wq_220 : Cond.selects rW yW_isOver yW_isOver ∈ wT := wT_in 220 rfl rfl
theorem wq_221 : Cond.code yW_isOver bW_isOver 2 (some .boolean) ∈ wT := wT_in 221 rfl rfl
theorem kV_W_90 : mp_V rW 90 yW_isOver bW_isOver 2 (some .boolean) 1 := ⟨wq_251, wq_219, wq_220, wq_38, wq_221, ⟨by decide, by decide, by decide +kernel⟩⟩
theorem wq_261 : Cond.methodLink rW 109 yW_nameOf ∈ wT := wT_in 261 rfl rfl
theorem wq_173 : Cond.instanceMethod yW_nameOf ∈ wT := wT_in 173 rfl rfl
theorem wq_174 : Cond.selects rW yW_nameOf yW_nameOf ∈ wT := wT_in 174 rfl rfl
theorem wq_175 : Cond.code yW_nameOf bW_nameOf 2 (some .int) ∈ wT := wT_in 175 rfl rfl
theorem kV_W_109 : mp_V rW 109 yW_nameOf bW_nameOf 2 (some .int) 1 := ⟨wq_261, wq_173, wq_174, wq_38, wq_175, ⟨by decide, by decide, by decide +kernel⟩⟩
theorem wq_262 : Cond.methodLink rW 112 yW_isSealed ∈ wT := wT_in 262 rfl rfl
theorem wq_147 : Cond.instanceMethod yW_isSealed ∈ wT := wT_in 147 rfl rfl
theorem wq_148 : Cond.selects rW yW_isSealed yW_isSealed ∈ wT := wT_in 148 rfl rfl
theorem wq_149 : Cond.code yW_isSealed bW_isSealed 2 (some .boolean) ∈ wT := wT_in 149 rfl rfl
theorem kV_W_112 : mp_V rW 112 yW_isSealed bW_isSealed 2 (some .boolean) 1 := ⟨wq_262, wq_147, wq_148, wq_38, wq_149, ⟨by decide, by decide, by decide +kernel⟩⟩
theorem wq_252 : Cond.methodLink rW 96 yW_actOf ∈ wT := wT_in 252 rfl rfl
theorem wq_225 : Cond.instanceMethod yW_actOf ∈ wT := wT_in 225 rfl rfl
theorem wq_226 : Cond.selects rW yW_actOf yW_actOf ∈ wT := wT_in 226 rfl rfl
theorem wq_227 : Cond.code yW_actOf bW_actOf 4 (some .int) ∈ wT := wT_in 227 rfl rfl
theorem kV_W_96 : mp_V rW 96 yW_actOf bW_actOf 4 (some .int) 2 := ⟨wq_252, wq_225, wq_226, wq_38, wq_227, ⟨by decide, by decide, by decide +kernel⟩⟩
theorem wq_253 : Cond.methodLink rW 99 yW_leastUnsealed ∈ wT := wT_in 253 rfl rfl
theorem wq_255 : Cond.instanceMethod yW_leastUnsealed ∈ wT := wT_in 255 rfl rfl
theorem wq_0 : Cond.selects rW yW_leastUnsealed yW_leastUnsealed ∈ wT := wT_in 0 rfl rfl
theorem wq_256 : Cond.code yW_leastUnsealed bW_leastUnsealed 6 (some .int) ∈ wT := wT_in 256 rfl rfl
theorem kV_W_99 : mp_V rW 99 yW_leastUnsealed bW_leastUnsealed 6 (some .int) 3 := ⟨wq_253, wq_255, wq_0, wq_38, wq_256, ⟨by decide, by decide, by decide +kernel⟩⟩
theorem wq_257 : Cond.methodLink rW 103 yW_unsealedAround ∈ wT := wT_in 257 rfl rfl
theorem wq_259 : Cond.instanceMethod yW_unsealedAround ∈ wT := wT_in 259 rfl rfl
theorem wq_1 : Cond.selects rW yW_unsealedAround yW_unsealedAround ∈ wT := wT_in 1 rfl rfl
theorem wq_260 : Cond.code yW_unsealedAround bW_unsealedAround 4 (some .int) ∈ wT := wT_in 260 rfl rfl
theorem kV_W_103 : mp_V rW 103 yW_unsealedAround bW_unsealedAround 4 (some .int) 2 := ⟨wq_257, wq_259, wq_1, wq_38, wq_260, ⟨by decide, by decide, by decide +kernel⟩⟩
theorem wq_263 : Cond.methodLink rW 106 yW_leastMessage ∈ wT := wT_in 263 rfl rfl
theorem wq_265 : Cond.instanceMethod yW_leastMessage ∈ wT := wT_in 265 rfl rfl
theorem wq_2 : Cond.selects rW yW_leastMessage yW_leastMessage ∈ wT := wT_in 2 rfl rfl
theorem wq_266 : Cond.code yW_leastMessage bW_leastMessage 3 (some .int) ∈ wT := wT_in 266 rfl rfl
theorem kV_W_106 : mp_V rW 106 yW_leastMessage bW_leastMessage 3 (some .int) 1 := ⟨wq_263, wq_265, wq_2, wq_38, wq_266, ⟨by decide, by decide, by decide +kernel⟩⟩
theorem wq_247 : Cond.methodLink rW 93 yW_aimOf ∈ wT := wT_in 247 rfl rfl
theorem wq_248 : Cond.instanceMethod yW_aimOf ∈ wT := wT_in 248 rfl rfl
theorem wq_249 : Cond.selects rW yW_aimOf yW_aimOf ∈ wT := wT_in 249 rfl rfl
theorem wq_250 : Cond.code yW_aimOf bW_aimOf 5 (some .int) ∈ wT := wT_in 250 rfl rfl
theorem kV_W_93 : mp_V rW 93 yW_aimOf bW_aimOf 5 (some .int) 1 := ⟨wq_247, wq_248, wq_249, wq_38, wq_250, ⟨by decide, by decide, by decide +kernel⟩⟩
-- MovingPlaces$World.heardBy
abbrev rmW_heardBy : Room := { frames := 1, cells := 0, slots := 0, locals := 21 }
def fW_heardBy (w : SW) (a1 : Int32) : Option Int32 := (fW_isThread w a1).bind fun x1 => (if x1 = 0 then some (-9) else mp_ld w.2.2.2.2.2.2.2.2.2.2.2 12 a1 fun x3 => some x3)
set_option maxHeartbeats 4000000 in
set_option maxRecDepth 100000 in
theorem wW_heardBy {p : Program} {l : Launch} {e : Env} {s : State} {m : MethodId} {args : Array Value} {below : List Frame} {meth : Method} {c : Code} (cx : mp_C p s m args meth c bW_heardBy 2 (some .int) rW) (k : KK) (ad : Nat → Nat) (w : SW) (a1 : Int32) (z : Int32) (hE : mp_E k s) (hP : va_P (kD k) mp_cls (cW k ad w) s.heap) (hD : va_D (mp_N k) (cW k ad w)) (h : fW_heardBy w a1 = some z) (ls : Array Slot) (hl : lv_has ls 2 [(0, .ref (ad 0)), (1, .int a1)]) : W p l e rmW_heardBy s m args below meth c s.heap [] 0 0 (MQ below (mp_Qs (some (.int z))) args s 0 0 (fun _ => False)) (F0 m 0 ls []) := by
  obtain ⟨hx, hb, -, hml, hown, hts, -⟩ := id cx
  unfold fW_heardBy at h
  refine lv_aload_n hx hb dW_heardBy_0 rfl (lv_at hl 0 rfl) ?_
  refine lv_iload_n hx hb dW_heardBy_1 rfl (lv_at hl 1 rfl) ?_
  obtain ⟨x1, ex1, h⟩ := mp_bs h
  refine mp_si (mp_runV (As := [.int a1]) (rest := []) cx kV_W_76 (cW_isThread l k ad w a1 x1 ex1) ⟨rfl, rfl, Nat.le_of_ble_eq_true rfl, Nat.le_of_ble_eq_true rfl⟩ ⟨Nat.zero_le _, Nat.zero_le _⟩ hE hP hD va_S.rf 0 rfl rfl rfl hl.1 rfl (Nat.le_of_ble_eq_true rfl) dW_heardBy_2) ?_
  refine lv_if_eq (tgt := 17) hx hb dW_heardBy_5 (by decide) (fun c2 => ?_) (fun c2 => ?_)
  · have h := mp_t c2 h
    refine lv_bipush (v := (-9)) hx hb dW_heardBy_17 (by decide) ?_
    exact mp_ri cx h dW_heardBy_19
  · have h := mp_f c2 h
    refine lv_aload_n hx hb dW_heardBy_8 rfl (lv_at hl 0 rfl) ?_
    refine mp_gW cx hE hP iW 0 rfl 11 (by decide) wq_67 rfl (v := .ref (ad 8)) rfl dW_heardBy_9 ?_
    refine lv_iload_n hx hb dW_heardBy_12 rfl (lv_at hl 1 rfl) ?_
    obtain ⟨hi, x3, ex3, h⟩ := mp_lds h
    refine va_iald hx hb hE.1 hP 8 0 (f := w.2.2.2.2.2.2.2.2.2.2.2) (n := 12) rfl rfl hi dW_heardBy_13 ?_
    refine mp_top ex3 ?_
    refine lv_goto (tgt := 19) hx hb dW_heardBy_14 (by decide) ?_
    exact mp_ri cx h dW_heardBy_19
theorem cW_heardBy (l : Launch) (k : KK) (ad : Nat → Nat) (w : SW) (a1 : Int32) (z : Int32) (h : fW_heardBy w a1 = some z) : mp_CS l k yW_heardBy bW_heardBy 2 (some .int) rmW_heardBy [.ref (ad 0), .int a1] (cW k ad w) (some (.int z)) := by
  refine Met.ofW (cc := bW_heardBy) (maxL := 2) (ret := (some .int)) (by decide) rfl ?_
  intro p e s m args below meth c s₁ B hml hv
  obtain ⟨rfl, hP, hD, hE⟩ := hv
  have hl := lv_entry ([.ref (ad 0), .int a1]) (n := 2) (Nat.le_of_ble_eq_true rfl)
  rw [lg_entry_eq]
  generalize (lg_sl ([.ref (ad 0), .int a1]) ++ List.replicate (2 - (lg_sl ([.ref (ad 0), .int a1])).length) Slot.unset).toArray = ls at hl ⊢
  exact wW_heardBy (mp_C.of B hml) k ad w a1 z hE hP hD h ls hl
-- MovingPlaces$World.isOver
abbrev rmW_isOver : Room := { frames := 2, cells := 0, slots := 0, locals := 42 }
def fW_isOver (w : SW) (a1 : Int32) : Option Int32 := (fW_actsDone w a1).bind fun x1 => (fW_actsInAll w a1).bind fun x2 => (if x1 < x2 then some 0 else some 1)
set_option maxHeartbeats 4000000 in
set_option maxRecDepth 100000 in
theorem wW_isOver {p : Program} {l : Launch} {e : Env} {s : State} {m : MethodId} {args : Array Value} {below : List Frame} {meth : Method} {c : Code} (cx : mp_C p s m args meth c bW_isOver 2 (some .boolean) rW) (k : KK) (ad : Nat → Nat) (w : SW) (a1 : Int32) (z : Int32) (hE : mp_E k s) (hP : va_P (kD k) mp_cls (cW k ad w) s.heap) (hD : va_D (mp_N k) (cW k ad w)) (h : fW_isOver w a1 = some z) (ls : Array Slot) (hl : lv_has ls 2 [(0, .ref (ad 0)), (1, .int a1)]) : W p l e rmW_isOver s m args below meth c s.heap [] 0 0 (MQ below (mp_Qs (some (.int z))) args s 0 0 (fun _ => False)) (F0 m 0 ls []) := by
  obtain ⟨hx, hb, -, hml, hown, hts, -⟩ := id cx
  unfold fW_isOver at h
  refine lv_aload_n hx hb dW_isOver_0 rfl (lv_at hl 0 rfl) ?_
  refine lv_iload_n hx hb dW_isOver_1 rfl (lv_at hl 1 rfl) ?_
  obtain ⟨x1, ex1, h⟩ := mp_bs h
  refine mp_si (mp_runV (As := [.int a1]) (rest := []) cx kV_W_79 (cW_actsDone l k ad w a1 x1 ex1) ⟨rfl, rfl, Nat.le_of_ble_eq_true rfl, Nat.le_of_ble_eq_true rfl⟩ ⟨Nat.zero_le _, Nat.zero_le _⟩ hE hP hD va_S.rf 0 rfl rfl rfl hl.1 rfl (Nat.le_of_ble_eq_true rfl) dW_isOver_2) ?_
  refine lv_aload_n hx hb dW_isOver_5 rfl (lv_at hl 0 rfl) ?_
  refine lv_iload_n hx hb dW_isOver_6 rfl (lv_at hl 1 rfl) ?_
  obtain ⟨x2, ex2, h⟩ := mp_bs h
  refine mp_si (mp_runV (As := [.int a1]) (rest := [.int x1]) cx kV_W_82 (cW_actsInAll l k ad w a1 x2 ex2) ⟨rfl, rfl, Nat.le_of_ble_eq_true rfl, Nat.le_of_ble_eq_true rfl⟩ ⟨Nat.zero_le _, Nat.zero_le _⟩ hE hP hD va_S.rf 0 rfl rfl rfl hl.1 rfl (Nat.le_of_ble_eq_true rfl) dW_isOver_7) ?_
  refine lv_icmp_lt (tgt := 17) hx hb dW_isOver_10 (by decide) (fun c3 => ?_) (fun c3 => ?_)
  · have h := mp_t c3 h
    refine lv_iconst (v := 0) hx hb dW_isOver_17 (by decide) ?_
    exact mp_rz cx rfl h dW_isOver_18
  · have h := mp_f c3 h
    refine lv_iconst (v := 1) hx hb dW_isOver_13 (by decide) ?_
    refine lv_goto (tgt := 18) hx hb dW_isOver_14 (by decide) ?_
    exact mp_rz cx rfl h dW_isOver_18
theorem cW_isOver (l : Launch) (k : KK) (ad : Nat → Nat) (w : SW) (a1 : Int32) (z : Int32) (h : fW_isOver w a1 = some z) : mp_CS l k yW_isOver bW_isOver 2 (some .boolean) rmW_isOver [.ref (ad 0), .int a1] (cW k ad w) (some (.int z)) := by
  refine Met.ofW (cc := bW_isOver) (maxL := 2) (ret := (some .boolean)) (by decide) rfl ?_
  intro p e s m args below meth c s₁ B hml hv
  obtain ⟨rfl, hP, hD, hE⟩ := hv
  have hl := lv_entry ([.ref (ad 0), .int a1]) (n := 2) (Nat.le_of_ble_eq_true rfl)
  rw [lg_entry_eq]
  generalize (lg_sl ([.ref (ad 0), .int a1]) ++ List.replicate (2 - (lg_sl ([.ref (ad 0), .int a1])).length) Slot.unset).toArray = ls at hl ⊢
  exact wW_isOver (mp_C.of B hml) k ad w a1 z hE hP hD h ls hl
-- MovingPlaces$World.actOf
abbrev rmW_actOf : Room := { frames := 2, cells := 0, slots := 0, locals := 42 }
def fW_actOf (w : SW) (a1 : Int32) (a2 : Int32) : Option Int32 := (fW_actsInAll w a1).bind fun x1 => (fW_isThread w a1).bind fun x2 => (if x2 = 0 then some 0 else (if ((x1 - 1) - a2) < 0 then some 0 else (if ((x1 - 1) - a2) < 6 then mp_ld w.2.2.2.2.2.2.2.2.1 12 a1 fun x6 => mp_st 6 ((x1 - 1) - a2) (mp_nzl (mp_wt (Int32.toNatClampNeg ((x1 - 1) - a2))) (some (Int64.toInt32 ((x6 / (mp_wt (Int32.toNatClampNeg ((x1 - 1) - a2)))) - (x6 / (mp_wt (Int32.toNatClampNeg ((x1 - 1) - a2)))) / 100 * 100)))) else some 0)))
set_option maxHeartbeats 4000000 in
set_option maxRecDepth 100000 in
theorem wW_actOf {p : Program} {l : Launch} {e : Env} {s : State} {m : MethodId} {args : Array Value} {below : List Frame} {meth : Method} {c : Code} (cx : mp_C p s m args meth c bW_actOf 4 (some .int) rW) (k : KK) (ad : Nat → Nat) (w : SW) (a1 : Int32) (a2 : Int32) (z : Int32) (hE : mp_E k s) (hP : va_P (kD k) mp_cls (cW k ad w) s.heap) (hD : va_D (mp_N k) (cW k ad w)) (h : fW_actOf w a1 a2 = some z) (ls : Array Slot) (hl : lv_has ls 4 [(0, .ref (ad 0)), (1, .int a1), (2, .int a2)]) : W p l e rmW_actOf s m args below meth c s.heap [] 0 0 (MQ below (mp_Qs (some (.int z))) args s 0 0 (fun _ => False)) (F0 m 0 ls []) := by
  obtain ⟨hx, hb, -, hml, hown, hts, -⟩ := id cx
  unfold fW_actOf at h
  refine lv_aload_n hx hb dW_actOf_0 rfl (lv_at hl 0 rfl) ?_
  refine lv_iload_n hx hb dW_actOf_1 rfl (lv_at hl 1 rfl) ?_
  obtain ⟨x1, ex1, h⟩ := mp_bs h
  refine mp_si (mp_runV (As := [.int a1]) (rest := []) cx kV_W_82 (cW_actsInAll l k ad w a1 x1 ex1) ⟨rfl, rfl, Nat.le_of_ble_eq_true rfl, Nat.le_of_ble_eq_true rfl⟩ ⟨Nat.zero_le _, Nat.zero_le _⟩ hE hP hD va_S.rf 0 rfl rfl rfl hl.1 rfl (Nat.le_of_ble_eq_true rfl) dW_actOf_2) ?_
  refine lv_iconst (v := 1) hx hb dW_actOf_5 (by decide) ?_
  refine lv_isub hx hb dW_actOf_6 ?_
  refine lv_iload_n hx hb dW_actOf_7 rfl (lv_at hl 2 rfl) ?_
  refine lv_isub hx hb dW_actOf_8 ?_
  refine lv_istore_n (lv' := [(3, .int ((x1 - 1) - a2)), (0, .ref (ad 0)), (1, .int a1), (2, .int a2)]) hx hb dW_actOf_9 rfl hl (by decide) rfl (fun ls hl => ?_)
  refine lv_aload_n hx hb dW_actOf_10 rfl (lv_at hl 1 rfl) ?_
  refine lv_iload_n hx hb dW_actOf_11 rfl (lv_at hl 2 rfl) ?_
  obtain ⟨x2, ex2, h⟩ := mp_bs h
  refine mp_si (mp_runV (As := [.int a1]) (rest := []) cx kV_W_76 (cW_isThread l k ad w a1 x2 ex2) ⟨rfl, rfl, Nat.le_of_ble_eq_true rfl, Nat.le_of_ble_eq_true rfl⟩ ⟨Nat.zero_le _, Nat.zero_le _⟩ hE hP hD va_S.rf 0 rfl rfl rfl hl.1 rfl (Nat.le_of_ble_eq_true rfl) dW_actOf_12) ?_
  refine lv_if_eq (tgt := 30) hx hb dW_actOf_15 (by decide) (fun c3 => ?_) (fun c3 => ?_)
  · have h := mp_t c3 h
    refine lv_iconst (v := 0) hx hb dW_actOf_30 (by decide) ?_
    exact mp_ri cx h dW_actOf_31
  · have h := mp_f c3 h
    refine lv_iload_n hx hb dW_actOf_18 rfl (lv_at hl 0 rfl) ?_
    refine lv_if_lt (tgt := 30) hx hb dW_actOf_19 (by decide) (fun c4 => ?_) (fun c4 => ?_)
    · have h := mp_t c4 h
      refine lv_iconst (v := 0) hx hb dW_actOf_30 (by decide) ?_
      exact mp_ri cx h dW_actOf_31
    · have h := mp_f c4 h
      refine lv_iload_n hx hb dW_actOf_22 rfl (lv_at hl 0 rfl) ?_
      obtain ⟨tq, hZ, hTq⟩ := hE.2.2.2
      refine va_getsN hx hb hZ va_S.rf hown (va_Nw.use rfl hE.2.2.1) (fun _ h9 => h9) dW_actOf_23 ?_
      refine va_tlen (v := 6) hx hb hTq va_S.rf (by decide) dW_actOf_26 ?_
      refine lv_icmp_lt (tgt := 32) hx hb dW_actOf_27 (by decide) (fun c5 => ?_) (fun c5 => ?_)
      · have h := mp_t c5 h
        refine lv_aload_n hx hb dW_actOf_32 rfl (lv_at hl 1 rfl) ?_
        refine mp_gW cx hE hP iW 0 rfl 8 (by decide) wq_64 rfl (v := .ref (ad 5)) rfl dW_actOf_33 ?_
        refine lv_iload_n hx hb dW_actOf_36 rfl (lv_at hl 2 rfl) ?_
        obtain ⟨hi, x6, ex6, h⟩ := mp_lds h
        refine va_lald hx hb hE.1 hP 5 1 (f := w.2.2.2.2.2.2.2.2.1) (n := 12) rfl rfl hi dW_actOf_37 ?_
        refine mp_topl ex6 ?_
        obtain ⟨tq, hZ, hTq⟩ := hE.2.2.2
        refine va_getsN hx hb hZ va_S.rf hown (va_Nw.use rfl hE.2.2.1) (fun _ h9 => h9) dW_actOf_38 ?_
        refine lv_iload_n hx hb dW_actOf_41 rfl (lv_at hl 0 rfl) ?_
        obtain ⟨hi, h⟩ := mp_sts h
        refine va_tl hx hb hTq va_S.rf hi rfl dW_actOf_42 ?_
        obtain ⟨d8, h⟩ := mp_nzls h
        refine lv_ldiv hx hb dW_actOf_43 d8 ?_
        refine lv_ldc2 (v := 100) hx hb hown (hts _ wq_230) dW_actOf_44 ?_
        refine lv_lrem hx hb dW_actOf_47 (by decide) ?_
        refine lv_l2i hx hb dW_actOf_48 rfl ?_
        exact mp_ri cx h dW_actOf_49
      · have h := mp_f c5 h
        refine lv_iconst (v := 0) hx hb dW_actOf_30 (by decide) ?_
        exact mp_ri cx h dW_actOf_31
theorem cW_actOf (l : Launch) (k : KK) (ad : Nat → Nat) (w : SW) (a1 : Int32) (a2 : Int32) (z : Int32) (h : fW_actOf w a1 a2 = some z) : mp_CS l k yW_actOf bW_actOf 4 (some .int) rmW_actOf [.ref (ad 0), .int a1, .int a2] (cW k ad w) (some (.int z)) := by
  refine Met.ofW (cc := bW_actOf) (maxL := 4) (ret := (some .int)) (by decide) rfl ?_
  intro p e s m args below meth c s₁ B hml hv
  obtain ⟨rfl, hP, hD, hE⟩ := hv
  have hl := lv_entry ([.ref (ad 0), .int a1, .int a2]) (n := 4) (Nat.le_of_ble_eq_true rfl)
  rw [lg_entry_eq]
  generalize (lg_sl ([.ref (ad 0), .int a1, .int a2]) ++ List.replicate (4 - (lg_sl ([.ref (ad 0), .int a1, .int a2])).length) Slot.unset).toArray = ls at hl ⊢
  exact wW_actOf (mp_C.of B hml) k ad w a1 a2 z hE hP hD h ls hl
-- MovingPlaces$World.threadsInAll
abbrev rmW_threadsInAll : Room := { frames := 0, cells := 0, slots := 0, locals := 0 }
def fW_threadsInAll (w : SW) : Option Int32 := some w.2.2.2.2.2.2.1
set_option maxHeartbeats 4000000 in
set_option maxRecDepth 100000 in
theorem wW_threadsInAll {p : Program} {l : Launch} {e : Env} {s : State} {m : MethodId} {args : Array Value} {below : List Frame} {meth : Method} {c : Code} (cx : mp_C p s m args meth c bW_threadsInAll 1 (some .int) rW) (k : KK) (ad : Nat → Nat) (w : SW) (z : Int32) (hE : mp_E k s) (hP : va_P (kD k) mp_cls (cW k ad w) s.heap) (hD : va_D (mp_N k) (cW k ad w)) (h : fW_threadsInAll w = some z) (ls : Array Slot) (hl : lv_has ls 1 [(0, .ref (ad 0))]) : W p l e rmW_threadsInAll s m args below meth c s.heap [] 0 0 (MQ below (mp_Qs (some (.int z))) args s 0 0 (fun _ => False)) (F0 m 0 ls []) := by
  obtain ⟨hx, hb, -, hml, hown, hts, -⟩ := id cx
  unfold fW_threadsInAll at h
  refine lv_aload_n hx hb dW_threadsInAll_0 rfl (lv_at hl 0 rfl) ?_
  refine mp_gW cx hE hP iW 0 rfl 6 (by decide) wq_62 rfl (v := .int w.2.2.2.2.2.2.1) rfl dW_threadsInAll_1 ?_
  exact mp_ri cx h dW_threadsInAll_4
theorem cW_threadsInAll (l : Launch) (k : KK) (ad : Nat → Nat) (w : SW) (z : Int32) (h : fW_threadsInAll w = some z) : mp_CS l k yW_threadsInAll bW_threadsInAll 1 (some .int) rmW_threadsInAll [.ref (ad 0)] (cW k ad w) (some (.int z)) := by
  refine Met.ofW (cc := bW_threadsInAll) (maxL := 1) (ret := (some .int)) (by decide) rfl ?_
  intro p e s m args below meth c s₁ B hml hv
  obtain ⟨rfl, hP, hD, hE⟩ := hv
  have hl := lv_entry ([.ref (ad 0)]) (n := 1) (Nat.le_of_ble_eq_true rfl)
  rw [lg_entry_eq]
  generalize (lg_sl ([.ref (ad 0)]) ++ List.replicate (1 - (lg_sl ([.ref (ad 0)])).length) Slot.unset).toArray = ls at hl ⊢
  exact wW_threadsInAll (mp_C.of B hml) k ad w z hE hP hD h ls hl
-- MovingPlaces$World.threadsOver
abbrev rmW_threadsOver : Room := { frames := 3, cells := 0, slots := 0, locals := 63 }
def fW_threadsOver_4 (w : SW) : Nat → Int32 → Int32 → Option Int32
  | 0, _, _ => none
  | n + 1, a1, a2 => (if w.2.2.2.2.2.2.1 ≤ a2 then some a1 else (fW_isOver w a2).bind fun x2 => (if x2 = 0 then fW_threadsOver_4 w n a1 (a2 + 1) else fW_threadsOver_4 w n (a1 + 1) (a2 + 1)))
theorem fW_threadsOver_4_s (w : SW) (n : Nat) (a1 : Int32) (a2 : Int32) : fW_threadsOver_4 w (n + 1) a1 a2 = (if w.2.2.2.2.2.2.1 ≤ a2 then some a1 else (fW_isOver w a2).bind fun x2 => (if x2 = 0 then fW_threadsOver_4 w n a1 (a2 + 1) else fW_threadsOver_4 w n (a1 + 1) (a2 + 1))) := rfl
set_option maxHeartbeats 4000000 in
set_option maxRecDepth 100000 in
theorem lW_threadsOver_4 {p : Program} {l : Launch} {e : Env} {s : State} {m : MethodId} {args : Array Value} {below : List Frame} {meth : Method} {c : Code} (cx : mp_C p s m args meth c bW_threadsOver 3 (some .int) rW) (k : KK) (ad : Nat → Nat) (w : SW) (z : Int32) (hE : mp_E k s) (hP : va_P (kD k) mp_cls (cW k ad w) s.heap) (hD : va_D (mp_N k) (cW k ad w)) : ∀ (n : Nat) (a1 : Int32) (a2 : Int32), fW_threadsOver_4 w n a1 a2 = some z → ∀ (ls : Array Slot), lv_has ls 3 [(0, .ref (ad 0)), (1, .int a1), (2, .int a2)] → W p l e rmW_threadsOver s m args below meth c s.heap [] 0 0 (MQ below (mp_Qs (some (.int z))) args s 0 0 (fun _ => False)) (F0 m 4 ls []) := by
  obtain ⟨hx, hb, -, hml, hown, hts, -⟩ := id cx
  intro n
  induction n with
  | zero =>
    intro a1 a2 h
    have h : (none : Option Int32) = some z := h
    cases h
  | succ n ih =>
    intro a1 a2 h ls hl
    rw [fW_threadsOver_4_s] at h
    refine lv_iload_n hx hb dW_threadsOver_4 rfl (lv_at hl 2 rfl) ?_
    refine lv_aload_n hx hb dW_threadsOver_5 rfl (lv_at hl 0 rfl) ?_
    refine mp_gW cx hE hP iW 0 rfl 6 (by decide) wq_62 rfl (v := .int w.2.2.2.2.2.2.1) rfl dW_threadsOver_6 ?_
    refine lv_icmp_ge (tgt := 29) hx hb dW_threadsOver_9 (by decide) (fun c1 => ?_) (fun c1 => ?_)
    · have h := mp_t c1 h
      refine lv_iload_n hx hb dW_threadsOver_29 rfl (lv_at hl 1 rfl) ?_
      exact mp_ri cx h dW_threadsOver_30
    · have h := mp_f c1 h
      refine lv_aload_n hx hb dW_threadsOver_12 rfl (lv_at hl 0 rfl) ?_
      refine lv_iload_n hx hb dW_threadsOver_13 rfl (lv_at hl 2 rfl) ?_
      obtain ⟨x2, ex2, h⟩ := mp_bs h
      refine mp_si (mp_runV (As := [.int a2]) (rest := []) cx kV_W_90 (cW_isOver l k ad w a2 x2 ex2) ⟨rfl, rfl, Nat.le_of_ble_eq_true rfl, Nat.le_of_ble_eq_true rfl⟩ ⟨Nat.zero_le _, Nat.zero_le _⟩ hE hP hD va_S.rf 0 rfl rfl rfl hl.1 rfl (Nat.le_of_ble_eq_true rfl) dW_threadsOver_14) ?_
      refine lv_if_eq (tgt := 23) hx hb dW_threadsOver_17 (by decide) (fun c3 => ?_) (fun c3 => ?_)
      · have h := mp_t c3 h
        refine lv_iinc (v := (a2 + 1)) (lv' := [(2, .int (a2 + 1)), (0, .ref (ad 0)), (1, .int a1)]) hx hb dW_threadsOver_23 hl (k := 2) rfl rfl (by decide) rfl (fun ls hl => ?_)
        refine lv_goto (tgt := 4) hx hb dW_threadsOver_26 (by decide) ?_
        exact ih a1 (a2 + 1) h ls (lv_sub hl [1, 2, 0] rfl)
      · have h := mp_f c3 h
        refine lv_iinc (v := (a1 + 1)) (lv' := [(1, .int (a1 + 1)), (0, .ref (ad 0)), (2, .int a2)]) hx hb dW_threadsOver_20 hl (k := 1) rfl rfl (by decide) rfl (fun ls hl => ?_)
        refine lv_iinc (v := (a2 + 1)) (lv' := [(2, .int (a2 + 1)), (1, .int (a1 + 1)), (0, .ref (ad 0))]) hx hb dW_threadsOver_23 hl (k := 2) rfl rfl (by decide) rfl (fun ls hl => ?_)
        refine lv_goto (tgt := 4) hx hb dW_threadsOver_26 (by decide) ?_
        exact ih (a1 + 1) (a2 + 1) h ls (lv_sub hl [2, 1, 0] rfl)
def fW_threadsOver (w : SW) : Option Int32 := fW_threadsOver_4 w 2000 0 0
set_option maxHeartbeats 4000000 in
set_option maxRecDepth 100000 in
theorem wW_threadsOver {p : Program} {l : Launch} {e : Env} {s : State} {m : MethodId} {args : Array Value} {below : List Frame} {meth : Method} {c : Code} (cx : mp_C p s m args meth c bW_threadsOver 3 (some .int) rW) (k : KK) (ad : Nat → Nat) (w : SW) (z : Int32) (hE : mp_E k s) (hP : va_P (kD k) mp_cls (cW k ad w) s.heap) (hD : va_D (mp_N k) (cW k ad w)) (h : fW_threadsOver w = some z) (ls : Array Slot) (hl : lv_has ls 3 [(0, .ref (ad 0))]) : W p l e rmW_threadsOver s m args below meth c s.heap [] 0 0 (MQ below (mp_Qs (some (.int z))) args s 0 0 (fun _ => False)) (F0 m 0 ls []) := by
  obtain ⟨hx, hb, -, hml, hown, hts, -⟩ := id cx
  unfold fW_threadsOver at h
  refine lv_iconst (v := 0) hx hb dW_threadsOver_0 (by decide) ?_
  refine lv_istore_n (lv' := [(1, .int 0), (0, .ref (ad 0))]) hx hb dW_threadsOver_1 rfl hl (by decide) rfl (fun ls hl => ?_)
  refine lv_iconst (v := 0) hx hb dW_threadsOver_2 (by decide) ?_
  refine lv_istore_n (lv' := [(2, .int 0), (1, .int 0), (0, .ref (ad 0))]) hx hb dW_threadsOver_3 rfl hl (by decide) rfl (fun ls hl => ?_)
  exact lW_threadsOver_4 cx k ad w z hE hP hD _ 0 0 h ls (lv_sub hl [2, 1, 0] rfl)
theorem cW_threadsOver (l : Launch) (k : KK) (ad : Nat → Nat) (w : SW) (z : Int32) (h : fW_threadsOver w = some z) : mp_CS l k yW_threadsOver bW_threadsOver 3 (some .int) rmW_threadsOver [.ref (ad 0)] (cW k ad w) (some (.int z)) := by
  refine Met.ofW (cc := bW_threadsOver) (maxL := 3) (ret := (some .int)) (by decide) rfl ?_
  intro p e s m args below meth c s₁ B hml hv
  obtain ⟨rfl, hP, hD, hE⟩ := hv
  have hl := lv_entry ([.ref (ad 0)]) (n := 3) (Nat.le_of_ble_eq_true rfl)
  rw [lg_entry_eq]
  generalize (lg_sl ([.ref (ad 0)]) ++ List.replicate (3 - (lg_sl ([.ref (ad 0)])).length) Slot.unset).toArray = ls at hl ⊢
  exact wW_threadsOver (mp_C.of B hml) k ad w z hE hP hD h ls hl
-- MovingPlaces$World.leastUnsealed
abbrev rmW_leastUnsealed : Room := { frames := 0, cells := 0, slots := 0, locals := 0 }
def fW_leastUnsealed_3 (w : SW) (a1 : Int32) (a2 : Int32) (a3 : Int32) : Nat → Int32 → Option Int32
  | 0, _ => none
  | n + 1, a4 => (if w.1 ≤ a4 then some (-9) else (if ((w.2.2.1 >>> (a4 &&& 31)) &&& 1) = 1 then (if a4 = a3 then fW_leastUnsealed_3 w a1 a2 a3 n (a4 + 1) else mp_ld w.2.2.2.2.1 12 a4 fun x10 => (if x10 = a1 then mp_ld w.2.2.2.1 12 a4 fun x12 => (if x12 = a2 then fW_leastUnsealed_3 w a1 a2 a3 n (a4 + 1) else fW_leastUnsealed_3 w a1 a2 a3 n (a4 + 1)) else fW_leastUnsealed_3 w a1 a2 a3 n (a4 + 1))) else (if a4 = a3 then fW_leastUnsealed_3 w a1 a2 a3 n (a4 + 1) else mp_ld w.2.2.2.2.1 12 a4 fun x4 => (if x4 = a1 then mp_ld w.2.2.2.1 12 a4 fun x6 => (if x6 = a2 then some a4 else fW_leastUnsealed_3 w a1 a2 a3 n (a4 + 1)) else fW_leastUnsealed_3 w a1 a2 a3 n (a4 + 1)))))
theorem fW_leastUnsealed_3_s (w : SW) (a1 : Int32) (a2 : Int32) (a3 : Int32) (n : Nat) (a4 : Int32) : fW_leastUnsealed_3 w a1 a2 a3 (n + 1) a4 = (if w.1 ≤ a4 then some (-9) else (if ((w.2.2.1 >>> (a4 &&& 31)) &&& 1) = 1 then (if a4 = a3 then fW_leastUnsealed_3 w a1 a2 a3 n (a4 + 1) else mp_ld w.2.2.2.2.1 12 a4 fun x10 => (if x10 = a1 then mp_ld w.2.2.2.1 12 a4 fun x12 => (if x12 = a2 then fW_leastUnsealed_3 w a1 a2 a3 n (a4 + 1) else fW_leastUnsealed_3 w a1 a2 a3 n (a4 + 1)) else fW_leastUnsealed_3 w a1 a2 a3 n (a4 + 1))) else (if a4 = a3 then fW_leastUnsealed_3 w a1 a2 a3 n (a4 + 1) else mp_ld w.2.2.2.2.1 12 a4 fun x4 => (if x4 = a1 then mp_ld w.2.2.2.1 12 a4 fun x6 => (if x6 = a2 then some a4 else fW_leastUnsealed_3 w a1 a2 a3 n (a4 + 1)) else fW_leastUnsealed_3 w a1 a2 a3 n (a4 + 1))))) := rfl
set_option maxHeartbeats 4000000 in
set_option maxRecDepth 100000 in
theorem lW_leastUnsealed_3 {p : Program} {l : Launch} {e : Env} {s : State} {m : MethodId} {args : Array Value} {below : List Frame} {meth : Method} {c : Code} (cx : mp_C p s m args meth c bW_leastUnsealed 6 (some .int) rW) (k : KK) (ad : Nat → Nat) (w : SW) (a1 : Int32) (a2 : Int32) (a3 : Int32) (z : Int32) (hE : mp_E k s) (hP : va_P (kD k) mp_cls (cW k ad w) s.heap) (hD : va_D (mp_N k) (cW k ad w)) : ∀ (n : Nat) (a4 : Int32), fW_leastUnsealed_3 w a1 a2 a3 n a4 = some z → ∀ (ls : Array Slot), lv_has ls 6 [(0, .ref (ad 0)), (1, .int a1), (2, .int a2), (3, .int a3), (4, .int a4)] → W p l e rmW_leastUnsealed s m args below meth c s.heap [] 0 0 (MQ below (mp_Qs (some (.int z))) args s 0 0 (fun _ => False)) (F0 m 3 ls []) := by
  obtain ⟨hx, hb, -, hml, hown, hts, -⟩ := id cx
  intro n
  induction n with
  | zero =>
    intro a4 h
    have h : (none : Option Int32) = some z := h
    cases h
  | succ n ih =>
    intro a4 h ls hl
    rw [fW_leastUnsealed_3_s] at h
    refine lv_iload hx hb dW_leastUnsealed_3 (lv_at hl 4 rfl) ?_
    refine lv_aload_n hx hb dW_leastUnsealed_5 rfl (lv_at hl 0 rfl) ?_
    refine mp_gW cx hE hP iW 0 rfl 0 (by decide) wq_56 rfl (v := .int w.1) rfl dW_leastUnsealed_6 ?_
    refine lv_icmp_ge (tgt := 74) hx hb dW_leastUnsealed_9 (by decide) (fun c1 => ?_) (fun c1 => ?_)
    · have h := mp_t c1 h
      refine lv_bipush (v := (-9)) hx hb dW_leastUnsealed_74 (by decide) ?_
      exact mp_ri cx h dW_leastUnsealed_76
    · have h := mp_f c1 h
      refine lv_aload_n hx hb dW_leastUnsealed_12 rfl (lv_at hl 0 rfl) ?_
      refine mp_gW cx hE hP iW 0 rfl 2 (by decide) wq_58 rfl (v := .int w.2.2.1) rfl dW_leastUnsealed_13 ?_
      refine lv_iload hx hb dW_leastUnsealed_16 (lv_at hl 4 rfl) ?_
      refine lv_ishr hx hb dW_leastUnsealed_18 ?_
      refine lv_iconst (v := 1) hx hb dW_leastUnsealed_19 (by decide) ?_
      refine lv_iand hx hb dW_leastUnsealed_20 ?_
      refine lv_iconst (v := 1) hx hb dW_leastUnsealed_21 (by decide) ?_
      refine lv_icmp_ne (tgt := 29) hx hb dW_leastUnsealed_22 (by decide) (fun c2 => ?_) (fun c2 => ?_)
      · have h := mp_f c2 h
        refine lv_iconst (v := 0) hx hb dW_leastUnsealed_29 (by decide) ?_
        refine lv_istore (lv' := [(5, .int 0), (0, .ref (ad 0)), (1, .int a1), (2, .int a2), (3, .int a3), (4, .int a4)]) hx hb dW_leastUnsealed_30 hl (by decide) rfl (fun ls hl => ?_)
        refine lv_iload hx hb dW_leastUnsealed_32 (lv_at hl 5 rfl) ?_
        refine lv_iload_n hx hb dW_leastUnsealed_34 rfl (lv_at hl 4 rfl) ?_
        refine lv_icmp_eq (tgt := 68) hx hb dW_leastUnsealed_35 (by decide) (fun c3 => ?_) (fun c3 => ?_)
        · have h := mp_t c3 h
          refine lv_iinc (v := (a4 + 1)) (lv' := [(4, .int (a4 + 1)), (5, .int 0), (0, .ref (ad 0)), (1, .int a1), (2, .int a2), (3, .int a3)]) hx hb dW_leastUnsealed_68 hl (k := 5) rfl rfl (by decide) rfl (fun ls hl => ?_)
          refine lv_goto (tgt := 3) hx hb dW_leastUnsealed_71 (by decide) ?_
          exact ih (a4 + 1) h ls (lv_sub hl [2, 3, 4, 5, 0] rfl)
        · have h := mp_f c3 h
          refine lv_aload_n hx hb dW_leastUnsealed_38 rfl (lv_at hl 1 rfl) ?_
          refine mp_gW cx hE hP iW 0 rfl 4 (by decide) wq_60 rfl (v := .ref (ad 2)) rfl dW_leastUnsealed_39 ?_
          refine lv_iload hx hb dW_leastUnsealed_42 (lv_at hl 5 rfl) ?_
          obtain ⟨hi, x4, ex4, h⟩ := mp_lds h
          refine va_iald hx hb hE.1 hP 2 0 (f := w.2.2.2.2.1) (n := 12) rfl rfl hi dW_leastUnsealed_44 ?_
          refine mp_top ex4 ?_
          refine lv_iload_n hx hb dW_leastUnsealed_45 rfl (lv_at hl 2 rfl) ?_
          refine lv_icmp_ne (tgt := 68) hx hb dW_leastUnsealed_46 (by decide) (fun c5 => ?_) (fun c5 => ?_)
          · have h := mp_f c5 h
            refine lv_iinc (v := (a4 + 1)) (lv' := [(4, .int (a4 + 1)), (5, .int 0), (0, .ref (ad 0)), (1, .int a1), (2, .int a2), (3, .int a3)]) hx hb dW_leastUnsealed_68 hl (k := 5) rfl rfl (by decide) rfl (fun ls hl => ?_)
            refine lv_goto (tgt := 3) hx hb dW_leastUnsealed_71 (by decide) ?_
            exact ih (a4 + 1) h ls (lv_sub hl [2, 3, 4, 5, 0] rfl)
          · have h := mp_t c5 h
            refine lv_aload_n hx hb dW_leastUnsealed_49 rfl (lv_at hl 1 rfl) ?_
            refine mp_gW cx hE hP iW 0 rfl 3 (by decide) wq_59 rfl (v := .ref (ad 1)) rfl dW_leastUnsealed_50 ?_
            refine lv_iload hx hb dW_leastUnsealed_53 (lv_at hl 5 rfl) ?_
            obtain ⟨hi, x6, ex6, h⟩ := mp_lds h
            refine va_iald hx hb hE.1 hP 1 0 (f := w.2.2.2.1) (n := 12) rfl rfl hi dW_leastUnsealed_55 ?_
            refine mp_top ex6 ?_
            refine lv_iload_n hx hb dW_leastUnsealed_56 rfl (lv_at hl 3 rfl) ?_
            refine lv_icmp_ne (tgt := 68) hx hb dW_leastUnsealed_57 (by decide) (fun c7 => ?_) (fun c7 => ?_)
            · have h := mp_f c7 h
              refine lv_iinc (v := (a4 + 1)) (lv' := [(4, .int (a4 + 1)), (5, .int 0), (0, .ref (ad 0)), (1, .int a1), (2, .int a2), (3, .int a3)]) hx hb dW_leastUnsealed_68 hl (k := 5) rfl rfl (by decide) rfl (fun ls hl => ?_)
              refine lv_goto (tgt := 3) hx hb dW_leastUnsealed_71 (by decide) ?_
              exact ih (a4 + 1) h ls (lv_sub hl [2, 3, 4, 5, 0] rfl)
            · have h := mp_t c7 h
              refine lv_iload hx hb dW_leastUnsealed_60 (lv_at hl 0 rfl) ?_
              refine lv_if_ne (tgt := 68) hx hb dW_leastUnsealed_62 (by decide) (fun c8 => ?_) (fun c8 => ?_)
              · exact absurd (by decide) c8
              · refine lv_iload hx hb dW_leastUnsealed_65 (lv_at hl 5 rfl) ?_
                exact mp_ri cx h dW_leastUnsealed_67
      · have h := mp_t c2 h
        refine lv_iconst (v := 1) hx hb dW_leastUnsealed_25 (by decide) ?_
        refine lv_goto (tgt := 30) hx hb dW_leastUnsealed_26 (by decide) ?_
        refine lv_istore (lv' := [(5, .int 1), (0, .ref (ad 0)), (1, .int a1), (2, .int a2), (3, .int a3), (4, .int a4)]) hx hb dW_leastUnsealed_30 hl (by decide) rfl (fun ls hl => ?_)
        refine lv_iload hx hb dW_leastUnsealed_32 (lv_at hl 5 rfl) ?_
        refine lv_iload_n hx hb dW_leastUnsealed_34 rfl (lv_at hl 4 rfl) ?_
        refine lv_icmp_eq (tgt := 68) hx hb dW_leastUnsealed_35 (by decide) (fun c9 => ?_) (fun c9 => ?_)
        · have h := mp_t c9 h
          refine lv_iinc (v := (a4 + 1)) (lv' := [(4, .int (a4 + 1)), (5, .int 1), (0, .ref (ad 0)), (1, .int a1), (2, .int a2), (3, .int a3)]) hx hb dW_leastUnsealed_68 hl (k := 5) rfl rfl (by decide) rfl (fun ls hl => ?_)
          refine lv_goto (tgt := 3) hx hb dW_leastUnsealed_71 (by decide) ?_
          exact ih (a4 + 1) h ls (lv_sub hl [2, 3, 4, 5, 0] rfl)
        · have h := mp_f c9 h
          refine lv_aload_n hx hb dW_leastUnsealed_38 rfl (lv_at hl 1 rfl) ?_
          refine mp_gW cx hE hP iW 0 rfl 4 (by decide) wq_60 rfl (v := .ref (ad 2)) rfl dW_leastUnsealed_39 ?_
          refine lv_iload hx hb dW_leastUnsealed_42 (lv_at hl 5 rfl) ?_
          obtain ⟨hi, x10, ex10, h⟩ := mp_lds h
          refine va_iald hx hb hE.1 hP 2 0 (f := w.2.2.2.2.1) (n := 12) rfl rfl hi dW_leastUnsealed_44 ?_
          refine mp_top ex10 ?_
          refine lv_iload_n hx hb dW_leastUnsealed_45 rfl (lv_at hl 2 rfl) ?_
          refine lv_icmp_ne (tgt := 68) hx hb dW_leastUnsealed_46 (by decide) (fun c11 => ?_) (fun c11 => ?_)
          · have h := mp_f c11 h
            refine lv_iinc (v := (a4 + 1)) (lv' := [(4, .int (a4 + 1)), (5, .int 1), (0, .ref (ad 0)), (1, .int a1), (2, .int a2), (3, .int a3)]) hx hb dW_leastUnsealed_68 hl (k := 5) rfl rfl (by decide) rfl (fun ls hl => ?_)
            refine lv_goto (tgt := 3) hx hb dW_leastUnsealed_71 (by decide) ?_
            exact ih (a4 + 1) h ls (lv_sub hl [2, 3, 4, 5, 0] rfl)
          · have h := mp_t c11 h
            refine lv_aload_n hx hb dW_leastUnsealed_49 rfl (lv_at hl 1 rfl) ?_
            refine mp_gW cx hE hP iW 0 rfl 3 (by decide) wq_59 rfl (v := .ref (ad 1)) rfl dW_leastUnsealed_50 ?_
            refine lv_iload hx hb dW_leastUnsealed_53 (lv_at hl 5 rfl) ?_
            obtain ⟨hi, x12, ex12, h⟩ := mp_lds h
            refine va_iald hx hb hE.1 hP 1 0 (f := w.2.2.2.1) (n := 12) rfl rfl hi dW_leastUnsealed_55 ?_
            refine mp_top ex12 ?_
            refine lv_iload_n hx hb dW_leastUnsealed_56 rfl (lv_at hl 3 rfl) ?_
            refine lv_icmp_ne (tgt := 68) hx hb dW_leastUnsealed_57 (by decide) (fun c13 => ?_) (fun c13 => ?_)
            · have h := mp_f c13 h
              refine lv_iinc (v := (a4 + 1)) (lv' := [(4, .int (a4 + 1)), (5, .int 1), (0, .ref (ad 0)), (1, .int a1), (2, .int a2), (3, .int a3)]) hx hb dW_leastUnsealed_68 hl (k := 5) rfl rfl (by decide) rfl (fun ls hl => ?_)
              refine lv_goto (tgt := 3) hx hb dW_leastUnsealed_71 (by decide) ?_
              exact ih (a4 + 1) h ls (lv_sub hl [2, 3, 4, 5, 0] rfl)
            · have h := mp_t c13 h
              refine lv_iload hx hb dW_leastUnsealed_60 (lv_at hl 0 rfl) ?_
              refine lv_if_ne (tgt := 68) hx hb dW_leastUnsealed_62 (by decide) (fun c14 => ?_) (fun c14 => ?_)
              · refine lv_iinc (v := (a4 + 1)) (lv' := [(4, .int (a4 + 1)), (5, .int 1), (0, .ref (ad 0)), (1, .int a1), (2, .int a2), (3, .int a3)]) hx hb dW_leastUnsealed_68 hl (k := 5) rfl rfl (by decide) rfl (fun ls hl => ?_)
                refine lv_goto (tgt := 3) hx hb dW_leastUnsealed_71 (by decide) ?_
                exact ih (a4 + 1) h ls (lv_sub hl [2, 3, 4, 5, 0] rfl)
              · exact absurd c14 (by decide)
def fW_leastUnsealed (w : SW) (a1 : Int32) (a2 : Int32) (a3 : Int32) : Option Int32 := fW_leastUnsealed_3 w a1 a2 a3 2000 0
set_option maxHeartbeats 4000000 in
set_option maxRecDepth 100000 in
theorem wW_leastUnsealed {p : Program} {l : Launch} {e : Env} {s : State} {m : MethodId} {args : Array Value} {below : List Frame} {meth : Method} {c : Code} (cx : mp_C p s m args meth c bW_leastUnsealed 6 (some .int) rW) (k : KK) (ad : Nat → Nat) (w : SW) (a1 : Int32) (a2 : Int32) (a3 : Int32) (z : Int32) (hE : mp_E k s) (hP : va_P (kD k) mp_cls (cW k ad w) s.heap) (hD : va_D (mp_N k) (cW k ad w)) (h : fW_leastUnsealed w a1 a2 a3 = some z) (ls : Array Slot) (hl : lv_has ls 6 [(0, .ref (ad 0)), (1, .int a1), (2, .int a2), (3, .int a3)]) : W p l e rmW_leastUnsealed s m args below meth c s.heap [] 0 0 (MQ below (mp_Qs (some (.int z))) args s 0 0 (fun _ => False)) (F0 m 0 ls []) := by
  obtain ⟨hx, hb, -, hml, hown, hts, -⟩ := id cx
  unfold fW_leastUnsealed at h
  refine lv_iconst (v := 0) hx hb dW_leastUnsealed_0 (by decide) ?_
  refine lv_istore (lv' := [(4, .int 0), (0, .ref (ad 0)), (1, .int a1), (2, .int a2), (3, .int a3)]) hx hb dW_leastUnsealed_1 hl (by decide) rfl (fun ls hl => ?_)
  exact lW_leastUnsealed_3 cx k ad w a1 a2 a3 z hE hP hD _ 0 h ls (lv_sub hl [1, 2, 3, 4, 0] rfl)
theorem cW_leastUnsealed (l : Launch) (k : KK) (ad : Nat → Nat) (w : SW) (a1 : Int32) (a2 : Int32) (a3 : Int32) (z : Int32) (h : fW_leastUnsealed w a1 a2 a3 = some z) : mp_CS l k yW_leastUnsealed bW_leastUnsealed 6 (some .int) rmW_leastUnsealed [.ref (ad 0), .int a1, .int a2, .int a3] (cW k ad w) (some (.int z)) := by
  refine Met.ofW (cc := bW_leastUnsealed) (maxL := 6) (ret := (some .int)) (by decide) rfl ?_
  intro p e s m args below meth c s₁ B hml hv
  obtain ⟨rfl, hP, hD, hE⟩ := hv
  have hl := lv_entry ([.ref (ad 0), .int a1, .int a2, .int a3]) (n := 6) (Nat.le_of_ble_eq_true rfl)
  rw [lg_entry_eq]
  generalize (lg_sl ([.ref (ad 0), .int a1, .int a2, .int a3]) ++ List.replicate (6 - (lg_sl ([.ref (ad 0), .int a1, .int a2, .int a3])).length) Slot.unset).toArray = ls at hl ⊢
  exact wW_leastUnsealed (mp_C.of B hml) k ad w a1 a2 a3 z hE hP hD h ls hl
-- MovingPlaces$World.unsealedAround
abbrev rmW_unsealedAround : Room := { frames := 2, cells := 0, slots := 0, locals := 42 }
def fW_unsealedAround (w : SW) (a1 : Int32) (a2 : Int32) : Option Int32 := (fW_placeAround w a1).bind fun x1 => (fW_nameOf w x1).bind fun x2 => (if x2 = a2 then (fW_isSealed w x1).bind fun x4 => (if x4 = 0 then some x1 else some (-9)) else some (-9))
set_option maxHeartbeats 4000000 in
set_option maxRecDepth 100000 in
theorem wW_unsealedAround {p : Program} {l : Launch} {e : Env} {s : State} {m : MethodId} {args : Array Value} {below : List Frame} {meth : Method} {c : Code} (cx : mp_C p s m args meth c bW_unsealedAround 4 (some .int) rW) (k : KK) (ad : Nat → Nat) (w : SW) (a1 : Int32) (a2 : Int32) (z : Int32) (hE : mp_E k s) (hP : va_P (kD k) mp_cls (cW k ad w) s.heap) (hD : va_D (mp_N k) (cW k ad w)) (h : fW_unsealedAround w a1 a2 = some z) (ls : Array Slot) (hl : lv_has ls 4 [(0, .ref (ad 0)), (1, .int a1), (2, .int a2)]) : W p l e rmW_unsealedAround s m args below meth c s.heap [] 0 0 (MQ below (mp_Qs (some (.int z))) args s 0 0 (fun _ => False)) (F0 m 0 ls []) := by
  obtain ⟨hx, hb, -, hml, hown, hts, -⟩ := id cx
  unfold fW_unsealedAround at h
  refine lv_aload_n hx hb dW_unsealedAround_0 rfl (lv_at hl 0 rfl) ?_
  refine lv_iload_n hx hb dW_unsealedAround_1 rfl (lv_at hl 1 rfl) ?_
  obtain ⟨x1, ex1, h⟩ := mp_bs h
  refine mp_si (mp_runV (As := [.int a1]) (rest := []) cx kV_W_63 (cW_placeAround l k ad w a1 x1 ex1) ⟨rfl, rfl, Nat.le_of_ble_eq_true rfl, Nat.le_of_ble_eq_true rfl⟩ ⟨Nat.zero_le _, Nat.zero_le _⟩ hE hP hD va_S.rf 0 rfl rfl rfl hl.1 rfl (Nat.le_of_ble_eq_true rfl) dW_unsealedAround_2) ?_
  refine lv_istore_n (lv' := [(3, .int x1), (0, .ref (ad 0)), (1, .int a1), (2, .int a2)]) hx hb dW_unsealedAround_5 rfl hl (by decide) rfl (fun ls hl => ?_)
  refine lv_aload_n hx hb dW_unsealedAround_6 rfl (lv_at hl 1 rfl) ?_
  refine lv_iload_n hx hb dW_unsealedAround_7 rfl (lv_at hl 0 rfl) ?_
  obtain ⟨x2, ex2, h⟩ := mp_bs h
  refine mp_si (mp_runV (As := [.int x1]) (rest := []) cx kV_W_109 (cW_nameOf l k ad w x1 x2 ex2) ⟨rfl, rfl, Nat.le_of_ble_eq_true rfl, Nat.le_of_ble_eq_true rfl⟩ ⟨Nat.zero_le _, Nat.zero_le _⟩ hE hP hD va_S.rf 0 rfl rfl rfl hl.1 rfl (Nat.le_of_ble_eq_true rfl) dW_unsealedAround_8) ?_
  refine lv_iload_n hx hb dW_unsealedAround_11 rfl (lv_at hl 3 rfl) ?_
  refine lv_icmp_ne (tgt := 27) hx hb dW_unsealedAround_12 (by decide) (fun c3 => ?_) (fun c3 => ?_)
  · have h := mp_f c3 h
    refine lv_bipush (v := (-9)) hx hb dW_unsealedAround_27 (by decide) ?_
    exact mp_ri cx h dW_unsealedAround_29
  · have h := mp_t c3 h
    refine lv_aload_n hx hb dW_unsealedAround_15 rfl (lv_at hl 1 rfl) ?_
    refine lv_iload_n hx hb dW_unsealedAround_16 rfl (lv_at hl 0 rfl) ?_
    obtain ⟨x4, ex4, h⟩ := mp_bs h
    refine mp_si (mp_runV (As := [.int x1]) (rest := []) cx kV_W_112 (cW_isSealed l k ad w x1 x4 ex4) ⟨rfl, rfl, Nat.le_of_ble_eq_true rfl, Nat.le_of_ble_eq_true rfl⟩ ⟨Nat.zero_le _, Nat.zero_le _⟩ hE hP hD va_S.rf 0 rfl rfl rfl hl.1 rfl (Nat.le_of_ble_eq_true rfl) dW_unsealedAround_17) ?_
    refine lv_if_ne (tgt := 27) hx hb dW_unsealedAround_20 (by decide) (fun c5 => ?_) (fun c5 => ?_)
    · have h := mp_f c5 h
      refine lv_bipush (v := (-9)) hx hb dW_unsealedAround_27 (by decide) ?_
      exact mp_ri cx h dW_unsealedAround_29
    · have h := mp_t c5 h
      refine lv_iload_n hx hb dW_unsealedAround_23 rfl (lv_at hl 0 rfl) ?_
      refine lv_goto (tgt := 29) hx hb dW_unsealedAround_24 (by decide) ?_
      exact mp_ri cx h dW_unsealedAround_29
theorem cW_unsealedAround (l : Launch) (k : KK) (ad : Nat → Nat) (w : SW) (a1 : Int32) (a2 : Int32) (z : Int32) (h : fW_unsealedAround w a1 a2 = some z) : mp_CS l k yW_unsealedAround bW_unsealedAround 4 (some .int) rmW_unsealedAround [.ref (ad 0), .int a1, .int a2] (cW k ad w) (some (.int z)) := by
  refine Met.ofW (cc := bW_unsealedAround) (maxL := 4) (ret := (some .int)) (by decide) rfl ?_
  intro p e s m args below meth c s₁ B hml hv
  obtain ⟨rfl, hP, hD, hE⟩ := hv
  have hl := lv_entry ([.ref (ad 0), .int a1, .int a2]) (n := 4) (Nat.le_of_ble_eq_true rfl)
  rw [lg_entry_eq]
  generalize (lg_sl ([.ref (ad 0), .int a1, .int a2]) ++ List.replicate (4 - (lg_sl ([.ref (ad 0), .int a1, .int a2])).length) Slot.unset).toArray = ls at hl ⊢
  exact wW_unsealedAround (mp_C.of B hml) k ad w a1 a2 z hE hP hD h ls hl
-- MovingPlaces$World.leastMessage
abbrev rmW_leastMessage : Room := { frames := 2, cells := 0, slots := 0, locals := 43 }
def fW_leastMessage_2 (w : SW) (a1 : Int32) : Nat → Int32 → Option Int32
  | 0, _ => none
  | n + 1, a2 => (if 6 ≤ a2 then some (-9) else (fW_messagesOf w a1 a2).bind fun x2 => (if x2 ≤ 0 then fW_leastMessage_2 w a1 n (a2 + 1) else some a2))
theorem fW_leastMessage_2_s (w : SW) (a1 : Int32) (n : Nat) (a2 : Int32) : fW_leastMessage_2 w a1 (n + 1) a2 = (if 6 ≤ a2 then some (-9) else (fW_messagesOf w a1 a2).bind fun x2 => (if x2 ≤ 0 then fW_leastMessage_2 w a1 n (a2 + 1) else some a2)) := rfl
set_option maxHeartbeats 4000000 in
set_option maxRecDepth 100000 in
theorem lW_leastMessage_2 {p : Program} {l : Launch} {e : Env} {s : State} {m : MethodId} {args : Array Value} {below : List Frame} {meth : Method} {c : Code} (cx : mp_C p s m args meth c bW_leastMessage 3 (some .int) rW) (k : KK) (ad : Nat → Nat) (w : SW) (a1 : Int32) (z : Int32) (hE : mp_E k s) (hP : va_P (kD k) mp_cls (cW k ad w) s.heap) (hD : va_D (mp_N k) (cW k ad w)) : ∀ (n : Nat) (a2 : Int32), fW_leastMessage_2 w a1 n a2 = some z → ∀ (ls : Array Slot), lv_has ls 3 [(0, .ref (ad 0)), (1, .int a1), (2, .int a2)] → W p l e rmW_leastMessage s m args below meth c s.heap [] 0 0 (MQ below (mp_Qs (some (.int z))) args s 0 0 (fun _ => False)) (F0 m 2 ls []) := by
  obtain ⟨hx, hb, -, hml, hown, hts, -⟩ := id cx
  intro n
  induction n with
  | zero =>
    intro a2 h
    have h : (none : Option Int32) = some z := h
    cases h
  | succ n ih =>
    intro a2 h ls hl
    rw [fW_leastMessage_2_s] at h
    refine lv_iload_n hx hb dW_leastMessage_2 rfl (lv_at hl 2 rfl) ?_
    refine lv_bipush (v := 6) hx hb dW_leastMessage_3 (by decide) ?_
    refine lv_icmp_ge (tgt := 25) hx hb dW_leastMessage_5 (by decide) (fun c1 => ?_) (fun c1 => ?_)
    · have h := mp_t c1 h
      refine lv_bipush (v := (-9)) hx hb dW_leastMessage_25 (by decide) ?_
      exact mp_ri cx h dW_leastMessage_27
    · have h := mp_f c1 h
      refine lv_aload_n hx hb dW_leastMessage_8 rfl (lv_at hl 0 rfl) ?_
      refine lv_iload_n hx hb dW_leastMessage_9 rfl (lv_at hl 1 rfl) ?_
      refine lv_iload_n hx hb dW_leastMessage_10 rfl (lv_at hl 2 rfl) ?_
      obtain ⟨x2, ex2, h⟩ := mp_bs h
      refine mp_si (mp_runV (As := [.int a1, .int a2]) (rest := []) cx kV_W_72 (cW_messagesOf l k ad w a1 a2 x2 ex2) ⟨rfl, rfl, Nat.le_of_ble_eq_true rfl, Nat.le_of_ble_eq_true rfl⟩ ⟨Nat.zero_le _, Nat.zero_le _⟩ hE hP hD va_S.rf 0 rfl rfl rfl hl.1 rfl (Nat.le_of_ble_eq_true rfl) dW_leastMessage_11) ?_
      refine lv_if_le (tgt := 19) hx hb dW_leastMessage_14 (by decide) (fun c3 => ?_) (fun c3 => ?_)
      · have h := mp_t c3 h
        refine lv_iinc (v := (a2 + 1)) (lv' := [(2, .int (a2 + 1)), (0, .ref (ad 0)), (1, .int a1)]) hx hb dW_leastMessage_19 hl (k := 2) rfl rfl (by decide) rfl (fun ls hl => ?_)
        refine lv_goto (tgt := 2) hx hb dW_leastMessage_22 (by decide) ?_
        exact ih (a2 + 1) h ls (lv_sub hl [1, 2, 0] rfl)
      · have h := mp_f c3 h
        refine lv_iload_n hx hb dW_leastMessage_17 rfl (lv_at hl 2 rfl) ?_
        exact mp_ri cx h dW_leastMessage_18
def fW_leastMessage (w : SW) (a1 : Int32) : Option Int32 := fW_leastMessage_2 w a1 2000 0
set_option maxHeartbeats 4000000 in
set_option maxRecDepth 100000 in
theorem wW_leastMessage {p : Program} {l : Launch} {e : Env} {s : State} {m : MethodId} {args : Array Value} {below : List Frame} {meth : Method} {c : Code} (cx : mp_C p s m args meth c bW_leastMessage 3 (some .int) rW) (k : KK) (ad : Nat → Nat) (w : SW) (a1 : Int32) (z : Int32) (hE : mp_E k s) (hP : va_P (kD k) mp_cls (cW k ad w) s.heap) (hD : va_D (mp_N k) (cW k ad w)) (h : fW_leastMessage w a1 = some z) (ls : Array Slot) (hl : lv_has ls 3 [(0, .ref (ad 0)), (1, .int a1)]) : W p l e rmW_leastMessage s m args below meth c s.heap [] 0 0 (MQ below (mp_Qs (some (.int z))) args s 0 0 (fun _ => False)) (F0 m 0 ls []) := by
  obtain ⟨hx, hb, -, hml, hown, hts, -⟩ := id cx
  unfold fW_leastMessage at h
  refine lv_iconst (v := 0) hx hb dW_leastMessage_0 (by decide) ?_
  refine lv_istore_n (lv' := [(2, .int 0), (0, .ref (ad 0)), (1, .int a1)]) hx hb dW_leastMessage_1 rfl hl (by decide) rfl (fun ls hl => ?_)
  exact lW_leastMessage_2 cx k ad w a1 z hE hP hD _ 0 h ls (lv_sub hl [1, 2, 0] rfl)
theorem cW_leastMessage (l : Launch) (k : KK) (ad : Nat → Nat) (w : SW) (a1 : Int32) (z : Int32) (h : fW_leastMessage w a1 = some z) : mp_CS l k yW_leastMessage bW_leastMessage 3 (some .int) rmW_leastMessage [.ref (ad 0), .int a1] (cW k ad w) (some (.int z)) := by
  refine Met.ofW (cc := bW_leastMessage) (maxL := 3) (ret := (some .int)) (by decide) rfl ?_
  intro p e s m args below meth c s₁ B hml hv
  obtain ⟨rfl, hP, hD, hE⟩ := hv
  have hl := lv_entry ([.ref (ad 0), .int a1]) (n := 3) (Nat.le_of_ble_eq_true rfl)
  rw [lg_entry_eq]
  generalize (lg_sl ([.ref (ad 0), .int a1]) ++ List.replicate (3 - (lg_sl ([.ref (ad 0), .int a1])).length) Slot.unset).toArray = ls at hl ⊢
  exact wW_leastMessage (mp_C.of B hml) k ad w a1 z hE hP hD h ls hl
-- MovingPlaces$World.aimOf
abbrev rmW_aimOf : Room := { frames := 3, cells := 0, slots := 0, locals := 65 }
def fW_aimOf (w : SW) (a1 : Int32) : Option Int32 := (fW_isThread w a1).bind fun x1 => (if x1 = 0 then some (-9) else (fW_isOver w a1).bind fun x3 => (if x3 = 0 then mp_ld w.2.2.2.2.2.2.2.1 12 a1 fun x5 => mp_ld w.2.2.2.2.2.2.2.2.2.2.1 12 a1 fun x6 => (fW_actOf w a1 x6).bind fun x7 => (if (x7 - x7 / 10 * 10) = 9 then mp_ld w.2.2.2.2.2.2.2.2.2.2.2 12 a1 fun x21 => (if x21 = (-9) then some (-9) else (if (x7 / 10) = 1 then (if x5 = 0 then some (-9) else (fW_placeAround w x5).bind fun x25 => (fW_leastUnsealed w x25 x21 x5).bind fun x26 => some x26) else if (x7 / 10) = 2 then (fW_unsealedAround w x5 x21).bind fun x28 => some x28 else if (x7 / 10) = 3 then (fW_leastUnsealed w x5 x21 (-9)).bind fun x30 => some x30 else if (x7 / 10) = 4 then some x21 else if (x7 / 10) = 5 then (fW_leastMessage w x5).bind fun x33 => some x33 else some (-9))) else (if (x7 - x7 / 10 * 10) = (-9) then some (-9) else (if (x7 / 10) = 1 then (if x5 = 0 then some (-9) else (fW_placeAround w x5).bind fun x12 => (fW_leastUnsealed w x12 (x7 - x7 / 10 * 10) x5).bind fun x13 => some x13) else if (x7 / 10) = 2 then (fW_unsealedAround w x5 (x7 - x7 / 10 * 10)).bind fun x15 => some x15 else if (x7 / 10) = 3 then (fW_leastUnsealed w x5 (x7 - x7 / 10 * 10) (-9)).bind fun x17 => some x17 else if (x7 / 10) = 4 then some (x7 - x7 / 10 * 10) else if (x7 / 10) = 5 then (fW_leastMessage w x5).bind fun x20 => some x20 else some (-9)))) else some (-9)))
set_option maxHeartbeats 4000000 in
set_option maxRecDepth 100000 in
theorem wW_aimOf {p : Program} {l : Launch} {e : Env} {s : State} {m : MethodId} {args : Array Value} {below : List Frame} {meth : Method} {c : Code} (cx : mp_C p s m args meth c bW_aimOf 5 (some .int) rW) (k : KK) (ad : Nat → Nat) (w : SW) (a1 : Int32) (z : Int32) (hE : mp_E k s) (hP : va_P (kD k) mp_cls (cW k ad w) s.heap) (hD : va_D (mp_N k) (cW k ad w)) (h : fW_aimOf w a1 = some z) (ls : Array Slot) (hl : lv_has ls 5 [(0, .ref (ad 0)), (1, .int a1)]) : W p l e rmW_aimOf s m args below meth c s.heap [] 0 0 (MQ below (mp_Qs (some (.int z))) args s 0 0 (fun _ => False)) (F0 m 0 ls []) := by
  obtain ⟨hx, hb, -, hml, hown, hts, -⟩ := id cx
  unfold fW_aimOf at h
  refine lv_aload_n hx hb dW_aimOf_0 rfl (lv_at hl 0 rfl) ?_
  refine lv_iload_n hx hb dW_aimOf_1 rfl (lv_at hl 1 rfl) ?_
  obtain ⟨x1, ex1, h⟩ := mp_bs h
  refine mp_si (mp_runV (As := [.int a1]) (rest := []) cx kV_W_76 (cW_isThread l k ad w a1 x1 ex1) ⟨rfl, rfl, Nat.le_of_ble_eq_true rfl, Nat.le_of_ble_eq_true rfl⟩ ⟨Nat.zero_le _, Nat.zero_le _⟩ hE hP hD va_S.rf 0 rfl rfl rfl hl.1 rfl (Nat.le_of_ble_eq_true rfl) dW_aimOf_2) ?_
  refine lv_if_eq (tgt := 16) hx hb dW_aimOf_5 (by decide) (fun c2 => ?_) (fun c2 => ?_)
  · have h := mp_t c2 h
    refine lv_bipush (v := (-9)) hx hb dW_aimOf_16 (by decide) ?_
    exact mp_ri cx h dW_aimOf_18
  · have h := mp_f c2 h
    refine lv_aload_n hx hb dW_aimOf_8 rfl (lv_at hl 0 rfl) ?_
    refine lv_iload_n hx hb dW_aimOf_9 rfl (lv_at hl 1 rfl) ?_
    obtain ⟨x3, ex3, h⟩ := mp_bs h
    refine mp_si (mp_runV (As := [.int a1]) (rest := []) cx kV_W_90 (cW_isOver l k ad w a1 x3 ex3) ⟨rfl, rfl, Nat.le_of_ble_eq_true rfl, Nat.le_of_ble_eq_true rfl⟩ ⟨Nat.zero_le _, Nat.zero_le _⟩ hE hP hD va_S.rf 0 rfl rfl rfl hl.1 rfl (Nat.le_of_ble_eq_true rfl) dW_aimOf_10) ?_
    refine lv_if_eq (tgt := 19) hx hb dW_aimOf_13 (by decide) (fun c4 => ?_) (fun c4 => ?_)
    · have h := mp_t c4 h
      refine lv_aload_n hx hb dW_aimOf_19 rfl (lv_at hl 0 rfl) ?_
      refine mp_gW cx hE hP iW 0 rfl 7 (by decide) wq_63 rfl (v := .ref (ad 4)) rfl dW_aimOf_20 ?_
      refine lv_iload_n hx hb dW_aimOf_23 rfl (lv_at hl 1 rfl) ?_
      obtain ⟨hi, x5, ex5, h⟩ := mp_lds h
      refine va_iald hx hb hE.1 hP 4 0 (f := w.2.2.2.2.2.2.2.1) (n := 12) rfl rfl hi dW_aimOf_24 ?_
      refine mp_top ex5 ?_
      refine lv_istore_n (lv' := [(2, .int x5), (0, .ref (ad 0)), (1, .int a1)]) hx hb dW_aimOf_25 rfl hl (by decide) rfl (fun ls hl => ?_)
      refine lv_aload_n hx hb dW_aimOf_26 rfl (lv_at hl 1 rfl) ?_
      refine lv_iload_n hx hb dW_aimOf_27 rfl (lv_at hl 2 rfl) ?_
      refine lv_aload_n hx hb dW_aimOf_28 rfl (lv_at hl 1 rfl) ?_
      refine mp_gW cx hE hP iW 0 rfl 10 (by decide) wq_66 rfl (v := .ref (ad 7)) rfl dW_aimOf_29 ?_
      refine lv_iload_n hx hb dW_aimOf_32 rfl (lv_at hl 2 rfl) ?_
      obtain ⟨hi, x6, ex6, h⟩ := mp_lds h
      refine va_iald hx hb hE.1 hP 7 0 (f := w.2.2.2.2.2.2.2.2.2.2.1) (n := 12) rfl rfl hi dW_aimOf_33 ?_
      refine mp_top ex6 ?_
      obtain ⟨x7, ex7, h⟩ := mp_bs h
      refine mp_si (mp_runV (As := [.int a1, .int x6]) (rest := []) cx kV_W_96 (cW_actOf l k ad w a1 x6 x7 ex7) ⟨rfl, rfl, Nat.le_of_ble_eq_true rfl, Nat.le_of_ble_eq_true rfl⟩ ⟨Nat.zero_le _, Nat.zero_le _⟩ hE hP hD va_S.rf 0 rfl rfl rfl hl.1 rfl (Nat.le_of_ble_eq_true rfl) dW_aimOf_34) ?_
      refine lv_istore_n (lv' := [(3, .int x7), (2, .int x5), (0, .ref (ad 0)), (1, .int a1)]) hx hb dW_aimOf_37 rfl hl (by decide) rfl (fun ls hl => ?_)
      refine lv_iload_n hx hb dW_aimOf_38 rfl (lv_at hl 0 rfl) ?_
      refine lv_bipush (v := 10) hx hb dW_aimOf_39 (by decide) ?_
      refine lv_irem hx hb dW_aimOf_41 (by decide) ?_
      refine lv_bipush (v := 9) hx hb dW_aimOf_42 (by decide) ?_
      refine lv_icmp_ne (tgt := 56) hx hb dW_aimOf_44 (by decide) (fun c8 => ?_) (fun c8 => ?_)
      · have h := mp_f c8 h
        refine lv_iload_n hx hb dW_aimOf_56 rfl (lv_at hl 0 rfl) ?_
        refine lv_bipush (v := 10) hx hb dW_aimOf_57 (by decide) ?_
        refine lv_irem hx hb dW_aimOf_59 (by decide) ?_
        refine lv_istore (lv' := [(4, .int (x7 - x7 / 10 * 10)), (3, .int x7), (2, .int x5), (0, .ref (ad 0)), (1, .int a1)]) hx hb dW_aimOf_60 hl (by decide) rfl (fun ls hl => ?_)
        refine lv_iload hx hb dW_aimOf_62 (lv_at hl 0 rfl) ?_
        refine lv_bipush (v := (-9)) hx hb dW_aimOf_64 (by decide) ?_
        refine lv_icmp_ne (tgt := 72) hx hb dW_aimOf_66 (by decide) (fun c9 => ?_) (fun c9 => ?_)
        · have h := mp_f c9 h
          refine lv_iload_n hx hb dW_aimOf_72 rfl (lv_at hl 1 rfl) ?_
          refine lv_bipush (v := 10) hx hb dW_aimOf_73 (by decide) ?_
          refine lv_idiv hx hb dW_aimOf_75 (by decide) ?_
          by_cases c10 : (x7 / 10) = 1
          · have h := mp_t c10 h
            refine lv_tableIn (off := 36) (tgt := 112) hx hb dW_aimOf_76 (by rw [c10]; decide) (by rw [c10]; decide) (by rw [c10]; rfl) (by decide) ?_
            refine lv_iload_n hx hb dW_aimOf_112 rfl (lv_at hl 2 rfl) ?_
            refine lv_if_ne (tgt := 121) hx hb dW_aimOf_113 (by decide) (fun c11 => ?_) (fun c11 => ?_)
            · have h := mp_f c11 h
              refine lv_aload_n hx hb dW_aimOf_121 rfl (lv_at hl 3 rfl) ?_
              refine lv_aload_n hx hb dW_aimOf_122 rfl (lv_at hl 3 rfl) ?_
              refine lv_iload_n hx hb dW_aimOf_123 rfl (lv_at hl 2 rfl) ?_
              obtain ⟨x12, ex12, h⟩ := mp_bs h
              refine mp_si (mp_runV (As := [.int x5]) (rest := [.ref (ad 0)]) cx kV_W_63 (cW_placeAround l k ad w x5 x12 ex12) ⟨rfl, rfl, Nat.le_of_ble_eq_true rfl, Nat.le_of_ble_eq_true rfl⟩ ⟨Nat.zero_le _, Nat.zero_le _⟩ hE hP hD va_S.rf 0 rfl rfl rfl hl.1 rfl (Nat.le_of_ble_eq_true rfl) dW_aimOf_124) ?_
              refine lv_iload hx hb dW_aimOf_127 (lv_at hl 0 rfl) ?_
              refine lv_iload_n hx hb dW_aimOf_129 rfl (lv_at hl 2 rfl) ?_
              obtain ⟨x13, ex13, h⟩ := mp_bs h
              refine mp_si (mp_runV (As := [.int x12, .int (x7 - x7 / 10 * 10), .int x5]) (rest := []) cx kV_W_99 (cW_leastUnsealed l k ad w x12 (x7 - x7 / 10 * 10) x5 x13 ex13) ⟨rfl, rfl, Nat.le_of_ble_eq_true rfl, Nat.le_of_ble_eq_true rfl⟩ ⟨Nat.zero_le _, Nat.zero_le _⟩ hE hP hD va_S.rf 0 rfl rfl rfl hl.1 rfl (Nat.le_of_ble_eq_true rfl) dW_aimOf_130) ?_
              exact mp_ri cx h dW_aimOf_133
            · have h := mp_t c11 h
              refine lv_bipush (v := (-9)) hx hb dW_aimOf_116 (by decide) ?_
              refine lv_goto (tgt := 133) hx hb dW_aimOf_118 (by decide) ?_
              exact mp_ri cx h dW_aimOf_133
          have h := mp_f c10 h
          by_cases c14 : (x7 / 10) = 2
          · have h := mp_t c14 h
            refine lv_tableIn (off := 58) (tgt := 134) hx hb dW_aimOf_76 (by rw [c14]; decide) (by rw [c14]; decide) (by rw [c14]; rfl) (by decide) ?_
            refine lv_aload_n hx hb dW_aimOf_134 rfl (lv_at hl 3 rfl) ?_
            refine lv_iload_n hx hb dW_aimOf_135 rfl (lv_at hl 2 rfl) ?_
            refine lv_iload hx hb dW_aimOf_136 (lv_at hl 0 rfl) ?_
            obtain ⟨x15, ex15, h⟩ := mp_bs h
            refine mp_si (mp_runV (As := [.int x5, .int (x7 - x7 / 10 * 10)]) (rest := []) cx kV_W_103 (cW_unsealedAround l k ad w x5 (x7 - x7 / 10 * 10) x15 ex15) ⟨rfl, rfl, Nat.le_of_ble_eq_true rfl, Nat.le_of_ble_eq_true rfl⟩ ⟨Nat.zero_le _, Nat.zero_le _⟩ hE hP hD va_S.rf 0 rfl rfl rfl hl.1 rfl (Nat.le_of_ble_eq_true rfl) dW_aimOf_138) ?_
            exact mp_ri cx h dW_aimOf_141
          have h := mp_f c14 h
          by_cases c16 : (x7 / 10) = 3
          · have h := mp_t c16 h
            refine lv_tableIn (off := 66) (tgt := 142) hx hb dW_aimOf_76 (by rw [c16]; decide) (by rw [c16]; decide) (by rw [c16]; rfl) (by decide) ?_
            refine lv_aload_n hx hb dW_aimOf_142 rfl (lv_at hl 3 rfl) ?_
            refine lv_iload_n hx hb dW_aimOf_143 rfl (lv_at hl 2 rfl) ?_
            refine lv_iload hx hb dW_aimOf_144 (lv_at hl 0 rfl) ?_
            refine lv_bipush (v := (-9)) hx hb dW_aimOf_146 (by decide) ?_
            obtain ⟨x17, ex17, h⟩ := mp_bs h
            refine mp_si (mp_runV (As := [.int x5, .int (x7 - x7 / 10 * 10), .int (-9)]) (rest := []) cx kV_W_99 (cW_leastUnsealed l k ad w x5 (x7 - x7 / 10 * 10) (-9) x17 ex17) ⟨rfl, rfl, Nat.le_of_ble_eq_true rfl, Nat.le_of_ble_eq_true rfl⟩ ⟨Nat.zero_le _, Nat.zero_le _⟩ hE hP hD va_S.rf 0 rfl rfl rfl hl.1 rfl (Nat.le_of_ble_eq_true rfl) dW_aimOf_148) ?_
            exact mp_ri cx h dW_aimOf_151
          have h := mp_f c16 h
          by_cases c18 : (x7 / 10) = 4
          · have h := mp_t c18 h
            refine lv_tableIn (off := 76) (tgt := 152) hx hb dW_aimOf_76 (by rw [c18]; decide) (by rw [c18]; decide) (by rw [c18]; rfl) (by decide) ?_
            refine lv_iload hx hb dW_aimOf_152 (lv_at hl 0 rfl) ?_
            exact mp_ri cx h dW_aimOf_154
          have h := mp_f c18 h
          by_cases c19 : (x7 / 10) = 5
          · have h := mp_t c19 h
            refine lv_tableIn (off := 79) (tgt := 155) hx hb dW_aimOf_76 (by rw [c19]; decide) (by rw [c19]; decide) (by rw [c19]; rfl) (by decide) ?_
            refine lv_aload_n hx hb dW_aimOf_155 rfl (lv_at hl 3 rfl) ?_
            refine lv_iload_n hx hb dW_aimOf_156 rfl (lv_at hl 2 rfl) ?_
            obtain ⟨x20, ex20, h⟩ := mp_bs h
            refine mp_si (mp_runV (As := [.int x5]) (rest := []) cx kV_W_106 (cW_leastMessage l k ad w x5 x20 ex20) ⟨rfl, rfl, Nat.le_of_ble_eq_true rfl, Nat.le_of_ble_eq_true rfl⟩ ⟨Nat.zero_le _, Nat.zero_le _⟩ hE hP hD va_S.rf 0 rfl rfl rfl hl.1 rfl (Nat.le_of_ble_eq_true rfl) dW_aimOf_157) ?_
            exact mp_ri cx h dW_aimOf_160
          have h := mp_f c19 h
          have qc10 : ((x7 / 10)).toInt ≠ 1 := mp_ne c10
          have qc14 : ((x7 / 10)).toInt ≠ 2 := mp_ne c14
          have qc16 : ((x7 / 10)).toInt ≠ 3 := mp_ne c16
          have qc18 : ((x7 / 10)).toInt ≠ 4 := mp_ne c18
          have qc19 : ((x7 / 10)).toInt ≠ 5 := mp_ne c19
          refine lv_tableOut (tgt := 161) hx hb dW_aimOf_76 (by omega) (by decide) ?_
          refine lv_bipush (v := (-9)) hx hb dW_aimOf_161 (by decide) ?_
          exact mp_ri cx h dW_aimOf_163
        · have h := mp_t c9 h
          refine lv_bipush (v := (-9)) hx hb dW_aimOf_69 (by decide) ?_
          exact mp_ri cx h dW_aimOf_71
      · have h := mp_t c8 h
        refine lv_aload_n hx hb dW_aimOf_47 rfl (lv_at hl 2 rfl) ?_
        refine mp_gW cx hE hP iW 0 rfl 11 (by decide) wq_67 rfl (v := .ref (ad 8)) rfl dW_aimOf_48 ?_
        refine lv_iload_n hx hb dW_aimOf_51 rfl (lv_at hl 3 rfl) ?_
        obtain ⟨hi, x21, ex21, h⟩ := mp_lds h
        refine va_iald hx hb hE.1 hP 8 0 (f := w.2.2.2.2.2.2.2.2.2.2.2) (n := 12) rfl rfl hi dW_aimOf_52 ?_
        refine mp_top ex21 ?_
        refine lv_goto (tgt := 60) hx hb dW_aimOf_53 (by decide) ?_
        refine lv_istore (lv' := [(4, .int x21), (3, .int x7), (2, .int x5), (0, .ref (ad 0)), (1, .int a1)]) hx hb dW_aimOf_60 hl (by decide) rfl (fun ls hl => ?_)
        refine lv_iload hx hb dW_aimOf_62 (lv_at hl 0 rfl) ?_
        refine lv_bipush (v := (-9)) hx hb dW_aimOf_64 (by decide) ?_
        refine lv_icmp_ne (tgt := 72) hx hb dW_aimOf_66 (by decide) (fun c22 => ?_) (fun c22 => ?_)
        · have h := mp_f c22 h
          refine lv_iload_n hx hb dW_aimOf_72 rfl (lv_at hl 1 rfl) ?_
          refine lv_bipush (v := 10) hx hb dW_aimOf_73 (by decide) ?_
          refine lv_idiv hx hb dW_aimOf_75 (by decide) ?_
          by_cases c23 : (x7 / 10) = 1
          · have h := mp_t c23 h
            refine lv_tableIn (off := 36) (tgt := 112) hx hb dW_aimOf_76 (by rw [c23]; decide) (by rw [c23]; decide) (by rw [c23]; rfl) (by decide) ?_
            refine lv_iload_n hx hb dW_aimOf_112 rfl (lv_at hl 2 rfl) ?_
            refine lv_if_ne (tgt := 121) hx hb dW_aimOf_113 (by decide) (fun c24 => ?_) (fun c24 => ?_)
            · have h := mp_f c24 h
              refine lv_aload_n hx hb dW_aimOf_121 rfl (lv_at hl 3 rfl) ?_
              refine lv_aload_n hx hb dW_aimOf_122 rfl (lv_at hl 3 rfl) ?_
              refine lv_iload_n hx hb dW_aimOf_123 rfl (lv_at hl 2 rfl) ?_
              obtain ⟨x25, ex25, h⟩ := mp_bs h
              refine mp_si (mp_runV (As := [.int x5]) (rest := [.ref (ad 0)]) cx kV_W_63 (cW_placeAround l k ad w x5 x25 ex25) ⟨rfl, rfl, Nat.le_of_ble_eq_true rfl, Nat.le_of_ble_eq_true rfl⟩ ⟨Nat.zero_le _, Nat.zero_le _⟩ hE hP hD va_S.rf 0 rfl rfl rfl hl.1 rfl (Nat.le_of_ble_eq_true rfl) dW_aimOf_124) ?_
              refine lv_iload hx hb dW_aimOf_127 (lv_at hl 0 rfl) ?_
              refine lv_iload_n hx hb dW_aimOf_129 rfl (lv_at hl 2 rfl) ?_
              obtain ⟨x26, ex26, h⟩ := mp_bs h
              refine mp_si (mp_runV (As := [.int x25, .int x21, .int x5]) (rest := []) cx kV_W_99 (cW_leastUnsealed l k ad w x25 x21 x5 x26 ex26) ⟨rfl, rfl, Nat.le_of_ble_eq_true rfl, Nat.le_of_ble_eq_true rfl⟩ ⟨Nat.zero_le _, Nat.zero_le _⟩ hE hP hD va_S.rf 0 rfl rfl rfl hl.1 rfl (Nat.le_of_ble_eq_true rfl) dW_aimOf_130) ?_
              exact mp_ri cx h dW_aimOf_133
            · have h := mp_t c24 h
              refine lv_bipush (v := (-9)) hx hb dW_aimOf_116 (by decide) ?_
              refine lv_goto (tgt := 133) hx hb dW_aimOf_118 (by decide) ?_
              exact mp_ri cx h dW_aimOf_133
          have h := mp_f c23 h
          by_cases c27 : (x7 / 10) = 2
          · have h := mp_t c27 h
            refine lv_tableIn (off := 58) (tgt := 134) hx hb dW_aimOf_76 (by rw [c27]; decide) (by rw [c27]; decide) (by rw [c27]; rfl) (by decide) ?_
            refine lv_aload_n hx hb dW_aimOf_134 rfl (lv_at hl 3 rfl) ?_
            refine lv_iload_n hx hb dW_aimOf_135 rfl (lv_at hl 2 rfl) ?_
            refine lv_iload hx hb dW_aimOf_136 (lv_at hl 0 rfl) ?_
            obtain ⟨x28, ex28, h⟩ := mp_bs h
            refine mp_si (mp_runV (As := [.int x5, .int x21]) (rest := []) cx kV_W_103 (cW_unsealedAround l k ad w x5 x21 x28 ex28) ⟨rfl, rfl, Nat.le_of_ble_eq_true rfl, Nat.le_of_ble_eq_true rfl⟩ ⟨Nat.zero_le _, Nat.zero_le _⟩ hE hP hD va_S.rf 0 rfl rfl rfl hl.1 rfl (Nat.le_of_ble_eq_true rfl) dW_aimOf_138) ?_
            exact mp_ri cx h dW_aimOf_141
          have h := mp_f c27 h
          by_cases c29 : (x7 / 10) = 3
          · have h := mp_t c29 h
            refine lv_tableIn (off := 66) (tgt := 142) hx hb dW_aimOf_76 (by rw [c29]; decide) (by rw [c29]; decide) (by rw [c29]; rfl) (by decide) ?_
            refine lv_aload_n hx hb dW_aimOf_142 rfl (lv_at hl 3 rfl) ?_
            refine lv_iload_n hx hb dW_aimOf_143 rfl (lv_at hl 2 rfl) ?_
            refine lv_iload hx hb dW_aimOf_144 (lv_at hl 0 rfl) ?_
            refine lv_bipush (v := (-9)) hx hb dW_aimOf_146 (by decide) ?_
            obtain ⟨x30, ex30, h⟩ := mp_bs h
            refine mp_si (mp_runV (As := [.int x5, .int x21, .int (-9)]) (rest := []) cx kV_W_99 (cW_leastUnsealed l k ad w x5 x21 (-9) x30 ex30) ⟨rfl, rfl, Nat.le_of_ble_eq_true rfl, Nat.le_of_ble_eq_true rfl⟩ ⟨Nat.zero_le _, Nat.zero_le _⟩ hE hP hD va_S.rf 0 rfl rfl rfl hl.1 rfl (Nat.le_of_ble_eq_true rfl) dW_aimOf_148) ?_
            exact mp_ri cx h dW_aimOf_151
          have h := mp_f c29 h
          by_cases c31 : (x7 / 10) = 4
          · have h := mp_t c31 h
            refine lv_tableIn (off := 76) (tgt := 152) hx hb dW_aimOf_76 (by rw [c31]; decide) (by rw [c31]; decide) (by rw [c31]; rfl) (by decide) ?_
            refine lv_iload hx hb dW_aimOf_152 (lv_at hl 0 rfl) ?_
            exact mp_ri cx h dW_aimOf_154
          have h := mp_f c31 h
          by_cases c32 : (x7 / 10) = 5
          · have h := mp_t c32 h
            refine lv_tableIn (off := 79) (tgt := 155) hx hb dW_aimOf_76 (by rw [c32]; decide) (by rw [c32]; decide) (by rw [c32]; rfl) (by decide) ?_
            refine lv_aload_n hx hb dW_aimOf_155 rfl (lv_at hl 3 rfl) ?_
            refine lv_iload_n hx hb dW_aimOf_156 rfl (lv_at hl 2 rfl) ?_
            obtain ⟨x33, ex33, h⟩ := mp_bs h
            refine mp_si (mp_runV (As := [.int x5]) (rest := []) cx kV_W_106 (cW_leastMessage l k ad w x5 x33 ex33) ⟨rfl, rfl, Nat.le_of_ble_eq_true rfl, Nat.le_of_ble_eq_true rfl⟩ ⟨Nat.zero_le _, Nat.zero_le _⟩ hE hP hD va_S.rf 0 rfl rfl rfl hl.1 rfl (Nat.le_of_ble_eq_true rfl) dW_aimOf_157) ?_
            exact mp_ri cx h dW_aimOf_160
          have h := mp_f c32 h
          have qc23 : ((x7 / 10)).toInt ≠ 1 := mp_ne c23
          have qc27 : ((x7 / 10)).toInt ≠ 2 := mp_ne c27
          have qc29 : ((x7 / 10)).toInt ≠ 3 := mp_ne c29
          have qc31 : ((x7 / 10)).toInt ≠ 4 := mp_ne c31
          have qc32 : ((x7 / 10)).toInt ≠ 5 := mp_ne c32
          refine lv_tableOut (tgt := 161) hx hb dW_aimOf_76 (by omega) (by decide) ?_
          refine lv_bipush (v := (-9)) hx hb dW_aimOf_161 (by decide) ?_
          exact mp_ri cx h dW_aimOf_163
        · have h := mp_t c22 h
          refine lv_bipush (v := (-9)) hx hb dW_aimOf_69 (by decide) ?_
          exact mp_ri cx h dW_aimOf_71
    · have h := mp_f c4 h
      refine lv_bipush (v := (-9)) hx hb dW_aimOf_16 (by decide) ?_
      exact mp_ri cx h dW_aimOf_18
theorem cW_aimOf (l : Launch) (k : KK) (ad : Nat → Nat) (w : SW) (a1 : Int32) (z : Int32) (h : fW_aimOf w a1 = some z) : mp_CS l k yW_aimOf bW_aimOf 5 (some .int) rmW_aimOf [.ref (ad 0), .int a1] (cW k ad w) (some (.int z)) := by
  refine Met.ofW (cc := bW_aimOf) (maxL := 5) (ret := (some .int)) (by decide) rfl ?_
  intro p e s m args below meth c s₁ B hml hv
  obtain ⟨rfl, hP, hD, hE⟩ := hv
  have hl := lv_entry ([.ref (ad 0), .int a1]) (n := 5) (Nat.le_of_ble_eq_true rfl)
  rw [lg_entry_eq]
  generalize (lg_sl ([.ref (ad 0), .int a1]) ++ List.replicate (5 - (lg_sl ([.ref (ad 0), .int a1])).length) Slot.unset).toArray = ls at hl ⊢
  exact wW_aimOf (mp_C.of B hml) k ad w a1 z hE hP hD h ls hl
-- MovingPlaces$World.threadsThatCan
abbrev rmW_threadsThatCan : Room := { frames := 4, cells := 0, slots := 0, locals := 89 }
def fW_threadsThatCan_4 (w : SW) : Nat → Int32 → Int32 → Option Int32
  | 0, _, _ => none
  | n + 1, a1, a2 => (if w.2.2.2.2.2.2.1 ≤ a2 then some a1 else (fW_aimOf w a2).bind fun x2 => (if x2 = (-9) then fW_threadsThatCan_4 w n a1 (a2 + 1) else mp_lt (a1 ||| (1 <<< (a2 &&& 31))) fun x4 => fW_threadsThatCan_4 w n x4 (a2 + 1)))
theorem fW_threadsThatCan_4_s (w : SW) (n : Nat) (a1 : Int32) (a2 : Int32) : fW_threadsThatCan_4 w (n + 1) a1 a2 = (if w.2.2.2.2.2.2.1 ≤ a2 then some a1 else (fW_aimOf w a2).bind fun x2 => (if x2 = (-9) then fW_threadsThatCan_4 w n a1 (a2 + 1) else mp_lt (a1 ||| (1 <<< (a2 &&& 31))) fun x4 => fW_threadsThatCan_4 w n x4 (a2 + 1))) := rfl
set_option maxHeartbeats 4000000 in
set_option maxRecDepth 100000 in
theorem lW_threadsThatCan_4 {p : Program} {l : Launch} {e : Env} {s : State} {m : MethodId} {args : Array Value} {below : List Frame} {meth : Method} {c : Code} (cx : mp_C p s m args meth c bW_threadsThatCan 3 (some .int) rW) (k : KK) (ad : Nat → Nat) (w : SW) (z : Int32) (hE : mp_E k s) (hP : va_P (kD k) mp_cls (cW k ad w) s.heap) (hD : va_D (mp_N k) (cW k ad w)) : ∀ (n : Nat) (a1 : Int32) (a2 : Int32), fW_threadsThatCan_4 w n a1 a2 = some z → ∀ (ls : Array Slot), lv_has ls 3 [(0, .ref (ad 0)), (1, .int a1), (2, .int a2)] → W p l e rmW_threadsThatCan s m args below meth c s.heap [] 0 0 (MQ below (mp_Qs (some (.int z))) args s 0 0 (fun _ => False)) (F0 m 4 ls []) := by
  obtain ⟨hx, hb, -, hml, hown, hts, -⟩ := id cx
  intro n
  induction n with
  | zero =>
    intro a1 a2 h
    have h : (none : Option Int32) = some z := h
    cases h
  | succ n ih =>
    intro a1 a2 h ls hl
    rw [fW_threadsThatCan_4_s] at h
    refine lv_iload_n hx hb dW_threadsThatCan_4 rfl (lv_at hl 2 rfl) ?_
    refine lv_aload_n hx hb dW_threadsThatCan_5 rfl (lv_at hl 0 rfl) ?_
    refine mp_gW cx hE hP iW 0 rfl 6 (by decide) wq_62 rfl (v := .int w.2.2.2.2.2.2.1) rfl dW_threadsThatCan_6 ?_
    refine lv_icmp_ge (tgt := 34) hx hb dW_threadsThatCan_9 (by decide) (fun c1 => ?_) (fun c1 => ?_)
    · have h := mp_t c1 h
      refine lv_iload_n hx hb dW_threadsThatCan_34 rfl (lv_at hl 1 rfl) ?_
      exact mp_ri cx h dW_threadsThatCan_35
    · have h := mp_f c1 h
      refine lv_aload_n hx hb dW_threadsThatCan_12 rfl (lv_at hl 0 rfl) ?_
      refine lv_iload_n hx hb dW_threadsThatCan_13 rfl (lv_at hl 2 rfl) ?_
      obtain ⟨x2, ex2, h⟩ := mp_bs h
      refine mp_si (mp_runV (As := [.int a2]) (rest := []) cx kV_W_93 (cW_aimOf l k ad w a2 x2 ex2) ⟨rfl, rfl, Nat.le_of_ble_eq_true rfl, Nat.le_of_ble_eq_true rfl⟩ ⟨Nat.zero_le _, Nat.zero_le _⟩ hE hP hD va_S.rf 0 rfl rfl rfl hl.1 rfl (Nat.le_of_ble_eq_true rfl) dW_threadsThatCan_14) ?_
      refine lv_bipush (v := (-9)) hx hb dW_threadsThatCan_17 (by decide) ?_
      refine lv_icmp_eq (tgt := 28) hx hb dW_threadsThatCan_19 (by decide) (fun c3 => ?_) (fun c3 => ?_)
      · have h := mp_t c3 h
        refine lv_iinc (v := (a2 + 1)) (lv' := [(2, .int (a2 + 1)), (0, .ref (ad 0)), (1, .int a1)]) hx hb dW_threadsThatCan_28 hl (k := 2) rfl rfl (by decide) rfl (fun ls hl => ?_)
        refine lv_goto (tgt := 4) hx hb dW_threadsThatCan_31 (by decide) ?_
        exact ih a1 (a2 + 1) h ls (lv_sub hl [1, 2, 0] rfl)
      · have h := mp_f c3 h
        refine lv_iload_n hx hb dW_threadsThatCan_22 rfl (lv_at hl 1 rfl) ?_
        refine lv_iconst (v := 1) hx hb dW_threadsThatCan_23 (by decide) ?_
        refine lv_iload_n hx hb dW_threadsThatCan_24 rfl (lv_at hl 2 rfl) ?_
        refine lv_ishl hx hb dW_threadsThatCan_25 ?_
        refine lv_ior hx hb dW_threadsThatCan_26 ?_
        obtain ⟨x4, ex4, h⟩ := mp_lts h
        refine mp_top ex4 ?_
        refine lv_istore_n (lv' := [(1, .int x4), (0, .ref (ad 0)), (2, .int a2)]) hx hb dW_threadsThatCan_27 rfl hl (by decide) rfl (fun ls hl => ?_)
        refine lv_iinc (v := (a2 + 1)) (lv' := [(2, .int (a2 + 1)), (1, .int x4), (0, .ref (ad 0))]) hx hb dW_threadsThatCan_28 hl (k := 2) rfl rfl (by decide) rfl (fun ls hl => ?_)
        refine lv_goto (tgt := 4) hx hb dW_threadsThatCan_31 (by decide) ?_
        exact ih x4 (a2 + 1) h ls (lv_sub hl [2, 1, 0] rfl)
def fW_threadsThatCan (w : SW) : Option Int32 := fW_threadsThatCan_4 w 2000 0 0
set_option maxHeartbeats 4000000 in
set_option maxRecDepth 100000 in
theorem wW_threadsThatCan {p : Program} {l : Launch} {e : Env} {s : State} {m : MethodId} {args : Array Value} {below : List Frame} {meth : Method} {c : Code} (cx : mp_C p s m args meth c bW_threadsThatCan 3 (some .int) rW) (k : KK) (ad : Nat → Nat) (w : SW) (z : Int32) (hE : mp_E k s) (hP : va_P (kD k) mp_cls (cW k ad w) s.heap) (hD : va_D (mp_N k) (cW k ad w)) (h : fW_threadsThatCan w = some z) (ls : Array Slot) (hl : lv_has ls 3 [(0, .ref (ad 0))]) : W p l e rmW_threadsThatCan s m args below meth c s.heap [] 0 0 (MQ below (mp_Qs (some (.int z))) args s 0 0 (fun _ => False)) (F0 m 0 ls []) := by
  obtain ⟨hx, hb, -, hml, hown, hts, -⟩ := id cx
  unfold fW_threadsThatCan at h
  refine lv_iconst (v := 0) hx hb dW_threadsThatCan_0 (by decide) ?_
  refine lv_istore_n (lv' := [(1, .int 0), (0, .ref (ad 0))]) hx hb dW_threadsThatCan_1 rfl hl (by decide) rfl (fun ls hl => ?_)
  refine lv_iconst (v := 0) hx hb dW_threadsThatCan_2 (by decide) ?_
  refine lv_istore_n (lv' := [(2, .int 0), (1, .int 0), (0, .ref (ad 0))]) hx hb dW_threadsThatCan_3 rfl hl (by decide) rfl (fun ls hl => ?_)
  exact lW_threadsThatCan_4 cx k ad w z hE hP hD _ 0 0 h ls (lv_sub hl [2, 1, 0] rfl)
theorem cW_threadsThatCan (l : Launch) (k : KK) (ad : Nat → Nat) (w : SW) (z : Int32) (h : fW_threadsThatCan w = some z) : mp_CS l k yW_threadsThatCan bW_threadsThatCan 3 (some .int) rmW_threadsThatCan [.ref (ad 0)] (cW k ad w) (some (.int z)) := by
  refine Met.ofW (cc := bW_threadsThatCan) (maxL := 3) (ret := (some .int)) (by decide) rfl ?_
  intro p e s m args below meth c s₁ B hml hv
  obtain ⟨rfl, hP, hD, hE⟩ := hv
  have hl := lv_entry ([.ref (ad 0)]) (n := 3) (Nat.le_of_ble_eq_true rfl)
  rw [lg_entry_eq]
  generalize (lg_sl ([.ref (ad 0)]) ++ List.replicate (3 - (lg_sl ([.ref (ad 0)])).length) Slot.unset).toArray = ls at hl ⊢
  exact wW_threadsThatCan (mp_C.of B hml) k ad w z hE hP hD h ls hl
-- MovingPlaces$World.putInto
abbrev rmW_putInto : Room := { frames := 1, cells := 0, slots := 0, locals := 21 }
def fW_putInto (w : SW) (a1 : Int32) (a2 : Int32) : Option SW := (fW_isPlace w a1).bind fun x1 => (if x1 = 0 then some w else (fW_isPlace w a2).bind fun x3 => (if x3 = 0 then some w else mp_st 12 a1 (some (w.1, w.2.1, w.2.2.1, w.2.2.2.1, (upd w.2.2.2.2.1 (Int32.toNatClampNeg a1) a2), w.2.2.2.2.2.1, w.2.2.2.2.2.2.1, w.2.2.2.2.2.2.2.1, w.2.2.2.2.2.2.2.2.1, w.2.2.2.2.2.2.2.2.2.1, w.2.2.2.2.2.2.2.2.2.2.1, w.2.2.2.2.2.2.2.2.2.2.2))))
set_option maxHeartbeats 4000000 in
set_option maxRecDepth 100000 in
theorem wW_putInto {p : Program} {l : Launch} {e : Env} {s : State} {m : MethodId} {args : Array Value} {below : List Frame} {meth : Method} {c : Code} (cx : mp_C p s m args meth c bW_putInto 3 none rW) (k : KK) (ad : Nat → Nat) (w : SW) (a1 : Int32) (a2 : Int32) (z : SW) (hE : mp_E k s) (hAN : ∀ q, mp_A (aW ad) q → mp_N k q) {H : Heap} {locs : List Loc} (hP : va_P (kD k) mp_cls (cW k ad w) H) (hD : va_D (mp_A (aW ad)) (cW k ad w)) (hS : va_S (mp_A (aW ad)) s.heap H locs) (h : fW_putInto w a1 a2 = some z) (ls : Array Slot) (hl : lv_has ls 3 [(0, .ref (ad 0)), (1, .int a1), (2, .int a2)]) : W p l e rmW_putInto s m args below meth c H locs 0 0 (MQ below (mp_Qm k none (cW k ad z) (aW ad)) args s 0 0 (mp_A (aW ad))) (F0 m 0 ls []) := by
  obtain ⟨hx, hb, -, hml, hown, hts, -⟩ := id cx
  unfold fW_putInto at h
  refine lv_aload_n hx hb dW_putInto_0 rfl (lv_at hl 0 rfl) ?_
  refine lv_iload_n hx hb dW_putInto_1 rfl (lv_at hl 1 rfl) ?_
  obtain ⟨x1, ex1, h⟩ := mp_bs h
  refine mp_si (mp_runV (As := [.int a1]) (rest := []) cx kV_W_56 (cW_isPlace l k ad w a1 x1 ex1) ⟨rfl, rfl, Nat.le_of_ble_eq_true rfl, Nat.le_of_ble_eq_true rfl⟩ ⟨Nat.zero_le _, Nat.zero_le _⟩ hE hP (mp_Dw hD hAN) (mp_S hS hAN) 0 rfl rfl rfl hl.1 rfl (Nat.le_of_ble_eq_true rfl) dW_putInto_2) ?_
  refine lv_if_eq (tgt := 23) hx hb dW_putInto_5 (by decide) (fun c2 => ?_) (fun c2 => ?_)
  · have h := mp_t c2 h
    exact mp_rvm (cf := cW k ad) cx h hP hS dW_putInto_23
  · have h := mp_f c2 h
    refine lv_aload_n hx hb dW_putInto_8 rfl (lv_at hl 0 rfl) ?_
    refine lv_iload_n hx hb dW_putInto_9 rfl (lv_at hl 2 rfl) ?_
    obtain ⟨x3, ex3, h⟩ := mp_bs h
    refine mp_si (mp_runV (As := [.int a2]) (rest := []) cx kV_W_56 (cW_isPlace l k ad w a2 x3 ex3) ⟨rfl, rfl, Nat.le_of_ble_eq_true rfl, Nat.le_of_ble_eq_true rfl⟩ ⟨Nat.zero_le _, Nat.zero_le _⟩ hE hP (mp_Dw hD hAN) (mp_S hS hAN) 0 rfl rfl rfl hl.1 rfl (Nat.le_of_ble_eq_true rfl) dW_putInto_10) ?_
    refine lv_if_eq (tgt := 23) hx hb dW_putInto_13 (by decide) (fun c4 => ?_) (fun c4 => ?_)
    · have h := mp_t c4 h
      exact mp_rvm (cf := cW k ad) cx h hP hS dW_putInto_23
    · have h := mp_f c4 h
      refine lv_aload_n hx hb dW_putInto_16 rfl (lv_at hl 0 rfl) ?_
      refine mp_gW cx hE hP iW 0 rfl 4 (by decide) wq_60 rfl (v := .ref (ad 2)) rfl dW_putInto_17 ?_
      refine lv_iload_n hx hb dW_putInto_20 rfl (lv_at hl 1 rfl) ?_
      refine lv_iload_n hx hb dW_putInto_21 rfl (lv_at hl 2 rfl) ?_
      obtain ⟨hi, h⟩ := mp_sts h
      refine va_iast hx hb hE.1 hP hD hS 2 0 (f := w.2.2.2.2.1) (n := 12) rfl rfl hi dW_putInto_22 (fun H locs hP hD hS => ?_)
      have hP : va_P (kD k) mp_cls (cW k ad (w.1, w.2.1, w.2.2.1, w.2.2.2.1, (upd w.2.2.2.2.1 (Int32.toNatClampNeg a1) a2), w.2.2.2.2.2.1, w.2.2.2.2.2.2.1, w.2.2.2.2.2.2.2.1, w.2.2.2.2.2.2.2.2.1, w.2.2.2.2.2.2.2.2.2.1, w.2.2.2.2.2.2.2.2.2.2.1, w.2.2.2.2.2.2.2.2.2.2.2)) H := hP
      have hD : va_D (mp_A (aW ad)) (cW k ad (w.1, w.2.1, w.2.2.1, w.2.2.2.1, (upd w.2.2.2.2.1 (Int32.toNatClampNeg a1) a2), w.2.2.2.2.2.1, w.2.2.2.2.2.2.1, w.2.2.2.2.2.2.2.1, w.2.2.2.2.2.2.2.2.1, w.2.2.2.2.2.2.2.2.2.1, w.2.2.2.2.2.2.2.2.2.2.1, w.2.2.2.2.2.2.2.2.2.2.2)) := hD
      exact mp_rvm (cf := cW k ad) cx h hP hS dW_putInto_23
theorem cW_putInto (l : Launch) (k : KK) (ad : Nat → Nat) (w : SW) (a1 : Int32) (a2 : Int32) (z : SW) (h : fW_putInto w a1 a2 = some z) : mp_CM l k yW_putInto bW_putInto 3 none rmW_putInto [.ref (ad 0), .int a1, .int a2] (cW k ad w) (cW k ad z) (aW ad) (none) := by
  refine Met.ofW (cc := bW_putInto) (maxL := 3) (ret := none) (by decide) rfl ?_
  intro p e s m args below meth c s₁ B hml hv
  obtain ⟨rfl, hP, hD, hE⟩ := hv
  have hl := lv_entry ([.ref (ad 0), .int a1, .int a2]) (n := 3) (Nat.le_of_ble_eq_true rfl)
  rw [lg_entry_eq]
  generalize (lg_sl ([.ref (ad 0), .int a1, .int a2]) ++ List.replicate (3 - (lg_sl ([.ref (ad 0), .int a1, .int a2])).length) Slot.unset).toArray = ls at hl ⊢
  exact wW_putInto (mp_C.of B hml) k ad w a1 a2 z hE (mp_new hD rfl) hP (mp_own hD rfl) va_S.rf h ls hl
