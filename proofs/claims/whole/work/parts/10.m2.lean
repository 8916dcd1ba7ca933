theorem dM_findRow_0 : decode bM_findRow 0 = .ok (.iload_n 2, 1) := by decide +kernel
theorem dM_findRow_1 : decode bM_findRow 1 = .ok (.iload_n 3, 1) := by decide +kernel
theorem dM_findRow_2 : decode bM_findRow 2 = .ok (.if_icmp .ge 21, 3) := by decide +kernel
theorem dM_findRow_5 : decode bM_findRow 5 = .ok (.iload_n 2, 1) := by decide +kernel
theorem dM_findRow_6 : decode bM_findRow 6 = .ok (.aload_n 0, 1) := by decide +kernel
theorem dM_findRow_7 : decode bM_findRow 7 = .ok (.getfield 23, 3) := by decide +kernel
theorem dM_findRow_10 : decode bM_findRow 10 = .ok (.arraylength, 1) := by decide +kernel
theorem dM_findRow_11 : decode bM_findRow 11 = .ok (.if_icmp .ge 12, 3) := by decide +kernel
theorem dM_findRow_14 : decode bM_findRow 14 = .ok (.iload_n 2, 1) := by decide +kernel
theorem dM_findRow_15 : decode bM_findRow 15 = .ok (.aload_n 0, 1) := by decide +kernel
theorem dM_findRow_16 : decode bM_findRow 16 = .ok (.getfield 27, 3) := by decide +kernel
theorem dM_findRow_19 : decode bM_findRow 19 = .ok (.arraylength, 1) := by decide +kernel
theorem dM_findRow_20 : decode bM_findRow 20 = .ok (.if_icmp .lt 12, 3) := by decide +kernel
theorem dM_findRow_23 : decode bM_findRow 23 = .ok (.aload_n 1, 1) := by decide +kernel
theorem dM_findRow_24 : decode bM_findRow 24 = .ok (.iload 4, 2) := by decide +kernel
theorem dM_findRow_26 : decode bM_findRow 26 = .ok (.iload 5, 2) := by decide +kernel
theorem dM_findRow_28 : decode bM_findRow 28 = .ok (.invokevirtual 101, 3) := by decide +kernel
theorem dM_findRow_31 : decode bM_findRow 31 = .ok (.ireturn, 1) := by decide +kernel
theorem dM_findRow_32 : decode bM_findRow 32 = .ok (.aload_n 0, 1) := by decide +kernel
theorem dM_findRow_33 : decode bM_findRow 33 = .ok (.getfield 23, 3) := by decide +kernel
theorem dM_findRow_36 : decode bM_findRow 36 = .ok (.iload_n 2, 1) := by decide +kernel
theorem dM_findRow_37 : decode bM_findRow 37 = .ok (.aaload, 1) := by decide +kernel
theorem dM_findRow_38 : decode bM_findRow 38 = .ok (.astore 6, 2) := by decide +kernel
theorem dM_findRow_40 : decode bM_findRow 40 = .ok (.iconst 0, 1) := by decide +kernel
theorem dM_findRow_41 : decode bM_findRow 41 = .ok (.istore 7, 2) := by decide +kernel
theorem dM_findRow_43 : decode bM_findRow 43 = .ok (.iload 7, 2) := by decide +kernel
theorem dM_findRow_45 : decode bM_findRow 45 = .ok (.aload_n 1, 1) := by decide +kernel
theorem dM_findRow_46 : decode bM_findRow 46 = .ok (.invokevirtual 139, 3) := by decide +kernel
theorem dM_findRow_49 : decode bM_findRow 49 = .ok (.if_icmp .ge 61, 3) := by decide +kernel
theorem dM_findRow_52 : decode bM_findRow 52 = .ok (.aload_n 1, 1) := by decide +kernel
theorem dM_findRow_53 : decode bM_findRow 53 = .ok (.iload 7, 2) := by decide +kernel
theorem dM_findRow_55 : decode bM_findRow 55 = .ok (.invokevirtual 156, 3) := by decide +kernel
theorem dM_findRow_58 : decode bM_findRow 58 = .ok (.bipush (-9), 2) := by decide +kernel
theorem dM_findRow_60 : decode bM_findRow 60 = .ok (.if_icmp .eq 44, 3) := by decide +kernel
theorem dM_findRow_63 : decode bM_findRow 63 = .ok (.aload 6, 2) := by decide +kernel
theorem dM_findRow_65 : decode bM_findRow 65 = .ok (.aload_n 1, 1) := by decide +kernel
theorem dM_findRow_66 : decode bM_findRow 66 = .ok (.invokevirtual 132, 3) := by decide +kernel
theorem dM_findRow_69 : decode bM_findRow 69 = .ok (.aload 6, 2) := by decide +kernel
theorem dM_findRow_71 : decode bM_findRow 71 = .ok (.iload 7, 2) := by decide +kernel
theorem dM_findRow_73 : decode bM_findRow 73 = .ok (.invokevirtual 109, 3) := by decide +kernel
theorem dM_findRow_76 : decode bM_findRow 76 = .ok (.pop, 1) := by decide +kernel
theorem dM_findRow_77 : decode bM_findRow 77 = .ok (.aload_n 0, 1) := by decide +kernel
theorem dM_findRow_78 : decode bM_findRow 78 = .ok (.getfield 27, 3) := by decide +kernel
theorem dM_findRow_81 : decode bM_findRow 81 = .ok (.iload_n 2, 1) := by decide +kernel
theorem dM_findRow_82 : decode bM_findRow 82 = .ok (.iload 7, 2) := by decide +kernel
theorem dM_findRow_84 : decode bM_findRow 84 = .ok (.iastore, 1) := by decide +kernel
theorem dM_findRow_85 : decode bM_findRow 85 = .ok (.aload_n 0, 1) := by decide +kernel
theorem dM_findRow_86 : decode bM_findRow 86 = .ok (.aload 6, 2) := by decide +kernel
theorem dM_findRow_88 : decode bM_findRow 88 = .ok (.iload_n 2, 1) := by decide +kernel
theorem dM_findRow_89 : decode bM_findRow 89 = .ok (.iconst 1, 1) := by decide +kernel
theorem dM_findRow_90 : decode bM_findRow 90 = .ok (.iadd, 1) := by decide +kernel
theorem dM_findRow_91 : decode bM_findRow 91 = .ok (.iload_n 3, 1) := by decide +kernel
theorem dM_findRow_92 : decode bM_findRow 92 = .ok (.iload 4, 2) := by decide +kernel
theorem dM_findRow_94 : decode bM_findRow 94 = .ok (.iload 5, 2) := by decide +kernel
theorem dM_findRow_96 : decode bM_findRow 96 = .ok (.invokevirtual 119, 3) := by decide +kernel
theorem dM_findRow_99 : decode bM_findRow 99 = .ok (.ifCond .eq 5, 3) := by decide +kernel
theorem dM_findRow_102 : decode bM_findRow 102 = .ok (.iconst 1, 1) := by decide +kernel
theorem dM_findRow_103 : decode bM_findRow 103 = .ok (.ireturn, 1) := by decide +kernel
theorem dM_findRow_104 : decode bM_findRow 104 = .ok (.iinc 7 1, 3) := by decide +kernel
theorem dM_findRow_107 : decode bM_findRow 107 = .ok (.goto (-64), 3) := by decide +kernel
theorem dM_findRow_110 : decode bM_findRow 110 = .ok (.iconst 0, 1) := by decide +kernel
theorem dM_findRow_111 : decode bM_findRow 111 = .ok (.ireturn, 1) := by decide +kernel
theorem dM_threadInRow_0 : decode bM_threadInRow 0 = .ok (.iload_n 1, 1) := by decide +kernel
theorem dM_threadInRow_1 : decode bM_threadInRow 1 = .ok (.ifCond .lt 26, 3) := by decide +kernel
theorem dM_threadInRow_4 : decode bM_threadInRow 4 = .ok (.iload_n 1, 1) := by decide +kernel
theorem dM_threadInRow_5 : decode bM_threadInRow 5 = .ok (.iload_n 2, 1) := by decide +kernel
theorem dM_threadInRow_6 : decode bM_threadInRow 6 = .ok (.if_icmp .ge 21, 3) := by decide +kernel
theorem dM_threadInRow_9 : decode bM_threadInRow 9 = .ok (.iload_n 1, 1) := by decide +kernel
theorem dM_threadInRow_10 : decode bM_threadInRow 10 = .ok (.aload_n 0, 1) := by decide +kernel
theorem dM_threadInRow_11 : decode bM_threadInRow 11 = .ok (.getfield 27, 3) := by decide +kernel
theorem dM_threadInRow_14 : decode bM_threadInRow 14 = .ok (.arraylength, 1) := by decide +kernel
theorem dM_threadInRow_15 : decode bM_threadInRow 15 = .ok (.if_icmp .ge 12, 3) := by decide +kernel
theorem dM_threadInRow_18 : decode bM_threadInRow 18 = .ok (.aload_n 0, 1) := by decide +kernel
theorem dM_threadInRow_19 : decode bM_threadInRow 19 = .ok (.getfield 27, 3) := by decide +kernel
theorem dM_threadInRow_22 : decode bM_threadInRow 22 = .ok (.iload_n 1, 1) := by decide +kernel
theorem dM_threadInRow_23 : decode bM_threadInRow 23 = .ok (.iaload, 1) := by decide +kernel
theorem dM_threadInRow_24 : decode bM_threadInRow 24 = .ok (.goto 5, 3) := by decide +kernel
theorem dM_threadInRow_27 : decode bM_threadInRow 27 = .ok (.bipush (-9), 2) := by decide +kernel
theorem dM_threadInRow_29 : decode bM_threadInRow 29 = .ok (.ireturn, 1) := by decide +kernel
theorem dM_soonest_0 : decode bM_soonest 0 = .ok (.aload_n 0, 1) := by decide +kernel
theorem dM_soonest_1 : decode bM_soonest 1 = .ok (.getfield 10, 3) := by decide +kernel
theorem dM_soonest_4 : decode bM_soonest 4 = .ok (.iload_n 1, 1) := by decide +kernel
theorem dM_soonest_5 : decode bM_soonest 5 = .ok (.invokevirtual 31, 3) := by decide +kernel
theorem dM_soonest_8 : decode bM_soonest 8 = .ok (.ifCond .eq 14, 3) := by decide +kernel
theorem dM_soonest_11 : decode bM_soonest 11 = .ok (.aload_n 0, 1) := by decide +kernel
theorem dM_soonest_12 : decode bM_soonest 12 = .ok (.getfield 10, 3) := by decide +kernel
theorem dM_soonest_15 : decode bM_soonest 15 = .ok (.iload_n 2, 1) := by decide +kernel
theorem dM_soonest_16 : decode bM_soonest 16 = .ok (.invokevirtual 31, 3) := by decide +kernel
theorem dM_soonest_19 : decode bM_soonest 19 = .ok (.ifCond .ne 5, 3) := by decide +kernel
theorem dM_soonest_22 : decode bM_soonest 22 = .ok (.iconst (-1), 1) := by decide +kernel
theorem dM_soonest_23 : decode bM_soonest 23 = .ok (.ireturn, 1) := by decide +kernel
theorem dM_soonest_24 : decode bM_soonest 24 = .ok (.iload_n 3, 1) := by decide +kernel
theorem dM_soonest_25 : decode bM_soonest 25 = .ok (.iconst (-1), 1) := by decide +kernel
theorem dM_soonest_26 : decode bM_soonest 26 = .ok (.if_icmp .lt 8, 3) := by decide +kernel
theorem dM_soonest_29 : decode bM_soonest 29 = .ok (.iload_n 3, 1) := by decide +kernel
theorem dM_soonest_30 : decode bM_soonest 30 = .ok (.iconst 3, 1) := by decide +kernel
theorem dM_soonest_31 : decode bM_soonest 31 = .ok (.if_icmp .lt 6, 3) := by decide +kernel
theorem dM_soonest_34 : decode bM_soonest 34 = .ok (.bipush (-2), 2) := by decide +kernel
theorem dM_soonest_36 : decode bM_soonest 36 = .ok (.ireturn, 1) := by decide +kernel
theorem dM_soonest_37 : decode bM_soonest 37 = .ok (.iload_n 1, 1) := by decide +kernel
theorem dM_soonest_38 : decode bM_soonest 38 = .ok (.iload_n 2, 1) := by decide +kernel
theorem dM_soonest_39 : decode bM_soonest 39 = .ok (.if_icmp .ne 6, 3) := by decide +kernel
theorem dM_soonest_42 : decode bM_soonest 42 = .ok (.bipush (-3), 2) := by decide +kernel
theorem dM_soonest_44 : decode bM_soonest 44 = .ok (.ireturn, 1) := by decide +kernel
theorem dM_soonest_45 : decode bM_soonest 45 = .ok (.iconst 0, 1) := by decide +kernel
theorem dM_soonest_46 : decode bM_soonest 46 = .ok (.istore 4, 2) := by decide +kernel
theorem dM_soonest_48 : decode bM_soonest 48 = .ok (.iload 4, 2) := by decide +kernel
theorem dM_soonest_50 : decode bM_soonest 50 = .ok (.iconst 3, 1) := by decide +kernel
theorem dM_soonest_51 : decode bM_soonest 51 = .ok (.if_icmp .gt 43, 3) := by decide +kernel
theorem dM_soonest_54 : decode bM_soonest 54 = .ok (.aload_n 0, 1) := by decide +kernel
theorem dM_soonest_55 : decode bM_soonest 55 = .ok (.aload_n 0, 1) := by decide +kernel
theorem dM_soonest_56 : decode bM_soonest 56 = .ok (.getfield 10, 3) := by decide +kernel
theorem dM_soonest_59 : decode bM_soonest 59 = .ok (.iconst 0, 1) := by decide +kernel
theorem dM_soonest_60 : decode bM_soonest 60 = .ok (.iload 4, 2) := by decide +kernel
theorem dM_soonest_62 : decode bM_soonest 62 = .ok (.iload_n 1, 1) := by decide +kernel
theorem dM_soonest_63 : decode bM_soonest 63 = .ok (.iload_n 2, 1) := by decide +kernel
theorem dM_soonest_64 : decode bM_soonest 64 = .ok (.invokevirtual 119, 3) := by decide +kernel
theorem dM_soonest_67 : decode bM_soonest 67 = .ok (.ifCond .eq 21, 3) := by decide +kernel
theorem dM_soonest_70 : decode bM_soonest 70 = .ok (.iload_n 3, 1) := by decide +kernel
theorem dM_soonest_71 : decode bM_soonest 71 = .ok (.iconst (-1), 1) := by decide +kernel
theorem dM_soonest_72 : decode bM_soonest 72 = .ok (.if_icmp .ne 8, 3) := by decide +kernel
theorem dM_soonest_75 : decode bM_soonest 75 = .ok (.iload 4, 2) := by decide +kernel
theorem dM_soonest_77 : decode bM_soonest 77 = .ok (.goto 10, 3) := by decide +kernel
theorem dM_soonest_80 : decode bM_soonest 80 = .ok (.aload_n 0, 1) := by decide +kernel
theorem dM_soonest_81 : decode bM_soonest 81 = .ok (.iload_n 3, 1) := by decide +kernel
theorem dM_soonest_82 : decode bM_soonest 82 = .ok (.iload 4, 2) := by decide +kernel
theorem dM_soonest_84 : decode bM_soonest 84 = .ok (.invokevirtual 123, 3) := by decide +kernel
theorem dM_soonest_87 : decode bM_soonest 87 = .ok (.ireturn, 1) := by decide +kernel
theorem dM_soonest_88 : decode bM_soonest 88 = .ok (.iinc 4 1, 3) := by decide +kernel
theorem dM_soonest_91 : decode bM_soonest 91 = .ok (.goto (-43), 3) := by decide +kernel
theorem dM_soonest_94 : decode bM_soonest 94 = .ok (.bipush (-9), 2) := by decide +kernel
theorem dM_soonest_96 : decode bM_soonest 96 = .ok (.ireturn, 1) := by decide +kernel
theorem dM_said_0 : decode bM_said 0 = .ok (.aload_n 0, 1) := by decide +kernel
theorem dM_said_1 : decode bM_said 1 = .ok (.getfield 10, 3) := by decide +kernel
theorem dM_said_4 : decode bM_said 4 = .ok (.invokevirtual 126, 3) := by decide +kernel
theorem dM_said_7 : decode bM_said 7 = .ok (.ireturn, 1) := by decide +kernel
theorem dM_moves_0 : decode bM_moves 0 = .ok (.aload_n 0, 1) := by decide +kernel
theorem dM_moves_1 : decode bM_moves 1 = .ok (.getfield 10, 3) := by decide +kernel
theorem dM_moves_4 : decode bM_moves 4 = .ok (.invokevirtual 129, 3) := by decide +kernel
theorem dM_moves_7 : decode bM_moves 7 = .ok (.ireturn, 1) := by decide +kernel
theorem dM_keep_0 : decode bM_keep 0 = .ok (.aload_n 0, 1) := by decide +kernel
theorem dM_keep_1 : decode bM_keep 1 = .ok (.getfield 16, 3) := by decide +kernel
theorem dM_keep_4 : decode bM_keep 4 = .ok (.aload_n 0, 1) := by decide +kernel
theorem dM_keep_5 : decode bM_keep 5 = .ok (.getfield 10, 3) := by decide +kernel
theorem dM_keep_8 : decode bM_keep 8 = .ok (.invokevirtual 132, 3) := by decide +kernel
theorem dM_keep_11 : decode bM_keep 11 = .ok (.aload_n 0, 1) := by decide +kernel
theorem dM_keep_12 : decode bM_keep 12 = .ok (.iconst 1, 1) := by decide +kernel
theorem dM_keep_13 : decode bM_keep 13 = .ok (.putfield 19, 3) := by decide +kernel
theorem dM_keep_16 : decode bM_keep 16 = .ok (.iconst 1, 1) := by decide +kernel
theorem dM_keep_17 : decode bM_keep 17 = .ok (.ireturn, 1) := by decide +kernel
theorem dM_restore_0 : decode bM_restore 0 = .ok (.aload_n 0, 1) := by decide +kernel
theorem dM_restore_1 : decode bM_restore 1 = .ok (.getfield 19, 3) := by decide +kernel
theorem dM_restore_4 : decode bM_restore 4 = .ok (.ifCond .ne 6, 3) := by decide +kernel
theorem dM_restore_7 : decode bM_restore 7 = .ok (.bipush (-3), 2) := by decide +kernel
theorem dM_restore_9 : decode bM_restore 9 = .ok (.ireturn, 1) := by decide +kernel
theorem dM_restore_10 : decode bM_restore 10 = .ok (.aload_n 0, 1) := by decide +kernel
theorem dM_restore_11 : decode bM_restore 11 = .ok (.getfield 10, 3) := by decide +kernel
theorem dM_restore_14 : decode bM_restore 14 = .ok (.aload_n 0, 1) := by decide +kernel
theorem dM_restore_15 : decode bM_restore 15 = .ok (.getfield 16, 3) := by decide +kernel
theorem dM_restore_18 : decode bM_restore 18 = .ok (.invokevirtual 132, 3) := by decide +kernel
theorem dM_restore_21 : decode bM_restore 21 = .ok (.iconst 1, 1) := by decide +kernel
theorem dM_restore_22 : decode bM_restore 22 = .ok (.ireturn, 1) := by decide +kernel
theorem dM_many_0 : decode bM_many 0 = .ok (.iload_n 1, 1) := by decide +kernel
theorem dM_many_1 : decode bM_many 1 = .ok (.tableswitch 92 0 5 #[39, 47, 55, 63, 71, 79], 39) := by decide +kernel
theorem dM_many_40 : decode bM_many 40 = .ok (.aload_n 0, 1) := by decide +kernel
theorem dM_many_41 : decode bM_many 41 = .ok (.getfield 10, 3) := by decide +kernel
theorem dM_many_44 : decode bM_many 44 = .ok (.invokevirtual 136, 3) := by decide +kernel
theorem dM_many_47 : decode bM_many 47 = .ok (.ireturn, 1) := by decide +kernel
theorem dM_many_48 : decode bM_many 48 = .ok (.aload_n 0, 1) := by decide +kernel
theorem dM_many_49 : decode bM_many 49 = .ok (.getfield 10, 3) := by decide +kernel
theorem dM_many_52 : decode bM_many 52 = .ok (.invokevirtual 139, 3) := by decide +kernel
theorem dM_many_55 : decode bM_many 55 = .ok (.ireturn, 1) := by decide +kernel
theorem dM_many_56 : decode bM_many 56 = .ok (.aload_n 0, 1) := by decide +kernel
theorem dM_many_57 : decode bM_many 57 = .ok (.getfield 10, 3) := by decide +kernel
theorem dM_many_60 : decode bM_many 60 = .ok (.invokevirtual 142, 3) := by decide +kernel
theorem dM_many_63 : decode bM_many 63 = .ok (.ireturn, 1) := by decide +kernel
theorem dM_many_64 : decode bM_many 64 = .ok (.aload_n 0, 1) := by decide +kernel
theorem dM_many_65 : decode bM_many 65 = .ok (.getfield 10, 3) := by decide +kernel
theorem dM_many_68 : decode bM_many 68 = .ok (.invokevirtual 145, 3) := by decide +kernel
theorem dM_many_71 : decode bM_many 71 = .ok (.ireturn, 1) := by decide +kernel
theorem dM_many_72 : decode bM_many 72 = .ok (.aload_n 0, 1) := by decide +kernel
theorem dM_many_73 : decode bM_many 73 = .ok (.getfield 10, 3) := by decide +kernel
theorem dM_many_76 : decode bM_many 76 = .ok (.invokevirtual 148, 3) := by decide +kernel
theorem dM_many_79 : decode bM_many 79 = .ok (.ireturn, 1) := by decide +kernel
theorem dM_many_80 : decode bM_many 80 = .ok (.aload_n 0, 1) := by decide +kernel
theorem dM_many_81 : decode bM_many 81 = .ok (.getfield 19, 3) := by decide +kernel
theorem dM_many_84 : decode bM_many 84 = .ok (.ifCond .eq 7, 3) := by decide +kernel
theorem dM_many_87 : decode bM_many 87 = .ok (.iconst 1, 1) := by decide +kernel
theorem dM_many_88 : decode bM_many 88 = .ok (.goto 4, 3) := by decide +kernel
theorem dM_many_91 : decode bM_many 91 = .ok (.iconst 0, 1) := by decide +kernel
theorem dM_many_92 : decode bM_many 92 = .ok (.ireturn, 1) := by decide +kernel
theorem dM_many_93 : decode bM_many 93 = .ok (.bipush (-2), 2) := by decide +kernel
theorem dM_many_95 : decode bM_many 95 = .ok (.ireturn, 1) := by decide +kernel
theorem wq_100 : Cond.fieldLink rM 27 rM "row" "[I" ∈ wT := wT_in 100 rfl rfl
theorem wq_324 : Cond.methodLink rM 119 yM_findRow ∈ wT := wT_in 324 rfl rfl
theorem wq_326 : Cond.instanceMethod yM_findRow ∈ wT := wT_in 326 rfl rfl
theorem wq_6 : Cond.selects rM yM_findRow yM_findRow ∈ wT := wT_in 6 rfl rfl
theorem wq_327 : Cond.code yM_findRow bM_findRow 8 (some .boolean) ∈ wT := wT_in 327 rfl rfl
theorem kV_M_119 : mp_V rM 119 yM_findRow bM_findRow 8 (some .boolean) 5 := ⟨wq_324, wq_326, wq_6, wq_37, wq_327, ⟨by decide, by decide, by decide +kernel⟩⟩
theorem wq_328 : Cond.methodLink rM 123 yM_threadInRow ∈ wT := wT_in 328 rfl rfl
theorem wq_330 : Cond.instanceMethod yM_threadInRow ∈ wT := wT_in 330 rfl rfl
theorem wq_7 : Cond.selects rM yM_threadInRow yM_threadInRow ∈ wT := wT_in 7 rfl rfl
theorem wq_331 : Cond.code yM_threadInRow bM_threadInRow 3 (some .int) ∈ wT := wT_in 331 rfl rfl
theorem kV_M_123 : mp_V rM 123 yM_threadInRow bM_threadInRow 3 (some .int) 2 := ⟨wq_328, wq_330, wq_7, wq_37, wq_331, ⟨by decide, by decide, by decide +kernel⟩⟩
theorem wq_336 : Cond.methodLink rM 126 yW_namesThatMayBeSaid ∈ wT := wT_in 336 rfl rfl
theorem kV_M_126 : mp_V rM 126 yW_namesThatMayBeSaid bW_namesThatMayBeSaid 3 (some .int) 0 := ⟨wq_336, wq_337, wq_338, wq_38, wq_339, ⟨by decide, by decide, by decide +kernel⟩⟩
theorem wq_353 : Cond.methodLink rM 129 yW_namesThatMove ∈ wT := wT_in 353 rfl rfl
theorem wq_354 : Cond.instanceMethod yW_namesThatMove ∈ wT := wT_in 354 rfl rfl
theorem wq_355 : Cond.selects rW yW_namesThatMove yW_namesThatMove ∈ wT := wT_in 355 rfl rfl
theorem wq_356 : Cond.code yW_namesThatMove bW_namesThatMove 4 (some .int) ∈ wT := wT_in 356 rfl rfl
theorem kV_M_129 : mp_V rM 129 yW_namesThatMove bW_namesThatMove 4 (some .int) 0 := ⟨wq_353, wq_354, wq_355, wq_38, wq_356, ⟨by decide, by decide, by decide +kernel⟩⟩
theorem wq_97 : Cond.fieldLink rM 16 rM "image" "LMovingPlaces$World;" ∈ wT := wT_in 97 rfl rfl
theorem wq_98 : Cond.fieldLink rM 19 rM "hasImage" "Z" ∈ wT := wT_in 98 rfl rfl
theorem wq_378 : Cond.methodLink rM 136 yW_placesThatAre ∈ wT := wT_in 378 rfl rfl
theorem wq_379 : Cond.instanceMethod yW_placesThatAre ∈ wT := wT_in 379 rfl rfl
theorem wq_380 : Cond.selects rW yW_placesThatAre yW_placesThatAre ∈ wT := wT_in 380 rfl rfl
theorem wq_381 : Cond.code yW_placesThatAre bW_placesThatAre 1 (some .int) ∈ wT := wT_in 381 rfl rfl
theorem kV_M_136 : mp_V rM 136 yW_placesThatAre bW_placesThatAre 1 (some .int) 0 := ⟨wq_378, wq_379, wq_380, wq_38, wq_381, ⟨by decide, by decide, by decide +kernel⟩⟩
theorem wq_383 : Cond.methodLink rM 142 yW_threadsOver ∈ wT := wT_in 383 rfl rfl
theorem wq_384 : Cond.instanceMethod yW_threadsOver ∈ wT := wT_in 384 rfl rfl
theorem wq_385 : Cond.selects rW yW_threadsOver yW_threadsOver ∈ wT := wT_in 385 rfl rfl
theorem wq_386 : Cond.code yW_threadsOver bW_threadsOver 3 (some .int) ∈ wT := wT_in 386 rfl rfl
theorem kV_M_142 : mp_V rM 142 yW_threadsOver bW_threadsOver 3 (some .int) 0 := ⟨wq_383, wq_384, wq_385, wq_38, wq_386, ⟨by decide, by decide, by decide +kernel⟩⟩
theorem wq_387 : Cond.methodLink rM 145 yW_placesInAll ∈ wT := wT_in 387 rfl rfl
theorem wq_388 : Cond.instanceMethod yW_placesInAll ∈ wT := wT_in 388 rfl rfl
theorem wq_389 : Cond.selects rW yW_placesInAll yW_placesInAll ∈ wT := wT_in 389 rfl rfl
theorem wq_390 : Cond.code yW_placesInAll bW_placesInAll 1 (some .int) ∈ wT := wT_in 390 rfl rfl
theorem kV_M_145 : mp_V rM 145 yW_placesInAll bW_placesInAll 1 (some .int) 0 := ⟨wq_387, wq_388, wq_389, wq_38, wq_390, ⟨by decide, by decide, by decide +kernel⟩⟩
theorem wq_391 : Cond.methodLink rM 148 yW_messagesInAll ∈ wT := wT_in 391 rfl rfl
theorem wq_392 : Cond.instanceMethod yW_messagesInAll ∈ wT := wT_in 392 rfl rfl
theorem wq_393 : Cond.selects rW yW_messagesInAll yW_messagesInAll ∈ wT := wT_in 393 rfl rfl
theorem wq_394 : Cond.code yW_messagesInAll bW_messagesInAll 4 (some .int) ∈ wT := wT_in 394 rfl rfl
theorem kV_M_148 : mp_V rM 148 yW_messagesInAll bW_messagesInAll 4 (some .int) 0 := ⟨wq_391, wq_392, wq_393, wq_38, wq_394, ⟨by decide, by decide, by decide +kernel⟩⟩
-- MovingPlaces.findRow
abbrev rmM_findRow_3 : Room := { frames := 5, cells := 0, slots := 0, locals := 113 }
def fM_findRow_3 (S : SM) (a3 : Int32) (a4 : Int32) (a5 : Int32) : Option (Int32 × SM) := (if a3 ≤ 3 then (fW_isWithin S.2.2.2.2.2.1 a4 a5).bind fun x2 => mp_zb x2 (some (x2, S)) else (fW_isWithin S.2.2.2.2.2.1 a4 a5).bind fun x4 => mp_zb x4 (some (x4, S)))
set_option maxHeartbeats 4000000 in
set_option maxRecDepth 100000 in
theorem wM_findRow_3 {p : Program} {l : Launch} {e : Env} {s : State} {m : MethodId} {args : Array Value} {below : List Frame} {meth : Method} {c : Code} (cx : mp_C p s m args meth c bM_findRow 8 (some .boolean) rM) (k : KK) (ad : Nat → Nat) (S : SM) (a3 : Int32) (a4 : Int32) (a5 : Int32) (z : (Int32 × SM)) (hE : mp_E k s) (hAN : ∀ q, mp_A (aM ad) q → mp_N k q) {H : Heap} {locs : List Loc} (hP : va_P (kD k) mp_cls (cM k ad S) H) (hD : va_D (mp_A (aM ad)) (cM k ad S)) (hS : va_S (mp_A (aM ad)) s.heap H locs) (h : fM_findRow_3 S a3 a4 a5 = some z) (ls : Array Slot) (hl : lv_has ls 8 [(0, .ref (ad 0)), (1, .ref (ad 38)), (2, .int 3), (3, .int a3), (4, .int a4), (5, .int a5)]) : W p l e rmM_findRow_3 s m args below meth c H locs 0 0 (MQ below (mp_Qm k (some (.int z.1)) (cM k ad z.2) (aM ad)) args s 0 0 (mp_A (aM ad))) (F0 m 0 ls []) := by
  obtain ⟨hx, hb, -, hml, hown, hts, -⟩ := id cx
  unfold fM_findRow_3 at h
  refine lv_iload_n hx hb dM_findRow_0 rfl (lv_at hl 2 rfl) ?_
  refine lv_iload_n hx hb dM_findRow_1 rfl (lv_at hl 3 rfl) ?_
  refine lv_icmp_ge (tgt := 23) hx hb dM_findRow_2 (by decide) (fun c1 => ?_) (fun c1 => ?_)
  · have h := mp_t c1 h
    refine lv_aload_n hx hb dM_findRow_23 rfl (lv_at hl 1 rfl) ?_
    refine lv_iload hx hb dM_findRow_24 (lv_at hl 4 rfl) ?_
    refine lv_iload hx hb dM_findRow_26 (lv_at hl 5 rfl) ?_
    obtain ⟨x2, ex2, h⟩ := mp_bs h
    refine mp_si (mp_runV (As := [.int a4, .int a5]) (rest := []) cx kV_M_101 (cW_isWithin l k (fun i => ad (i + 38)) S.2.2.2.2.2.1 a4 a5 x2 ex2) ⟨rfl, rfl, Nat.le_of_ble_eq_true rfl, Nat.le_of_ble_eq_true rfl⟩ ⟨Nat.zero_le _, Nat.zero_le _⟩ hE (pM_t2 (S := S) hP) (dM_t2 (S := S) (mp_Dw hD hAN)) (mp_S hS hAN) 0 rfl rfl rfl hl.1 rfl (Nat.le_of_ble_eq_true rfl) dM_findRow_28) ?_
    obtain ⟨hn, h⟩ := mp_zbs h
    exact mp_rzm (cf := cM k ad) cx hn h hP hS dM_findRow_31
  · have h := mp_f c1 h
    refine lv_iload_n hx hb dM_findRow_5 rfl (lv_at hl 2 rfl) ?_
    refine lv_aload_n hx hb dM_findRow_6 rfl (lv_at hl 0 rfl) ?_
    refine mp_gM cx hE hP iM 0 rfl 3 (by decide) wq_99 rfl (v := .ref (ad 19)) rfl dM_findRow_7 ?_
    refine va_alen hx hb hE.1 hP 19 2 (v := 3) rfl rfl rfl dM_findRow_10 ?_
    refine lv_icmp_ge (tgt := 23) hx hb dM_findRow_11 (by decide) (fun c3 => ?_) (fun c3 => ?_)
    · refine lv_aload_n hx hb dM_findRow_23 rfl (lv_at hl 1 rfl) ?_
      refine lv_iload hx hb dM_findRow_24 (lv_at hl 4 rfl) ?_
      refine lv_iload hx hb dM_findRow_26 (lv_at hl 5 rfl) ?_
      obtain ⟨x4, ex4, h⟩ := mp_bs h
      refine mp_si (mp_runV (As := [.int a4, .int a5]) (rest := []) cx kV_M_101 (cW_isWithin l k (fun i => ad (i + 38)) S.2.2.2.2.2.1 a4 a5 x4 ex4) ⟨rfl, rfl, Nat.le_of_ble_eq_true rfl, Nat.le_of_ble_eq_true rfl⟩ ⟨Nat.zero_le _, Nat.zero_le _⟩ hE (pM_t2 (S := S) hP) (dM_t2 (S := S) (mp_Dw hD hAN)) (mp_S hS hAN) 0 rfl rfl rfl hl.1 rfl (Nat.le_of_ble_eq_true rfl) dM_findRow_28) ?_
      obtain ⟨hn, h⟩ := mp_zbs h
      exact mp_rzm (cf := cM k ad) cx hn h hP hS dM_findRow_31
    · exact absurd (by decide) c3
theorem cM_findRow_3 (l : Launch) (k : KK) (ad : Nat → Nat) (S : SM) (a3 : Int32) (a4 : Int32) (a5 : Int32) (z : (Int32 × SM)) (h : fM_findRow_3 S a3 a4 a5 = some z) : mp_CM l k yM_findRow bM_findRow 8 (some .boolean) rmM_findRow_3 [.ref (ad 0), .ref (ad 38), .int 3, .int a3, .int a4, .int a5] (cM k ad S) (cM k ad z.2) (aM ad) (some (.int z.1)) := by
  refine Met.ofW (cc := bM_findRow) (maxL := 8) (ret := (some .boolean)) (by decide) rfl ?_
  intro p e s m args below meth c s₁ B hml hv
  obtain ⟨rfl, hP, hD, hE⟩ := hv
  have hl := lv_entry ([.ref (ad 0), .ref (ad 38), .int 3, .int a3, .int a4, .int a5]) (n := 8) (Nat.le_of_ble_eq_true rfl)
  rw [lg_entry_eq]
  generalize (lg_sl ([.ref (ad 0), .ref (ad 38), .int 3, .int a3, .int a4, .int a5]) ++ List.replicate (8 - (lg_sl ([.ref (ad 0), .ref (ad 38), .int 3, .int a3, .int a4, .int a5])).length) Slot.unset).toArray = ls at hl ⊢
  exact wM_findRow_3 (mp_C.of B hml) k ad S a3 a4 a5 z hE (mp_new hD rfl) hP (mp_own hD rfl) va_S.rf h ls hl
-- MovingPlaces.findRow
abbrev rmM_findRow_2 : Room := { frames := 6, cells := 0, slots := 0, locals := 140 }
def fM_findRow_2_43 (a3 : Int32) (a4 : Int32) (a5 : Int32) : Nat → SM → Int32 → Option (Int32 × SM)
  | 0, _, _ => none
  | n + 1, S, a7 => (fW_threadsInAll S.2.2.2.2.1).bind fun x1 => (if x1 ≤ a7 then some (0, S) else (fW_aimOf S.2.2.2.2.1 a7).bind fun x3 => (if x3 = (-9) then fM_findRow_2_43 a3 a4 a5 n S (a7 + 1) else (fW_become S.2.2.2.2.2.1 S.2.2.2.2.1).bind fun x5 => (fW_doNextAct x5 a7).bind fun x6 => mp_st 3 2 ((fM_findRow_3 (S.1, S.2.1, S.2.2.1, S.2.2.2.1, S.2.2.2.2.1, x6.2, (upd S.2.2.2.2.2.2 (Int32.toNatClampNeg 2) a7)) a3 a4 a5).bind fun x7 => (if x7.1 = 0 then fM_findRow_2_43 a3 a4 a5 n x7.2 (a7 + 1) else some (1, x7.2)))))
theorem fM_findRow_2_43_s (a3 : Int32) (a4 : Int32) (a5 : Int32) (n : Nat) (S : SM) (a7 : Int32) : fM_findRow_2_43 a3 a4 a5 (n + 1) S a7 = (fW_threadsInAll S.2.2.2.2.1).bind fun x1 => (if x1 ≤ a7 then some (0, S) else (fW_aimOf S.2.2.2.2.1 a7).bind fun x3 => (if x3 = (-9) then fM_findRow_2_43 a3 a4 a5 n S (a7 + 1) else (fW_become S.2.2.2.2.2.1 S.2.2.2.2.1).bind fun x5 => (fW_doNextAct x5 a7).bind fun x6 => mp_st 3 2 ((fM_findRow_3 (S.1, S.2.1, S.2.2.1, S.2.2.2.1, S.2.2.2.2.1, x6.2, (upd S.2.2.2.2.2.2 (Int32.toNatClampNeg 2) a7)) a3 a4 a5).bind fun x7 => (if x7.1 = 0 then fM_findRow_2_43 a3 a4 a5 n x7.2 (a7 + 1) else some (1, x7.2))))) := rfl
set_option maxHeartbeats 4000000 in
set_option maxRecDepth 100000 in
theorem lM_findRow_2_43 {p : Program} {l : Launch} {e : Env} {s : State} {m : MethodId} {args : Array Value} {below : List Frame} {meth : Method} {c : Code} (cx : mp_C p s m args meth c bM_findRow 8 (some .boolean) rM) (k : KK) (ad : Nat → Nat) (a3 : Int32) (a4 : Int32) (a5 : Int32) (z : (Int32 × SM)) (hE : mp_E k s) (hAN : ∀ q, mp_A (aM ad) q → mp_N k q) : ∀ (n : Nat) (S : SM) (a7 : Int32), fM_findRow_2_43 a3 a4 a5 n S a7 = some z → ∀ (H : Heap) (locs : List Loc), va_P (kD k) mp_cls (cM k ad S) H → va_D (mp_A (aM ad)) (cM k ad S) → va_S (mp_A (aM ad)) s.heap H locs → ∀ (ls : Array Slot), lv_has ls 8 [(0, .ref (ad 0)), (1, .ref (ad 29)), (2, .int 2), (3, .int a3), (4, .int a4), (5, .int a5), (6, .ref (ad 38)), (7, .int a7)] → W p l e rmM_findRow_2 s m args below meth c H locs 0 0 (MQ below (mp_Qm k (some (.int z.1)) (cM k ad z.2) (aM ad)) args s 0 0 (mp_A (aM ad))) (F0 m 43 ls []) := by
  obtain ⟨hx, hb, -, hml, hown, hts, -⟩ := id cx
  intro n
  induction n with
  | zero =>
    intro S a7 h
    have h : (none : Option (Int32 × SM)) = some z := h
    cases h
  | succ n ih =>
    intro S a7 h H locs hP hD hS ls hl
    rw [fM_findRow_2_43_s] at h
    refine lv_iload hx hb dM_findRow_43 (lv_at hl 7 rfl) ?_
    refine lv_aload_n hx hb dM_findRow_45 rfl (lv_at hl 1 rfl) ?_
    obtain ⟨x1, ex1, h⟩ := mp_bs h
    refine mp_si (mp_runV (As := []) (rest := [.int a7]) cx kV_M_139 (cW_threadsInAll l k (fun i => ad (i + 29)) S.2.2.2.2.1 x1 ex1) ⟨rfl, rfl, Nat.le_of_ble_eq_true rfl, Nat.le_of_ble_eq_true rfl⟩ ⟨Nat.zero_le _, Nat.zero_le _⟩ hE (pM_t1 (S := S) hP) (dM_t1 (S := S) (mp_Dw hD hAN)) (mp_S hS hAN) 0 rfl rfl rfl hl.1 rfl (Nat.le_of_ble_eq_true rfl) dM_findRow_46) ?_
    refine lv_icmp_ge (tgt := 110) hx hb dM_findRow_49 (by decide) (fun c2 => ?_) (fun c2 => ?_)
    · have h := mp_t c2 h
      refine lv_iconst (v := 0) hx hb dM_findRow_110 (by decide) ?_
      exact mp_rzm (cf := cM k ad) cx rfl h hP hS dM_findRow_111
    · have h := mp_f c2 h
      refine lv_aload_n hx hb dM_findRow_52 rfl (lv_at hl 1 rfl) ?_
      refine lv_iload hx hb dM_findRow_53 (lv_at hl 7 rfl) ?_
      obtain ⟨x3, ex3, h⟩ := mp_bs h
      refine mp_si (mp_runV (As := [.int a7]) (rest := []) cx kV_M_156 (cW_aimOf l k (fun i => ad (i + 29)) S.2.2.2.2.1 a7 x3 ex3) ⟨rfl, rfl, Nat.le_of_ble_eq_true rfl, Nat.le_of_ble_eq_true rfl⟩ ⟨Nat.zero_le _, Nat.zero_le _⟩ hE (pM_t1 (S := S) hP) (dM_t1 (S := S) (mp_Dw hD hAN)) (mp_S hS hAN) 0 rfl rfl rfl hl.1 rfl (Nat.le_of_ble_eq_true rfl) dM_findRow_55) ?_
      refine lv_bipush (v := (-9)) hx hb dM_findRow_58 (by decide) ?_
      refine lv_icmp_eq (tgt := 104) hx hb dM_findRow_60 (by decide) (fun c4 => ?_) (fun c4 => ?_)
      · have h := mp_t c4 h
        refine lv_iinc (v := (a7 + 1)) (lv' := [(7, .int (a7 + 1)), (0, .ref (ad 0)), (1, .ref (ad 29)), (2, .int 2), (3, .int a3), (4, .int a4), (5, .int a5), (6, .ref (ad 38))]) hx hb dM_findRow_104 hl (k := 7) rfl rfl (by decide) rfl (fun ls hl => ?_)
        refine lv_goto (tgt := 43) hx hb dM_findRow_107 (by decide) ?_
        exact ih S (a7 + 1) h _ _ hP hD hS ls (lv_sub hl [1, 2, 3, 4, 5, 6, 7, 0] rfl)
      · have h := mp_f c4 h
        refine lv_aload hx hb dM_findRow_63 (lv_at hl 6 rfl) ?_
        refine lv_aload_n hx hb dM_findRow_65 rfl (lv_at hl 1 rfl) ?_
        obtain ⟨x5, ex5, h⟩ := mp_bs h
        refine mp_mv (mp_runV (As := [.ref (ad 29)]) (rest := []) cx kV_M_132 (cW_become l k (fun i => ad (i + 38)) (fun i => ad (i + 29)) S.2.2.2.2.1 S.2.2.2.2.2.1 x5 ex5) ⟨rfl, rfl, Nat.le_of_ble_eq_true rfl, Nat.le_of_ble_eq_true rfl⟩ ⟨Nat.zero_le _, Nat.zero_le _⟩ hE (pM_t2_t1 (S := S) hP) (dM_t2_t1 (S := S) (mp_Dw hD hAN)) (mp_S hS hAN) 0 rfl rfl rfl hl.1 rfl (Nat.le_of_ble_eq_true rfl) dM_findRow_66) hS (fun q h9 => mp_new (dM_t2_t1 (S := S) hD) rfl q h9) (fun H1 locs hP1 hk hS => ?_)
        have hP : va_P (kD k) mp_cls (cM k ad (S.1, S.2.1, S.2.2.1, S.2.2.2.1, S.2.2.2.2.1, x5, S.2.2.2.2.2.2)) H1 := jM_t2_t1 (S := S) hP hD hk hP1
        have hD : va_D (mp_A (aM ad)) (cM k ad (S.1, S.2.1, S.2.2.1, S.2.2.2.1, S.2.2.2.2.1, x5, S.2.2.2.2.2.2)) := mp_Ds hD rfl
        refine lv_aload hx hb dM_findRow_69 (lv_at hl 6 rfl) ?_
        refine lv_iload hx hb dM_findRow_71 (lv_at hl 7 rfl) ?_
        obtain ⟨x6, ex6, h⟩ := mp_bs h
        refine mp_mi (mp_runV (As := [.int a7]) (rest := []) cx kV_M_109 (cW_doNextAct l k (fun i => ad (i + 38)) x5 a7 x6 ex6) ⟨rfl, rfl, Nat.le_of_ble_eq_true rfl, Nat.le_of_ble_eq_true rfl⟩ ⟨Nat.zero_le _, Nat.zero_le _⟩ hE (pM_t2 (S := (S.1, S.2.1, S.2.2.1, S.2.2.2.1, S.2.2.2.2.1, x5, S.2.2.2.2.2.2)) hP) (dM_t2 (S := (S.1, S.2.1, S.2.2.1, S.2.2.2.1, S.2.2.2.2.1, x5, S.2.2.2.2.2.2)) (mp_Dw hD hAN)) (mp_S hS hAN) 0 rfl rfl rfl hl.1 rfl (Nat.le_of_ble_eq_true rfl) dM_findRow_73) hS (fun q h9 => mp_new (dM_t2 (S := (S.1, S.2.1, S.2.2.1, S.2.2.2.1, S.2.2.2.2.1, x5, S.2.2.2.2.2.2)) hD) rfl q h9) (fun H1 locs hP1 hk hS => ?_)
        have hP : va_P (kD k) mp_cls (cM k ad (S.1, S.2.1, S.2.2.1, S.2.2.2.1, S.2.2.2.2.1, x6.2, S.2.2.2.2.2.2)) H1 := jM_t2 (S := (S.1, S.2.1, S.2.2.1, S.2.2.2.1, S.2.2.2.2.1, x5, S.2.2.2.2.2.2)) hP hD hk hP1
        have hD : va_D (mp_A (aM ad)) (cM k ad (S.1, S.2.1, S.2.2.1, S.2.2.2.1, S.2.2.2.2.1, x6.2, S.2.2.2.2.2.2)) := mp_Ds hD rfl
        refine lv_pop hx hb dM_findRow_76 rfl ?_
        refine lv_aload_n hx hb dM_findRow_77 rfl (lv_at hl 0 rfl) ?_
        refine mp_gM cx hE hP iM 0 rfl 4 (by decide) wq_100 rfl (v := .ref (ad 47)) rfl dM_findRow_78 ?_
        refine lv_iload_n hx hb dM_findRow_81 rfl (lv_at hl 2 rfl) ?_
        refine lv_iload hx hb dM_findRow_82 (lv_at hl 7 rfl) ?_
        obtain ⟨hi, h⟩ := mp_sts h
        refine va_iast hx hb hE.1 hP hD hS 47 0 (f := S.2.2.2.2.2.2) (n := 3) rfl rfl hi dM_findRow_84 (fun H locs hP hD hS => ?_)
        have hP : va_P (kD k) mp_cls (cM k ad (S.1, S.2.1, S.2.2.1, S.2.2.2.1, S.2.2.2.2.1, x6.2, (upd S.2.2.2.2.2.2 (Int32.toNatClampNeg 2) a7))) H := hP
        have hD : va_D (mp_A (aM ad)) (cM k ad (S.1, S.2.1, S.2.2.1, S.2.2.2.1, S.2.2.2.2.1, x6.2, (upd S.2.2.2.2.2.2 (Int32.toNatClampNeg 2) a7))) := hD
        refine lv_aload_n hx hb dM_findRow_85 rfl (lv_at hl 0 rfl) ?_
        refine lv_aload hx hb dM_findRow_86 (lv_at hl 6 rfl) ?_
        refine lv_iload_n hx hb dM_findRow_88 rfl (lv_at hl 2 rfl) ?_
        refine lv_iconst (v := 1) hx hb dM_findRow_89 (by decide) ?_
        refine lv_iadd hx hb dM_findRow_90 ?_
        refine mp_top (x := 3) (by decide) ?_
        refine lv_iload_n hx hb dM_findRow_91 rfl (lv_at hl 3 rfl) ?_
        refine lv_iload hx hb dM_findRow_92 (lv_at hl 4 rfl) ?_
        refine lv_iload hx hb dM_findRow_94 (lv_at hl 5 rfl) ?_
        obtain ⟨x7, ex7, h⟩ := mp_bs h
        refine mp_mi (mp_runV (As := [.ref (ad 38), .int 3, .int a3, .int a4, .int a5]) (rest := []) cx kV_M_119 (cM_findRow_3 l k ad (S.1, S.2.1, S.2.2.1, S.2.2.2.1, S.2.2.2.2.1, x6.2, (upd S.2.2.2.2.2.2 (Int32.toNatClampNeg 2) a7)) a3 a4 a5 x7 ex7) ⟨rfl, rfl, Nat.le_of_ble_eq_true rfl, Nat.le_of_ble_eq_true rfl⟩ ⟨Nat.zero_le _, Nat.zero_le _⟩ hE hP (mp_Dw hD hAN) (mp_S hS hAN) 0 rfl rfl rfl hl.1 rfl (Nat.le_of_ble_eq_true rfl) dM_findRow_96) hS (fun _ h9 => h9) (fun H locs hP hk hS => ?_)
        have hD : va_D (mp_A (aM ad)) (cM k ad x7.2) := mp_Ds hD rfl
        refine lv_if_eq (tgt := 104) hx hb dM_findRow_99 (by decide) (fun c8 => ?_) (fun c8 => ?_)
        · have h := mp_t c8 h
          refine lv_iinc (v := (a7 + 1)) (lv' := [(7, .int (a7 + 1)), (0, .ref (ad 0)), (1, .ref (ad 29)), (2, .int 2), (3, .int a3), (4, .int a4), (5, .int a5), (6, .ref (ad 38))]) hx hb dM_findRow_104 hl (k := 7) rfl rfl (by decide) rfl (fun ls hl => ?_)
          refine lv_goto (tgt := 43) hx hb dM_findRow_107 (by decide) ?_
          exact ih x7.2 (a7 + 1) h _ _ hP hD hS ls (lv_sub hl [1, 2, 3, 4, 5, 6, 7, 0] rfl)
        · have h := mp_f c8 h
          refine lv_iconst (v := 1) hx hb dM_findRow_102 (by decide) ?_
          exact mp_rzm (cf := cM k ad) cx rfl h hP hS dM_findRow_103
def fM_findRow_2 (S : SM) (a3 : Int32) (a4 : Int32) (a5 : Int32) : Option (Int32 × SM) := (if a3 ≤ 2 then (fW_isWithin S.2.2.2.2.1 a4 a5).bind fun x2 => mp_zb x2 (some (x2, S)) else fM_findRow_2_43 a3 a4 a5 2000 S 0)
set_option maxHeartbeats 4000000 in
set_option maxRecDepth 100000 in
theorem wM_findRow_2 {p : Program} {l : Launch} {e : Env} {s : State} {m : MethodId} {args : Array Value} {below : List Frame} {meth : Method} {c : Code} (cx : mp_C p s m args meth c bM_findRow 8 (some .boolean) rM) (k : KK) (ad : Nat → Nat) (S : SM) (a3 : Int32) (a4 : Int32) (a5 : Int32) (z : (Int32 × SM)) (hE : mp_E k s) (hAN : ∀ q, mp_A (aM ad) q → mp_N k q) {H : Heap} {locs : List Loc} (hP : va_P (kD k) mp_cls (cM k ad S) H) (hD : va_D (mp_A (aM ad)) (cM k ad S)) (hS : va_S (mp_A (aM ad)) s.heap H locs) (h : fM_findRow_2 S a3 a4 a5 = some z) (ls : Array Slot) (hl : lv_has ls 8 [(0, .ref (ad 0)), (1, .ref (ad 29)), (2, .int 2), (3, .int a3), (4, .int a4), (5, .int a5)]) : W p l e rmM_findRow_2 s m args below meth c H locs 0 0 (MQ below (mp_Qm k (some (.int z.1)) (cM k ad z.2) (aM ad)) args s 0 0 (mp_A (aM ad))) (F0 m 0 ls []) := by
  obtain ⟨hx, hb, -, hml, hown, hts, -⟩ := id cx
  unfold fM_findRow_2 at h
  refine lv_iload_n hx hb dM_findRow_0 rfl (lv_at hl 2 rfl) ?_
  refine lv_iload_n hx hb dM_findRow_1 rfl (lv_at hl 3 rfl) ?_
  refine lv_icmp_ge (tgt := 23) hx hb dM_findRow_2 (by decide) (fun c1 => ?_) (fun c1 => ?_)
  · have h := mp_t c1 h
    refine lv_aload_n hx hb dM_findRow_23 rfl (lv_at hl 1 rfl) ?_
    refine lv_iload hx hb dM_findRow_24 (lv_at hl 4 rfl) ?_
    refine lv_iload hx hb dM_findRow_26 (lv_at hl 5 rfl) ?_
    obtain ⟨x2, ex2, h⟩ := mp_bs h
    refine mp_si (mp_runV (As := [.int a4, .int a5]) (rest := []) cx kV_M_101 (cW_isWithin l k (fun i => ad (i + 29)) S.2.2.2.2.1 a4 a5 x2 ex2) ⟨rfl, rfl, Nat.le_of_ble_eq_true rfl, Nat.le_of_ble_eq_true rfl⟩ ⟨Nat.zero_le _, Nat.zero_le _⟩ hE (pM_t1 (S := S) hP) (dM_t1 (S := S) (mp_Dw hD hAN)) (mp_S hS hAN) 0 rfl rfl rfl hl.1 rfl (Nat.le_of_ble_eq_true rfl) dM_findRow_28) ?_
    obtain ⟨hn, h⟩ := mp_zbs h
    exact mp_rzm (cf := cM k ad) cx hn h hP hS dM_findRow_31
  · have h := mp_f c1 h
    refine lv_iload_n hx hb dM_findRow_5 rfl (lv_at hl 2 rfl) ?_
    refine lv_aload_n hx hb dM_findRow_6 rfl (lv_at hl 0 rfl) ?_
    refine mp_gM cx hE hP iM 0 rfl 3 (by decide) wq_99 rfl (v := .ref (ad 19)) rfl dM_findRow_7 ?_
    refine va_alen hx hb hE.1 hP 19 2 (v := 3) rfl rfl rfl dM_findRow_10 ?_
    refine lv_icmp_ge (tgt := 23) hx hb dM_findRow_11 (by decide) (fun c3 => ?_) (fun c3 => ?_)
    · exact absurd c3 (by decide)
    · refine lv_iload_n hx hb dM_findRow_14 rfl (lv_at hl 2 rfl) ?_
      refine lv_aload_n hx hb dM_findRow_15 rfl (lv_at hl 0 rfl) ?_
      refine mp_gM cx hE hP iM 0 rfl 4 (by decide) wq_100 rfl (v := .ref (ad 47)) rfl dM_findRow_16 ?_
      refine va_alen hx hb hE.1 hP 47 0 (v := 3) rfl rfl rfl dM_findRow_19 ?_
      refine lv_icmp_lt (tgt := 32) hx hb dM_findRow_20 (by decide) (fun c4 => ?_) (fun c4 => ?_)
      · refine lv_aload_n hx hb dM_findRow_32 rfl (lv_at hl 0 rfl) ?_
        refine mp_gM cx hE hP iM 0 rfl 3 (by decide) wq_99 rfl (v := .ref (ad 19)) rfl dM_findRow_33 ?_
        refine lv_iload_n hx hb dM_findRow_36 rfl (lv_at hl 2 rfl) ?_
        refine mp_aald hx hb hE.1 hP 19 2 (f := mp_tr ad) (n := 3) (b := ad 38) rfl rfl (by decide) rfl dM_findRow_37 ?_
        refine lv_astore (lv' := [(6, .ref (ad 38)), (0, .ref (ad 0)), (1, .ref (ad 29)), (2, .int 2), (3, .int a3), (4, .int a4), (5, .int a5)]) hx hb dM_findRow_38 hl (by decide) rfl (fun ls hl => ?_)
        refine lv_iconst (v := 0) hx hb dM_findRow_40 (by decide) ?_
        refine lv_istore (lv' := [(7, .int 0), (6, .ref (ad 38)), (0, .ref (ad 0)), (1, .ref (ad 29)), (2, .int 2), (3, .int a3), (4, .int a4), (5, .int a5)]) hx hb dM_findRow_41 hl (by decide) rfl (fun ls hl => ?_)
        exact lM_findRow_2_43 cx k ad a3 a4 a5 z hE hAN _ S 0 h _ _ hP hD hS ls (lv_sub hl [2, 3, 4, 5, 6, 7, 1, 0] rfl)
      · exact absurd (by decide) c4
theorem cM_findRow_2 (l : Launch) (k : KK) (ad : Nat → Nat) (S : SM) (a3 : Int32) (a4 : Int32) (a5 : Int32) (z : (Int32 × SM)) (h : fM_findRow_2 S a3 a4 a5 = some z) : mp_CM l k yM_findRow bM_findRow 8 (some .boolean) rmM_findRow_2 [.ref (ad 0), .ref (ad 29), .int 2, .int a3, .int a4, .int a5] (cM k ad S) (cM k ad z.2) (aM ad) (some (.int z.1)) := by
  refine Met.ofW (cc := bM_findRow) (maxL := 8) (ret := (some .boolean)) (by decide) rfl ?_
  intro p e s m args below meth c s₁ B hml hv
  obtain ⟨rfl, hP, hD, hE⟩ := hv
  have hl := lv_entry ([.ref (ad 0), .ref (ad 29), .int 2, .int a3, .int a4, .int a5]) (n := 8) (Nat.le_of_ble_eq_true rfl)
  rw [lg_entry_eq]
  generalize (lg_sl ([.ref (ad 0), .ref (ad 29), .int 2, .int a3, .int a4, .int a5]) ++ List.replicate (8 - (lg_sl ([.ref (ad 0), .ref (ad 29), .int 2, .int a3, .int a4, .int a5])).length) Slot.unset).toArray = ls at hl ⊢
  exact wM_findRow_2 (mp_C.of B hml) k ad S a3 a4 a5 z hE (mp_new hD rfl) hP (mp_own hD rfl) va_S.rf h ls hl
-- MovingPlaces.findRow
abbrev rmM_findRow_1 : Room := { frames := 7, cells := 0, slots := 0, locals := 167 }
def fM_findRow_1_43 (a3 : Int32) (a4 : Int32) (a5 : Int32) : Nat → SM → Int32 → Option (Int32 × SM)
  | 0, _, _ => none
  | n + 1, S, a7 => (fW_threadsInAll S.2.2.2.1).bind fun x1 => (if x1 ≤ a7 then some (0, S) else (fW_aimOf S.2.2.2.1 a7).bind fun x3 => (if x3 = (-9) then fM_findRow_1_43 a3 a4 a5 n S (a7 + 1) else (fW_become S.2.2.2.2.1 S.2.2.2.1).bind fun x5 => (fW_doNextAct x5 a7).bind fun x6 => mp_st 3 1 ((fM_findRow_2 (S.1, S.2.1, S.2.2.1, S.2.2.2.1, x6.2, S.2.2.2.2.2.1, (upd S.2.2.2.2.2.2 (Int32.toNatClampNeg 1) a7)) a3 a4 a5).bind fun x7 => (if x7.1 = 0 then fM_findRow_1_43 a3 a4 a5 n x7.2 (a7 + 1) else some (1, x7.2)))))
theorem fM_findRow_1_43_s (a3 : Int32) (a4 : Int32) (a5 : Int32) (n : Nat) (S : SM) (a7 : Int32) : fM_findRow_1_43 a3 a4 a5 (n + 1) S a7 = (fW_threadsInAll S.2.2.2.1).bind fun x1 => (if x1 ≤ a7 then some (0, S) else (fW_aimOf S.2.2.2.1 a7).bind fun x3 => (if x3 = (-9) then fM_findRow_1_43 a3 a4 a5 n S (a7 + 1) else (fW_become S.2.2.2.2.1 S.2.2.2.1).bind fun x5 => (fW_doNextAct x5 a7).bind fun x6 => mp_st 3 1 ((fM_findRow_2 (S.1, S.2.1, S.2.2.1, S.2.2.2.1, x6.2, S.2.2.2.2.2.1, (upd S.2.2.2.2.2.2 (Int32.toNatClampNeg 1) a7)) a3 a4 a5).bind fun x7 => (if x7.1 = 0 then fM_findRow_1_43 a3 a4 a5 n x7.2 (a7 + 1) else some (1, x7.2))))) := rfl
set_option maxHeartbeats 4000000 in
set_option maxRecDepth 100000 in
theorem lM_findRow_1_43 {p : Program} {l : Launch} {e : Env} {s : State} {m : MethodId} {args : Array Value} {below : List Frame} {meth : Method} {c : Code} (cx : mp_C p s m args meth c bM_findRow 8 (some .boolean) rM) (k : KK) (ad : Nat → Nat) (a3 : Int32) (a4 : Int32) (a5 : Int32) (z : (Int32 × SM)) (hE : mp_E k s) (hAN : ∀ q, mp_A (aM ad) q → mp_N k q) : ∀ (n : Nat) (S : SM) (a7 : Int32), fM_findRow_1_43 a3 a4 a5 n S a7 = some z → ∀ (H : Heap) (locs : List Loc), va_P (kD k) mp_cls (cM k ad S) H → va_D (mp_A (aM ad)) (cM k ad S) → va_S (mp_A (aM ad)) s.heap H locs → ∀ (ls : Array Slot), lv_has ls 8 [(0, .ref (ad 0)), (1, .ref (ad 20)), (2, .int 1), (3, .int a3), (4, .int a4), (5, .int a5), (6, .ref (ad 29)), (7, .int a7)] → W p l e rmM_findRow_1 s m args below meth c H locs 0 0 (MQ below (mp_Qm k (some (.int z.1)) (cM k ad z.2) (aM ad)) args s 0 0 (mp_A (aM ad))) (F0 m 43 ls []) := by
  obtain ⟨hx, hb, -, hml, hown, hts, -⟩ := id cx
  intro n
  induction n with
  | zero =>
    intro S a7 h
    have h : (none : Option (Int32 × SM)) = some z := h
    cases h
  | succ n ih =>
    intro S a7 h H locs hP hD hS ls hl
    rw [fM_findRow_1_43_s] at h
    refine lv_iload hx hb dM_findRow_43 (lv_at hl 7 rfl) ?_
    refine lv_aload_n hx hb dM_findRow_45 rfl (lv_at hl 1 rfl) ?_
    obtain ⟨x1, ex1, h⟩ := mp_bs h
    refine mp_si (mp_runV (As := []) (rest := [.int a7]) cx kV_M_139 (cW_threadsInAll l k (fun i => ad (i + 20)) S.2.2.2.1 x1 ex1) ⟨rfl, rfl, Nat.le_of_ble_eq_true rfl, Nat.le_of_ble_eq_true rfl⟩ ⟨Nat.zero_le _, Nat.zero_le _⟩ hE (pM_t0 (S := S) hP) (dM_t0 (S := S) (mp_Dw hD hAN)) (mp_S hS hAN) 0 rfl rfl rfl hl.1 rfl (Nat.le_of_ble_eq_true rfl) dM_findRow_46) ?_
    refine lv_icmp_ge (tgt := 110) hx hb dM_findRow_49 (by decide) (fun c2 => ?_) (fun c2 => ?_)
    · have h := mp_t c2 h
      refine lv_iconst (v := 0) hx hb dM_findRow_110 (by decide) ?_
      exact mp_rzm (cf := cM k ad) cx rfl h hP hS dM_findRow_111
    · have h := mp_f c2 h
      refine lv_aload_n hx hb dM_findRow_52 rfl (lv_at hl 1 rfl) ?_
      refine lv_iload hx hb dM_findRow_53 (lv_at hl 7 rfl) ?_
      obtain ⟨x3, ex3, h⟩ := mp_bs h
      refine mp_si (mp_runV (As := [.int a7]) (rest := []) cx kV_M_156 (cW_aimOf l k (fun i => ad (i + 20)) S.2.2.2.1 a7 x3 ex3) ⟨rfl, rfl, Nat.le_of_ble_eq_true rfl, Nat.le_of_ble_eq_true rfl⟩ ⟨Nat.zero_le _, Nat.zero_le _⟩ hE (pM_t0 (S := S) hP) (dM_t0 (S := S) (mp_Dw hD hAN)) (mp_S hS hAN) 0 rfl rfl rfl hl.1 rfl (Nat.le_of_ble_eq_true rfl) dM_findRow_55) ?_
      refine lv_bipush (v := (-9)) hx hb dM_findRow_58 (by decide) ?_
      refine lv_icmp_eq (tgt := 104) hx hb dM_findRow_60 (by decide) (fun c4 => ?_) (fun c4 => ?_)
      · have h := mp_t c4 h
        refine lv_iinc (v := (a7 + 1)) (lv' := [(7, .int (a7 + 1)), (0, .ref (ad 0)), (1, .ref (ad 20)), (2, .int 1), (3, .int a3), (4, .int a4), (5, .int a5), (6, .ref (ad 29))]) hx hb dM_findRow_104 hl (k := 7) rfl rfl (by decide) rfl (fun ls hl => ?_)
        refine lv_goto (tgt := 43) hx hb dM_findRow_107 (by decide) ?_
        exact ih S (a7 + 1) h _ _ hP hD hS ls (lv_sub hl [1, 2, 3, 4, 5, 6, 7, 0] rfl)
      · have h := mp_f c4 h
        refine lv_aload hx hb dM_findRow_63 (lv_at hl 6 rfl) ?_
        refine lv_aload_n hx hb dM_findRow_65 rfl (lv_at hl 1 rfl) ?_
        obtain ⟨x5, ex5, h⟩ := mp_bs h
        refine mp_mv (mp_runV (As := [.ref (ad 20)]) (rest := []) cx kV_M_132 (cW_become l k (fun i => ad (i + 29)) (fun i => ad (i + 20)) S.2.2.2.1 S.2.2.2.2.1 x5 ex5) ⟨rfl, rfl, Nat.le_of_ble_eq_true rfl, Nat.le_of_ble_eq_true rfl⟩ ⟨Nat.zero_le _, Nat.zero_le _⟩ hE (pM_t1_t0 (S := S) hP) (dM_t1_t0 (S := S) (mp_Dw hD hAN)) (mp_S hS hAN) 0 rfl rfl rfl hl.1 rfl (Nat.le_of_ble_eq_true rfl) dM_findRow_66) hS (fun q h9 => mp_new (dM_t1_t0 (S := S) hD) rfl q h9) (fun H1 locs hP1 hk hS => ?_)
        have hP : va_P (kD k) mp_cls (cM k ad (S.1, S.2.1, S.2.2.1, S.2.2.2.1, x5, S.2.2.2.2.2.1, S.2.2.2.2.2.2)) H1 := jM_t1_t0 (S := S) hP hD hk hP1
        have hD : va_D (mp_A (aM ad)) (cM k ad (S.1, S.2.1, S.2.2.1, S.2.2.2.1, x5, S.2.2.2.2.2.1, S.2.2.2.2.2.2)) := mp_Ds hD rfl
        refine lv_aload hx hb dM_findRow_69 (lv_at hl 6 rfl) ?_
        refine lv_iload hx hb dM_findRow_71 (lv_at hl 7 rfl) ?_
        obtain ⟨x6, ex6, h⟩ := mp_bs h
        refine mp_mi (mp_runV (As := [.int a7]) (rest := []) cx kV_M_109 (cW_doNextAct l k (fun i => ad (i + 29)) x5 a7 x6 ex6) ⟨rfl, rfl, Nat.le_of_ble_eq_true rfl, Nat.le_of_ble_eq_true rfl⟩ ⟨Nat.zero_le _, Nat.zero_le _⟩ hE (pM_t1 (S := (S.1, S.2.1, S.2.2.1, S.2.2.2.1, x5, S.2.2.2.2.2.1, S.2.2.2.2.2.2)) hP) (dM_t1 (S := (S.1, S.2.1, S.2.2.1, S.2.2.2.1, x5, S.2.2.2.2.2.1, S.2.2.2.2.2.2)) (mp_Dw hD hAN)) (mp_S hS hAN) 0 rfl rfl rfl hl.1 rfl (Nat.le_of_ble_eq_true rfl) dM_findRow_73) hS (fun q h9 => mp_new (dM_t1 (S := (S.1, S.2.1, S.2.2.1, S.2.2.2.1, x5, S.2.2.2.2.2.1, S.2.2.2.2.2.2)) hD) rfl q h9) (fun H1 locs hP1 hk hS => ?_)
        have hP : va_P (kD k) mp_cls (cM k ad (S.1, S.2.1, S.2.2.1, S.2.2.2.1, x6.2, S.2.2.2.2.2.1, S.2.2.2.2.2.2)) H1 := jM_t1 (S := (S.1, S.2.1, S.2.2.1, S.2.2.2.1, x5, S.2.2.2.2.2.1, S.2.2.2.2.2.2)) hP hD hk hP1
        have hD : va_D (mp_A (aM ad)) (cM k ad (S.1, S.2.1, S.2.2.1, S.2.2.2.1, x6.2, S.2.2.2.2.2.1, S.2.2.2.2.2.2)) := mp_Ds hD rfl
        refine lv_pop hx hb dM_findRow_76 rfl ?_
        refine lv_aload_n hx hb dM_findRow_77 rfl (lv_at hl 0 rfl) ?_
        refine mp_gM cx hE hP iM 0 rfl 4 (by decide) wq_100 rfl (v := .ref (ad 47)) rfl dM_findRow_78 ?_
        refine lv_iload_n hx hb dM_findRow_81 rfl (lv_at hl 2 rfl) ?_
        refine lv_iload hx hb dM_findRow_82 (lv_at hl 7 rfl) ?_
        obtain ⟨hi, h⟩ := mp_sts h
        refine va_iast hx hb hE.1 hP hD hS 47 0 (f := S.2.2.2.2.2.2) (n := 3) rfl rfl hi dM_findRow_84 (fun H locs hP hD hS => ?_)
        have hP : va_P (kD k) mp_cls (cM k ad (S.1, S.2.1, S.2.2.1, S.2.2.2.1, x6.2, S.2.2.2.2.2.1, (upd S.2.2.2.2.2.2 (Int32.toNatClampNeg 1) a7))) H := hP
        have hD : va_D (mp_A (aM ad)) (cM k ad (S.1, S.2.1, S.2.2.1, S.2.2.2.1, x6.2, S.2.2.2.2.2.1, (upd S.2.2.2.2.2.2 (Int32.toNatClampNeg 1) a7))) := hD
        refine lv_aload_n hx hb dM_findRow_85 rfl (lv_at hl 0 rfl) ?_
        refine lv_aload hx hb dM_findRow_86 (lv_at hl 6 rfl) ?_
        refine lv_iload_n hx hb dM_findRow_88 rfl (lv_at hl 2 rfl) ?_
        refine lv_iconst (v := 1) hx hb dM_findRow_89 (by decide) ?_
        refine lv_iadd hx hb dM_findRow_90 ?_
        refine mp_top (x := 2) (by decide) ?_
        refine lv_iload_n hx hb dM_findRow_91 rfl (lv_at hl 3 rfl) ?_
        refine lv_iload hx hb dM_findRow_92 (lv_at hl 4 rfl) ?_
        refine lv_iload hx hb dM_findRow_94 (lv_at hl 5 rfl) ?_
        obtain ⟨x7, ex7, h⟩ := mp_bs h
        refine mp_mi (mp_runV (As := [.ref (ad 29), .int 2, .int a3, .int a4, .int a5]) (rest := []) cx kV_M_119 (cM_findRow_2 l k ad (S.1, S.2.1, S.2.2.1, S.2.2.2.1, x6.2, S.2.2.2.2.2.1, (upd S.2.2.2.2.2.2 (Int32.toNatClampNeg 1) a7)) a3 a4 a5 x7 ex7) ⟨rfl, rfl, Nat.le_of_ble_eq_true rfl, Nat.le_of_ble_eq_true rfl⟩ ⟨Nat.zero_le _, Nat.zero_le _⟩ hE hP (mp_Dw hD hAN) (mp_S hS hAN) 0 rfl rfl rfl hl.1 rfl (Nat.le_of_ble_eq_true rfl) dM_findRow_96) hS (fun _ h9 => h9) (fun H locs hP hk hS => ?_)
        have hD : va_D (mp_A (aM ad)) (cM k ad x7.2) := mp_Ds hD rfl
        refine lv_if_eq (tgt := 104) hx hb dM_findRow_99 (by decide) (fun c8 => ?_) (fun c8 => ?_)
        · have h := mp_t c8 h
          refine lv_iinc (v := (a7 + 1)) (lv' := [(7, .int (a7 + 1)), (0, .ref (ad 0)), (1, .ref (ad 20)), (2, .int 1), (3, .int a3), (4, .int a4), (5, .int a5), (6, .ref (ad 29))]) hx hb dM_findRow_104 hl (k := 7) rfl rfl (by decide) rfl (fun ls hl => ?_)
          refine lv_goto (tgt := 43) hx hb dM_findRow_107 (by decide) ?_
          exact ih x7.2 (a7 + 1) h _ _ hP hD hS ls (lv_sub hl [1, 2, 3, 4, 5, 6, 7, 0] rfl)
        · have h := mp_f c8 h
          refine lv_iconst (v := 1) hx hb dM_findRow_102 (by decide) ?_
          exact mp_rzm (cf := cM k ad) cx rfl h hP hS dM_findRow_103
def fM_findRow_1 (S : SM) (a3 : Int32) (a4 : Int32) (a5 : Int32) : Option (Int32 × SM) := (if a3 ≤ 1 then (fW_isWithin S.2.2.2.1 a4 a5).bind fun x2 => mp_zb x2 (some (x2, S)) else fM_findRow_1_43 a3 a4 a5 2000 S 0)
set_option maxHeartbeats 4000000 in
set_option maxRecDepth 100000 in
theorem wM_findRow_1 {p : Program} {l : Launch} {e : Env} {s : State} {m : MethodId} {args : Array Value} {below : List Frame} {meth : Method} {c : Code} (cx : mp_C p s m args meth c bM_findRow 8 (some .boolean) rM) (k : KK) (ad : Nat → Nat) (S : SM) (a3 : Int32) (a4 : Int32) (a5 : Int32) (z : (Int32 × SM)) (hE : mp_E k s) (hAN : ∀ q, mp_A (aM ad) q → mp_N k q) {H : Heap} {locs : List Loc} (hP : va_P (kD k) mp_cls (cM k ad S) H) (hD : va_D (mp_A (aM ad)) (cM k ad S)) (hS : va_S (mp_A (aM ad)) s.heap H locs) (h : fM_findRow_1 S a3 a4 a5 = some z) (ls : Array Slot) (hl : lv_has ls 8 [(0, .ref (ad 0)), (1, .ref (ad 20)), (2, .int 1), (3, .int a3), (4, .int a4), (5, .int a5)]) : W p l e rmM_findRow_1 s m args below meth c H locs 0 0 (MQ below (mp_Qm k (some (.int z.1)) (cM k ad z.2) (aM ad)) args s 0 0 (mp_A (aM ad))) (F0 m 0 ls []) := by
  obtain ⟨hx, hb, -, hml, hown, hts, -⟩ := id cx
  unfold fM_findRow_1 at h
  refine lv_iload_n hx hb dM_findRow_0 rfl (lv_at hl 2 rfl) ?_
  refine lv_iload_n hx hb dM_findRow_1 rfl (lv_at hl 3 rfl) ?_
  refine lv_icmp_ge (tgt := 23) hx hb dM_findRow_2 (by decide) (fun c1 => ?_) (fun c1 => ?_)
  · have h := mp_t c1 h
    refine lv_aload_n hx hb dM_findRow_23 rfl (lv_at hl 1 rfl) ?_
    refine lv_iload hx hb dM_findRow_24 (lv_at hl 4 rfl) ?_
    refine lv_iload hx hb dM_findRow_26 (lv_at hl 5 rfl) ?_
    obtain ⟨x2, ex2, h⟩ := mp_bs h
    refine mp_si (mp_runV (As := [.int a4, .int a5]) (rest := []) cx kV_M_101 (cW_isWithin l k (fun i => ad (i + 20)) S.2.2.2.1 a4 a5 x2 ex2) ⟨rfl, rfl, Nat.le_of_ble_eq_true rfl, Nat.le_of_ble_eq_true rfl⟩ ⟨Nat.zero_le _, Nat.zero_le _⟩ hE (pM_t0 (S := S) hP) (dM_t0 (S := S) (mp_Dw hD hAN)) (mp_S hS hAN) 0 rfl rfl rfl hl.1 rfl (Nat.le_of_ble_eq_true rfl) dM_findRow_28) ?_
    obtain ⟨hn, h⟩ := mp_zbs h
    exact mp_rzm (cf := cM k ad) cx hn h hP hS dM_findRow_31
  · have h := mp_f c1 h
    refine lv_iload_n hx hb dM_findRow_5 rfl (lv_at hl 2 rfl) ?_
    refine lv_aload_n hx hb dM_findRow_6 rfl (lv_at hl 0 rfl) ?_
    refine mp_gM cx hE hP iM 0 rfl 3 (by decide) wq_99 rfl (v := .ref (ad 19)) rfl dM_findRow_7 ?_
    refine va_alen hx hb hE.1 hP 19 2 (v := 3) rfl rfl rfl dM_findRow_10 ?_
    refine lv_icmp_ge (tgt := 23) hx hb dM_findRow_11 (by decide) (fun c3 => ?_) (fun c3 => ?_)
    · exact absurd c3 (by decide)
    · refine lv_iload_n hx hb dM_findRow_14 rfl (lv_at hl 2 rfl) ?_
      refine lv_aload_n hx hb dM_findRow_15 rfl (lv_at hl 0 rfl) ?_
      refine mp_gM cx hE hP iM 0 rfl 4 (by decide) wq_100 rfl (v := .ref (ad 47)) rfl dM_findRow_16 ?_
      refine va_alen hx hb hE.1 hP 47 0 (v := 3) rfl rfl rfl dM_findRow_19 ?_
      refine lv_icmp_lt (tgt := 32) hx hb dM_findRow_20 (by decide) (fun c4 => ?_) (fun c4 => ?_)
      · refine lv_aload_n hx hb dM_findRow_32 rfl (lv_at hl 0 rfl) ?_
        refine mp_gM cx hE hP iM 0 rfl 3 (by decide) wq_99 rfl (v := .ref (ad 19)) rfl dM_findRow_33 ?_
        refine lv_iload_n hx hb dM_findRow_36 rfl (lv_at hl 2 rfl) ?_
        refine mp_aald hx hb hE.1 hP 19 2 (f := mp_tr ad) (n := 3) (b := ad 29) rfl rfl (by decide) rfl dM_findRow_37 ?_
        refine lv_astore (lv' := [(6, .ref (ad 29)), (0, .ref (ad 0)), (1, .ref (ad 20)), (2, .int 1), (3, .int a3), (4, .int a4), (5, .int a5)]) hx hb dM_findRow_38 hl (by decide) rfl (fun ls hl => ?_)
        refine lv_iconst (v := 0) hx hb dM_findRow_40 (by decide) ?_
        refine lv_istore (lv' := [(7, .int 0), (6, .ref (ad 29)), (0, .ref (ad 0)), (1, .ref (ad 20)), (2, .int 1), (3, .int a3), (4, .int a4), (5, .int a5)]) hx hb dM_findRow_41 hl (by decide) rfl (fun ls hl => ?_)
        exact lM_findRow_1_43 cx k ad a3 a4 a5 z hE hAN _ S 0 h _ _ hP hD hS ls (lv_sub hl [2, 3, 4, 5, 6, 7, 1, 0] rfl)
      · exact absurd (by decide) c4
theorem cM_findRow_1 (l : Launch) (k : KK) (ad : Nat → Nat) (S : SM) (a3 : Int32) (a4 : Int32) (a5 : Int32) (z : (Int32 × SM)) (h : fM_findRow_1 S a3 a4 a5 = some z) : mp_CM l k yM_findRow bM_findRow 8 (some .boolean) rmM_findRow_1 [.ref (ad 0), .ref (ad 20), .int 1, .int a3, .int a4, .int a5] (cM k ad S) (cM k ad z.2) (aM ad) (some (.int z.1)) := by
  refine Met.ofW (cc := bM_findRow) (maxL := 8) (ret := (some .boolean)) (by decide) rfl ?_
  intro p e s m args below meth c s₁ B hml hv
  obtain ⟨rfl, hP, hD, hE⟩ := hv
  have hl := lv_entry ([.ref (ad 0), .ref (ad 20), .int 1, .int a3, .int a4, .int a5]) (n := 8) (Nat.le_of_ble_eq_true rfl)
  rw [lg_entry_eq]
  generalize (lg_sl ([.ref (ad 0), .ref (ad 20), .int 1, .int a3, .int a4, .int a5]) ++ List.replicate (8 - (lg_sl ([.ref (ad 0), .ref (ad 20), .int 1, .int a3, .int a4, .int a5])).length) Slot.unset).toArray = ls at hl ⊢
  exact wM_findRow_1 (mp_C.of B hml) k ad S a3 a4 a5 z hE (mp_new hD rfl) hP (mp_own hD rfl) va_S.rf h ls hl
-- MovingPlaces.findRow
abbrev rmM_findRow_0 : Room := { frames := 8, cells := 0, slots := 0, locals := 194 }
def fM_findRow_0_43 (a3 : Int32) (a4 : Int32) (a5 : Int32) : Nat → SM → Int32 → Option (Int32 × SM)
  | 0, _, _ => none
  | n + 1, S, a7 => (fW_threadsInAll S.1).bind fun x1 => (if x1 ≤ a7 then some (0, S) else (fW_aimOf S.1 a7).bind fun x3 => (if x3 = (-9) then fM_findRow_0_43 a3 a4 a5 n S (a7 + 1) else (fW_become S.2.2.2.1 S.1).bind fun x5 => (fW_doNextAct x5 a7).bind fun x6 => mp_st 3 0 ((fM_findRow_1 (S.1, S.2.1, S.2.2.1, x6.2, S.2.2.2.2.1, S.2.2.2.2.2.1, (upd S.2.2.2.2.2.2 (Int32.toNatClampNeg 0) a7)) a3 a4 a5).bind fun x7 => (if x7.1 = 0 then fM_findRow_0_43 a3 a4 a5 n x7.2 (a7 + 1) else some (1, x7.2)))))
theorem fM_findRow_0_43_s (a3 : Int32) (a4 : Int32) (a5 : Int32) (n : Nat) (S : SM) (a7 : Int32) : fM_findRow_0_43 a3 a4 a5 (n + 1) S a7 = (fW_threadsInAll S.1).bind fun x1 => (if x1 ≤ a7 then some (0, S) else (fW_aimOf S.1 a7).bind fun x3 => (if x3 = (-9) then fM_findRow_0_43 a3 a4 a5 n S (a7 + 1) else (fW_become S.2.2.2.1 S.1).bind fun x5 => (fW_doNextAct x5 a7).bind fun x6 => mp_st 3 0 ((fM_findRow_1 (S.1, S.2.1, S.2.2.1, x6.2, S.2.2.2.2.1, S.2.2.2.2.2.1, (upd S.2.2.2.2.2.2 (Int32.toNatClampNeg 0) a7)) a3 a4 a5).bind fun x7 => (if x7.1 = 0 then fM_findRow_0_43 a3 a4 a5 n x7.2 (a7 + 1) else some (1, x7.2))))) := rfl
set_option maxHeartbeats 4000000 in
set_option maxRecDepth 100000 in
theorem lM_findRow_0_43 {p : Program} {l : Launch} {e : Env} {s : State} {m : MethodId} {args : Array Value} {below : List Frame} {meth : Method} {c : Code} (cx : mp_C p s m args meth c bM_findRow 8 (some .boolean) rM) (k : KK) (ad : Nat → Nat) (a3 : Int32) (a4 : Int32) (a5 : Int32) (z : (Int32 × SM)) (hE : mp_E k s) (hAN : ∀ q, mp_A (aM ad) q → mp_N k q) : ∀ (n : Nat) (S : SM) (a7 : Int32), fM_findRow_0_43 a3 a4 a5 n S a7 = some z → ∀ (H : Heap) (locs : List Loc), va_P (kD k) mp_cls (cM k ad S) H → va_D (mp_A (aM ad)) (cM k ad S) → va_S (mp_A (aM ad)) s.heap H locs → ∀ (ls : Array Slot), lv_has ls 8 [(0, .ref (ad 0)), (1, .ref (ad 1)), (2, .int 0), (3, .int a3), (4, .int a4), (5, .int a5), (6, .ref (ad 20)), (7, .int a7)] → W p l e rmM_findRow_0 s m args below meth c H locs 0 0 (MQ below (mp_Qm k (some (.int z.1)) (cM k ad z.2) (aM ad)) args s 0 0 (mp_A (aM ad))) (F0 m 43 ls []) := by
  obtain ⟨hx, hb, -, hml, hown, hts, -⟩ := id cx
  intro n
  induction n with
  | zero =>
    intro S a7 h
    have h : (none : Option (Int32 × SM)) = some z := h
    cases h
  | succ n ih =>
    intro S a7 h H locs hP hD hS ls hl
    rw [fM_findRow_0_43_s] at h
    refine lv_iload hx hb dM_findRow_43 (lv_at hl 7 rfl) ?_
    refine lv_aload_n hx hb dM_findRow_45 rfl (lv_at hl 1 rfl) ?_
    obtain ⟨x1, ex1, h⟩ := mp_bs h
    refine mp_si (mp_runV (As := []) (rest := [.int a7]) cx kV_M_139 (cW_threadsInAll l k (fun i => ad (i + 1)) S.1 x1 ex1) ⟨rfl, rfl, Nat.le_of_ble_eq_true rfl, Nat.le_of_ble_eq_true rfl⟩ ⟨Nat.zero_le _, Nat.zero_le _⟩ hE (pM_now (S := S) hP) (dM_now (S := S) (mp_Dw hD hAN)) (mp_S hS hAN) 0 rfl rfl rfl hl.1 rfl (Nat.le_of_ble_eq_true rfl) dM_findRow_46) ?_
    refine lv_icmp_ge (tgt := 110) hx hb dM_findRow_49 (by decide) (fun c2 => ?_) (fun c2 => ?_)
    · have h := mp_t c2 h
      refine lv_iconst (v := 0) hx hb dM_findRow_110 (by decide) ?_
      exact mp_rzm (cf := cM k ad) cx rfl h hP hS dM_findRow_111
    · have h := mp_f c2 h
      refine lv_aload_n hx hb dM_findRow_52 rfl (lv_at hl 1 rfl) ?_
      refine lv_iload hx hb dM_findRow_53 (lv_at hl 7 rfl) ?_
      obtain ⟨x3, ex3, h⟩ := mp_bs h
      refine mp_si (mp_runV (As := [.int a7]) (rest := []) cx kV_M_156 (cW_aimOf l k (fun i => ad (i + 1)) S.1 a7 x3 ex3) ⟨rfl, rfl, Nat.le_of_ble_eq_true rfl, Nat.le_of_ble_eq_true rfl⟩ ⟨Nat.zero_le _, Nat.zero_le _⟩ hE (pM_now (S := S) hP) (dM_now (S := S) (mp_Dw hD hAN)) (mp_S hS hAN) 0 rfl rfl rfl hl.1 rfl (Nat.le_of_ble_eq_true rfl) dM_findRow_55) ?_
      refine lv_bipush (v := (-9)) hx hb dM_findRow_58 (by decide) ?_
      refine lv_icmp_eq (tgt := 104) hx hb dM_findRow_60 (by decide) (fun c4 => ?_) (fun c4 => ?_)
      · have h := mp_t c4 h
        refine lv_iinc (v := (a7 + 1)) (lv' := [(7, .int (a7 + 1)), (0, .ref (ad 0)), (1, .ref (ad 1)), (2, .int 0), (3, .int a3), (4, .int a4), (5, .int a5), (6, .ref (ad 20))]) hx hb dM_findRow_104 hl (k := 7) rfl rfl (by decide) rfl (fun ls hl => ?_)
        refine lv_goto (tgt := 43) hx hb dM_findRow_107 (by decide) ?_
        exact ih S (a7 + 1) h _ _ hP hD hS ls (lv_sub hl [1, 2, 3, 4, 5, 6, 7, 0] rfl)
      · have h := mp_f c4 h
        refine lv_aload hx hb dM_findRow_63 (lv_at hl 6 rfl) ?_
        refine lv_aload_n hx hb dM_findRow_65 rfl (lv_at hl 1 rfl) ?_
        obtain ⟨x5, ex5, h⟩ := mp_bs h
        refine mp_mv (mp_runV (As := [.ref (ad 1)]) (rest := []) cx kV_M_132 (cW_become l k (fun i => ad (i + 20)) (fun i => ad (i + 1)) S.1 S.2.2.2.1 x5 ex5) ⟨rfl, rfl, Nat.le_of_ble_eq_true rfl, Nat.le_of_ble_eq_true rfl⟩ ⟨Nat.zero_le _, Nat.zero_le _⟩ hE (pM_t0_now (S := S) hP) (dM_t0_now (S := S) (mp_Dw hD hAN)) (mp_S hS hAN) 0 rfl rfl rfl hl.1 rfl (Nat.le_of_ble_eq_true rfl) dM_findRow_66) hS (fun q h9 => mp_new (dM_t0_now (S := S) hD) rfl q h9) (fun H1 locs hP1 hk hS => ?_)
        have hP : va_P (kD k) mp_cls (cM k ad (S.1, S.2.1, S.2.2.1, x5, S.2.2.2.2.1, S.2.2.2.2.2.1, S.2.2.2.2.2.2)) H1 := jM_t0_now (S := S) hP hD hk hP1
        have hD : va_D (mp_A (aM ad)) (cM k ad (S.1, S.2.1, S.2.2.1, x5, S.2.2.2.2.1, S.2.2.2.2.2.1, S.2.2.2.2.2.2)) := mp_Ds hD rfl
        refine lv_aload hx hb dM_findRow_69 (lv_at hl 6 rfl) ?_
        refine lv_iload hx hb dM_findRow_71 (lv_at hl 7 rfl) ?_
        obtain ⟨x6, ex6, h⟩ := mp_bs h
        refine mp_mi (mp_runV (As := [.int a7]) (rest := []) cx kV_M_109 (cW_doNextAct l k (fun i => ad (i + 20)) x5 a7 x6 ex6) ⟨rfl, rfl, Nat.le_of_ble_eq_true rfl, Nat.le_of_ble_eq_true rfl⟩ ⟨Nat.zero_le _, Nat.zero_le _⟩ hE (pM_t0 (S := (S.1, S.2.1, S.2.2.1, x5, S.2.2.2.2.1, S.2.2.2.2.2.1, S.2.2.2.2.2.2)) hP) (dM_t0 (S := (S.1, S.2.1, S.2.2.1, x5, S.2.2.2.2.1, S.2.2.2.2.2.1, S.2.2.2.2.2.2)) (mp_Dw hD hAN)) (mp_S hS hAN) 0 rfl rfl rfl hl.1 rfl (Nat.le_of_ble_eq_true rfl) dM_findRow_73) hS (fun q h9 => mp_new (dM_t0 (S := (S.1, S.2.1, S.2.2.1, x5, S.2.2.2.2.1, S.2.2.2.2.2.1, S.2.2.2.2.2.2)) hD) rfl q h9) (fun H1 locs hP1 hk hS => ?_)
        have hP : va_P (kD k) mp_cls (cM k ad (S.1, S.2.1, S.2.2.1, x6.2, S.2.2.2.2.1, S.2.2.2.2.2.1, S.2.2.2.2.2.2)) H1 := jM_t0 (S := (S.1, S.2.1, S.2.2.1, x5, S.2.2.2.2.1, S.2.2.2.2.2.1, S.2.2.2.2.2.2)) hP hD hk hP1
        have hD : va_D (mp_A (aM ad)) (cM k ad (S.1, S.2.1, S.2.2.1, x6.2, S.2.2.2.2.1, S.2.2.2.2.2.1, S.2.2.2.2.2.2)) := mp_Ds hD rfl
        refine lv_pop hx hb dM_findRow_76 rfl ?_
        refine lv_aload_n hx hb dM_findRow_77 rfl (lv_at hl 0 rfl) ?_
        refine mp_gM cx hE hP iM 0 rfl 4 (by decide) wq_100 rfl (v := .ref (ad 47)) rfl dM_findRow_78 ?_
        refine lv_iload_n hx hb dM_findRow_81 rfl (lv_at hl 2 rfl) ?_
        refine lv_iload hx hb dM_findRow_82 (lv_at hl 7 rfl) ?_
        obtain ⟨hi, h⟩ := mp_sts h
        refine va_iast hx hb hE.1 hP hD hS 47 0 (f := S.2.2.2.2.2.2) (n := 3) rfl rfl hi dM_findRow_84 (fun H locs hP hD hS => ?_)
        have hP : va_P (kD k) mp_cls (cM k ad (S.1, S.2.1, S.2.2.1, x6.2, S.2.2.2.2.1, S.2.2.2.2.2.1, (upd S.2.2.2.2.2.2 (Int32.toNatClampNeg 0) a7))) H := hP
        have hD : va_D (mp_A (aM ad)) (cM k ad (S.1, S.2.1, S.2.2.1, x6.2, S.2.2.2.2.1, S.2.2.2.2.2.1, (upd S.2.2.2.2.2.2 (Int32.toNatClampNeg 0) a7))) := hD
        refine lv_aload_n hx hb dM_findRow_85 rfl (lv_at hl 0 rfl) ?_
        refine lv_aload hx hb dM_findRow_86 (lv_at hl 6 rfl) ?_
        refine lv_iload_n hx hb dM_findRow_88 rfl (lv_at hl 2 rfl) ?_
        refine lv_iconst (v := 1) hx hb dM_findRow_89 (by decide) ?_
        refine lv_iadd hx hb dM_findRow_90 ?_
        refine mp_top (x := 1) (by decide) ?_
        refine lv_iload_n hx hb dM_findRow_91 rfl (lv_at hl 3 rfl) ?_
        refine lv_iload hx hb dM_findRow_92 (lv_at hl 4 rfl) ?_
        refine lv_iload hx hb dM_findRow_94 (lv_at hl 5 rfl) ?_
        obtain ⟨x7, ex7, h⟩ := mp_bs h
        refine mp_mi (mp_runV (As := [.ref (ad 20), .int 1, .int a3, .int a4, .int a5]) (rest := []) cx kV_M_119 (cM_findRow_1 l k ad (S.1, S.2.1, S.2.2.1, x6.2, S.2.2.2.2.1, S.2.2.2.2.2.1, (upd S.2.2.2.2.2.2 (Int32.toNatClampNeg 0) a7)) a3 a4 a5 x7 ex7) ⟨rfl, rfl, Nat.le_of_ble_eq_true rfl, Nat.le_of_ble_eq_true rfl⟩ ⟨Nat.zero_le _, Nat.zero_le _⟩ hE hP (mp_Dw hD hAN) (mp_S hS hAN) 0 rfl rfl rfl hl.1 rfl (Nat.le_of_ble_eq_true rfl) dM_findRow_96) hS (fun _ h9 => h9) (fun H locs hP hk hS => ?_)
        have hD : va_D (mp_A (aM ad)) (cM k ad x7.2) := mp_Ds hD rfl
        refine lv_if_eq (tgt := 104) hx hb dM_findRow_99 (by decide) (fun c8 => ?_) (fun c8 => ?_)
        · have h := mp_t c8 h
          refine lv_iinc (v := (a7 + 1)) (lv' := [(7, .int (a7 + 1)), (0, .ref (ad 0)), (1, .ref (ad 1)), (2, .int 0), (3, .int a3), (4, .int a4), (5, .int a5), (6, .ref (ad 20))]) hx hb dM_findRow_104 hl (k := 7) rfl rfl (by decide) rfl (fun ls hl => ?_)
          refine lv_goto (tgt := 43) hx hb dM_findRow_107 (by decide) ?_
          exact ih x7.2 (a7 + 1) h _ _ hP hD hS ls (lv_sub hl [1, 2, 3, 4, 5, 6, 7, 0] rfl)
        · have h := mp_f c8 h
          refine lv_iconst (v := 1) hx hb dM_findRow_102 (by decide) ?_
          exact mp_rzm (cf := cM k ad) cx rfl h hP hS dM_findRow_103
def fM_findRow_0 (S : SM) (a3 : Int32) (a4 : Int32) (a5 : Int32) : Option (Int32 × SM) := (if a3 ≤ 0 then (fW_isWithin S.1 a4 a5).bind fun x2 => mp_zb x2 (some (x2, S)) else fM_findRow_0_43 a3 a4 a5 2000 S 0)
set_option maxHeartbeats 4000000 in
set_option maxRecDepth 100000 in
theorem wM_findRow_0 {p : Program} {l : Launch} {e : Env} {s : State} {m : MethodId} {args : Array Value} {below : List Frame} {meth : Method} {c : Code} (cx : mp_C p s m args meth c bM_findRow 8 (some .boolean) rM) (k : KK) (ad : Nat → Nat) (S : SM) (a3 : Int32) (a4 : Int32) (a5 : Int32) (z : (Int32 × SM)) (hE : mp_E k s) (hAN : ∀ q, mp_A (aM ad) q → mp_N k q) {H : Heap} {locs : List Loc} (hP : va_P (kD k) mp_cls (cM k ad S) H) (hD : va_D (mp_A (aM ad)) (cM k ad S)) (hS : va_S (mp_A (aM ad)) s.heap H locs) (h : fM_findRow_0 S a3 a4 a5 = some z) (ls : Array Slot) (hl : lv_has ls 8 [(0, .ref (ad 0)), (1, .ref (ad 1)), (2, .int 0), (3, .int a3), (4, .int a4), (5, .int a5)]) : W p l e rmM_findRow_0 s m args below meth c H locs 0 0 (MQ below (mp_Qm k (some (.int z.1)) (cM k ad z.2) (aM ad)) args s 0 0 (mp_A (aM ad))) (F0 m 0 ls []) := by
  obtain ⟨hx, hb, -, hml, hown, hts, -⟩ := id cx
  unfold fM_findRow_0 at h
  refine lv_iload_n hx hb dM_findRow_0 rfl (lv_at hl 2 rfl) ?_
  refine lv_iload_n hx hb dM_findRow_1 rfl (lv_at hl 3 rfl) ?_
  refine lv_icmp_ge (tgt := 23) hx hb dM_findRow_2 (by decide) (fun c1 => ?_) (fun c1 => ?_)
  · have h := mp_t c1 h
    refine lv_aload_n hx hb dM_findRow_23 rfl (lv_at hl 1 rfl) ?_
    refine lv_iload hx hb dM_findRow_24 (lv_at hl 4 rfl) ?_
    refine lv_iload hx hb dM_findRow_26 (lv_at hl 5 rfl) ?_
    obtain ⟨x2, ex2, h⟩ := mp_bs h
    refine mp_si (mp_runV (As := [.int a4, .int a5]) (rest := []) cx kV_M_101 (cW_isWithin l k (fun i => ad (i + 1)) S.1 a4 a5 x2 ex2) ⟨rfl, rfl, Nat.le_of_ble_eq_true rfl, Nat.le_of_ble_eq_true rfl⟩ ⟨Nat.zero_le _, Nat.zero_le _⟩ hE (pM_now (S := S) hP) (dM_now (S := S) (mp_Dw hD hAN)) (mp_S hS hAN) 0 rfl rfl rfl hl.1 rfl (Nat.le_of_ble_eq_true rfl) dM_findRow_28) ?_
    obtain ⟨hn, h⟩ := mp_zbs h
    exact mp_rzm (cf := cM k ad) cx hn h hP hS dM_findRow_31
  · have h := mp_f c1 h
    refine lv_iload_n hx hb dM_findRow_5 rfl (lv_at hl 2 rfl) ?_
    refine lv_aload_n hx hb dM_findRow_6 rfl (lv_at hl 0 rfl) ?_
    refine mp_gM cx hE hP iM 0 rfl 3 (by decide) wq_99 rfl (v := .ref (ad 19)) rfl dM_findRow_7 ?_
    refine va_alen hx hb hE.1 hP 19 2 (v := 3) rfl rfl rfl dM_findRow_10 ?_
    refine lv_icmp_ge (tgt := 23) hx hb dM_findRow_11 (by decide) (fun c3 => ?_) (fun c3 => ?_)
    · exact absurd c3 (by decide)
    · refine lv_iload_n hx hb dM_findRow_14 rfl (lv_at hl 2 rfl) ?_
      refine lv_aload_n hx hb dM_findRow_15 rfl (lv_at hl 0 rfl) ?_
      refine mp_gM cx hE hP iM 0 rfl 4 (by decide) wq_100 rfl (v := .ref (ad 47)) rfl dM_findRow_16 ?_
      refine va_alen hx hb hE.1 hP 47 0 (v := 3) rfl rfl rfl dM_findRow_19 ?_
      refine lv_icmp_lt (tgt := 32) hx hb dM_findRow_20 (by decide) (fun c4 => ?_) (fun c4 => ?_)
      · refine lv_aload_n hx hb dM_findRow_32 rfl (lv_at hl 0 rfl) ?_
        refine mp_gM cx hE hP iM 0 rfl 3 (by decide) wq_99 rfl (v := .ref (ad 19)) rfl dM_findRow_33 ?_
        refine lv_iload_n hx hb dM_findRow_36 rfl (lv_at hl 2 rfl) ?_
        refine mp_aald hx hb hE.1 hP 19 2 (f := mp_tr ad) (n := 3) (b := ad 20) rfl rfl (by decide) rfl dM_findRow_37 ?_
        refine lv_astore (lv' := [(6, .ref (ad 20)), (0, .ref (ad 0)), (1, .ref (ad 1)), (2, .int 0), (3, .int a3), (4, .int a4), (5, .int a5)]) hx hb dM_findRow_38 hl (by decide) rfl (fun ls hl => ?_)
        refine lv_iconst (v := 0) hx hb dM_findRow_40 (by decide) ?_
        refine lv_istore (lv' := [(7, .int 0), (6, .ref (ad 20)), (0, .ref (ad 0)), (1, .ref (ad 1)), (2, .int 0), (3, .int a3), (4, .int a4), (5, .int a5)]) hx hb dM_findRow_41 hl (by decide) rfl (fun ls hl => ?_)
        exact lM_findRow_0_43 cx k ad a3 a4 a5 z hE hAN _ S 0 h _ _ hP hD hS ls (lv_sub hl [2, 3, 4, 5, 6, 7, 1, 0] rfl)
      · exact absurd (by decide) c4
theorem cM_findRow_0 (l : Launch) (k : KK) (ad : Nat → Nat) (S : SM) (a3 : Int32) (a4 : Int32) (a5 : Int32) (z : (Int32 × SM)) (h : fM_findRow_0 S a3 a4 a5 = some z) : mp_CM l k yM_findRow bM_findRow 8 (some .boolean) rmM_findRow_0 [.ref (ad 0), .ref (ad 1), .int 0, .int a3, .int a4, .int a5] (cM k ad S) (cM k ad z.2) (aM ad) (some (.int z.1)) := by
  refine Met.ofW (cc := bM_findRow) (maxL := 8) (ret := (some .boolean)) (by decide) rfl ?_
  intro p e s m args below meth c s₁ B hml hv
  obtain ⟨rfl, hP, hD, hE⟩ := hv
  have hl := lv_entry ([.ref (ad 0), .ref (ad 1), .int 0, .int a3, .int a4, .int a5]) (n := 8) (Nat.le_of_ble_eq_true rfl)
  rw [lg_entry_eq]
  generalize (lg_sl ([.ref (ad 0), .ref (ad 1), .int 0, .int a3, .int a4, .int a5]) ++ List.replicate (8 - (lg_sl ([.ref (ad 0), .ref (ad 1), .int 0, .int a3, .int a4, .int a5])).length) Slot.unset).toArray = ls at hl ⊢
  exact wM_findRow_0 (mp_C.of B hml) k ad S a3 a4 a5 z hE (mp_new hD rfl) hP (mp_own hD rfl) va_S.rf h ls hl
-- MovingPlaces.threadInRow
abbrev rmM_threadInRow : Room := { frames := 0, cells := 0, slots := 0, locals := 0 }
def fM_threadInRow (S : SM) (a1 : Int32) (a2 : Int32) : Option Int32 := (if a1 < 0 then some (-9) else (if a2 ≤ a1 then some (-9) else (if 3 ≤ a1 then some (-9) else mp_ld S.2.2.2.2.2.2 3 a1 fun x4 => some x4)))
set_option maxHeartbeats 4000000 in
set_option maxRecDepth 100000 in
theorem wM_threadInRow {p : Program} {l : Launch} {e : Env} {s : State} {m : MethodId} {args : Array Value} {below : List Frame} {meth : Method} {c : Code} (cx : mp_C p s m args meth c bM_threadInRow 3 (some .int) rM) (k : KK) (ad : Nat → Nat) (S : SM) (a1 : Int32) (a2 : Int32) (z : Int32) (hE : mp_E k s) (hP : va_P (kD k) mp_cls (cM k ad S) s.heap) (hD : va_D (mp_N k) (cM k ad S)) (h : fM_threadInRow S a1 a2 = some z) (ls : Array Slot) (hl : lv_has ls 3 [(0, .ref (ad 0)), (1, .int a1), (2, .int a2)]) : W p l e rmM_threadInRow s m args below meth c s.heap [] 0 0 (MQ below (mp_Qs (some (.int z))) args s 0 0 (fun _ => False)) (F0 m 0 ls []) := by
  obtain ⟨hx, hb, -, hml, hown, hts, -⟩ := id cx
  unfold fM_threadInRow at h
  refine lv_iload_n hx hb dM_threadInRow_0 rfl (lv_at hl 1 rfl) ?_
  refine lv_if_lt (tgt := 27) hx hb dM_threadInRow_1 (by decide) (fun c1 => ?_) (fun c1 => ?_)
  · have h := mp_t c1 h
    refine lv_bipush (v := (-9)) hx hb dM_threadInRow_27 (by decide) ?_
    exact mp_ri cx h dM_threadInRow_29
  · have h := mp_f c1 h
    refine lv_iload_n hx hb dM_threadInRow_4 rfl (lv_at hl 1 rfl) ?_
    refine lv_iload_n hx hb dM_threadInRow_5 rfl (lv_at hl 2 rfl) ?_
    refine lv_icmp_ge (tgt := 27) hx hb dM_threadInRow_6 (by decide) (fun c2 => ?_) (fun c2 => ?_)
    · have h := mp_t c2 h
      refine lv_bipush (v := (-9)) hx hb dM_threadInRow_27 (by decide) ?_
      exact mp_ri cx h dM_threadInRow_29
    · have h := mp_f c2 h
      refine lv_iload_n hx hb dM_threadInRow_9 rfl (lv_at hl 1 rfl) ?_
      refine lv_aload_n hx hb dM_threadInRow_10 rfl (lv_at hl 0 rfl) ?_
      refine mp_gM cx hE hP iM 0 rfl 4 (by decide) wq_100 rfl (v := .ref (ad 47)) rfl dM_threadInRow_11 ?_
      refine va_alen hx hb hE.1 hP 47 0 (v := 3) rfl rfl rfl dM_threadInRow_14 ?_
      refine lv_icmp_ge (tgt := 27) hx hb dM_threadInRow_15 (by decide) (fun c3 => ?_) (fun c3 => ?_)
      · have h := mp_t c3 h
        refine lv_bipush (v := (-9)) hx hb dM_threadInRow_27 (by decide) ?_
        exact mp_ri cx h dM_threadInRow_29
      · have h := mp_f c3 h
        refine lv_aload_n hx hb dM_threadInRow_18 rfl (lv_at hl 0 rfl) ?_
        refine mp_gM cx hE hP iM 0 rfl 4 (by decide) wq_100 rfl (v := .ref (ad 47)) rfl dM_threadInRow_19 ?_
        refine lv_iload_n hx hb dM_threadInRow_22 rfl (lv_at hl 1 rfl) ?_
        obtain ⟨hi, x4, ex4, h⟩ := mp_lds h
        refine va_iald hx hb hE.1 hP 47 0 (f := S.2.2.2.2.2.2) (n := 3) rfl rfl hi dM_threadInRow_23 ?_
        refine mp_top ex4 ?_
        refine lv_goto (tgt := 29) hx hb dM_threadInRow_24 (by decide) ?_
        exact mp_ri cx h dM_threadInRow_29
theorem cM_threadInRow (l : Launch) (k : KK) (ad : Nat → Nat) (S : SM) (a1 : Int32) (a2 : Int32) (z : Int32) (h : fM_threadInRow S a1 a2 = some z) : mp_CS l k yM_threadInRow bM_threadInRow 3 (some .int) rmM_threadInRow [.ref (ad 0), .int a1, .int a2] (cM k ad S) (some (.int z)) := by
  refine Met.ofW (cc := bM_threadInRow) (maxL := 3) (ret := (some .int)) (by decide) rfl ?_
  intro p e s m args below meth c s₁ B hml hv
  obtain ⟨rfl, hP, hD, hE⟩ := hv
  have hl := lv_entry ([.ref (ad 0), .int a1, .int a2]) (n := 3) (Nat.le_of_ble_eq_true rfl)
  rw [lg_entry_eq]
  generalize (lg_sl ([.ref (ad 0), .int a1, .int a2]) ++ List.replicate (3 - (lg_sl ([.ref (ad 0), .int a1, .int a2])).length) Slot.unset).toArray = ls at hl ⊢
  exact wM_threadInRow (mp_C.of B hml) k ad S a1 a2 z hE hP hD h ls hl
-- MovingPlaces.soonest
abbrev rmM_soonest : Room := { frames := 9, cells := 0, slots := 0, locals := 221 }
def fM_soonest_48 (a1 : Int32) (a2 : Int32) (a3 : Int32) : Nat → SM → Int32 → Option (Int32 × SM)
  | 0, _, _ => none
  | n + 1, S, a4 => (if 3 < a4 then some ((-9), S) else (fM_findRow_0 S a4 a1 a2).bind fun x2 => (if x2.1 = 0 then fM_soonest_48 a1 a2 a3 n x2.2 (a4 + 1) else (if a3 = (-1) then some (a4, x2.2) else (fM_threadInRow x2.2 a3 a4).bind fun x5 => some (x5, x2.2))))
theorem fM_soonest_48_s (a1 : Int32) (a2 : Int32) (a3 : Int32) (n : Nat) (S : SM) (a4 : Int32) : fM_soonest_48 a1 a2 a3 (n + 1) S a4 = (if 3 < a4 then some ((-9), S) else (fM_findRow_0 S a4 a1 a2).bind fun x2 => (if x2.1 = 0 then fM_soonest_48 a1 a2 a3 n x2.2 (a4 + 1) else (if a3 = (-1) then some (a4, x2.2) else (fM_threadInRow x2.2 a3 a4).bind fun x5 => some (x5, x2.2)))) := rfl
set_option maxHeartbeats 4000000 in
set_option maxRecDepth 100000 in
theorem lM_soonest_48 {p : Program} {l : Launch} {e : Env} {s : State} {m : MethodId} {args : Array Value} {below : List Frame} {meth : Method} {c : Code} (cx : mp_C p s m args meth c bM_soonest 5 (some .int) rM) (k : KK) (ad : Nat → Nat) (a1 : Int32) (a2 : Int32) (a3 : Int32) (z : (Int32 × SM)) (hE : mp_E k s) (hAN : ∀ q, mp_A (aM ad) q → mp_N k q) : ∀ (n : Nat) (S : SM) (a4 : Int32), fM_soonest_48 a1 a2 a3 n S a4 = some z → ∀ (H : Heap) (locs : List Loc), va_P (kD k) mp_cls (cM k ad S) H → va_D (mp_A (aM ad)) (cM k ad S) → va_S (mp_A (aM ad)) s.heap H locs → ∀ (ls : Array Slot), lv_has ls 5 [(0, .ref (ad 0)), (1, .int a1), (2, .int a2), (3, .int a3), (4, .int a4)] → W p l e rmM_soonest s m args below meth c H locs 0 0 (MQ below (mp_Qm k (some (.int z.1)) (cM k ad z.2) (aM ad)) args s 0 0 (mp_A (aM ad))) (F0 m 48 ls []) := by
  obtain ⟨hx, hb, -, hml, hown, hts, -⟩ := id cx
  intro n
  induction n with
  | zero =>
    intro S a4 h
    have h : (none : Option (Int32 × SM)) = some z := h
    cases h
  | succ n ih =>
    intro S a4 h H locs hP hD hS ls hl
    rw [fM_soonest_48_s] at h
    refine lv_iload hx hb dM_soonest_48 (lv_at hl 4 rfl) ?_
    refine lv_iconst (v := 3) hx hb dM_soonest_50 (by decide) ?_
    refine lv_icmp_gt (tgt := 94) hx hb dM_soonest_51 (by decide) (fun c1 => ?_) (fun c1 => ?_)
    · have h := mp_t c1 h
      refine lv_bipush (v := (-9)) hx hb dM_soonest_94 (by decide) ?_
      exact mp_rim (cf := cM k ad) cx h hP hS dM_soonest_96
    · have h := mp_f c1 h
      refine lv_aload_n hx hb dM_soonest_54 rfl (lv_at hl 0 rfl) ?_
      refine lv_aload_n hx hb dM_soonest_55 rfl (lv_at hl 0 rfl) ?_
      refine mp_gM cx hE hP iM 0 rfl 0 (by decide) wq_96 rfl (v := .ref (ad 1)) rfl dM_soonest_56 ?_
      refine lv_iconst (v := 0) hx hb dM_soonest_59 (by decide) ?_
      refine lv_iload hx hb dM_soonest_60 (lv_at hl 4 rfl) ?_
      refine lv_iload_n hx hb dM_soonest_62 rfl (lv_at hl 1 rfl) ?_
      refine lv_iload_n hx hb dM_soonest_63 rfl (lv_at hl 2 rfl) ?_
      obtain ⟨x2, ex2, h⟩ := mp_bs h
      refine mp_mi (mp_runV (As := [.ref (ad 1), .int 0, .int a4, .int a1, .int a2]) (rest := []) cx kV_M_119 (cM_findRow_0 l k ad S a4 a1 a2 x2 ex2) ⟨rfl, rfl, Nat.le_of_ble_eq_true rfl, Nat.le_of_ble_eq_true rfl⟩ ⟨Nat.zero_le _, Nat.zero_le _⟩ hE hP (mp_Dw hD hAN) (mp_S hS hAN) 0 rfl rfl rfl hl.1 rfl (Nat.le_of_ble_eq_true rfl) dM_soonest_64) hS (fun _ h9 => h9) (fun H locs hP hk hS => ?_)
      have hD : va_D (mp_A (aM ad)) (cM k ad x2.2) := mp_Ds hD rfl
      refine lv_if_eq (tgt := 88) hx hb dM_soonest_67 (by decide) (fun c3 => ?_) (fun c3 => ?_)
      · have h := mp_t c3 h
        refine lv_iinc (v := (a4 + 1)) (lv' := [(4, .int (a4 + 1)), (0, .ref (ad 0)), (1, .int a1), (2, .int a2), (3, .int a3)]) hx hb dM_soonest_88 hl (k := 4) rfl rfl (by decide) rfl (fun ls hl => ?_)
        refine lv_goto (tgt := 48) hx hb dM_soonest_91 (by decide) ?_
        exact ih x2.2 (a4 + 1) h _ _ hP hD hS ls (lv_sub hl [1, 2, 3, 4, 0] rfl)
      · have h := mp_f c3 h
        refine lv_iload_n hx hb dM_soonest_70 rfl (lv_at hl 3 rfl) ?_
        refine lv_iconst (v := (-1)) hx hb dM_soonest_71 (by decide) ?_
        refine lv_icmp_ne (tgt := 80) hx hb dM_soonest_72 (by decide) (fun c4 => ?_) (fun c4 => ?_)
        · have h := mp_f c4 h
          refine lv_aload_n hx hb dM_soonest_80 rfl (lv_at hl 0 rfl) ?_
          refine lv_iload_n hx hb dM_soonest_81 rfl (lv_at hl 3 rfl) ?_
          refine lv_iload hx hb dM_soonest_82 (lv_at hl 4 rfl) ?_
          obtain ⟨x5, ex5, h⟩ := mp_bs h
          refine mp_si (mp_runV (As := [.int a3, .int a4]) (rest := []) cx kV_M_123 (cM_threadInRow l k ad x2.2 a3 a4 x5 ex5) ⟨rfl, rfl, Nat.le_of_ble_eq_true rfl, Nat.le_of_ble_eq_true rfl⟩ ⟨Nat.zero_le _, Nat.zero_le _⟩ hE hP (mp_Dw hD hAN) (mp_S hS hAN) 0 rfl rfl rfl hl.1 rfl (Nat.le_of_ble_eq_true rfl) dM_soonest_84) ?_
          exact mp_rim (cf := cM k ad) cx h hP hS dM_soonest_87
        · have h := mp_t c4 h
          refine lv_iload hx hb dM_soonest_75 (lv_at hl 4 rfl) ?_
          refine lv_goto (tgt := 87) hx hb dM_soonest_77 (by decide) ?_
          exact mp_rim (cf := cM k ad) cx h hP hS dM_soonest_87
def fM_soonest (S : SM) (a1 : Int32) (a2 : Int32) (a3 : Int32) : Option (Int32 × SM) := (fW_isPlace S.1 a1).bind fun x1 => (if x1 = 0 then some ((-1), S) else (fW_isPlace S.1 a2).bind fun x3 => (if x3 = 0 then some ((-1), S) else (if a3 < (-1) then some ((-2), S) else (if a3 < 3 then (if a1 = a2 then some ((-3), S) else fM_soonest_48 a1 a2 a3 2000 S 0) else some ((-2), S)))))
set_option maxHeartbeats 4000000 in
set_option maxRecDepth 100000 in
theorem wM_soonest {p : Program} {l : Launch} {e : Env} {s : State} {m : MethodId} {args : Array Value} {below : List Frame} {meth : Method} {c : Code} (cx : mp_C p s m args meth c bM_soonest 5 (some .int) rM) (k : KK) (ad : Nat → Nat) (S : SM) (a1 : Int32) (a2 : Int32) (a3 : Int32) (z : (Int32 × SM)) (hE : mp_E k s) (hAN : ∀ q, mp_A (aM ad) q → mp_N k q) {H : Heap} {locs : List Loc} (hP : va_P (kD k) mp_cls (cM k ad S) H) (hD : va_D (mp_A (aM ad)) (cM k ad S)) (hS : va_S (mp_A (aM ad)) s.heap H locs) (h : fM_soonest S a1 a2 a3 = some z) (ls : Array Slot) (hl : lv_has ls 5 [(0, .ref (ad 0)), (1, .int a1), (2, .int a2), (3, .int a3)]) : W p l e rmM_soonest s m args below meth c H locs 0 0 (MQ below (mp_Qm k (some (.int z.1)) (cM k ad z.2) (aM ad)) args s 0 0 (mp_A (aM ad))) (F0 m 0 ls []) := by
  obtain ⟨hx, hb, -, hml, hown, hts, -⟩ := id cx
  unfold fM_soonest at h
  refine lv_aload_n hx hb dM_soonest_0 rfl (lv_at hl 0 rfl) ?_
  refine mp_gM cx hE hP iM 0 rfl 0 (by decide) wq_96 rfl (v := .ref (ad 1)) rfl dM_soonest_1 ?_
  refine lv_iload_n hx hb dM_soonest_4 rfl (lv_at hl 1 rfl) ?_
  obtain ⟨x1, ex1, h⟩ := mp_bs h
  refine mp_si (mp_runV (As := [.int a1]) (rest := []) cx kV_M_31 (cW_isPlace l k (fun i => ad (i + 1)) S.1 a1 x1 ex1) ⟨rfl, rfl, Nat.le_of_ble_eq_true rfl, Nat.le_of_ble_eq_true rfl⟩ ⟨Nat.zero_le _, Nat.zero_le _⟩ hE (pM_now (S := S) hP) (dM_now (S := S) (mp_Dw hD hAN)) (mp_S hS hAN) 0 rfl rfl rfl hl.1 rfl (Nat.le_of_ble_eq_true rfl) dM_soonest_5) ?_
  refine lv_if_eq (tgt := 22) hx hb dM_soonest_8 (by decide) (fun c2 => ?_) (fun c2 => ?_)
  · have h := mp_t c2 h
    refine lv_iconst (v := (-1)) hx hb dM_soonest_22 (by decide) ?_
    exact mp_rim (cf := cM k ad) cx h hP hS dM_soonest_23
  · have h := mp_f c2 h
    refine lv_aload_n hx hb dM_soonest_11 rfl (lv_at hl 0 rfl) ?_
    refine mp_gM cx hE hP iM 0 rfl 0 (by decide) wq_96 rfl (v := .ref (ad 1)) rfl dM_soonest_12 ?_
    refine lv_iload_n hx hb dM_soonest_15 rfl (lv_at hl 2 rfl) ?_
    obtain ⟨x3, ex3, h⟩ := mp_bs h
    refine mp_si (mp_runV (As := [.int a2]) (rest := []) cx kV_M_31 (cW_isPlace l k (fun i => ad (i + 1)) S.1 a2 x3 ex3) ⟨rfl, rfl, Nat.le_of_ble_eq_true rfl, Nat.le_of_ble_eq_true rfl⟩ ⟨Nat.zero_le _, Nat.zero_le _⟩ hE (pM_now (S := S) hP) (dM_now (S := S) (mp_Dw hD hAN)) (mp_S hS hAN) 0 rfl rfl rfl hl.1 rfl (Nat.le_of_ble_eq_true rfl) dM_soonest_16) ?_
    refine lv_if_ne (tgt := 24) hx hb dM_soonest_19 (by decide) (fun c4 => ?_) (fun c4 => ?_)
    · have h := mp_f c4 h
      refine lv_iload_n hx hb dM_soonest_24 rfl (lv_at hl 3 rfl) ?_
      refine lv_iconst (v := (-1)) hx hb dM_soonest_25 (by decide) ?_
      refine lv_icmp_lt (tgt := 34) hx hb dM_soonest_26 (by decide) (fun c5 => ?_) (fun c5 => ?_)
      · have h := mp_t c5 h
        refine lv_bipush (v := (-2)) hx hb dM_soonest_34 (by decide) ?_
        exact mp_rim (cf := cM k ad) cx h hP hS dM_soonest_36
      · have h := mp_f c5 h
        refine lv_iload_n hx hb dM_soonest_29 rfl (lv_at hl 3 rfl) ?_
        refine lv_iconst (v := 3) hx hb dM_soonest_30 (by decide) ?_
        refine lv_icmp_lt (tgt := 37) hx hb dM_soonest_31 (by decide) (fun c6 => ?_) (fun c6 => ?_)
        · have h := mp_t c6 h
          refine lv_iload_n hx hb dM_soonest_37 rfl (lv_at hl 1 rfl) ?_
          refine lv_iload_n hx hb dM_soonest_38 rfl (lv_at hl 2 rfl) ?_
          refine lv_icmp_ne (tgt := 45) hx hb dM_soonest_39 (by decide) (fun c7 => ?_) (fun c7 => ?_)
          · have h := mp_f c7 h
            refine lv_iconst (v := 0) hx hb dM_soonest_45 (by decide) ?_
            refine lv_istore (lv' := [(4, .int 0), (0, .ref (ad 0)), (1, .int a1), (2, .int a2), (3, .int a3)]) hx hb dM_soonest_46 hl (by decide) rfl (fun ls hl => ?_)
            exact lM_soonest_48 cx k ad a1 a2 a3 z hE hAN _ S 0 h _ _ hP hD hS ls (lv_sub hl [1, 2, 3, 4, 0] rfl)
          · have h := mp_t c7 h
            refine lv_bipush (v := (-3)) hx hb dM_soonest_42 (by decide) ?_
            exact mp_rim (cf := cM k ad) cx h hP hS dM_soonest_44
        · have h := mp_f c6 h
          refine lv_bipush (v := (-2)) hx hb dM_soonest_34 (by decide) ?_
          exact mp_rim (cf := cM k ad) cx h hP hS dM_soonest_36
    · have h := mp_t c4 h
      refine lv_iconst (v := (-1)) hx hb dM_soonest_22 (by decide) ?_
      exact mp_rim (cf := cM k ad) cx h hP hS dM_soonest_23
theorem cM_soonest (l : Launch) (k : KK) (ad : Nat → Nat) (S : SM) (a1 : Int32) (a2 : Int32) (a3 : Int32) (z : (Int32 × SM)) (h : fM_soonest S a1 a2 a3 = some z) : mp_CM l k yM_soonest bM_soonest 5 (some .int) rmM_soonest [.ref (ad 0), .int a1, .int a2, .int a3] (cM k ad S) (cM k ad z.2) (aM ad) (some (.int z.1)) := by
  refine Met.ofW (cc := bM_soonest) (maxL := 5) (ret := (some .int)) (by decide) rfl ?_
  intro p e s m args below meth c s₁ B hml hv
  obtain ⟨rfl, hP, hD, hE⟩ := hv
  have hl := lv_entry ([.ref (ad 0), .int a1, .int a2, .int a3]) (n := 5) (Nat.le_of_ble_eq_true rfl)
  rw [lg_entry_eq]
  generalize (lg_sl ([.ref (ad 0), .int a1, .int a2, .int a3]) ++ List.replicate (5 - (lg_sl ([.ref (ad 0), .int a1, .int a2, .int a3])).length) Slot.unset).toArray = ls at hl ⊢
  exact wM_soonest (mp_C.of B hml) k ad S a1 a2 a3 z hE (mp_new hD rfl) hP (mp_own hD rfl) va_S.rf h ls hl
-- MovingPlaces.said
abbrev rmM_said : Room := { frames := 5, cells := 0, slots := 0, locals := 111 }
def fM_said (S : SM) : Option Int32 := (fW_namesThatMayBeSaid S.1).bind fun x1 => some x1
set_option maxHeartbeats 4000000 in
set_option maxRecDepth 100000 in
theorem wM_said {p : Program} {l : Launch} {e : Env} {s : State} {m : MethodId} {args : Array Value} {below : List Frame} {meth : Method} {c : Code} (cx : mp_C p s m args meth c bM_said 1 (some .int) rM) (k : KK) (ad : Nat → Nat) (S : SM) (z : Int32) (hE : mp_E k s) (hP : va_P (kD k) mp_cls (cM k ad S) s.heap) (hD : va_D (mp_N k) (cM k ad S)) (h : fM_said S = some z) (ls : Array Slot) (hl : lv_has ls 1 [(0, .ref (ad 0))]) : W p l e rmM_said s m args below meth c s.heap [] 0 0 (MQ below (mp_Qs (some (.int z))) args s 0 0 (fun _ => False)) (F0 m 0 ls []) := by
  obtain ⟨hx, hb, -, hml, hown, hts, -⟩ := id cx
  unfold fM_said at h
  refine lv_aload_n hx hb dM_said_0 rfl (lv_at hl 0 rfl) ?_
  refine mp_gM cx hE hP iM 0 rfl 0 (by decide) wq_96 rfl (v := .ref (ad 1)) rfl dM_said_1 ?_
  obtain ⟨x1, ex1, h⟩ := mp_bs h
  refine mp_si (mp_runV (As := []) (rest := []) cx kV_M_126 (cW_namesThatMayBeSaid l k (fun i => ad (i + 1)) S.1 x1 ex1) ⟨rfl, rfl, Nat.le_of_ble_eq_true rfl, Nat.le_of_ble_eq_true rfl⟩ ⟨Nat.zero_le _, Nat.zero_le _⟩ hE (pM_now (S := S) hP) (dM_now (S := S) hD) va_S.rf 0 rfl rfl rfl hl.1 rfl (Nat.le_of_ble_eq_true rfl) dM_said_4) ?_
  exact mp_ri cx h dM_said_7
theorem cM_said (l : Launch) (k : KK) (ad : Nat → Nat) (S : SM) (z : Int32) (h : fM_said S = some z) : mp_CS l k yM_said bM_said 1 (some .int) rmM_said [.ref (ad 0)] (cM k ad S) (some (.int z)) := by
  refine Met.ofW (cc := bM_said) (maxL := 1) (ret := (some .int)) (by decide) rfl ?_
  intro p e s m args below meth c s₁ B hml hv
  obtain ⟨rfl, hP, hD, hE⟩ := hv
  have hl := lv_entry ([.ref (ad 0)]) (n := 1) (Nat.le_of_ble_eq_true rfl)
  rw [lg_entry_eq]
  generalize (lg_sl ([.ref (ad 0)]) ++ List.replicate (1 - (lg_sl ([.ref (ad 0)])).length) Slot.unset).toArray = ls at hl ⊢
  exact wM_said (mp_C.of B hml) k ad S z hE hP hD h ls hl
-- MovingPlaces.moves
abbrev rmM_moves : Room := { frames := 6, cells := 0, slots := 0, locals := 140 }
def fM_moves (S : SM) : Option Int32 := (fW_namesThatMove S.1).bind fun x1 => some x1
set_option maxHeartbeats 4000000 in
set_option maxRecDepth 100000 in
theorem wM_moves {p : Program} {l : Launch} {e : Env} {s : State} {m : MethodId} {args : Array Value} {below : List Frame} {meth : Method} {c : Code} (cx : mp_C p s m args meth c bM_moves 1 (some .int) rM) (k : KK) (ad : Nat → Nat) (S : SM) (z : Int32) (hE : mp_E k s) (hP : va_P (kD k) mp_cls (cM k ad S) s.heap) (hD : va_D (mp_N k) (cM k ad S)) (h : fM_moves S = some z) (ls : Array Slot) (hl : lv_has ls 1 [(0, .ref (ad 0))]) : W p l e rmM_moves s m args below meth c s.heap [] 0 0 (MQ below (mp_Qs (some (.int z))) args s 0 0 (fun _ => False)) (F0 m 0 ls []) := by
  obtain ⟨hx, hb, -, hml, hown, hts, -⟩ := id cx
  unfold fM_moves at h
  refine lv_aload_n hx hb dM_moves_0 rfl (lv_at hl 0 rfl) ?_
  refine mp_gM cx hE hP iM 0 rfl 0 (by decide) wq_96 rfl (v := .ref (ad 1)) rfl dM_moves_1 ?_
  obtain ⟨x1, ex1, h⟩ := mp_bs h
  refine mp_si (mp_runV (As := []) (rest := []) cx kV_M_129 (cW_namesThatMove l k (fun i => ad (i + 1)) S.1 x1 ex1) ⟨rfl, rfl, Nat.le_of_ble_eq_true rfl, Nat.le_of_ble_eq_true rfl⟩ ⟨Nat.zero_le _, Nat.zero_le _⟩ hE (pM_now (S := S) hP) (dM_now (S := S) hD) va_S.rf 0 rfl rfl rfl hl.1 rfl (Nat.le_of_ble_eq_true rfl) dM_moves_4) ?_
  exact mp_ri cx h dM_moves_7
theorem cM_moves (l : Launch) (k : KK) (ad : Nat → Nat) (S : SM) (z : Int32) (h : fM_moves S = some z) : mp_CS l k yM_moves bM_moves 1 (some .int) rmM_moves [.ref (ad 0)] (cM k ad S) (some (.int z)) := by
  refine Met.ofW (cc := bM_moves) (maxL := 1) (ret := (some .int)) (by decide) rfl ?_
  intro p e s m args below meth c s₁ B hml hv
  obtain ⟨rfl, hP, hD, hE⟩ := hv
  have hl := lv_entry ([.ref (ad 0)]) (n := 1) (Nat.le_of_ble_eq_true rfl)
  rw [lg_entry_eq]
  generalize (lg_sl ([.ref (ad 0)]) ++ List.replicate (1 - (lg_sl ([.ref (ad 0)])).length) Slot.unset).toArray = ls at hl ⊢
  exact wM_moves (mp_C.of B hml) k ad S z hE hP hD h ls hl
-- MovingPlaces.keep
abbrev rmM_keep : Room := { frames := 2, cells := 0, slots := 0, locals := 81 }
def fM_keep (S : SM) : Option (Int32 × SM) := (fW_become S.2.1 S.1).bind fun x1 => some (1, (S.1, x1, 1, S.2.2.2.1, S.2.2.2.2.1, S.2.2.2.2.2.1, S.2.2.2.2.2.2))
set_option maxHeartbeats 4000000 in
set_option maxRecDepth 100000 in
theorem wM_keep {p : Program} {l : Launch} {e : Env} {s : State} {m : MethodId} {args : Array Value} {below : List Frame} {meth : Method} {c : Code} (cx : mp_C p s m args meth c bM_keep 1 (some .int) rM) (k : KK) (ad : Nat → Nat) (S : SM) (z : (Int32 × SM)) (hE : mp_E k s) (hAN : ∀ q, mp_A (aM ad) q → mp_N k q) {H : Heap} {locs : List Loc} (hP : va_P (kD k) mp_cls (cM k ad S) H) (hD : va_D (mp_A (aM ad)) (cM k ad S)) (hS : va_S (mp_A (aM ad)) s.heap H locs) (h : fM_keep S = some z) (ls : Array Slot) (hl : lv_has ls 1 [(0, .ref (ad 0))]) : W p l e rmM_keep s m args below meth c H locs 0 0 (MQ below (mp_Qm k (some (.int z.1)) (cM k ad z.2) (aM ad)) args s 0 0 (mp_A (aM ad))) (F0 m 0 ls []) := by
  obtain ⟨hx, hb, -, hml, hown, hts, -⟩ := id cx
  unfold fM_keep at h
  refine lv_aload_n hx hb dM_keep_0 rfl (lv_at hl 0 rfl) ?_
  refine mp_gM cx hE hP iM 0 rfl 1 (by decide) wq_97 rfl (v := .ref (ad 10)) rfl dM_keep_1 ?_
  refine lv_aload_n hx hb dM_keep_4 rfl (lv_at hl 0 rfl) ?_
  refine mp_gM cx hE hP iM 0 rfl 0 (by decide) wq_96 rfl (v := .ref (ad 1)) rfl dM_keep_5 ?_
  obtain ⟨x1, ex1, h⟩ := mp_bs h
  refine mp_mv (mp_runV (As := [.ref (ad 1)]) (rest := []) cx kV_M_132 (cW_become l k (fun i => ad (i + 10)) (fun i => ad (i + 1)) S.1 S.2.1 x1 ex1) ⟨rfl, rfl, Nat.le_of_ble_eq_true rfl, Nat.le_of_ble_eq_true rfl⟩ ⟨Nat.zero_le _, Nat.zero_le _⟩ hE (pM_image_now (S := S) hP) (dM_image_now (S := S) (mp_Dw hD hAN)) (mp_S hS hAN) 0 rfl rfl rfl hl.1 rfl (Nat.le_of_ble_eq_true rfl) dM_keep_8) hS (fun q h9 => mp_new (dM_image_now (S := S) hD) rfl q h9) (fun H1 locs hP1 hk hS => ?_)
  have hP : va_P (kD k) mp_cls (cM k ad (S.1, x1, S.2.2.1, S.2.2.2.1, S.2.2.2.2.1, S.2.2.2.2.2.1, S.2.2.2.2.2.2)) H1 := jM_image_now (S := S) hP hD hk hP1
  have hD : va_D (mp_A (aM ad)) (cM k ad (S.1, x1, S.2.2.1, S.2.2.2.1, S.2.2.2.2.1, S.2.2.2.2.2.1, S.2.2.2.2.2.2)) := mp_Ds hD rfl
  refine lv_aload_n hx hb dM_keep_11 rfl (lv_at hl 0 rfl) ?_
  refine lv_iconst (v := 1) hx hb dM_keep_12 (by decide) ?_
  refine va_put (D := kD k) (ci := 1) (v := .int 1) (ty := .boolean) (C := rM) (T := tM) (N := 5) hx hb hts iM gM gM_ok nM hown hE.1 hP hD hS 0 rfl rfl 2 (by decide) (hts _ wq_98) (fun _ h9 => h9) rfl (by decide +kernel) rfl rfl (Nat.le_of_ble_eq_true rfl) dM_keep_13 (fun H locs hP hD hS => ?_)
  have hP : va_P (kD k) mp_cls (cM k ad (S.1, x1, 1, S.2.2.2.1, S.2.2.2.2.1, S.2.2.2.2.2.1, S.2.2.2.2.2.2)) H := hP
  have hD : va_D (mp_A (aM ad)) (cM k ad (S.1, x1, 1, S.2.2.2.1, S.2.2.2.2.1, S.2.2.2.2.2.1, S.2.2.2.2.2.2)) := hD
  refine lv_iconst (v := 1) hx hb dM_keep_16 (by decide) ?_
  exact mp_rim (cf := cM k ad) cx h hP hS dM_keep_17
theorem cM_keep (l : Launch) (k : KK) (ad : Nat → Nat) (S : SM) (z : (Int32 × SM)) (h : fM_keep S = some z) : mp_CM l k yM_keep bM_keep 1 (some .int) rmM_keep [.ref (ad 0)] (cM k ad S) (cM k ad z.2) (aM ad) (some (.int z.1)) := by
  refine Met.ofW (cc := bM_keep) (maxL := 1) (ret := (some .int)) (by decide) rfl ?_
  intro p e s m args below meth c s₁ B hml hv
  obtain ⟨rfl, hP, hD, hE⟩ := hv
  have hl := lv_entry ([.ref (ad 0)]) (n := 1) (Nat.le_of_ble_eq_true rfl)
  rw [lg_entry_eq]
  generalize (lg_sl ([.ref (ad 0)]) ++ List.replicate (1 - (lg_sl ([.ref (ad 0)])).length) Slot.unset).toArray = ls at hl ⊢
  exact wM_keep (mp_C.of B hml) k ad S z hE (mp_new hD rfl) hP (mp_own hD rfl) va_S.rf h ls hl
-- MovingPlaces.restore
abbrev rmM_restore : Room := { frames := 2, cells := 0, slots := 0, locals := 81 }
def fM_restore (S : SM) : Option (Int32 × SM) := (if S.2.2.1 = 0 then some ((-3), S) else (fW_become S.1 S.2.1).bind fun x2 => some (1, (x2, S.2.1, S.2.2.1, S.2.2.2.1, S.2.2.2.2.1, S.2.2.2.2.2.1, S.2.2.2.2.2.2)))
set_option maxHeartbeats 4000000 in
set_option maxRecDepth 100000 in
theorem wM_restore {p : Program} {l : Launch} {e : Env} {s : State} {m : MethodId} {args : Array Value} {below : List Frame} {meth : Method} {c : Code} (cx : mp_C p s m args meth c bM_restore 1 (some .int) rM) (k : KK) (ad : Nat → Nat) (S : SM) (z : (Int32 × SM)) (hE : mp_E k s) (hAN : ∀ q, mp_A (aM ad) q → mp_N k q) {H : Heap} {locs : List Loc} (hP : va_P (kD k) mp_cls (cM k ad S) H) (hD : va_D (mp_A (aM ad)) (cM k ad S)) (hS : va_S (mp_A (aM ad)) s.heap H locs) (h : fM_restore S = some z) (ls : Array Slot) (hl : lv_has ls 1 [(0, .ref (ad 0))]) : W p l e rmM_restore s m args below meth c H locs 0 0 (MQ below (mp_Qm k (some (.int z.1)) (cM k ad z.2) (aM ad)) args s 0 0 (mp_A (aM ad))) (F0 m 0 ls []) := by
  obtain ⟨hx, hb, -, hml, hown, hts, -⟩ := id cx
  unfold fM_restore at h
  refine lv_aload_n hx hb dM_restore_0 rfl (lv_at hl 0 rfl) ?_
  refine mp_gM cx hE hP iM 0 rfl 2 (by decide) wq_98 rfl (v := .int S.2.2.1) rfl dM_restore_1 ?_
  refine lv_if_ne (tgt := 10) hx hb dM_restore_4 (by decide) (fun c1 => ?_) (fun c1 => ?_)
  · have h := mp_f c1 h
    refine lv_aload_n hx hb dM_restore_10 rfl (lv_at hl 0 rfl) ?_
    refine mp_gM cx hE hP iM 0 rfl 0 (by decide) wq_96 rfl (v := .ref (ad 1)) rfl dM_restore_11 ?_
    refine lv_aload_n hx hb dM_restore_14 rfl (lv_at hl 0 rfl) ?_
    refine mp_gM cx hE hP iM 0 rfl 1 (by decide) wq_97 rfl (v := .ref (ad 10)) rfl dM_restore_15 ?_
    obtain ⟨x2, ex2, h⟩ := mp_bs h
    refine mp_mv (mp_runV (As := [.ref (ad 10)]) (rest := []) cx kV_M_132 (cW_become l k (fun i => ad (i + 1)) (fun i => ad (i + 10)) S.2.1 S.1 x2 ex2) ⟨rfl, rfl, Nat.le_of_ble_eq_true rfl, Nat.le_of_ble_eq_true rfl⟩ ⟨Nat.zero_le _, Nat.zero_le _⟩ hE (pM_now_image (S := S) hP) (dM_now_image (S := S) (mp_Dw hD hAN)) (mp_S hS hAN) 0 rfl rfl rfl hl.1 rfl (Nat.le_of_ble_eq_true rfl) dM_restore_18) hS (fun q h9 => mp_new (dM_now_image (S := S) hD) rfl q h9) (fun H1 locs hP1 hk hS => ?_)
    have hP : va_P (kD k) mp_cls (cM k ad (x2, S.2.1, S.2.2.1, S.2.2.2.1, S.2.2.2.2.1, S.2.2.2.2.2.1, S.2.2.2.2.2.2)) H1 := jM_now_image (S := S) hP hD hk hP1
    have hD : va_D (mp_A (aM ad)) (cM k ad (x2, S.2.1, S.2.2.1, S.2.2.2.1, S.2.2.2.2.1, S.2.2.2.2.2.1, S.2.2.2.2.2.2)) := mp_Ds hD rfl
    refine lv_iconst (v := 1) hx hb dM_restore_21 (by decide) ?_
    exact mp_rim (cf := cM k ad) cx h hP hS dM_restore_22
  · have h := mp_t c1 h
    refine lv_bipush (v := (-3)) hx hb dM_restore_7 (by decide) ?_
    exact mp_rim (cf := cM k ad) cx h hP hS dM_restore_9
theorem cM_restore (l : Launch) (k : KK) (ad : Nat → Nat) (S : SM) (z : (Int32 × SM)) (h : fM_restore S = some z) : mp_CM l k yM_restore bM_restore 1 (some .int) rmM_restore [.ref (ad 0)] (cM k ad S) (cM k ad z.2) (aM ad) (some (.int z.1)) := by
  refine Met.ofW (cc := bM_restore) (maxL := 1) (ret := (some .int)) (by decide) rfl ?_
  intro p e s m args below meth c s₁ B hml hv
  obtain ⟨rfl, hP, hD, hE⟩ := hv
  have hl := lv_entry ([.ref (ad 0)]) (n := 1) (Nat.le_of_ble_eq_true rfl)
  rw [lg_entry_eq]
  generalize (lg_sl ([.ref (ad 0)]) ++ List.replicate (1 - (lg_sl ([.ref (ad 0)])).length) Slot.unset).toArray = ls at hl ⊢
  exact wM_restore (mp_C.of B hml) k ad S z hE (mp_new hD rfl) hP (mp_own hD rfl) va_S.rf h ls hl
-- MovingPlaces.many
abbrev rmM_many : Room := { frames := 4, cells := 0, slots := 0, locals := 85 }
def fM_many (S : SM) (a1 : Int32) : Option Int32 := (if a1 = 0 then (fW_placesThatAre S.1).bind fun x2 => some x2 else if a1 = 1 then (fW_threadsInAll S.1).bind fun x4 => some x4 else if a1 = 2 then (fW_threadsOver S.1).bind fun x6 => some x6 else if a1 = 3 then (fW_placesInAll S.1).bind fun x8 => some x8 else if a1 = 4 then (fW_messagesInAll S.1).bind fun x10 => some x10 else if a1 = 5 then (if S.2.2.1 = 0 then some 0 else some 1) else some (-2))
set_option maxHeartbeats 4000000 in
set_option maxRecDepth 100000 in
theorem wM_many {p : Program} {l : Launch} {e : Env} {s : State} {m : MethodId} {args : Array Value} {below : List Frame} {meth : Method} {c : Code} (cx : mp_C p s m args meth c bM_many 2 (some .int) rM) (k : KK) (ad : Nat → Nat) (S : SM) (a1 : Int32) (z : Int32) (hE : mp_E k s) (hP : va_P (kD k) mp_cls (cM k ad S) s.heap) (hD : va_D (mp_N k) (cM k ad S)) (h : fM_many S a1 = some z) (ls : Array Slot) (hl : lv_has ls 2 [(0, .ref (ad 0)), (1, .int a1)]) : W p l e rmM_many s m args below meth c s.heap [] 0 0 (MQ below (mp_Qs (some (.int z))) args s 0 0 (fun _ => False)) (F0 m 0 ls []) := by
  obtain ⟨hx, hb, -, hml, hown, hts, -⟩ := id cx
  unfold fM_many at h
  refine lv_iload_n hx hb dM_many_0 rfl (lv_at hl 1 rfl) ?_
  by_cases c1 : a1 = 0
  · have h := mp_t c1 h
    refine lv_tableIn (off := 39) (tgt := 40) hx hb dM_many_1 (by rw [c1]; decide) (by rw [c1]; decide) (by rw [c1]; rfl) (by decide) ?_
    refine lv_aload_n hx hb dM_many_40 rfl (lv_at hl 0 rfl) ?_
    refine mp_gM cx hE hP iM 0 rfl 0 (by decide) wq_96 rfl (v := .ref (ad 1)) rfl dM_many_41 ?_
    obtain ⟨x2, ex2, h⟩ := mp_bs h
    refine mp_si (mp_runV (As := []) (rest := []) cx kV_M_136 (cW_placesThatAre l k (fun i => ad (i + 1)) S.1 x2 ex2) ⟨rfl, rfl, Nat.le_of_ble_eq_true rfl, Nat.le_of_ble_eq_true rfl⟩ ⟨Nat.zero_le _, Nat.zero_le _⟩ hE (pM_now (S := S) hP) (dM_now (S := S) hD) va_S.rf 0 rfl rfl rfl hl.1 rfl (Nat.le_of_ble_eq_true rfl) dM_many_44) ?_
    exact mp_ri cx h dM_many_47
  have h := mp_f c1 h
  by_cases c3 : a1 = 1
  · have h := mp_t c3 h
    refine lv_tableIn (off := 47) (tgt := 48) hx hb dM_many_1 (by rw [c3]; decide) (by rw [c3]; decide) (by rw [c3]; rfl) (by decide) ?_
    refine lv_aload_n hx hb dM_many_48 rfl (lv_at hl 0 rfl) ?_
    refine mp_gM cx hE hP iM 0 rfl 0 (by decide) wq_96 rfl (v := .ref (ad 1)) rfl dM_many_49 ?_
    obtain ⟨x4, ex4, h⟩ := mp_bs h
    refine mp_si (mp_runV (As := []) (rest := []) cx kV_M_139 (cW_threadsInAll l k (fun i => ad (i + 1)) S.1 x4 ex4) ⟨rfl, rfl, Nat.le_of_ble_eq_true rfl, Nat.le_of_ble_eq_true rfl⟩ ⟨Nat.zero_le _, Nat.zero_le _⟩ hE (pM_now (S := S) hP) (dM_now (S := S) hD) va_S.rf 0 rfl rfl rfl hl.1 rfl (Nat.le_of_ble_eq_true rfl) dM_many_52) ?_
    exact mp_ri cx h dM_many_55
  have h := mp_f c3 h
  by_cases c5 : a1 = 2
  · have h := mp_t c5 h
    refine lv_tableIn (off := 55) (tgt := 56) hx hb dM_many_1 (by rw [c5]; decide) (by rw [c5]; decide) (by rw [c5]; rfl) (by decide) ?_
    refine lv_aload_n hx hb dM_many_56 rfl (lv_at hl 0 rfl) ?_
    refine mp_gM cx hE hP iM 0 rfl 0 (by decide) wq_96 rfl (v := .ref (ad 1)) rfl dM_many_57 ?_
    obtain ⟨x6, ex6, h⟩ := mp_bs h
    refine mp_si (mp_runV (As := []) (rest := []) cx kV_M_142 (cW_threadsOver l k (fun i => ad (i + 1)) S.1 x6 ex6) ⟨rfl, rfl, Nat.le_of_ble_eq_true rfl, Nat.le_of_ble_eq_true rfl⟩ ⟨Nat.zero_le _, Nat.zero_le _⟩ hE (pM_now (S := S) hP) (dM_now (S := S) hD) va_S.rf 0 rfl rfl rfl hl.1 rfl (Nat.le_of_ble_eq_true rfl) dM_many_60) ?_
    exact mp_ri cx h dM_many_63
  have h := mp_f c5 h
  by_cases c7 : a1 = 3
  · have h := mp_t c7 h
    refine lv_tableIn (off := 63) (tgt := 64) hx hb dM_many_1 (by rw [c7]; decide) (by rw [c7]; decide) (by rw [c7]; rfl) (by decide) ?_
    refine lv_aload_n hx hb dM_many_64 rfl (lv_at hl 0 rfl) ?_
    refine mp_gM cx hE hP iM 0 rfl 0 (by decide) wq_96 rfl (v := .ref (ad 1)) rfl dM_many_65 ?_
    obtain ⟨x8, ex8, h⟩ := mp_bs h
    refine mp_si (mp_runV (As := []) (rest := []) cx kV_M_145 (cW_placesInAll l k (fun i => ad (i + 1)) S.1 x8 ex8) ⟨rfl, rfl, Nat.le_of_ble_eq_true rfl, Nat.le_of_ble_eq_true rfl⟩ ⟨Nat.zero_le _, Nat.zero_le _⟩ hE (pM_now (S := S) hP) (dM_now (S := S) hD) va_S.rf 0 rfl rfl rfl hl.1 rfl (Nat.le_of_ble_eq_true rfl) dM_many_68) ?_
    exact mp_ri cx h dM_many_71
  have h := mp_f c7 h
  by_cases c9 : a1 = 4
  · have h := mp_t c9 h
    refine lv_tableIn (off := 71) (tgt := 72) hx hb dM_many_1 (by rw [c9]; decide) (by rw [c9]; decide) (by rw [c9]; rfl) (by decide) ?_
    refine lv_aload_n hx hb dM_many_72 rfl (lv_at hl 0 rfl) ?_
    refine mp_gM cx hE hP iM 0 rfl 0 (by decide) wq_96 rfl (v := .ref (ad 1)) rfl dM_many_73 ?_
    obtain ⟨x10, ex10, h⟩ := mp_bs h
    refine mp_si (mp_runV (As := []) (rest := []) cx kV_M_148 (cW_messagesInAll l k (fun i => ad (i + 1)) S.1 x10 ex10) ⟨rfl, rfl, Nat.le_of_ble_eq_true rfl, Nat.le_of_ble_eq_true rfl⟩ ⟨Nat.zero_le _, Nat.zero_le _⟩ hE (pM_now (S := S) hP) (dM_now (S := S) hD) va_S.rf 0 rfl rfl rfl hl.1 rfl (Nat.le_of_ble_eq_true rfl) dM_many_76) ?_
    exact mp_ri cx h dM_many_79
  have h := mp_f c9 h
  by_cases c11 : a1 = 5
  · have h := mp_t c11 h
    refine lv_tableIn (off := 79) (tgt := 80) hx hb dM_many_1 (by rw [c11]; decide) (by rw [c11]; decide) (by rw [c11]; rfl) (by decide) ?_
    refine lv_aload_n hx hb dM_many_80 rfl (lv_at hl 0 rfl) ?_
    refine mp_gM cx hE hP iM 0 rfl 2 (by decide) wq_98 rfl (v := .int S.2.2.1) rfl dM_many_81 ?_
    refine lv_if_eq (tgt := 91) hx hb dM_many_84 (by decide) (fun c12 => ?_) (fun c12 => ?_)
    · have h := mp_t c12 h
      refine lv_iconst (v := 0) hx hb dM_many_91 (by decide) ?_
      exact mp_ri cx h dM_many_92
    · have h := mp_f c12 h
      refine lv_iconst (v := 1) hx hb dM_many_87 (by decide) ?_
      refine lv_goto (tgt := 92) hx hb dM_many_88 (by decide) ?_
      exact mp_ri cx h dM_many_92
  have h := mp_f c11 h
  have qc1 : (a1).toInt ≠ 0 := mp_ne c1
  have qc3 : (a1).toInt ≠ 1 := mp_ne c3
  have qc5 : (a1).toInt ≠ 2 := mp_ne c5
  have qc7 : (a1).toInt ≠ 3 := mp_ne c7
  have qc9 : (a1).toInt ≠ 4 := mp_ne c9
  have qc11 : (a1).toInt ≠ 5 := mp_ne c11
  refine lv_tableOut (tgt := 93) hx hb dM_many_1 (by omega) (by decide) ?_
  refine lv_bipush (v := (-2)) hx hb dM_many_93 (by decide) ?_
  exact mp_ri cx h dM_many_95
theorem cM_many (l : Launch) (k : KK) (ad : Nat → Nat) (S : SM) (a1 : Int32) (z : Int32) (h : fM_many S a1 = some z) : mp_CS l k yM_many bM_many 2 (some .int) rmM_many [.ref (ad 0), .int a1] (cM k ad S) (some (.int z)) := by
  refine Met.ofW (cc := bM_many) (maxL := 2) (ret := (some .int)) (by decide) rfl ?_
  intro p e s m args below meth c s₁ B hml hv
  obtain ⟨rfl, hP, hD, hE⟩ := hv
  have hl := lv_entry ([.ref (ad 0), .int a1]) (n := 2) (Nat.le_of_ble_eq_true rfl)
  rw [lg_entry_eq]
  generalize (lg_sl ([.ref (ad 0), .int a1]) ++ List.replicate (2 - (lg_sl ([.ref (ad 0), .int a1])).length) Slot.unset).toArray = ls at hl ⊢
  exact wM_many (mp_C.of B hml) k ad S a1 z hE hP hD h ls hl
