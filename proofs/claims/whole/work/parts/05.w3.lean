theorem dW_dissolve_0 : decode bW_dissolve 0 = .ok (.aload_n 0, 1) := by decide +kernel
theorem dW_dissolve_1 : decode bW_dissolve 1 = .ok (.iload_n 1, 1) := by decide +kernel
theorem dW_dissolve_2 : decode bW_dissolve 2 = .ok (.invokevirtual 56, 3) := by decide +kernel
theorem dW_dissolve_5 : decode bW_dissolve 5 = .ok (.ifCond .ne 4, 3) := by decide +kernel
theorem dW_dissolve_8 : decode bW_dissolve 8 = .ok (.return_, 1) := by decide +kernel
theorem dW_dissolve_9 : decode bW_dissolve 9 = .ok (.iconst 0, 1) := by decide +kernel
theorem dW_dissolve_10 : decode bW_dissolve 10 = .ok (.istore_n 3, 1) := by decide +kernel
theorem dW_dissolve_11 : decode bW_dissolve 11 = .ok (.iload_n 3, 1) := by decide +kernel
theorem dW_dissolve_12 : decode bW_dissolve 12 = .ok (.bipush 6, 2) := by decide +kernel
theorem dW_dissolve_14 : decode bW_dissolve 14 = .ok (.if_icmp .ge 21, 3) := by decide +kernel
theorem dW_dissolve_17 : decode bW_dissolve 17 = .ok (.aload_n 0, 1) := by decide +kernel
theorem dW_dissolve_18 : decode bW_dissolve 18 = .ok (.iload_n 2, 1) := by decide +kernel
theorem dW_dissolve_19 : decode bW_dissolve 19 = .ok (.iload_n 3, 1) := by decide +kernel
theorem dW_dissolve_20 : decode bW_dissolve 20 = .ok (.aload_n 0, 1) := by decide +kernel
theorem dW_dissolve_21 : decode bW_dissolve 21 = .ok (.iload_n 1, 1) := by decide +kernel
theorem dW_dissolve_22 : decode bW_dissolve 22 = .ok (.iload_n 3, 1) := by decide +kernel
theorem dW_dissolve_23 : decode bW_dissolve 23 = .ok (.invokevirtual 72, 3) := by decide +kernel
theorem dW_dissolve_26 : decode bW_dissolve 26 = .ok (.invokevirtual 122, 3) := by decide +kernel
theorem dW_dissolve_29 : decode bW_dissolve 29 = .ok (.iinc 3 1, 3) := by decide +kernel
theorem dW_dissolve_32 : decode bW_dissolve 32 = .ok (.goto (-21), 3) := by decide +kernel
theorem dW_dissolve_35 : decode bW_dissolve 35 = .ok (.iconst 0, 1) := by decide +kernel
theorem dW_dissolve_36 : decode bW_dissolve 36 = .ok (.istore_n 3, 1) := by decide +kernel
theorem dW_dissolve_37 : decode bW_dissolve 37 = .ok (.iload_n 3, 1) := by decide +kernel
theorem dW_dissolve_38 : decode bW_dissolve 38 = .ok (.aload_n 0, 1) := by decide +kernel
theorem dW_dissolve_39 : decode bW_dissolve 39 = .ok (.getfield 9, 3) := by decide +kernel
theorem dW_dissolve_42 : decode bW_dissolve 42 = .ok (.if_icmp .ge 26, 3) := by decide +kernel
theorem dW_dissolve_45 : decode bW_dissolve 45 = .ok (.aload_n 0, 1) := by decide +kernel
theorem dW_dissolve_46 : decode bW_dissolve 46 = .ok (.getfield 25, 3) := by decide +kernel
theorem dW_dissolve_49 : decode bW_dissolve 49 = .ok (.iload_n 3, 1) := by decide +kernel
theorem dW_dissolve_50 : decode bW_dissolve 50 = .ok (.iaload, 1) := by decide +kernel
theorem dW_dissolve_51 : decode bW_dissolve 51 = .ok (.iload_n 1, 1) := by decide +kernel
theorem dW_dissolve_52 : decode bW_dissolve 52 = .ok (.if_icmp .ne 10, 3) := by decide +kernel
theorem dW_dissolve_55 : decode bW_dissolve 55 = .ok (.aload_n 0, 1) := by decide +kernel
theorem dW_dissolve_56 : decode bW_dissolve 56 = .ok (.getfield 25, 3) := by decide +kernel
theorem dW_dissolve_59 : decode bW_dissolve 59 = .ok (.iload_n 3, 1) := by decide +kernel
theorem dW_dissolve_60 : decode bW_dissolve 60 = .ok (.iload_n 2, 1) := by decide +kernel
theorem dW_dissolve_61 : decode bW_dissolve 61 = .ok (.iastore, 1) := by decide +kernel
theorem dW_dissolve_62 : decode bW_dissolve 62 = .ok (.iinc 3 1, 3) := by decide +kernel
theorem dW_dissolve_65 : decode bW_dissolve 65 = .ok (.goto (-28), 3) := by decide +kernel
theorem dW_dissolve_68 : decode bW_dissolve 68 = .ok (.iconst 0, 1) := by decide +kernel
theorem dW_dissolve_69 : decode bW_dissolve 69 = .ok (.istore_n 3, 1) := by decide +kernel
theorem dW_dissolve_70 : decode bW_dissolve 70 = .ok (.iload_n 3, 1) := by decide +kernel
theorem dW_dissolve_71 : decode bW_dissolve 71 = .ok (.aload_n 0, 1) := by decide +kernel
theorem dW_dissolve_72 : decode bW_dissolve 72 = .ok (.getfield 31, 3) := by decide +kernel
theorem dW_dissolve_75 : decode bW_dissolve 75 = .ok (.if_icmp .ge 26, 3) := by decide +kernel
theorem dW_dissolve_78 : decode bW_dissolve 78 = .ok (.aload_n 0, 1) := by decide +kernel
theorem dW_dissolve_79 : decode bW_dissolve 79 = .ok (.getfield 34, 3) := by decide +kernel
theorem dW_dissolve_82 : decode bW_dissolve 82 = .ok (.iload_n 3, 1) := by decide +kernel
theorem dW_dissolve_83 : decode bW_dissolve 83 = .ok (.iaload, 1) := by decide +kernel
theorem dW_dissolve_84 : decode bW_dissolve 84 = .ok (.iload_n 1, 1) := by decide +kernel
theorem dW_dissolve_85 : decode bW_dissolve 85 = .ok (.if_icmp .ne 10, 3) := by decide +kernel
theorem dW_dissolve_88 : decode bW_dissolve 88 = .ok (.aload_n 0, 1) := by decide +kernel
theorem dW_dissolve_89 : decode bW_dissolve 89 = .ok (.getfield 34, 3) := by decide +kernel
theorem dW_dissolve_92 : decode bW_dissolve 92 = .ok (.iload_n 3, 1) := by decide +kernel
theorem dW_dissolve_93 : decode bW_dissolve 93 = .ok (.iload_n 2, 1) := by decide +kernel
theorem dW_dissolve_94 : decode bW_dissolve 94 = .ok (.iastore, 1) := by decide +kernel
theorem dW_dissolve_95 : decode bW_dissolve 95 = .ok (.iinc 3 1, 3) := by decide +kernel
theorem dW_dissolve_98 : decode bW_dissolve 98 = .ok (.goto (-28), 3) := by decide +kernel
theorem dW_dissolve_101 : decode bW_dissolve 101 = .ok (.aload_n 0, 1) := by decide +kernel
theorem dW_dissolve_102 : decode bW_dissolve 102 = .ok (.aload_n 0, 1) := by decide +kernel
theorem dW_dissolve_103 : decode bW_dissolve 103 = .ok (.getfield 15, 3) := by decide +kernel
theorem dW_dissolve_106 : decode bW_dissolve 106 = .ok (.iconst 1, 1) := by decide +kernel
theorem dW_dissolve_107 : decode bW_dissolve 107 = .ok (.iload_n 1, 1) := by decide +kernel
theorem dW_dissolve_108 : decode bW_dissolve 108 = .ok (.ishl, 1) := by decide +kernel
theorem dW_dissolve_109 : decode bW_dissolve 109 = .ok (.ior, 1) := by decide +kernel
theorem dW_dissolve_110 : decode bW_dissolve 110 = .ok (.putfield 15, 3) := by decide +kernel
theorem dW_dissolve_113 : decode bW_dissolve 113 = .ok (.aload_n 0, 1) := by decide +kernel
theorem dW_dissolve_114 : decode bW_dissolve 114 = .ok (.getfield 25, 3) := by decide +kernel
theorem dW_dissolve_117 : decode bW_dissolve 117 = .ok (.iload_n 1, 1) := by decide +kernel
theorem dW_dissolve_118 : decode bW_dissolve 118 = .ok (.bipush (-9), 2) := by decide +kernel
theorem dW_dissolve_120 : decode bW_dissolve 120 = .ok (.iastore, 1) := by decide +kernel
theorem dW_dissolve_121 : decode bW_dissolve 121 = .ok (.return_, 1) := by decide +kernel
theorem dW_doNextAct_0 : decode bW_doNextAct 0 = .ok (.aload_n 0, 1) := by decide +kernel
theorem dW_doNextAct_1 : decode bW_doNextAct 1 = .ok (.iload_n 1, 1) := by decide +kernel
theorem dW_doNextAct_2 : decode bW_doNextAct 2 = .ok (.invokevirtual 93, 3) := by decide +kernel
theorem dW_doNextAct_5 : decode bW_doNextAct 5 = .ok (.istore_n 2, 1) := by decide +kernel
theorem dW_doNextAct_6 : decode bW_doNextAct 6 = .ok (.aload_n 0, 1) := by decide +kernel
theorem dW_doNextAct_7 : decode bW_doNextAct 7 = .ok (.iload_n 1, 1) := by decide +kernel
theorem dW_doNextAct_8 : decode bW_doNextAct 8 = .ok (.invokevirtual 76, 3) := by decide +kernel
theorem dW_doNextAct_11 : decode bW_doNextAct 11 = .ok (.ifCond .eq 9, 3) := by decide +kernel
theorem dW_doNextAct_14 : decode bW_doNextAct 14 = .ok (.iload_n 2, 1) := by decide +kernel
theorem dW_doNextAct_15 : decode bW_doNextAct 15 = .ok (.bipush (-9), 2) := by decide +kernel
theorem dW_doNextAct_17 : decode bW_doNextAct 17 = .ok (.if_icmp .ne 6, 3) := by decide +kernel
theorem dW_doNextAct_20 : decode bW_doNextAct 20 = .ok (.bipush (-9), 2) := by decide +kernel
theorem dW_doNextAct_22 : decode bW_doNextAct 22 = .ok (.ireturn, 1) := by decide +kernel
theorem dW_doNextAct_23 : decode bW_doNextAct 23 = .ok (.aload_n 0, 1) := by decide +kernel
theorem dW_doNextAct_24 : decode bW_doNextAct 24 = .ok (.iload_n 1, 1) := by decide +kernel
theorem dW_doNextAct_25 : decode bW_doNextAct 25 = .ok (.aload_n 0, 1) := by decide +kernel
theorem dW_doNextAct_26 : decode bW_doNextAct 26 = .ok (.getfield 44, 3) := by decide +kernel
theorem dW_doNextAct_29 : decode bW_doNextAct 29 = .ok (.iload_n 1, 1) := by decide +kernel
theorem dW_doNextAct_30 : decode bW_doNextAct 30 = .ok (.iaload, 1) := by decide +kernel
theorem dW_doNextAct_31 : decode bW_doNextAct 31 = .ok (.invokevirtual 96, 3) := by decide +kernel
theorem dW_doNextAct_34 : decode bW_doNextAct 34 = .ok (.bipush 10, 2) := by decide +kernel
theorem dW_doNextAct_36 : decode bW_doNextAct 36 = .ok (.idiv, 1) := by decide +kernel
theorem dW_doNextAct_37 : decode bW_doNextAct 37 = .ok (.istore_n 3, 1) := by decide +kernel
theorem dW_doNextAct_38 : decode bW_doNextAct 38 = .ok (.aload_n 0, 1) := by decide +kernel
theorem dW_doNextAct_39 : decode bW_doNextAct 39 = .ok (.getfield 34, 3) := by decide +kernel
theorem dW_doNextAct_42 : decode bW_doNextAct 42 = .ok (.iload_n 1, 1) := by decide +kernel
theorem dW_doNextAct_43 : decode bW_doNextAct 43 = .ok (.iaload, 1) := by decide +kernel
theorem dW_doNextAct_44 : decode bW_doNextAct 44 = .ok (.istore 4, 2) := by decide +kernel
theorem dW_doNextAct_46 : decode bW_doNextAct 46 = .ok (.iload_n 3, 1) := by decide +kernel
theorem dW_doNextAct_47 : decode bW_doNextAct 47 = .ok (.tableswitch 74 1 4 #[29, 39, 53, 63], 29) := by decide +kernel
theorem dW_doNextAct_76 : decode bW_doNextAct 76 = .ok (.aload_n 0, 1) := by decide +kernel
theorem dW_doNextAct_77 : decode bW_doNextAct 77 = .ok (.iload 4, 2) := by decide +kernel
theorem dW_doNextAct_79 : decode bW_doNextAct 79 = .ok (.iload_n 2, 1) := by decide +kernel
theorem dW_doNextAct_80 : decode bW_doNextAct 80 = .ok (.invokevirtual 115, 3) := by decide +kernel
theorem dW_doNextAct_83 : decode bW_doNextAct 83 = .ok (.goto 53, 3) := by decide +kernel
theorem dW_doNextAct_86 : decode bW_doNextAct 86 = .ok (.aload_n 0, 1) := by decide +kernel
theorem dW_doNextAct_87 : decode bW_doNextAct 87 = .ok (.iload 4, 2) := by decide +kernel
theorem dW_doNextAct_89 : decode bW_doNextAct 89 = .ok (.aload_n 0, 1) := by decide +kernel
theorem dW_doNextAct_90 : decode bW_doNextAct 90 = .ok (.iload_n 2, 1) := by decide +kernel
theorem dW_doNextAct_91 : decode bW_doNextAct 91 = .ok (.invokevirtual 63, 3) := by decide +kernel
theorem dW_doNextAct_94 : decode bW_doNextAct 94 = .ok (.invokevirtual 115, 3) := by decide +kernel
theorem dW_doNextAct_97 : decode bW_doNextAct 97 = .ok (.goto 39, 3) := by decide +kernel
theorem dW_doNextAct_100 : decode bW_doNextAct 100 = .ok (.aload_n 0, 1) := by decide +kernel
theorem dW_doNextAct_101 : decode bW_doNextAct 101 = .ok (.iload_n 2, 1) := by decide +kernel
theorem dW_doNextAct_102 : decode bW_doNextAct 102 = .ok (.iload 4, 2) := by decide +kernel
theorem dW_doNextAct_104 : decode bW_doNextAct 104 = .ok (.invokevirtual 119, 3) := by decide +kernel
theorem dW_doNextAct_107 : decode bW_doNextAct 107 = .ok (.goto 29, 3) := by decide +kernel
theorem dW_doNextAct_110 : decode bW_doNextAct 110 = .ok (.aload_n 0, 1) := by decide +kernel
theorem dW_doNextAct_111 : decode bW_doNextAct 111 = .ok (.iload 4, 2) := by decide +kernel
theorem dW_doNextAct_113 : decode bW_doNextAct 113 = .ok (.iload_n 2, 1) := by decide +kernel
theorem dW_doNextAct_114 : decode bW_doNextAct 114 = .ok (.iconst 1, 1) := by decide +kernel
theorem dW_doNextAct_115 : decode bW_doNextAct 115 = .ok (.invokevirtual 122, 3) := by decide +kernel
theorem dW_doNextAct_118 : decode bW_doNextAct 118 = .ok (.goto 18, 3) := by decide +kernel
theorem dW_doNextAct_121 : decode bW_doNextAct 121 = .ok (.aload_n 0, 1) := by decide +kernel
theorem dW_doNextAct_122 : decode bW_doNextAct 122 = .ok (.iload 4, 2) := by decide +kernel
theorem dW_doNextAct_124 : decode bW_doNextAct 124 = .ok (.iload_n 2, 1) := by decide +kernel
theorem dW_doNextAct_125 : decode bW_doNextAct 125 = .ok (.iconst (-1), 1) := by decide +kernel
theorem dW_doNextAct_126 : decode bW_doNextAct 126 = .ok (.invokevirtual 122, 3) := by decide +kernel
theorem dW_doNextAct_129 : decode bW_doNextAct 129 = .ok (.aload_n 0, 1) := by decide +kernel
theorem dW_doNextAct_130 : decode bW_doNextAct 130 = .ok (.getfield 47, 3) := by decide +kernel
theorem dW_doNextAct_133 : decode bW_doNextAct 133 = .ok (.iload_n 1, 1) := by decide +kernel
theorem dW_doNextAct_134 : decode bW_doNextAct 134 = .ok (.iload_n 2, 1) := by decide +kernel
theorem dW_doNextAct_135 : decode bW_doNextAct 135 = .ok (.iastore, 1) := by decide +kernel
theorem dW_doNextAct_136 : decode bW_doNextAct 136 = .ok (.aload_n 0, 1) := by decide +kernel
theorem dW_doNextAct_137 : decode bW_doNextAct 137 = .ok (.getfield 44, 3) := by decide +kernel
theorem dW_doNextAct_140 : decode bW_doNextAct 140 = .ok (.iload_n 1, 1) := by decide +kernel
theorem dW_doNextAct_141 : decode bW_doNextAct 141 = .ok (.dup2, 1) := by decide +kernel
theorem dW_doNextAct_142 : decode bW_doNextAct 142 = .ok (.iaload, 1) := by decide +kernel
theorem dW_doNextAct_143 : decode bW_doNextAct 143 = .ok (.iconst 1, 1) := by decide +kernel
theorem dW_doNextAct_144 : decode bW_doNextAct 144 = .ok (.iadd, 1) := by decide +kernel
theorem dW_doNextAct_145 : decode bW_doNextAct 145 = .ok (.iastore, 1) := by decide +kernel
theorem dW_doNextAct_146 : decode bW_doNextAct 146 = .ok (.iload_n 3, 1) := by decide +kernel
theorem dW_doNextAct_147 : decode bW_doNextAct 147 = .ok (.ireturn, 1) := by decide +kernel
theorem dW_doRound_0 : decode bW_doRound 0 = .ok (.iconst 0, 1) := by decide +kernel
theorem dW_doRound_1 : decode bW_doRound 1 = .ok (.istore_n 1, 1) := by decide +kernel
theorem dW_doRound_2 : decode bW_doRound 2 = .ok (.iconst 0, 1) := by decide +kernel
theorem dW_doRound_3 : decode bW_doRound 3 = .ok (.istore_n 2, 1) := by decide +kernel
theorem dW_doRound_4 : decode bW_doRound 4 = .ok (.iload_n 2, 1) := by decide +kernel
theorem dW_doRound_5 : decode bW_doRound 5 = .ok (.aload_n 0, 1) := by decide +kernel
theorem dW_doRound_6 : decode bW_doRound 6 = .ok (.getfield 31, 3) := by decide +kernel
theorem dW_doRound_9 : decode bW_doRound 9 = .ok (.if_icmp .ge 22, 3) := by decide +kernel
theorem dW_doRound_12 : decode bW_doRound 12 = .ok (.aload_n 0, 1) := by decide +kernel
theorem dW_doRound_13 : decode bW_doRound 13 = .ok (.iload_n 2, 1) := by decide +kernel
theorem dW_doRound_14 : decode bW_doRound 14 = .ok (.invokevirtual 126, 3) := by decide +kernel
theorem dW_doRound_17 : decode bW_doRound 17 = .ok (.bipush (-9), 2) := by decide +kernel
theorem dW_doRound_19 : decode bW_doRound 19 = .ok (.if_icmp .eq 6, 3) := by decide +kernel
theorem dW_doRound_22 : decode bW_doRound 22 = .ok (.iinc 1 1, 3) := by decide +kernel
theorem dW_doRound_25 : decode bW_doRound 25 = .ok (.iinc 2 1, 3) := by decide +kernel
theorem dW_doRound_28 : decode bW_doRound 28 = .ok (.goto (-24), 3) := by decide +kernel
theorem dW_doRound_31 : decode bW_doRound 31 = .ok (.iload_n 1, 1) := by decide +kernel
theorem dW_doRound_32 : decode bW_doRound 32 = .ok (.ireturn, 1) := by decide +kernel
theorem dW_hasMessageAnywhere_0 : decode bW_hasMessageAnywhere 0 = .ok (.iconst 0, 1) := by decide +kernel
theorem dW_hasMessageAnywhere_1 : decode bW_hasMessageAnywhere 1 = .ok (.istore_n 2, 1) := by decide +kernel
theorem dW_hasMessageAnywhere_2 : decode bW_hasMessageAnywhere 2 = .ok (.iload_n 2, 1) := by decide +kernel
theorem dW_hasMessageAnywhere_3 : decode bW_hasMessageAnywhere 3 = .ok (.aload_n 0, 1) := by decide +kernel
theorem dW_hasMessageAnywhere_4 : decode bW_hasMessageAnywhere 4 = .ok (.getfield 9, 3) := by decide +kernel
theorem dW_hasMessageAnywhere_7 : decode bW_hasMessageAnywhere 7 = .ok (.if_icmp .ge 20, 3) := by decide +kernel
theorem dW_hasMessageAnywhere_10 : decode bW_hasMessageAnywhere 10 = .ok (.aload_n 0, 1) := by decide +kernel
theorem dW_hasMessageAnywhere_11 : decode bW_hasMessageAnywhere 11 = .ok (.iload_n 2, 1) := by decide +kernel
theorem dW_hasMessageAnywhere_12 : decode bW_hasMessageAnywhere 12 = .ok (.iload_n 1, 1) := by decide +kernel
theorem dW_hasMessageAnywhere_13 : decode bW_hasMessageAnywhere 13 = .ok (.invokevirtual 72, 3) := by decide +kernel
theorem dW_hasMessageAnywhere_16 : decode bW_hasMessageAnywhere 16 = .ok (.ifCond .le 5, 3) := by decide +kernel
theorem dW_hasMessageAnywhere_19 : decode bW_hasMessageAnywhere 19 = .ok (.iconst 1, 1) := by decide +kernel
theorem dW_hasMessageAnywhere_20 : decode bW_hasMessageAnywhere 20 = .ok (.ireturn, 1) := by decide +kernel
theorem dW_hasMessageAnywhere_21 : decode bW_hasMessageAnywhere 21 = .ok (.iinc 2 1, 3) := by decide +kernel
theorem dW_hasMessageAnywhere_24 : decode bW_hasMessageAnywhere 24 = .ok (.goto (-22), 3) := by decide +kernel
theorem dW_hasMessageAnywhere_27 : decode bW_hasMessageAnywhere 27 = .ok (.iconst 0, 1) := by decide +kernel
theorem dW_hasMessageAnywhere_28 : decode bW_hasMessageAnywhere 28 = .ok (.ireturn, 1) := by decide +kernel
theorem dW_namesFromThread_0 : decode bW_namesFromThread 0 = .ok (.aload_n 0, 1) := by decide +kernel
theorem dW_namesFromThread_1 : decode bW_namesFromThread 1 = .ok (.iload_n 1, 1) := by decide +kernel
theorem dW_namesFromThread_2 : decode bW_namesFromThread 2 = .ok (.invokevirtual 135, 3) := by decide +kernel
theorem dW_namesFromThread_5 : decode bW_namesFromThread 5 = .ok (.invokestatic 60, 3) := by decide +kernel
theorem dW_namesFromThread_8 : decode bW_namesFromThread 8 = .ok (.ifCond .eq 13, 3) := by decide +kernel
theorem dW_namesFromThread_11 : decode bW_namesFromThread 11 = .ok (.iconst 1, 1) := by decide +kernel
theorem dW_namesFromThread_12 : decode bW_namesFromThread 12 = .ok (.aload_n 0, 1) := by decide +kernel
theorem dW_namesFromThread_13 : decode bW_namesFromThread 13 = .ok (.iload_n 1, 1) := by decide +kernel
theorem dW_namesFromThread_14 : decode bW_namesFromThread 14 = .ok (.invokevirtual 135, 3) := by decide +kernel
theorem dW_namesFromThread_17 : decode bW_namesFromThread 17 = .ok (.ishl, 1) := by decide +kernel
theorem dW_namesFromThread_18 : decode bW_namesFromThread 18 = .ok (.goto 4, 3) := by decide +kernel
theorem dW_namesFromThread_21 : decode bW_namesFromThread 21 = .ok (.iconst 0, 1) := by decide +kernel
theorem dW_namesFromThread_22 : decode bW_namesFromThread 22 = .ok (.istore_n 2, 1) := by decide +kernel
theorem dW_namesFromThread_23 : decode bW_namesFromThread 23 = .ok (.aload_n 0, 1) := by decide +kernel
theorem dW_namesFromThread_24 : decode bW_namesFromThread 24 = .ok (.iload_n 1, 1) := by decide +kernel
theorem dW_namesFromThread_25 : decode bW_namesFromThread 25 = .ok (.invokevirtual 79, 3) := by decide +kernel
theorem dW_namesFromThread_28 : decode bW_namesFromThread 28 = .ok (.istore_n 3, 1) := by decide +kernel
theorem dW_namesFromThread_29 : decode bW_namesFromThread 29 = .ok (.iload_n 3, 1) := by decide +kernel
theorem dW_namesFromThread_30 : decode bW_namesFromThread 30 = .ok (.aload_n 0, 1) := by decide +kernel
theorem dW_namesFromThread_31 : decode bW_namesFromThread 31 = .ok (.iload_n 1, 1) := by decide +kernel
theorem dW_namesFromThread_32 : decode bW_namesFromThread 32 = .ok (.invokevirtual 82, 3) := by decide +kernel
theorem dW_namesFromThread_35 : decode bW_namesFromThread 35 = .ok (.if_icmp .ge 47, 3) := by decide +kernel
theorem dW_namesFromThread_38 : decode bW_namesFromThread 38 = .ok (.aload_n 0, 1) := by decide +kernel
theorem dW_namesFromThread_39 : decode bW_namesFromThread 39 = .ok (.iload_n 1, 1) := by decide +kernel
theorem dW_namesFromThread_40 : decode bW_namesFromThread 40 = .ok (.iload_n 3, 1) := by decide +kernel
theorem dW_namesFromThread_41 : decode bW_namesFromThread 41 = .ok (.invokevirtual 96, 3) := by decide +kernel
theorem dW_namesFromThread_44 : decode bW_namesFromThread 44 = .ok (.istore 4, 2) := by decide +kernel
theorem dW_namesFromThread_46 : decode bW_namesFromThread 46 = .ok (.iload 4, 2) := by decide +kernel
theorem dW_namesFromThread_48 : decode bW_namesFromThread 48 = .ok (.bipush 10, 2) := by decide +kernel
theorem dW_namesFromThread_50 : decode bW_namesFromThread 50 = .ok (.idiv, 1) := by decide +kernel
theorem dW_namesFromThread_51 : decode bW_namesFromThread 51 = .ok (.iconst 4, 1) := by decide +kernel
theorem dW_namesFromThread_52 : decode bW_namesFromThread 52 = .ok (.if_icmp .ne 24, 3) := by decide +kernel
theorem dW_namesFromThread_55 : decode bW_namesFromThread 55 = .ok (.iload 4, 2) := by decide +kernel
theorem dW_namesFromThread_57 : decode bW_namesFromThread 57 = .ok (.bipush 10, 2) := by decide +kernel
theorem dW_namesFromThread_59 : decode bW_namesFromThread 59 = .ok (.irem, 1) := by decide +kernel
theorem dW_namesFromThread_60 : decode bW_namesFromThread 60 = .ok (.invokestatic 60, 3) := by decide +kernel
theorem dW_namesFromThread_63 : decode bW_namesFromThread 63 = .ok (.ifCond .eq 13, 3) := by decide +kernel
theorem dW_namesFromThread_66 : decode bW_namesFromThread 66 = .ok (.iload_n 2, 1) := by decide +kernel
theorem dW_namesFromThread_67 : decode bW_namesFromThread 67 = .ok (.iconst 1, 1) := by decide +kernel
theorem dW_namesFromThread_68 : decode bW_namesFromThread 68 = .ok (.iload 4, 2) := by decide +kernel
theorem dW_namesFromThread_70 : decode bW_namesFromThread 70 = .ok (.bipush 10, 2) := by decide +kernel
theorem dW_namesFromThread_72 : decode bW_namesFromThread 72 = .ok (.irem, 1) := by decide +kernel
theorem dW_namesFromThread_73 : decode bW_namesFromThread 73 = .ok (.ishl, 1) := by decide +kernel
theorem dW_namesFromThread_74 : decode bW_namesFromThread 74 = .ok (.ior, 1) := by decide +kernel
theorem dW_namesFromThread_75 : decode bW_namesFromThread 75 = .ok (.istore_n 2, 1) := by decide +kernel
theorem dW_namesFromThread_76 : decode bW_namesFromThread 76 = .ok (.iinc 3 1, 3) := by decide +kernel
theorem dW_namesFromThread_79 : decode bW_namesFromThread 79 = .ok (.goto (-50), 3) := by decide +kernel
theorem dW_namesFromThread_82 : decode bW_namesFromThread 82 = .ok (.iload_n 2, 1) := by decide +kernel
theorem dW_namesFromThread_83 : decode bW_namesFromThread 83 = .ok (.ireturn, 1) := by decide +kernel
theorem dW_namesThatMayBeSaid_0 : decode bW_namesThatMayBeSaid 0 = .ok (.iconst 0, 1) := by decide +kernel
theorem dW_namesThatMayBeSaid_1 : decode bW_namesThatMayBeSaid 1 = .ok (.istore_n 1, 1) := by decide +kernel
theorem dW_namesThatMayBeSaid_2 : decode bW_namesThatMayBeSaid 2 = .ok (.iconst 0, 1) := by decide +kernel
theorem dW_namesThatMayBeSaid_3 : decode bW_namesThatMayBeSaid 3 = .ok (.istore_n 2, 1) := by decide +kernel
theorem dW_namesThatMayBeSaid_4 : decode bW_namesThatMayBeSaid 4 = .ok (.iload_n 2, 1) := by decide +kernel
theorem dW_namesThatMayBeSaid_5 : decode bW_namesThatMayBeSaid 5 = .ok (.bipush 6, 2) := by decide +kernel
theorem dW_namesThatMayBeSaid_7 : decode bW_namesThatMayBeSaid 7 = .ok (.if_icmp .ge 23, 3) := by decide +kernel
theorem dW_namesThatMayBeSaid_10 : decode bW_namesThatMayBeSaid 10 = .ok (.aload_n 0, 1) := by decide +kernel
theorem dW_namesThatMayBeSaid_11 : decode bW_namesThatMayBeSaid 11 = .ok (.iload_n 2, 1) := by decide +kernel
theorem dW_namesThatMayBeSaid_12 : decode bW_namesThatMayBeSaid 12 = .ok (.invokevirtual 129, 3) := by decide +kernel
theorem dW_namesThatMayBeSaid_15 : decode bW_namesThatMayBeSaid 15 = .ok (.ifCond .eq 9, 3) := by decide +kernel
theorem dW_namesThatMayBeSaid_18 : decode bW_namesThatMayBeSaid 18 = .ok (.iload_n 1, 1) := by decide +kernel
theorem dW_namesThatMayBeSaid_19 : decode bW_namesThatMayBeSaid 19 = .ok (.iconst 1, 1) := by decide +kernel
theorem dW_namesThatMayBeSaid_20 : decode bW_namesThatMayBeSaid 20 = .ok (.iload_n 2, 1) := by decide +kernel
theorem dW_namesThatMayBeSaid_21 : decode bW_namesThatMayBeSaid 21 = .ok (.ishl, 1) := by decide +kernel
theorem dW_namesThatMayBeSaid_22 : decode bW_namesThatMayBeSaid 22 = .ok (.ior, 1) := by decide +kernel
theorem dW_namesThatMayBeSaid_23 : decode bW_namesThatMayBeSaid 23 = .ok (.istore_n 1, 1) := by decide +kernel
theorem dW_namesThatMayBeSaid_24 : decode bW_namesThatMayBeSaid 24 = .ok (.iinc 2 1, 3) := by decide +kernel
theorem dW_namesThatMayBeSaid_27 : decode bW_namesThatMayBeSaid 27 = .ok (.goto (-23), 3) := by decide +kernel
theorem dW_namesThatMayBeSaid_30 : decode bW_namesThatMayBeSaid 30 = .ok (.iconst 0, 1) := by decide +kernel
theorem dW_namesThatMayBeSaid_31 : decode bW_namesThatMayBeSaid 31 = .ok (.istore_n 2, 1) := by decide +kernel
theorem dW_namesThatMayBeSaid_32 : decode bW_namesThatMayBeSaid 32 = .ok (.iload_n 2, 1) := by decide +kernel
theorem dW_namesThatMayBeSaid_33 : decode bW_namesThatMayBeSaid 33 = .ok (.aload_n 0, 1) := by decide +kernel
theorem dW_namesThatMayBeSaid_34 : decode bW_namesThatMayBeSaid 34 = .ok (.getfield 31, 3) := by decide +kernel
theorem dW_namesThatMayBeSaid_37 : decode bW_namesThatMayBeSaid 37 = .ok (.if_icmp .ge 17, 3) := by decide +kernel
theorem dW_namesThatMayBeSaid_40 : decode bW_namesThatMayBeSaid 40 = .ok (.iload_n 1, 1) := by decide +kernel
theorem dW_namesThatMayBeSaid_41 : decode bW_namesThatMayBeSaid 41 = .ok (.aload_n 0, 1) := by decide +kernel
theorem dW_namesThatMayBeSaid_42 : decode bW_namesThatMayBeSaid 42 = .ok (.iload_n 2, 1) := by decide +kernel
theorem dW_namesThatMayBeSaid_43 : decode bW_namesThatMayBeSaid 43 = .ok (.invokevirtual 132, 3) := by decide +kernel
theorem dW_namesThatMayBeSaid_46 : decode bW_namesThatMayBeSaid 46 = .ok (.ior, 1) := by decide +kernel
theorem dW_namesThatMayBeSaid_47 : decode bW_namesThatMayBeSaid 47 = .ok (.istore_n 1, 1) := by decide +kernel
theorem dW_namesThatMayBeSaid_48 : decode bW_namesThatMayBeSaid 48 = .ok (.iinc 2 1, 3) := by decide +kernel
theorem dW_namesThatMayBeSaid_51 : decode bW_namesThatMayBeSaid 51 = .ok (.goto (-19), 3) := by decide +kernel
theorem dW_namesThatMayBeSaid_54 : decode bW_namesThatMayBeSaid 54 = .ok (.iload_n 1, 1) := by decide +kernel
theorem dW_namesThatMayBeSaid_55 : decode bW_namesThatMayBeSaid 55 = .ok (.ireturn, 1) := by decide +kernel
theorem dW_bringsMotion_0 : decode bW_bringsMotion 0 = .ok (.aload_n 0, 1) := by decide +kernel
theorem dW_bringsMotion_1 : decode bW_bringsMotion 1 = .ok (.iload_n 1, 1) := by decide +kernel
theorem dW_bringsMotion_2 : decode bW_bringsMotion 2 = .ok (.invokevirtual 79, 3) := by decide +kernel
theorem dW_bringsMotion_5 : decode bW_bringsMotion 5 = .ok (.istore 4, 2) := by decide +kernel
theorem dW_bringsMotion_7 : decode bW_bringsMotion 7 = .ok (.iload 4, 2) := by decide +kernel
theorem dW_bringsMotion_9 : decode bW_bringsMotion 9 = .ok (.aload_n 0, 1) := by decide +kernel
theorem dW_bringsMotion_10 : decode bW_bringsMotion 10 = .ok (.iload_n 1, 1) := by decide +kernel
theorem dW_bringsMotion_11 : decode bW_bringsMotion 11 = .ok (.invokevirtual 82, 3) := by decide +kernel
theorem dW_bringsMotion_14 : decode bW_bringsMotion 14 = .ok (.if_icmp .ge 77, 3) := by decide +kernel
theorem dW_bringsMotion_17 : decode bW_bringsMotion 17 = .ok (.aload_n 0, 1) := by decide +kernel
theorem dW_bringsMotion_18 : decode bW_bringsMotion 18 = .ok (.iload_n 1, 1) := by decide +kernel
theorem dW_bringsMotion_19 : decode bW_bringsMotion 19 = .ok (.iload 4, 2) := by decide +kernel
theorem dW_bringsMotion_21 : decode bW_bringsMotion 21 = .ok (.invokevirtual 96, 3) := by decide +kernel
theorem dW_bringsMotion_24 : decode bW_bringsMotion 24 = .ok (.istore 5, 2) := by decide +kernel
theorem dW_bringsMotion_26 : decode bW_bringsMotion 26 = .ok (.iload 5, 2) := by decide +kernel
theorem dW_bringsMotion_28 : decode bW_bringsMotion 28 = .ok (.bipush 10, 2) := by decide +kernel
theorem dW_bringsMotion_30 : decode bW_bringsMotion 30 = .ok (.idiv, 1) := by decide +kernel
theorem dW_bringsMotion_31 : decode bW_bringsMotion 31 = .ok (.istore 6, 2) := by decide +kernel
theorem dW_bringsMotion_33 : decode bW_bringsMotion 33 = .ok (.iload 6, 2) := by decide +kernel
theorem dW_bringsMotion_35 : decode bW_bringsMotion 35 = .ok (.iconst 1, 1) := by decide +kernel
theorem dW_bringsMotion_36 : decode bW_bringsMotion 36 = .ok (.if_icmp .eq 9, 3) := by decide +kernel
theorem dW_bringsMotion_39 : decode bW_bringsMotion 39 = .ok (.iload 6, 2) := by decide +kernel
theorem dW_bringsMotion_41 : decode bW_bringsMotion 41 = .ok (.iconst 2, 1) := by decide +kernel
theorem dW_bringsMotion_42 : decode bW_bringsMotion 42 = .ok (.if_icmp .ne 5, 3) := by decide +kernel
theorem dW_bringsMotion_45 : decode bW_bringsMotion 45 = .ok (.iconst 1, 1) := by decide +kernel
theorem dW_bringsMotion_46 : decode bW_bringsMotion 46 = .ok (.ireturn, 1) := by decide +kernel
theorem dW_bringsMotion_47 : decode bW_bringsMotion 47 = .ok (.iload 5, 2) := by decide +kernel
theorem dW_bringsMotion_49 : decode bW_bringsMotion 49 = .ok (.bipush 10, 2) := by decide +kernel
theorem dW_bringsMotion_51 : decode bW_bringsMotion 51 = .ok (.irem, 1) := by decide +kernel
theorem dW_bringsMotion_52 : decode bW_bringsMotion 52 = .ok (.bipush 9, 2) := by decide +kernel
theorem dW_bringsMotion_54 : decode bW_bringsMotion 54 = .ok (.if_icmp .ne 7, 3) := by decide +kernel
theorem dW_bringsMotion_57 : decode bW_bringsMotion 57 = .ok (.iload_n 3, 1) := by decide +kernel
theorem dW_bringsMotion_58 : decode bW_bringsMotion 58 = .ok (.goto 10, 3) := by decide +kernel
theorem dW_bringsMotion_61 : decode bW_bringsMotion 61 = .ok (.iconst 1, 1) := by decide +kernel
theorem dW_bringsMotion_62 : decode bW_bringsMotion 62 = .ok (.iload 5, 2) := by decide +kernel
theorem dW_bringsMotion_64 : decode bW_bringsMotion 64 = .ok (.bipush 10, 2) := by decide +kernel
theorem dW_bringsMotion_66 : decode bW_bringsMotion 66 = .ok (.irem, 1) := by decide +kernel
theorem dW_bringsMotion_67 : decode bW_bringsMotion 67 = .ok (.ishl, 1) := by decide +kernel
theorem dW_bringsMotion_68 : decode bW_bringsMotion 68 = .ok (.istore 7, 2) := by decide +kernel
theorem dW_bringsMotion_70 : decode bW_bringsMotion 70 = .ok (.iload 6, 2) := by decide +kernel
theorem dW_bringsMotion_72 : decode bW_bringsMotion 72 = .ok (.iconst 3, 1) := by decide +kernel
theorem dW_bringsMotion_73 : decode bW_bringsMotion 73 = .ok (.if_icmp .ne 12, 3) := by decide +kernel
theorem dW_bringsMotion_76 : decode bW_bringsMotion 76 = .ok (.iload 7, 2) := by decide +kernel
theorem dW_bringsMotion_78 : decode bW_bringsMotion 78 = .ok (.iload_n 2, 1) := by decide +kernel
theorem dW_bringsMotion_79 : decode bW_bringsMotion 79 = .ok (.iand, 1) := by decide +kernel
theorem dW_bringsMotion_80 : decode bW_bringsMotion 80 = .ok (.ifCond .eq 5, 3) := by decide +kernel
theorem dW_bringsMotion_83 : decode bW_bringsMotion 83 = .ok (.iconst 1, 1) := by decide +kernel
theorem dW_bringsMotion_84 : decode bW_bringsMotion 84 = .ok (.ireturn, 1) := by decide +kernel
theorem dW_bringsMotion_85 : decode bW_bringsMotion 85 = .ok (.iinc 4 1, 3) := by decide +kernel
theorem dW_bringsMotion_88 : decode bW_bringsMotion 88 = .ok (.goto (-81), 3) := by decide +kernel
theorem dW_bringsMotion_91 : decode bW_bringsMotion 91 = .ok (.iconst 0, 1) := by decide +kernel
theorem dW_bringsMotion_92 : decode bW_bringsMotion 92 = .ok (.ireturn, 1) := by decide +kernel
theorem dW_namesMovedFrom_0 : decode bW_namesMovedFrom 0 = .ok (.iconst 0, 1) := by decide +kernel
theorem dW_namesMovedFrom_1 : decode bW_namesMovedFrom 1 = .ok (.istore_n 3, 1) := by decide +kernel
theorem dW_namesMovedFrom_2 : decode bW_namesMovedFrom 2 = .ok (.iconst 0, 1) := by decide +kernel
theorem dW_namesMovedFrom_3 : decode bW_namesMovedFrom 3 = .ok (.istore 4, 2) := by decide +kernel
theorem dW_namesMovedFrom_5 : decode bW_namesMovedFrom 5 = .ok (.iload 4, 2) := by decide +kernel
theorem dW_namesMovedFrom_7 : decode bW_namesMovedFrom 7 = .ok (.aload_n 0, 1) := by decide +kernel
theorem dW_namesMovedFrom_8 : decode bW_namesMovedFrom 8 = .ok (.getfield 31, 3) := by decide +kernel
theorem dW_namesMovedFrom_11 : decode bW_namesMovedFrom 11 = .ok (.if_icmp .ge 48, 3) := by decide +kernel
theorem dW_namesMovedFrom_14 : decode bW_namesMovedFrom 14 = .ok (.aload_n 0, 1) := by decide +kernel
theorem dW_namesMovedFrom_15 : decode bW_namesMovedFrom 15 = .ok (.aload_n 0, 1) := by decide +kernel
theorem dW_namesMovedFrom_16 : decode bW_namesMovedFrom 16 = .ok (.getfield 34, 3) := by decide +kernel
theorem dW_namesMovedFrom_19 : decode bW_namesMovedFrom 19 = .ok (.iload 4, 2) := by decide +kernel
theorem dW_namesMovedFrom_21 : decode bW_namesMovedFrom 21 = .ok (.iaload, 1) := by decide +kernel
theorem dW_namesMovedFrom_22 : decode bW_namesMovedFrom 22 = .ok (.invokevirtual 109, 3) := by decide +kernel
theorem dW_namesMovedFrom_25 : decode bW_namesMovedFrom 25 = .ok (.istore 5, 2) := by decide +kernel
theorem dW_namesMovedFrom_27 : decode bW_namesMovedFrom 27 = .ok (.iload 5, 2) := by decide +kernel
theorem dW_namesMovedFrom_29 : decode bW_namesMovedFrom 29 = .ok (.invokestatic 60, 3) := by decide +kernel
theorem dW_namesMovedFrom_32 : decode bW_namesMovedFrom 32 = .ok (.ifCond .eq 21, 3) := by decide +kernel
theorem dW_namesMovedFrom_35 : decode bW_namesMovedFrom 35 = .ok (.aload_n 0, 1) := by decide +kernel
theorem dW_namesMovedFrom_36 : decode bW_namesMovedFrom 36 = .ok (.iload 4, 2) := by decide +kernel
theorem dW_namesMovedFrom_38 : decode bW_namesMovedFrom 38 = .ok (.iload_n 1, 1) := by decide +kernel
theorem dW_namesMovedFrom_39 : decode bW_namesMovedFrom 39 = .ok (.iload_n 2, 1) := by decide +kernel
theorem dW_namesMovedFrom_40 : decode bW_namesMovedFrom 40 = .ok (.invokevirtual 145, 3) := by decide +kernel
theorem dW_namesMovedFrom_43 : decode bW_namesMovedFrom 43 = .ok (.ifCond .eq 10, 3) := by decide +kernel
theorem dW_namesMovedFrom_46 : decode bW_namesMovedFrom 46 = .ok (.iload_n 3, 1) := by decide +kernel
theorem dW_namesMovedFrom_47 : decode bW_namesMovedFrom 47 = .ok (.iconst 1, 1) := by decide +kernel
theorem dW_namesMovedFrom_48 : decode bW_namesMovedFrom 48 = .ok (.iload 5, 2) := by decide +kernel
theorem dW_namesMovedFrom_50 : decode bW_namesMovedFrom 50 = .ok (.ishl, 1) := by decide +kernel
theorem dW_namesMovedFrom_51 : decode bW_namesMovedFrom 51 = .ok (.ior, 1) := by decide +kernel
theorem dW_namesMovedFrom_52 : decode bW_namesMovedFrom 52 = .ok (.istore_n 3, 1) := by decide +kernel
theorem dW_namesMovedFrom_53 : decode bW_namesMovedFrom 53 = .ok (.iinc 4 1, 3) := by decide +kernel
theorem dW_namesMovedFrom_56 : decode bW_namesMovedFrom 56 = .ok (.goto (-51), 3) := by decide +kernel
theorem dW_namesMovedFrom_59 : decode bW_namesMovedFrom 59 = .ok (.iload_n 3, 1) := by decide +kernel
theorem dW_namesMovedFrom_60 : decode bW_namesMovedFrom 60 = .ok (.ireturn, 1) := by decide +kernel
theorem dW_namesThatMove_0 : decode bW_namesThatMove 0 = .ok (.aload_n 0, 1) := by decide +kernel
theorem dW_namesThatMove_1 : decode bW_namesThatMove 1 = .ok (.invokevirtual 138, 3) := by decide +kernel
theorem dW_namesThatMove_4 : decode bW_namesThatMove 4 = .ok (.istore_n 1, 1) := by decide +kernel
theorem dW_namesThatMove_5 : decode bW_namesThatMove 5 = .ok (.iconst 0, 1) := by decide +kernel
theorem dW_namesThatMove_6 : decode bW_namesThatMove 6 = .ok (.istore_n 2, 1) := by decide +kernel
theorem dW_namesThatMove_7 : decode bW_namesThatMove 7 = .ok (.iconst 0, 1) := by decide +kernel
theorem dW_namesThatMove_8 : decode bW_namesThatMove 8 = .ok (.istore_n 3, 1) := by decide +kernel
theorem dW_namesThatMove_9 : decode bW_namesThatMove 9 = .ok (.iload_n 3, 1) := by decide +kernel
theorem dW_namesThatMove_10 : decode bW_namesThatMove 10 = .ok (.bipush 6, 2) := by decide +kernel
theorem dW_namesThatMove_12 : decode bW_namesThatMove 12 = .ok (.if_icmp .ge 18, 3) := by decide +kernel
theorem dW_namesThatMove_15 : decode bW_namesThatMove 15 = .ok (.iload_n 2, 1) := by decide +kernel
theorem dW_namesThatMove_16 : decode bW_namesThatMove 16 = .ok (.aload_n 0, 1) := by decide +kernel
theorem dW_namesThatMove_17 : decode bW_namesThatMove 17 = .ok (.iload_n 2, 1) := by decide +kernel
theorem dW_namesThatMove_18 : decode bW_namesThatMove 18 = .ok (.iload_n 1, 1) := by decide +kernel
theorem dW_namesThatMove_19 : decode bW_namesThatMove 19 = .ok (.invokevirtual 142, 3) := by decide +kernel
theorem dW_namesThatMove_22 : decode bW_namesThatMove 22 = .ok (.ior, 1) := by decide +kernel
theorem dW_namesThatMove_23 : decode bW_namesThatMove 23 = .ok (.istore_n 2, 1) := by decide +kernel
theorem dW_namesThatMove_24 : decode bW_namesThatMove 24 = .ok (.iinc 3 1, 3) := by decide +kernel
theorem dW_namesThatMove_27 : decode bW_namesThatMove 27 = .ok (.goto (-18), 3) := by decide +kernel
theorem dW_namesThatMove_30 : decode bW_namesThatMove 30 = .ok (.iload_n 2, 1) := by decide +kernel
theorem dW_namesThatMove_31 : decode bW_namesThatMove 31 = .ok (.ireturn, 1) := by decide +kernel
theorem wq_284 : Cond.methodLink rW 122 yW_addMessages ∈ wT := wT_in 284 rfl rfl
theorem wq_165 : Cond.instanceMethod yW_addMessages ∈ wT := wT_in 165 rfl rfl
theorem wq_166 : Cond.selects rW yW_addMessages yW_addMessages ∈ wT := wT_in 166 rfl rfl
theorem wq_167 : Cond.code yW_addMessages bW_addMessages 4 none ∈ wT := wT_in 167 rfl rfl
theorem kV_W_122 : mp_V rW 122 yW_addMessages bW_addMessages 4 none 3 := ⟨wq_284, wq_165, wq_166, wq_38, wq_167, ⟨by decide, by decide, by decide +kernel⟩⟩
theorem wq_276 : Cond.methodLink rW 115 yW_putInto ∈ wT := wT_in 276 rfl rfl
theorem wq_278 : Cond.instanceMethod yW_putInto ∈ wT := wT_in 278 rfl rfl
theorem wq_3 : Cond.selects rW yW_putInto yW_putInto ∈ wT := wT_in 3 rfl rfl
theorem wq_279 : Cond.code yW_putInto bW_putInto 3 none ∈ wT := wT_in 279 rfl rfl
theorem kV_W_115 : mp_V rW 115 yW_putInto bW_putInto 3 none 2 := ⟨wq_276, wq_278, wq_3, wq_38, wq_279, ⟨by decide, by decide, by decide +kernel⟩⟩
theorem wq_280 : Cond.methodLink rW 119 yW_dissolve ∈ wT := wT_in 280 rfl rfl
theorem wq_282 : Cond.instanceMethod yW_dissolve ∈ wT := wT_in 282 rfl rfl
theorem wq_4 : Cond.selects rW yW_dissolve yW_dissolve ∈ wT := wT_in 4 rfl rfl
theorem wq_283 : Cond.code yW_dissolve bW_dissolve 4 none ∈ wT := wT_in 283 rfl rfl
theorem kV_W_119 : mp_V rW 119 yW_dissolve bW_dissolve 4 none 2 := ⟨wq_280, wq_282, wq_4, wq_38, wq_283, ⟨by decide, by decide, by decide +kernel⟩⟩
theorem wq_293 : Cond.methodLink rW 126 yW_doNextAct ∈ wT := wT_in 293 rfl rfl
theorem wq_273 : Cond.instanceMethod yW_doNextAct ∈ wT := wT_in 273 rfl rfl
theorem wq_274 : Cond.selects rW yW_doNextAct yW_doNextAct ∈ wT := wT_in 274 rfl rfl
theorem wq_275 : Cond.code yW_doNextAct bW_doNextAct 5 (some .int) ∈ wT := wT_in 275 rfl rfl
theorem kV_W_126 : mp_V rW 126 yW_doNextAct bW_doNextAct 5 (some .int) 1 := ⟨wq_293, wq_273, wq_274, wq_38, wq_275, ⟨by decide, by decide, by decide +kernel⟩⟩
theorem wq_348 : Cond.methodLink rW 135 yW_heardBy ∈ wT := wT_in 348 rfl rfl
theorem wq_215 : Cond.instanceMethod yW_heardBy ∈ wT := wT_in 215 rfl rfl
theorem wq_216 : Cond.selects rW yW_heardBy yW_heardBy ∈ wT := wT_in 216 rfl rfl
theorem wq_217 : Cond.code yW_heardBy bW_heardBy 2 (some .int) ∈ wT := wT_in 217 rfl rfl
theorem kV_W_135 : mp_V rW 135 yW_heardBy bW_heardBy 2 (some .int) 1 := ⟨wq_348, wq_215, wq_216, wq_38, wq_217, ⟨by decide, by decide, by decide +kernel⟩⟩
theorem wq_344 : Cond.methodLink rW 132 yW_namesFromThread ∈ wT := wT_in 344 rfl rfl
theorem wq_346 : Cond.instanceMethod yW_namesFromThread ∈ wT := wT_in 346 rfl rfl
theorem wq_9 : Cond.selects rW yW_namesFromThread yW_namesFromThread ∈ wT := wT_in 9 rfl rfl
theorem wq_347 : Cond.code yW_namesFromThread bW_namesFromThread 5 (some .int) ∈ wT := wT_in 347 rfl rfl
theorem kV_W_132 : mp_V rW 132 yW_namesFromThread bW_namesFromThread 5 (some .int) 1 := ⟨wq_344, wq_346, wq_9, wq_38, wq_347, ⟨by decide, by decide, by decide +kernel⟩⟩
theorem wq_340 : Cond.methodLink rW 129 yW_hasMessageAnywhere ∈ wT := wT_in 340 rfl rfl
theorem wq_342 : Cond.instanceMethod yW_hasMessageAnywhere ∈ wT := wT_in 342 rfl rfl
theorem wq_8 : Cond.selects rW yW_hasMessageAnywhere yW_hasMessageAnywhere ∈ wT := wT_in 8 rfl rfl
theorem wq_343 : Cond.code yW_hasMessageAnywhere bW_hasMessageAnywhere 3 (some .boolean) ∈ wT := wT_in 343 rfl rfl
theorem kV_W_129 : mp_V rW 129 yW_hasMessageAnywhere bW_hasMessageAnywhere 3 (some .boolean) 1 := ⟨wq_340, wq_342, wq_8, wq_38, wq_343, ⟨by decide, by decide, by decide +kernel⟩⟩
theorem wq_362 : Cond.methodLink rW 145 yW_bringsMotion ∈ wT := wT_in 362 rfl rfl
theorem wq_364 : Cond.instanceMethod yW_bringsMotion ∈ wT := wT_in 364 rfl rfl
theorem wq_11 : Cond.selects rW yW_bringsMotion yW_bringsMotion ∈ wT := wT_in 11 rfl rfl
theorem wq_365 : Cond.code yW_bringsMotion bW_bringsMotion 8 (some .boolean) ∈ wT := wT_in 365 rfl rfl
theorem kV_W_145 : mp_V rW 145 yW_bringsMotion bW_bringsMotion 8 (some .boolean) 3 := ⟨wq_362, wq_364, wq_11, wq_38, wq_365, ⟨by decide, by decide, by decide +kernel⟩⟩
theorem wq_357 : Cond.methodLink rW 138 yW_namesThatMayBeSaid ∈ wT := wT_in 357 rfl rfl
theorem wq_337 : Cond.instanceMethod yW_namesThatMayBeSaid ∈ wT := wT_in 337 rfl rfl
theorem wq_338 : Cond.selects rW yW_namesThatMayBeSaid yW_namesThatMayBeSaid ∈ wT := wT_in 338 rfl rfl
theorem wq_339 : Cond.code yW_namesThatMayBeSaid bW_namesThatMayBeSaid 3 (some .int) ∈ wT := wT_in 339 rfl rfl
theorem kV_W_138 : mp_V rW 138 yW_namesThatMayBeSaid bW_namesThatMayBeSaid 3 (some .int) 0 := ⟨wq_357, wq_337, wq_338, wq_38, wq_339, ⟨by decide, by decide, by decide +kernel⟩⟩
theorem wq_358 : Cond.methodLink rW 142 yW_namesMovedFrom ∈ wT := wT_in 358 rfl rfl
theorem wq_360 : Cond.instanceMethod yW_namesMovedFrom ∈ wT := wT_in 360 rfl rfl
theorem wq_10 : Cond.selects rW yW_namesMovedFrom yW_namesMovedFrom ∈ wT := wT_in 10 rfl rfl
theorem wq_361 : Cond.code yW_namesMovedFrom bW_namesMovedFrom 6 (some .int) ∈ wT := wT_in 361 rfl rfl
theorem kV_W_142 : mp_V rW 142 yW_namesMovedFrom bW_namesMovedFrom 6 (some .int) 2 := ⟨wq_358, wq_360, wq_10, wq_38, wq_361, ⟨by decide, by decide, by decide +kernel⟩⟩
-- MovingPlaces$World.dissolve
abbrev rmW_dissolve : Room := { frames := 2, cells := 0, slots := 0, locals := 44 }
def fW_dissolve_70 (a1 : Int32) (a2 : Int32) : Nat → SW → Int32 → Option SW
  | 0, _, _ => none
  | n + 1, w, a3 => (if w.2.2.2.2.2.2.1 ≤ a3 then mp_st 12 a1 (some (w.1, (w.2.1 ||| (1 <<< (a1 &&& 31))), w.2.2.1, w.2.2.2.1, (upd w.2.2.2.2.1 (Int32.toNatClampNeg a1) (-9)), w.2.2.2.2.2.1, w.2.2.2.2.2.2.1, w.2.2.2.2.2.2.2.1, w.2.2.2.2.2.2.2.2.1, w.2.2.2.2.2.2.2.2.2.1, w.2.2.2.2.2.2.2.2.2.2.1, w.2.2.2.2.2.2.2.2.2.2.2)) else mp_ld w.2.2.2.2.2.2.2.1 12 a3 fun x2 => (if x2 = a1 then mp_st 12 a3 (fW_dissolve_70 a1 a2 n (w.1, w.2.1, w.2.2.1, w.2.2.2.1, w.2.2.2.2.1, w.2.2.2.2.2.1, w.2.2.2.2.2.2.1, (upd w.2.2.2.2.2.2.2.1 (Int32.toNatClampNeg a3) a2), w.2.2.2.2.2.2.2.2.1, w.2.2.2.2.2.2.2.2.2.1, w.2.2.2.2.2.2.2.2.2.2.1, w.2.2.2.2.2.2.2.2.2.2.2) (a3 + 1)) else fW_dissolve_70 a1 a2 n w (a3 + 1)))
theorem fW_dissolve_70_s (a1 : Int32) (a2 : Int32) (n : Nat) (w : SW) (a3 : Int32) : fW_dissolve_70 a1 a2 (n + 1) w a3 = (if w.2.2.2.2.2.2.1 ≤ a3 then mp_st 12 a1 (some (w.1, (w.2.1 ||| (1 <<< (a1 &&& 31))), w.2.2.1, w.2.2.2.1, (upd w.2.2.2.2.1 (Int32.toNatClampNeg a1) (-9)), w.2.2.2.2.2.1, w.2.2.2.2.2.2.1, w.2.2.2.2.2.2.2.1, w.2.2.2.2.2.2.2.2.1, w.2.2.2.2.2.2.2.2.2.1, w.2.2.2.2.2.2.2.2.2.2.1, w.2.2.2.2.2.2.2.2.2.2.2)) else mp_ld w.2.2.2.2.2.2.2.1 12 a3 fun x2 => (if x2 = a1 then mp_st 12 a3 (fW_dissolve_70 a1 a2 n (w.1, w.2.1, w.2.2.1, w.2.2.2.1, w.2.2.2.2.1, w.2.2.2.2.2.1, w.2.2.2.2.2.2.1, (upd w.2.2.2.2.2.2.2.1 (Int32.toNatClampNeg a3) a2), w.2.2.2.2.2.2.2.2.1, w.2.2.2.2.2.2.2.2.2.1, w.2.2.2.2.2.2.2.2.2.2.1, w.2.2.2.2.2.2.2.2.2.2.2) (a3 + 1)) else fW_dissolve_70 a1 a2 n w (a3 + 1))) := rfl
set_option maxHeartbeats 4000000 in
set_option maxRecDepth 100000 in
theorem lW_dissolve_70 {p : Program} {l : Launch} {e : Env} {s : State} {m : MethodId} {args : Array Value} {below : List Frame} {meth : Method} {c : Code} (cx : mp_C p s m args meth c bW_dissolve 4 none rW) (k : KK) (ad : Nat → Nat) (a1 : Int32) (a2 : Int32) (z : SW) (hE : mp_E k s) (hAN : ∀ q, mp_A (aW ad) q → mp_N k q) : ∀ (n : Nat) (w : SW) (a3 : Int32), fW_dissolve_70 a1 a2 n w a3 = some z → ∀ (H : Heap) (locs : List Loc), va_P (kD k) mp_cls (cW k ad w) H → va_D (mp_A (aW ad)) (cW k ad w) → va_S (mp_A (aW ad)) s.heap H locs → ∀ (ls : Array Slot), lv_has ls 4 [(0, .ref (ad 0)), (1, .int a1), (2, .int a2), (3, .int a3)] → W p l e rmW_dissolve s m args below meth c H locs 0 0 (MQ below (mp_Qm k none (cW k ad z) (aW ad)) args s 0 0 (mp_A (aW ad))) (F0 m 70 ls []) := by
  obtain ⟨hx, hb, -, hml, hown, hts, -⟩ := id cx
  intro n
  induction n with
  | zero =>
    intro w a3 h
    have h : (none : Option SW) = some z := h
    cases h
  | succ n ih =>
    intro w a3 h H locs hP hD hS ls hl
    rw [fW_dissolve_70_s] at h
    refine lv_iload_n hx hb dW_dissolve_70 rfl (lv_at hl 3 rfl) ?_
    refine lv_aload_n hx hb dW_dissolve_71 rfl (lv_at hl 0 rfl) ?_
    refine mp_gW cx hE hP iW 0 rfl 6 (by decide) wq_62 rfl (v := .int w.2.2.2.2.2.2.1) rfl dW_dissolve_72 ?_
    refine lv_icmp_ge (tgt := 101) hx hb dW_dissolve_75 (by decide) (fun c1 => ?_) (fun c1 => ?_)
    · have h := mp_t c1 h
      refine lv_aload_n hx hb dW_dissolve_101 rfl (lv_at hl 0 rfl) ?_
      refine lv_aload_n hx hb dW_dissolve_102 rfl (lv_at hl 0 rfl) ?_
      refine mp_gW cx hE hP iW 0 rfl 1 (by decide) wq_57 rfl (v := .int w.2.1) rfl dW_dissolve_103 ?_
      refine lv_iconst (v := 1) hx hb dW_dissolve_106 (by decide) ?_
      refine lv_iload_n hx hb dW_dissolve_107 rfl (lv_at hl 1 rfl) ?_
      refine lv_ishl hx hb dW_dissolve_108 ?_
      refine lv_ior hx hb dW_dissolve_109 ?_
      refine va_put (D := kD k) (ci := 0) (v := .int (w.2.1 ||| (1 <<< (a1 &&& 31)))) (ty := .int) (C := rW) (T := tW) (N := 12) hx hb hts iW gW gW_ok nW hown hE.1 hP hD hS 0 rfl rfl 1 (by decide) (hts _ wq_57) (fun _ h9 => h9) rfl (by decide +kernel) rfl rfl (Nat.le_of_ble_eq_true rfl) dW_dissolve_110 (fun H locs hP hD hS => ?_)
      have hP : va_P (kD k) mp_cls (cW k ad (w.1, (w.2.1 ||| (1 <<< (a1 &&& 31))), w.2.2.1, w.2.2.2.1, w.2.2.2.2.1, w.2.2.2.2.2.1, w.2.2.2.2.2.2.1, w.2.2.2.2.2.2.2.1, w.2.2.2.2.2.2.2.2.1, w.2.2.2.2.2.2.2.2.2.1, w.2.2.2.2.2.2.2.2.2.2.1, w.2.2.2.2.2.2.2.2.2.2.2)) H := hP
      have hD : va_D (mp_A (aW ad)) (cW k ad (w.1, (w.2.1 ||| (1 <<< (a1 &&& 31))), w.2.2.1, w.2.2.2.1, w.2.2.2.2.1, w.2.2.2.2.2.1, w.2.2.2.2.2.2.1, w.2.2.2.2.2.2.2.1, w.2.2.2.2.2.2.2.2.1, w.2.2.2.2.2.2.2.2.2.1, w.2.2.2.2.2.2.2.2.2.2.1, w.2.2.2.2.2.2.2.2.2.2.2)) := hD
      refine lv_aload_n hx hb dW_dissolve_113 rfl (lv_at hl 0 rfl) ?_
      refine mp_gW cx hE hP iW 0 rfl 4 (by decide) wq_60 rfl (v := .ref (ad 2)) rfl dW_dissolve_114 ?_
      refine lv_iload_n hx hb dW_dissolve_117 rfl (lv_at hl 1 rfl) ?_
      refine lv_bipush (v := (-9)) hx hb dW_dissolve_118 (by decide) ?_
      obtain ⟨hi, h⟩ := mp_sts h
      refine va_iast hx hb hE.1 hP hD hS 2 0 (f := w.2.2.2.2.1) (n := 12) rfl rfl hi dW_dissolve_120 (fun H locs hP hD hS => ?_)
      have hP : va_P (kD k) mp_cls (cW k ad (w.1, (w.2.1 ||| (1 <<< (a1 &&& 31))), w.2.2.1, w.2.2.2.1, (upd w.2.2.2.2.1 (Int32.toNatClampNeg a1) (-9)), w.2.2.2.2.2.1, w.2.2.2.2.2.2.1, w.2.2.2.2.2.2.2.1, w.2.2.2.2.2.2.2.2.1, w.2.2.2.2.2.2.2.2.2.1, w.2.2.2.2.2.2.2.2.2.2.1, w.2.2.2.2.2.2.2.2.2.2.2)) H := hP
      have hD : va_D (mp_A (aW ad)) (cW k ad (w.1, (w.2.1 ||| (1 <<< (a1 &&& 31))), w.2.2.1, w.2.2.2.1, (upd w.2.2.2.2.1 (Int32.toNatClampNeg a1) (-9)), w.2.2.2.2.2.1, w.2.2.2.2.2.2.1, w.2.2.2.2.2.2.2.1, w.2.2.2.2.2.2.2.2.1, w.2.2.2.2.2.2.2.2.2.1, w.2.2.2.2.2.2.2.2.2.2.1, w.2.2.2.2.2.2.2.2.2.2.2)) := hD
      exact mp_rvm (cf := cW k ad) cx h hP hS dW_dissolve_121
    · have h := mp_f c1 h
      refine lv_aload_n hx hb dW_dissolve_78 rfl (lv_at hl 0 rfl) ?_
      refine mp_gW cx hE hP iW 0 rfl 7 (by decide) wq_63 rfl (v := .ref (ad 4)) rfl dW_dissolve_79 ?_
      refine lv_iload_n hx hb dW_dissolve_82 rfl (lv_at hl 3 rfl) ?_
      obtain ⟨hi, x2, ex2, h⟩ := mp_lds h
      refine va_iald hx hb hE.1 hP 4 0 (f := w.2.2.2.2.2.2.2.1) (n := 12) rfl rfl hi dW_dissolve_83 ?_
      refine mp_top ex2 ?_
      refine lv_iload_n hx hb dW_dissolve_84 rfl (lv_at hl 1 rfl) ?_
      refine lv_icmp_ne (tgt := 95) hx hb dW_dissolve_85 (by decide) (fun c3 => ?_) (fun c3 => ?_)
      · have h := mp_f c3 h
        refine lv_iinc (v := (a3 + 1)) (lv' := [(3, .int (a3 + 1)), (0, .ref (ad 0)), (1, .int a1), (2, .int a2)]) hx hb dW_dissolve_95 hl (k := 3) rfl rfl (by decide) rfl (fun ls hl => ?_)
        refine lv_goto (tgt := 70) hx hb dW_dissolve_98 (by decide) ?_
        exact ih w (a3 + 1) h _ _ hP hD hS ls (lv_sub hl [1, 2, 3, 0] rfl)
      · have h := mp_t c3 h
        refine lv_aload_n hx hb dW_dissolve_88 rfl (lv_at hl 0 rfl) ?_
        refine mp_gW cx hE hP iW 0 rfl 7 (by decide) wq_63 rfl (v := .ref (ad 4)) rfl dW_dissolve_89 ?_
        refine lv_iload_n hx hb dW_dissolve_92 rfl (lv_at hl 3 rfl) ?_
        refine lv_iload_n hx hb dW_dissolve_93 rfl (lv_at hl 2 rfl) ?_
        obtain ⟨hi, h⟩ := mp_sts h
        refine va_iast hx hb hE.1 hP hD hS 4 0 (f := w.2.2.2.2.2.2.2.1) (n := 12) rfl rfl hi dW_dissolve_94 (fun H locs hP hD hS => ?_)
        have hP : va_P (kD k) mp_cls (cW k ad (w.1, w.2.1, w.2.2.1, w.2.2.2.1, w.2.2.2.2.1, w.2.2.2.2.2.1, w.2.2.2.2.2.2.1, (upd w.2.2.2.2.2.2.2.1 (Int32.toNatClampNeg a3) a2), w.2.2.2.2.2.2.2.2.1, w.2.2.2.2.2.2.2.2.2.1, w.2.2.2.2.2.2.2.2.2.2.1, w.2.2.2.2.2.2.2.2.2.2.2)) H := hP
        have hD : va_D (mp_A (aW ad)) (cW k ad (w.1, w.2.1, w.2.2.1, w.2.2.2.1, w.2.2.2.2.1, w.2.2.2.2.2.1, w.2.2.2.2.2.2.1, (upd w.2.2.2.2.2.2.2.1 (Int32.toNatClampNeg a3) a2), w.2.2.2.2.2.2.2.2.1, w.2.2.2.2.2.2.2.2.2.1, w.2.2.2.2.2.2.2.2.2.2.1, w.2.2.2.2.2.2.2.2.2.2.2)) := hD
        refine lv_iinc (v := (a3 + 1)) (lv' := [(3, .int (a3 + 1)), (0, .ref (ad 0)), (1, .int a1), (2, .int a2)]) hx hb dW_dissolve_95 hl (k := 3) rfl rfl (by decide) rfl (fun ls hl => ?_)
        refine lv_goto (tgt := 70) hx hb dW_dissolve_98 (by decide) ?_
        exact ih (w.1, w.2.1, w.2.2.1, w.2.2.2.1, w.2.2.2.2.1, w.2.2.2.2.2.1, w.2.2.2.2.2.2.1, (upd w.2.2.2.2.2.2.2.1 (Int32.toNatClampNeg a3) a2), w.2.2.2.2.2.2.2.2.1, w.2.2.2.2.2.2.2.2.2.1, w.2.2.2.2.2.2.2.2.2.2.1, w.2.2.2.2.2.2.2.2.2.2.2) (a3 + 1) h _ _ hP hD hS ls (lv_sub hl [1, 2, 3, 0] rfl)
def fW_dissolve_37 (a1 : Int32) (a2 : Int32) : Nat → SW → Int32 → Option SW
  | 0, _, _ => none
  | n + 1, w, a3 => (if w.1 ≤ a3 then fW_dissolve_70 a1 a2 2000 w 0 else mp_ld w.2.2.2.2.1 12 a3 fun x2 => (if x2 = a1 then mp_st 12 a3 (fW_dissolve_37 a1 a2 n (w.1, w.2.1, w.2.2.1, w.2.2.2.1, (upd w.2.2.2.2.1 (Int32.toNatClampNeg a3) a2), w.2.2.2.2.2.1, w.2.2.2.2.2.2.1, w.2.2.2.2.2.2.2.1, w.2.2.2.2.2.2.2.2.1, w.2.2.2.2.2.2.2.2.2.1, w.2.2.2.2.2.2.2.2.2.2.1, w.2.2.2.2.2.2.2.2.2.2.2) (a3 + 1)) else fW_dissolve_37 a1 a2 n w (a3 + 1)))
theorem fW_dissolve_37_s (a1 : Int32) (a2 : Int32) (n : Nat) (w : SW) (a3 : Int32) : fW_dissolve_37 a1 a2 (n + 1) w a3 = (if w.1 ≤ a3 then fW_dissolve_70 a1 a2 2000 w 0 else mp_ld w.2.2.2.2.1 12 a3 fun x2 => (if x2 = a1 then mp_st 12 a3 (fW_dissolve_37 a1 a2 n (w.1, w.2.1, w.2.2.1, w.2.2.2.1, (upd w.2.2.2.2.1 (Int32.toNatClampNeg a3) a2), w.2.2.2.2.2.1, w.2.2.2.2.2.2.1, w.2.2.2.2.2.2.2.1, w.2.2.2.2.2.2.2.2.1, w.2.2.2.2.2.2.2.2.2.1, w.2.2.2.2.2.2.2.2.2.2.1, w.2.2.2.2.2.2.2.2.2.2.2) (a3 + 1)) else fW_dissolve_37 a1 a2 n w (a3 + 1))) := rfl
set_option maxHeartbeats 4000000 in
set_option maxRecDepth 100000 in
theorem lW_dissolve_37 {p : Program} {l : Launch} {e : Env} {s : State} {m : MethodId} {args : Array Value} {below : List Frame} {meth : Method} {c : Code} (cx : mp_C p s m args meth c bW_dissolve 4 none rW) (k : KK) (ad : Nat → Nat) (a1 : Int32) (a2 : Int32) (z : SW) (hE : mp_E k s) (hAN : ∀ q, mp_A (aW ad) q → mp_N k q) : ∀ (n : Nat) (w : SW) (a3 : Int32), fW_dissolve_37 a1 a2 n w a3 = some z → ∀ (H : Heap) (locs : List Loc), va_P (kD k) mp_cls (cW k ad w) H → va_D (mp_A (aW ad)) (cW k ad w) → va_S (mp_A (aW ad)) s.heap H locs → ∀ (ls : Array Slot), lv_has ls 4 [(0, .ref (ad 0)), (1, .int a1), (2, .int a2), (3, .int a3)] → W p l e rmW_dissolve s m args below meth c H locs 0 0 (MQ below (mp_Qm k none (cW k ad z) (aW ad)) args s 0 0 (mp_A (aW ad))) (F0 m 37 ls []) := by
  obtain ⟨hx, hb, -, hml, hown, hts, -⟩ := id cx
  intro n
  induction n with
  | zero =>
    intro w a3 h
    have h : (none : Option SW) = some z := h
    cases h
  | succ n ih =>
    intro w a3 h H locs hP hD hS ls hl
    rw [fW_dissolve_37_s] at h
    refine lv_iload_n hx hb dW_dissolve_37 rfl (lv_at hl 3 rfl) ?_
    refine lv_aload_n hx hb dW_dissolve_38 rfl (lv_at hl 0 rfl) ?_
    refine mp_gW cx hE hP iW 0 rfl 0 (by decide) wq_56 rfl (v := .int w.1) rfl dW_dissolve_39 ?_
    refine lv_icmp_ge (tgt := 68) hx hb dW_dissolve_42 (by decide) (fun c1 => ?_) (fun c1 => ?_)
    · have h := mp_t c1 h
      refine lv_iconst (v := 0) hx hb dW_dissolve_68 (by decide) ?_
      refine lv_istore_n (lv' := [(3, .int 0), (0, .ref (ad 0)), (1, .int a1), (2, .int a2)]) hx hb dW_dissolve_69 rfl hl (by decide) rfl (fun ls hl => ?_)
      exact lW_dissolve_70 cx k ad a1 a2 z hE hAN _ w 0 h _ _ hP hD hS ls (lv_sub hl [1, 2, 3, 0] rfl)
    · have h := mp_f c1 h
      refine lv_aload_n hx hb dW_dissolve_45 rfl (lv_at hl 0 rfl) ?_
      refine mp_gW cx hE hP iW 0 rfl 4 (by decide) wq_60 rfl (v := .ref (ad 2)) rfl dW_dissolve_46 ?_
      refine lv_iload_n hx hb dW_dissolve_49 rfl (lv_at hl 3 rfl) ?_
      obtain ⟨hi, x2, ex2, h⟩ := mp_lds h
      refine va_iald hx hb hE.1 hP 2 0 (f := w.2.2.2.2.1) (n := 12) rfl rfl hi dW_dissolve_50 ?_
      refine mp_top ex2 ?_
      refine lv_iload_n hx hb dW_dissolve_51 rfl (lv_at hl 1 rfl) ?_
      refine lv_icmp_ne (tgt := 62) hx hb dW_dissolve_52 (by decide) (fun c3 => ?_) (fun c3 => ?_)
      · have h := mp_f c3 h
        refine lv_iinc (v := (a3 + 1)) (lv' := [(3, .int (a3 + 1)), (0, .ref (ad 0)), (1, .int a1), (2, .int a2)]) hx hb dW_dissolve_62 hl (k := 3) rfl rfl (by decide) rfl (fun ls hl => ?_)
        refine lv_goto (tgt := 37) hx hb dW_dissolve_65 (by decide) ?_
        exact ih w (a3 + 1) h _ _ hP hD hS ls (lv_sub hl [1, 2, 3, 0] rfl)
      · have h := mp_t c3 h
        refine lv_aload_n hx hb dW_dissolve_55 rfl (lv_at hl 0 rfl) ?_
        refine mp_gW cx hE hP iW 0 rfl 4 (by decide) wq_60 rfl (v := .ref (ad 2)) rfl dW_dissolve_56 ?_
        refine lv_iload_n hx hb dW_dissolve_59 rfl (lv_at hl 3 rfl) ?_
        refine lv_iload_n hx hb dW_dissolve_60 rfl (lv_at hl 2 rfl) ?_
        obtain ⟨hi, h⟩ := mp_sts h
        refine va_iast hx hb hE.1 hP hD hS 2 0 (f := w.2.2.2.2.1) (n := 12) rfl rfl hi dW_dissolve_61 (fun H locs hP hD hS => ?_)
        have hP : va_P (kD k) mp_cls (cW k ad (w.1, w.2.1, w.2.2.1, w.2.2.2.1, (upd w.2.2.2.2.1 (Int32.toNatClampNeg a3) a2), w.2.2.2.2.2.1, w.2.2.2.2.2.2.1, w.2.2.2.2.2.2.2.1, w.2.2.2.2.2.2.2.2.1, w.2.2.2.2.2.2.2.2.2.1, w.2.2.2.2.2.2.2.2.2.2.1, w.2.2.2.2.2.2.2.2.2.2.2)) H := hP
        have hD : va_D (mp_A (aW ad)) (cW k ad (w.1, w.2.1, w.2.2.1, w.2.2.2.1, (upd w.2.2.2.2.1 (Int32.toNatClampNeg a3) a2), w.2.2.2.2.2.1, w.2.2.2.2.2.2.1, w.2.2.2.2.2.2.2.1, w.2.2.2.2.2.2.2.2.1, w.2.2.2.2.2.2.2.2.2.1, w.2.2.2.2.2.2.2.2.2.2.1, w.2.2.2.2.2.2.2.2.2.2.2)) := hD
        refine lv_iinc (v := (a3 + 1)) (lv' := [(3, .int (a3 + 1)), (0, .ref (ad 0)), (1, .int a1), (2, .int a2)]) hx hb dW_dissolve_62 hl (k := 3) rfl rfl (by decide) rfl (fun ls hl => ?_)
        refine lv_goto (tgt := 37) hx hb dW_dissolve_65 (by decide) ?_
        exact ih (w.1, w.2.1, w.2.2.1, w.2.2.2.1, (upd w.2.2.2.2.1 (Int32.toNatClampNeg a3) a2), w.2.2.2.2.2.1, w.2.2.2.2.2.2.1, w.2.2.2.2.2.2.2.1, w.2.2.2.2.2.2.2.2.1, w.2.2.2.2.2.2.2.2.2.1, w.2.2.2.2.2.2.2.2.2.2.1, w.2.2.2.2.2.2.2.2.2.2.2) (a3 + 1) h _ _ hP hD hS ls (lv_sub hl [1, 2, 3, 0] rfl)
def fW_dissolve_11 (a1 : Int32) (a2 : Int32) : Nat → SW → Int32 → Option SW
  | 0, _, _ => none
  | n + 1, w, a3 => (if 6 ≤ a3 then fW_dissolve_37 a1 a2 2000 w 0 else (fW_messagesOf w a1 a3).bind fun x2 => (fW_addMessages w a2 a3 x2).bind fun x3 => fW_dissolve_11 a1 a2 n x3 (a3 + 1))
theorem fW_dissolve_11_s (a1 : Int32) (a2 : Int32) (n : Nat) (w : SW) (a3 : Int32) : fW_dissolve_11 a1 a2 (n + 1) w a3 = (if 6 ≤ a3 then fW_dissolve_37 a1 a2 2000 w 0 else (fW_messagesOf w a1 a3).bind fun x2 => (fW_addMessages w a2 a3 x2).bind fun x3 => fW_dissolve_11 a1 a2 n x3 (a3 + 1)) := rfl
set_option maxHeartbeats 4000000 in
set_option maxRecDepth 100000 in
theorem lW_dissolve_11 {p : Program} {l : Launch} {e : Env} {s : State} {m : MethodId} {args : Array Value} {below : List Frame} {meth : Method} {c : Code} (cx : mp_C p s m args meth c bW_dissolve 4 none rW) (k : KK) (ad : Nat → Nat) (a1 : Int32) (a2 : Int32) (z : SW) (hE : mp_E k s) (hAN : ∀ q, mp_A (aW ad) q → mp_N k q) : ∀ (n : Nat) (w : SW) (a3 : Int32), fW_dissolve_11 a1 a2 n w a3 = some z → ∀ (H : Heap) (locs : List Loc), va_P (kD k) mp_cls (cW k ad w) H → va_D (mp_A (aW ad)) (cW k ad w) → va_S (mp_A (aW ad)) s.heap H locs → ∀ (ls : Array Slot), lv_has ls 4 [(0, .ref (ad 0)), (1, .int a1), (2, .int a2), (3, .int a3)] → W p l e rmW_dissolve s m args below meth c H locs 0 0 (MQ below (mp_Qm k none (cW k ad z) (aW ad)) args s 0 0 (mp_A (aW ad))) (F0 m 11 ls []) := by
  obtain ⟨hx, hb, -, hml, hown, hts, -⟩ := id cx
  intro n
  induction n with
  | zero =>
    intro w a3 h
    have h : (none : Option SW) = some z := h
    cases h
  | succ n ih =>
    intro w a3 h H locs hP hD hS ls hl
    rw [fW_dissolve_11_s] at h
    refine lv_iload_n hx hb dW_dissolve_11 rfl (lv_at hl 3 rfl) ?_
    refine lv_bipush (v := 6) hx hb dW_dissolve_12 (by decide) ?_
    refine lv_icmp_ge (tgt := 35) hx hb dW_dissolve_14 (by decide) (fun c1 => ?_) (fun c1 => ?_)
    · have h := mp_t c1 h
      refine lv_iconst (v := 0) hx hb dW_dissolve_35 (by decide) ?_
      refine lv_istore_n (lv' := [(3, .int 0), (0, .ref (ad 0)), (1, .int a1), (2, .int a2)]) hx hb dW_dissolve_36 rfl hl (by decide) rfl (fun ls hl => ?_)
      exact lW_dissolve_37 cx k ad a1 a2 z hE hAN _ w 0 h _ _ hP hD hS ls (lv_sub hl [1, 2, 3, 0] rfl)
    · have h := mp_f c1 h
      refine lv_aload_n hx hb dW_dissolve_17 rfl (lv_at hl 0 rfl) ?_
      refine lv_iload_n hx hb dW_dissolve_18 rfl (lv_at hl 2 rfl) ?_
      refine lv_iload_n hx hb dW_dissolve_19 rfl (lv_at hl 3 rfl) ?_
      refine lv_aload_n hx hb dW_dissolve_20 rfl (lv_at hl 0 rfl) ?_
      refine lv_iload_n hx hb dW_dissolve_21 rfl (lv_at hl 1 rfl) ?_
      refine lv_iload_n hx hb dW_dissolve_22 rfl (lv_at hl 3 rfl) ?_
      obtain ⟨x2, ex2, h⟩ := mp_bs h
      refine mp_si (mp_runV (As := [.int a1, .int a3]) (rest := [.int a3, .int a2, .ref (ad 0)]) cx kV_W_72 (cW_messagesOf l k ad w a1 a3 x2 ex2) ⟨rfl, rfl, Nat.le_of_ble_eq_true rfl, Nat.le_of_ble_eq_true rfl⟩ ⟨Nat.zero_le _, Nat.zero_le _⟩ hE hP (mp_Dw hD hAN) (mp_S hS hAN) 0 rfl rfl rfl hl.1 rfl (Nat.le_of_ble_eq_true rfl) dW_dissolve_23) ?_
      obtain ⟨x3, ex3, h⟩ := mp_bs h
      refine mp_mv (mp_runV (As := [.int a2, .int a3, .int x2]) (rest := []) cx kV_W_122 (cW_addMessages l k ad w a2 a3 x2 x3 ex3) ⟨rfl, rfl, Nat.le_of_ble_eq_true rfl, Nat.le_of_ble_eq_true rfl⟩ ⟨Nat.zero_le _, Nat.zero_le _⟩ hE hP (mp_Dw hD hAN) (mp_S hS hAN) 0 rfl rfl rfl hl.1 rfl (Nat.le_of_ble_eq_true rfl) dW_dissolve_26) hS (fun _ h9 => h9) (fun H locs hP hk hS => ?_)
      have hD : va_D (mp_A (aW ad)) (cW k ad x3) := mp_Ds hD rfl
      refine lv_iinc (v := (a3 + 1)) (lv' := [(3, .int (a3 + 1)), (0, .ref (ad 0)), (1, .int a1), (2, .int a2)]) hx hb dW_dissolve_29 hl (k := 3) rfl rfl (by decide) rfl (fun ls hl => ?_)
      refine lv_goto (tgt := 11) hx hb dW_dissolve_32 (by decide) ?_
      exact ih x3 (a3 + 1) h _ _ hP hD hS ls (lv_sub hl [1, 2, 3, 0] rfl)
def fW_dissolve (w : SW) (a1 : Int32) (a2 : Int32) : Option SW := (fW_isPlace w a1).bind fun x1 => (if x1 = 0 then some w else fW_dissolve_11 a1 a2 2000 w 0)
set_option maxHeartbeats 4000000 in
set_option maxRecDepth 100000 in
theorem wW_dissolve {p : Program} {l : Launch} {e : Env} {s : State} {m : MethodId} {args : Array Value} {below : List Frame} {meth : Method} {c : Code} (cx : mp_C p s m args meth c bW_dissolve 4 none rW) (k : KK) (ad : Nat → Nat) (w : SW) (a1 : Int32) (a2 : Int32) (z : SW) (hE : mp_E k s) (hAN : ∀ q, mp_A (aW ad) q → mp_N k q) {H : Heap} {locs : List Loc} (hP : va_P (kD k) mp_cls (cW k ad w) H) (hD : va_D (mp_A (aW ad)) (cW k ad w)) (hS : va_S (mp_A (aW ad)) s.heap H locs) (h : fW_dissolve w a1 a2 = some z) (ls : Array Slot) (hl : lv_has ls 4 [(0, .ref (ad 0)), (1, .int a1), (2, .int a2)]) : W p l e rmW_dissolve s m args below meth c H locs 0 0 (MQ below (mp_Qm k none (cW k ad z) (aW ad)) args s 0 0 (mp_A (aW ad))) (F0 m 0 ls []) := by
  obtain ⟨hx, hb, -, hml, hown, hts, -⟩ := id cx
  unfold fW_dissolve at h
  refine lv_aload_n hx hb dW_dissolve_0 rfl (lv_at hl 0 rfl) ?_
  refine lv_iload_n hx hb dW_dissolve_1 rfl (lv_at hl 1 rfl) ?_
  obtain ⟨x1, ex1, h⟩ := mp_bs h
  refine mp_si (mp_runV (As := [.int a1]) (rest := []) cx kV_W_56 (cW_isPlace l k ad w a1 x1 ex1) ⟨rfl, rfl, Nat.le_of_ble_eq_true rfl, Nat.le_of_ble_eq_true rfl⟩ ⟨Nat.zero_le _, Nat.zero_le _⟩ hE hP (mp_Dw hD hAN) (mp_S hS hAN) 0 rfl rfl rfl hl.1 rfl (Nat.le_of_ble_eq_true rfl) dW_dissolve_2) ?_
  refine lv_if_ne (tgt := 9) hx hb dW_dissolve_5 (by decide) (fun c2 => ?_) (fun c2 => ?_)
  · have h := mp_f c2 h
    refine lv_iconst (v := 0) hx hb dW_dissolve_9 (by decide) ?_
    refine lv_istore_n (lv' := [(3, .int 0), (0, .ref (ad 0)), (1, .int a1), (2, .int a2)]) hx hb dW_dissolve_10 rfl hl (by decide) rfl (fun ls hl => ?_)
    exact lW_dissolve_11 cx k ad a1 a2 z hE hAN _ w 0 h _ _ hP hD hS ls (lv_sub hl [1, 2, 3, 0] rfl)
  · have h := mp_t c2 h
    exact mp_rvm (cf := cW k ad) cx h hP hS dW_dissolve_8
theorem cW_dissolve (l : Launch) (k : KK) (ad : Nat → Nat) (w : SW) (a1 : Int32) (a2 : Int32) (z : SW) (h : fW_dissolve w a1 a2 = some z) : mp_CM l k yW_dissolve bW_dissolve 4 none rmW_dissolve [.ref (ad 0), .int a1, .int a2] (cW k ad w) (cW k ad z) (aW ad) (none) := by
  refine Met.ofW (cc := bW_dissolve) (maxL := 4) (ret := none) (by decide) rfl ?_
  intro p e s m args below meth c s₁ B hml hv
  obtain ⟨rfl, hP, hD, hE⟩ := hv
  have hl := lv_entry ([.ref (ad 0), .int a1, .int a2]) (n := 4) (Nat.le_of_ble_eq_true rfl)
  rw [lg_entry_eq]
  generalize (lg_sl ([.ref (ad 0), .int a1, .int a2]) ++ List.replicate (4 - (lg_sl ([.ref (ad 0), .int a1, .int a2])).length) Slot.unset).toArray = ls at hl ⊢
  exact wW_dissolve (mp_C.of B hml) k ad w a1 a2 z hE (mp_new hD rfl) hP (mp_own hD rfl) va_S.rf h ls hl
-- MovingPlaces$World.doNextAct
abbrev rmW_doNextAct : Room := { frames := 4, cells := 0, slots := 0, locals := 89 }
def fW_doNextAct (w : SW) (a1 : Int32) : Option (Int32 × SW) := (fW_aimOf w a1).bind fun x1 => (fW_isThread w a1).bind fun x2 => (if x2 = 0 then some ((-9), w) else (if x1 = (-9) then some ((-9), w) else mp_ld w.2.2.2.2.2.2.2.2.2.2.1 12 a1 fun x5 => (fW_actOf w a1 x5).bind fun x6 => mp_ld w.2.2.2.2.2.2.2.1 12 a1 fun x7 => (if (x6 / 10) = 1 then (fW_putInto w x7 x1).bind fun x9 => mp_ld x9.2.2.2.2.2.2.2.2.2.2.1 12 a1 fun x10 => mp_st 12 a1 (some ((x6 / 10), (x9.1, x9.2.1, x9.2.2.1, x9.2.2.2.1, x9.2.2.2.2.1, x9.2.2.2.2.2.1, x9.2.2.2.2.2.2.1, x9.2.2.2.2.2.2.2.1, x9.2.2.2.2.2.2.2.2.1, x9.2.2.2.2.2.2.2.2.2.1, (upd x9.2.2.2.2.2.2.2.2.2.2.1 (Int32.toNatClampNeg a1) (x10 + 1)), x9.2.2.2.2.2.2.2.2.2.2.2))) else if (x6 / 10) = 2 then (fW_placeAround w x1).bind fun x12 => (fW_putInto w x7 x12).bind fun x13 => mp_ld x13.2.2.2.2.2.2.2.2.2.2.1 12 a1 fun x14 => mp_st 12 a1 (some ((x6 / 10), (x13.1, x13.2.1, x13.2.2.1, x13.2.2.2.1, x13.2.2.2.2.1, x13.2.2.2.2.2.1, x13.2.2.2.2.2.2.1, x13.2.2.2.2.2.2.2.1, x13.2.2.2.2.2.2.2.2.1, x13.2.2.2.2.2.2.2.2.2.1, (upd x13.2.2.2.2.2.2.2.2.2.2.1 (Int32.toNatClampNeg a1) (x14 + 1)), x13.2.2.2.2.2.2.2.2.2.2.2))) else if (x6 / 10) = 3 then (fW_dissolve w x1 x7).bind fun x16 => mp_ld x16.2.2.2.2.2.2.2.2.2.2.1 12 a1 fun x17 => mp_st 12 a1 (some ((x6 / 10), (x16.1, x16.2.1, x16.2.2.1, x16.2.2.2.1, x16.2.2.2.2.1, x16.2.2.2.2.2.1, x16.2.2.2.2.2.2.1, x16.2.2.2.2.2.2.2.1, x16.2.2.2.2.2.2.2.2.1, x16.2.2.2.2.2.2.2.2.2.1, (upd x16.2.2.2.2.2.2.2.2.2.2.1 (Int32.toNatClampNeg a1) (x17 + 1)), x16.2.2.2.2.2.2.2.2.2.2.2))) else if (x6 / 10) = 4 then (fW_addMessages w x7 x1 1).bind fun x19 => mp_ld x19.2.2.2.2.2.2.2.2.2.2.1 12 a1 fun x20 => mp_st 12 a1 (some ((x6 / 10), (x19.1, x19.2.1, x19.2.2.1, x19.2.2.2.1, x19.2.2.2.2.1, x19.2.2.2.2.2.1, x19.2.2.2.2.2.2.1, x19.2.2.2.2.2.2.2.1, x19.2.2.2.2.2.2.2.2.1, x19.2.2.2.2.2.2.2.2.2.1, (upd x19.2.2.2.2.2.2.2.2.2.2.1 (Int32.toNatClampNeg a1) (x20 + 1)), x19.2.2.2.2.2.2.2.2.2.2.2))) else (fW_addMessages w x7 x1 (-1)).bind fun x21 => mp_st 12 a1 (mp_ld x21.2.2.2.2.2.2.2.2.2.2.1 12 a1 fun x22 => mp_st 12 a1 (some ((x6 / 10), (x21.1, x21.2.1, x21.2.2.1, x21.2.2.2.1, x21.2.2.2.2.1, x21.2.2.2.2.2.1, x21.2.2.2.2.2.2.1, x21.2.2.2.2.2.2.2.1, x21.2.2.2.2.2.2.2.2.1, x21.2.2.2.2.2.2.2.2.2.1, (upd x21.2.2.2.2.2.2.2.2.2.2.1 (Int32.toNatClampNeg a1) (x22 + 1)), (upd x21.2.2.2.2.2.2.2.2.2.2.2 (Int32.toNatClampNeg a1) x1))))))))
set_option maxHeartbeats 4000000 in
set_option maxRecDepth 100000 in
theorem wW_doNextAct {p : Program} {l : Launch} {e : Env} {s : State} {m : MethodId} {args : Array Value} {below : List Frame} {meth : Method} {c : Code} (cx : mp_C p s m args meth c bW_doNextAct 5 (some .int) rW) (k : KK) (ad : Nat → Nat) (w : SW) (a1 : Int32) (z : (Int32 × SW)) (hE : mp_E k s) (hAN : ∀ q, mp_A (aW ad) q → mp_N k q) {H : Heap} {locs : List Loc} (hP : va_P (kD k) mp_cls (cW k ad w) H) (hD : va_D (mp_A (aW ad)) (cW k ad w)) (hS : va_S (mp_A (aW ad)) s.heap H locs) (h : fW_doNextAct w a1 = some z) (ls : Array Slot) (hl : lv_has ls 5 [(0, .ref (ad 0)), (1, .int a1)]) : W p l e rmW_doNextAct s m args below meth c H locs 0 0 (MQ below (mp_Qm k (some (.int z.1)) (cW k ad z.2) (aW ad)) args s 0 0 (mp_A (aW ad))) (F0 m 0 ls []) := by
  obtain ⟨hx, hb, -, hml, hown, hts, -⟩ := id cx
  unfold fW_doNextAct at h
  refine lv_aload_n hx hb dW_doNextAct_0 rfl (lv_at hl 0 rfl) ?_
  refine lv_iload_n hx hb dW_doNextAct_1 rfl (lv_at hl 1 rfl) ?_
  obtain ⟨x1, ex1, h⟩ := mp_bs h
  refine mp_si (mp_runV (As := [.int a1]) (rest := []) cx kV_W_93 (cW_aimOf l k ad w a1 x1 ex1) ⟨rfl, rfl, Nat.le_of_ble_eq_true rfl, Nat.le_of_ble_eq_true rfl⟩ ⟨Nat.zero_le _, Nat.zero_le _⟩ hE hP (mp_Dw hD hAN) (mp_S hS hAN) 0 rfl rfl rfl hl.1 rfl (Nat.le_of_ble_eq_true rfl) dW_doNextAct_2) ?_
  refine lv_istore_n (lv' := [(2, .int x1), (0, .ref (ad 0)), (1, .int a1)]) hx hb dW_doNextAct_5 rfl hl (by decide) rfl (fun ls hl => ?_)
  refine lv_aload_n hx hb dW_doNextAct_6 rfl (lv_at hl 1 rfl) ?_
  refine lv_iload_n hx hb dW_doNextAct_7 rfl (lv_at hl 2 rfl) ?_
  obtain ⟨x2, ex2, h⟩ := mp_bs h
  refine mp_si (mp_runV (As := [.int a1]) (rest := []) cx kV_W_76 (cW_isThread l k ad w a1 x2 ex2) ⟨rfl, rfl, Nat.le_of_ble_eq_true rfl, Nat.le_of_ble_eq_true rfl⟩ ⟨Nat.zero_le _, Nat.zero_le _⟩ hE hP (mp_Dw hD hAN) (mp_S hS hAN) 0 rfl rfl rfl hl.1 rfl (Nat.le_of_ble_eq_true rfl) dW_doNextAct_8) ?_
  refine lv_if_eq (tgt := 20) hx hb dW_doNextAct_11 (by decide) (fun c3 => ?_) (fun c3 => ?_)
  · have h := mp_t c3 h
    refine lv_bipush (v := (-9)) hx hb dW_doNextAct_20 (by decide) ?_
    exact mp_rim (cf := cW k ad) cx h hP hS dW_doNextAct_22
  · have h := mp_f c3 h
    refine lv_iload_n hx hb dW_doNextAct_14 rfl (lv_at hl 0 rfl) ?_
    refine lv_bipush (v := (-9)) hx hb dW_doNextAct_15 (by decide) ?_
    refine lv_icmp_ne (tgt := 23) hx hb dW_doNextAct_17 (by decide) (fun c4 => ?_) (fun c4 => ?_)
    · have h := mp_f c4 h
      refine lv_aload_n hx hb dW_doNextAct_23 rfl (lv_at hl 1 rfl) ?_
      refine lv_iload_n hx hb dW_doNextAct_24 rfl (lv_at hl 2 rfl) ?_
      refine lv_aload_n hx hb dW_doNextAct_25 rfl (lv_at hl 1 rfl) ?_
      refine mp_gW cx hE hP iW 0 rfl 10 (by decide) wq_66 rfl (v := .ref (ad 7)) rfl dW_doNextAct_26 ?_
      refine lv_iload_n hx hb dW_doNextAct_29 rfl (lv_at hl 2 rfl) ?_
      obtain ⟨hi, x5, ex5, h⟩ := mp_lds h
      refine va_iald hx hb hE.1 hP 7 0 (f := w.2.2.2.2.2.2.2.2.2.2.1) (n := 12) rfl rfl hi dW_doNextAct_30 ?_
      refine mp_top ex5 ?_
      obtain ⟨x6, ex6, h⟩ := mp_bs h
      refine mp_si (mp_runV (As := [.int a1, .int x5]) (rest := []) cx kV_W_96 (cW_actOf l k ad w a1 x5 x6 ex6) ⟨rfl, rfl, Nat.le_of_ble_eq_true rfl, Nat.le_of_ble_eq_true rfl⟩ ⟨Nat.zero_le _, Nat.zero_le _⟩ hE hP (mp_Dw hD hAN) (mp_S hS hAN) 0 rfl rfl rfl hl.1 rfl (Nat.le_of_ble_eq_true rfl) dW_doNextAct_31) ?_
      refine lv_bipush (v := 10) hx hb dW_doNextAct_34 (by decide) ?_
      refine lv_idiv hx hb dW_doNextAct_36 (by decide) ?_
      refine lv_istore_n (lv' := [(3, .int (x6 / 10)), (2, .int x1), (0, .ref (ad 0)), (1, .int a1)]) hx hb dW_doNextAct_37 rfl hl (by decide) rfl (fun ls hl => ?_)
      refine lv_aload_n hx hb dW_doNextAct_38 rfl (lv_at hl 2 rfl) ?_
      refine mp_gW cx hE hP iW 0 rfl 7 (by decide) wq_63 rfl (v := .ref (ad 4)) rfl dW_doNextAct_39 ?_
      refine lv_iload_n hx hb dW_doNextAct_42 rfl (lv_at hl 3 rfl) ?_
      obtain ⟨hi, x7, ex7, h⟩ := mp_lds h
      refine va_iald hx hb hE.1 hP 4 0 (f := w.2.2.2.2.2.2.2.1) (n := 12) rfl rfl hi dW_doNextAct_43 ?_
      refine mp_top ex7 ?_
      refine lv_istore (lv' := [(4, .int x7), (3, .int (x6 / 10)), (2, .int x1), (0, .ref (ad 0)), (1, .int a1)]) hx hb dW_doNextAct_44 hl (by decide) rfl (fun ls hl => ?_)
      refine lv_iload_n hx hb dW_doNextAct_46 rfl (lv_at hl 1 rfl) ?_
      by_cases c8 : (x6 / 10) = 1
      · have h := mp_t c8 h
        refine lv_tableIn (off := 29) (tgt := 76) hx hb dW_doNextAct_47 (by rw [c8]; decide) (by rw [c8]; decide) (by rw [c8]; rfl) (by decide) ?_
        refine lv_aload_n hx hb dW_doNextAct_76 rfl (lv_at hl 3 rfl) ?_
        refine lv_iload hx hb dW_doNextAct_77 (lv_at hl 0 rfl) ?_
        refine lv_iload_n hx hb dW_doNextAct_79 rfl (lv_at hl 2 rfl) ?_
        obtain ⟨x9, ex9, h⟩ := mp_bs h
        refine mp_mv (mp_runV (As := [.int x7, .int x1]) (rest := []) cx kV_W_115 (cW_putInto l k ad w x7 x1 x9 ex9) ⟨rfl, rfl, Nat.le_of_ble_eq_true rfl, Nat.le_of_ble_eq_true rfl⟩ ⟨Nat.zero_le _, Nat.zero_le _⟩ hE hP (mp_Dw hD hAN) (mp_S hS hAN) 0 rfl rfl rfl hl.1 rfl (Nat.le_of_ble_eq_true rfl) dW_doNextAct_80) hS (fun _ h9 => h9) (fun H locs hP hk hS => ?_)
        have hD : va_D (mp_A (aW ad)) (cW k ad x9) := mp_Ds hD rfl
        refine lv_goto (tgt := 136) hx hb dW_doNextAct_83 (by decide) ?_
        refine lv_aload_n hx hb dW_doNextAct_136 rfl (lv_at hl 3 rfl) ?_
        refine mp_gW cx hE hP iW 0 rfl 10 (by decide) wq_66 rfl (v := .ref (ad 7)) rfl dW_doNextAct_137 ?_
        refine lv_iload_n hx hb dW_doNextAct_140 rfl (lv_at hl 4 rfl) ?_
        refine lv_dup2_11 hx hb dW_doNextAct_141 rfl rfl ?_
        obtain ⟨hi, x10, ex10, h⟩ := mp_lds h
        refine va_iald hx hb hE.1 hP 7 0 (f := x9.2.2.2.2.2.2.2.2.2.2.1) (n := 12) rfl rfl hi dW_doNextAct_142 ?_
        refine mp_top ex10 ?_
        refine lv_iconst (v := 1) hx hb dW_doNextAct_143 (by decide) ?_
        refine lv_iadd hx hb dW_doNextAct_144 ?_
        obtain ⟨hi, h⟩ := mp_sts h
        refine va_iast hx hb hE.1 hP hD hS 7 0 (f := x9.2.2.2.2.2.2.2.2.2.2.1) (n := 12) rfl rfl hi dW_doNextAct_145 (fun H locs hP hD hS => ?_)
        have hP : va_P (kD k) mp_cls (cW k ad (x9.1, x9.2.1, x9.2.2.1, x9.2.2.2.1, x9.2.2.2.2.1, x9.2.2.2.2.2.1, x9.2.2.2.2.2.2.1, x9.2.2.2.2.2.2.2.1, x9.2.2.2.2.2.2.2.2.1, x9.2.2.2.2.2.2.2.2.2.1, (upd x9.2.2.2.2.2.2.2.2.2.2.1 (Int32.toNatClampNeg a1) (x10 + 1)), x9.2.2.2.2.2.2.2.2.2.2.2)) H := hP
        have hD : va_D (mp_A (aW ad)) (cW k ad (x9.1, x9.2.1, x9.2.2.1, x9.2.2.2.1, x9.2.2.2.2.1, x9.2.2.2.2.2.1, x9.2.2.2.2.2.2.1, x9.2.2.2.2.2.2.2.1, x9.2.2.2.2.2.2.2.2.1, x9.2.2.2.2.2.2.2.2.2.1, (upd x9.2.2.2.2.2.2.2.2.2.2.1 (Int32.toNatClampNeg a1) (x10 + 1)), x9.2.2.2.2.2.2.2.2.2.2.2)) := hD
        refine lv_iload_n hx hb dW_doNextAct_146 rfl (lv_at hl 1 rfl) ?_
        exact mp_rim (cf := cW k ad) cx h hP hS dW_doNextAct_147
      have h := mp_f c8 h
      by_cases c11 : (x6 / 10) = 2
      · have h := mp_t c11 h
        refine lv_tableIn (off := 39) (tgt := 86) hx hb dW_doNextAct_47 (by rw [c11]; decide) (by rw [c11]; decide) (by rw [c11]; rfl) (by decide) ?_
        refine lv_aload_n hx hb dW_doNextAct_86 rfl (lv_at hl 3 rfl) ?_
        refine lv_iload hx hb dW_doNextAct_87 (lv_at hl 0 rfl) ?_
        refine lv_aload_n hx hb dW_doNextAct_89 rfl (lv_at hl 3 rfl) ?_
        refine lv_iload_n hx hb dW_doNextAct_90 rfl (lv_at hl 2 rfl) ?_
        obtain ⟨x12, ex12, h⟩ := mp_bs h
        refine mp_si (mp_runV (As := [.int x1]) (rest := [.int x7, .ref (ad 0)]) cx kV_W_63 (cW_placeAround l k ad w x1 x12 ex12) ⟨rfl, rfl, Nat.le_of_ble_eq_true rfl, Nat.le_of_ble_eq_true rfl⟩ ⟨Nat.zero_le _, Nat.zero_le _⟩ hE hP (mp_Dw hD hAN) (mp_S hS hAN) 0 rfl rfl rfl hl.1 rfl (Nat.le_of_ble_eq_true rfl) dW_doNextAct_91) ?_
        obtain ⟨x13, ex13, h⟩ := mp_bs h
        refine mp_mv (mp_runV (As := [.int x7, .int x12]) (rest := []) cx kV_W_115 (cW_putInto l k ad w x7 x12 x13 ex13) ⟨rfl, rfl, Nat.le_of_ble_eq_true rfl, Nat.le_of_ble_eq_true rfl⟩ ⟨Nat.zero_le _, Nat.zero_le _⟩ hE hP (mp_Dw hD hAN) (mp_S hS hAN) 0 rfl rfl rfl hl.1 rfl (Nat.le_of_ble_eq_true rfl) dW_doNextAct_94) hS (fun _ h9 => h9) (fun H locs hP hk hS => ?_)
        have hD : va_D (mp_A (aW ad)) (cW k ad x13) := mp_Ds hD rfl
        refine lv_goto (tgt := 136) hx hb dW_doNextAct_97 (by decide) ?_
        refine lv_aload_n hx hb dW_doNextAct_136 rfl (lv_at hl 3 rfl) ?_
        refine mp_gW cx hE hP iW 0 rfl 10 (by decide) wq_66 rfl (v := .ref (ad 7)) rfl dW_doNextAct_137 ?_
        refine lv_iload_n hx hb dW_doNextAct_140 rfl (lv_at hl 4 rfl) ?_
        refine lv_dup2_11 hx hb dW_doNextAct_141 rfl rfl ?_
        obtain ⟨hi, x14, ex14, h⟩ := mp_lds h
        refine va_iald hx hb hE.1 hP 7 0 (f := x13.2.2.2.2.2.2.2.2.2.2.1) (n := 12) rfl rfl hi dW_doNextAct_142 ?_
        refine mp_top ex14 ?_
        refine lv_iconst (v := 1) hx hb dW_doNextAct_143 (by decide) ?_
        refine lv_iadd hx hb dW_doNextAct_144 ?_
        obtain ⟨hi, h⟩ := mp_sts h
        refine va_iast hx hb hE.1 hP hD hS 7 0 (f := x13.2.2.2.2.2.2.2.2.2.2.1) (n := 12) rfl rfl hi dW_doNextAct_145 (fun H locs hP hD hS => ?_)
        have hP : va_P (kD k) mp_cls (cW k ad (x13.1, x13.2.1, x13.2.2.1, x13.2.2.2.1, x13.2.2.2.2.1, x13.2.2.2.2.2.1, x13.2.2.2.2.2.2.1, x13.2.2.2.2.2.2.2.1, x13.2.2.2.2.2.2.2.2.1, x13.2.2.2.2.2.2.2.2.2.1, (upd x13.2.2.2.2.2.2.2.2.2.2.1 (Int32.toNatClampNeg a1) (x14 + 1)), x13.2.2.2.2.2.2.2.2.2.2.2)) H := hP
        have hD : va_D (mp_A (aW ad)) (cW k ad (x13.1, x13.2.1, x13.2.2.1, x13.2.2.2.1, x13.2.2.2.2.1, x13.2.2.2.2.2.1, x13.2.2.2.2.2.2.1, x13.2.2.2.2.2.2.2.1, x13.2.2.2.2.2.2.2.2.1, x13.2.2.2.2.2.2.2.2.2.1, (upd x13.2.2.2.2.2.2.2.2.2.2.1 (Int32.toNatClampNeg a1) (x14 + 1)), x13.2.2.2.2.2.2.2.2.2.2.2)) := hD
        refine lv_iload_n hx hb dW_doNextAct_146 rfl (lv_at hl 1 rfl) ?_
        exact mp_rim (cf := cW k ad) cx h hP hS dW_doNextAct_147
      have h := mp_f c11 h
      by_cases c15 : (x6 / 10) = 3
      · have h := mp_t c15 h
        refine lv_tableIn (off := 53) (tgt := 100) hx hb dW_doNextAct_47 (by rw [c15]; decide) (by rw [c15]; decide) (by rw [c15]; rfl) (by decide) ?_
        refine lv_aload_n hx hb dW_doNextAct_100 rfl (lv_at hl 3 rfl) ?_
        refine lv_iload_n hx hb dW_doNextAct_101 rfl (lv_at hl 2 rfl) ?_
        refine lv_iload hx hb dW_doNextAct_102 (lv_at hl 0 rfl) ?_
        obtain ⟨x16, ex16, h⟩ := mp_bs h
        refine mp_mv (mp_runV (As := [.int x1, .int x7]) (rest := []) cx kV_W_119 (cW_dissolve l k ad w x1 x7 x16 ex16) ⟨rfl, rfl, Nat.le_of_ble_eq_true rfl, Nat.le_of_ble_eq_true rfl⟩ ⟨Nat.zero_le _, Nat.zero_le _⟩ hE hP (mp_Dw hD hAN) (mp_S hS hAN) 0 rfl rfl rfl hl.1 rfl (Nat.le_of_ble_eq_true rfl) dW_doNextAct_104) hS (fun _ h9 => h9) (fun H locs hP hk hS => ?_)
        have hD : va_D (mp_A (aW ad)) (cW k ad x16) := mp_Ds hD rfl
        refine lv_goto (tgt := 136) hx hb dW_doNextAct_107 (by decide) ?_
        refine lv_aload_n hx hb dW_doNextAct_136 rfl (lv_at hl 3 rfl) ?_
        refine mp_gW cx hE hP iW 0 rfl 10 (by decide) wq_66 rfl (v := .ref (ad 7)) rfl dW_doNextAct_137 ?_
        refine lv_iload_n hx hb dW_doNextAct_140 rfl (lv_at hl 4 rfl) ?_
        refine lv_dup2_11 hx hb dW_doNextAct_141 rfl rfl ?_
        obtain ⟨hi, x17, ex17, h⟩ := mp_lds h
        refine va_iald hx hb hE.1 hP 7 0 (f := x16.2.2.2.2.2.2.2.2.2.2.1) (n := 12) rfl rfl hi dW_doNextAct_142 ?_
        refine mp_top ex17 ?_
        refine lv_iconst (v := 1) hx hb dW_doNextAct_143 (by decide) ?_
        refine lv_iadd hx hb dW_doNextAct_144 ?_
        obtain ⟨hi, h⟩ := mp_sts h
        refine va_iast hx hb hE.1 hP hD hS 7 0 (f := x16.2.2.2.2.2.2.2.2.2.2.1) (n := 12) rfl rfl hi dW_doNextAct_145 (fun H locs hP hD hS => ?_)
        have hP : va_P (kD k) mp_cls (cW k ad (x16.1, x16.2.1, x16.2.2.1, x16.2.2.2.1, x16.2.2.2.2.1, x16.2.2.2.2.2.1, x16.2.2.2.2.2.2.1, x16.2.2.2.2.2.2.2.1, x16.2.2.2.2.2.2.2.2.1, x16.2.2.2.2.2.2.2.2.2.1, (upd x16.2.2.2.2.2.2.2.2.2.2.1 (Int32.toNatClampNeg a1) (x17 + 1)), x16.2.2.2.2.2.2.2.2.2.2.2)) H := hP
        have hD : va_D (mp_A (aW ad)) (cW k ad (x16.1, x16.2.1, x16.2.2.1, x16.2.2.2.1, x16.2.2.2.2.1, x16.2.2.2.2.2.1, x16.2.2.2.2.2.2.1, x16.2.2.2.2.2.2.2.1, x16.2.2.2.2.2.2.2.2.1, x16.2.2.2.2.2.2.2.2.2.1, (upd x16.2.2.2.2.2.2.2.2.2.2.1 (Int32.toNatClampNeg a1) (x17 + 1)), x16.2.2.2.2.2.2.2.2.2.2.2)) := hD
        refine lv_iload_n hx hb dW_doNextAct_146 rfl (lv_at hl 1 rfl) ?_
        exact mp_rim (cf := cW k ad) cx h hP hS dW_doNextAct_147
      have h := mp_f c15 h
      by_cases c18 : (x6 / 10) = 4
      · have h := mp_t c18 h
        refine lv_tableIn (off := 63) (tgt := 110) hx hb dW_doNextAct_47 (by rw [c18]; decide) (by rw [c18]; decide) (by rw [c18]; rfl) (by decide) ?_
        refine lv_aload_n hx hb dW_doNextAct_110 rfl (lv_at hl 3 rfl) ?_
        refine lv_iload hx hb dW_doNextAct_111 (lv_at hl 0 rfl) ?_
        refine lv_iload_n hx hb dW_doNextAct_113 rfl (lv_at hl 2 rfl) ?_
        refine lv_iconst (v := 1) hx hb dW_doNextAct_114 (by decide) ?_
        obtain ⟨x19, ex19, h⟩ := mp_bs h
        refine mp_mv (mp_runV (As := [.int x7, .int x1, .int 1]) (rest := []) cx kV_W_122 (cW_addMessages l k ad w x7 x1 1 x19 ex19) ⟨rfl, rfl, Nat.le_of_ble_eq_true rfl, Nat.le_of_ble_eq_true rfl⟩ ⟨Nat.zero_le _, Nat.zero_le _⟩ hE hP (mp_Dw hD hAN) (mp_S hS hAN) 0 rfl rfl rfl hl.1 rfl (Nat.le_of_ble_eq_true rfl) dW_doNextAct_115) hS (fun _ h9 => h9) (fun H locs hP hk hS => ?_)
        have hD : va_D (mp_A (aW ad)) (cW k ad x19) := mp_Ds hD rfl
        refine lv_goto (tgt := 136) hx hb dW_doNextAct_118 (by decide) ?_
        refine lv_aload_n hx hb dW_doNextAct_136 rfl (lv_at hl 3 rfl) ?_
        refine mp_gW cx hE hP iW 0 rfl 10 (by decide) wq_66 rfl (v := .ref (ad 7)) rfl dW_doNextAct_137 ?_
        refine lv_iload_n hx hb dW_doNextAct_140 rfl (lv_at hl 4 rfl) ?_
        refine lv_dup2_11 hx hb dW_doNextAct_141 rfl rfl ?_
        obtain ⟨hi, x20, ex20, h⟩ := mp_lds h
        refine va_iald hx hb hE.1 hP 7 0 (f := x19.2.2.2.2.2.2.2.2.2.2.1) (n := 12) rfl rfl hi dW_doNextAct_142 ?_
        refine mp_top ex20 ?_
        refine lv_iconst (v := 1) hx hb dW_doNextAct_143 (by decide) ?_
        refine lv_iadd hx hb dW_doNextAct_144 ?_
        obtain ⟨hi, h⟩ := mp_sts h
        refine va_iast hx hb hE.1 hP hD hS 7 0 (f := x19.2.2.2.2.2.2.2.2.2.2.1) (n := 12) rfl rfl hi dW_doNextAct_145 (fun H locs hP hD hS => ?_)
        have hP : va_P (kD k) mp_cls (cW k ad (x19.1, x19.2.1, x19.2.2.1, x19.2.2.2.1, x19.2.2.2.2.1, x19.2.2.2.2.2.1, x19.2.2.2.2.2.2.1, x19.2.2.2.2.2.2.2.1, x19.2.2.2.2.2.2.2.2.1, x19.2.2.2.2.2.2.2.2.2.1, (upd x19.2.2.2.2.2.2.2.2.2.2.1 (Int32.toNatClampNeg a1) (x20 + 1)), x19.2.2.2.2.2.2.2.2.2.2.2)) H := hP
        have hD : va_D (mp_A (aW ad)) (cW k ad (x19.1, x19.2.1, x19.2.2.1, x19.2.2.2.1, x19.2.2.2.2.1, x19.2.2.2.2.2.1, x19.2.2.2.2.2.2.1, x19.2.2.2.2.2.2.2.1, x19.2.2.2.2.2.2.2.2.1, x19.2.2.2.2.2.2.2.2.2.1, (upd x19.2.2.2.2.2.2.2.2.2.2.1 (Int32.toNatClampNeg a1) (x20 + 1)), x19.2.2.2.2.2.2.2.2.2.2.2)) := hD
        refine lv_iload_n hx hb dW_doNextAct_146 rfl (lv_at hl 1 rfl) ?_
        exact mp_rim (cf := cW k ad) cx h hP hS dW_doNextAct_147
      have h := mp_f c18 h
      have qc8 : ((x6 / 10)).toInt ≠ 1 := mp_ne c8
      have qc11 : ((x6 / 10)).toInt ≠ 2 := mp_ne c11
      have qc15 : ((x6 / 10)).toInt ≠ 3 := mp_ne c15
      have qc18 : ((x6 / 10)).toInt ≠ 4 := mp_ne c18
      refine lv_tableOut (tgt := 121) hx hb dW_doNextAct_47 (by omega) (by decide) ?_
      refine lv_aload_n hx hb dW_doNextAct_121 rfl (lv_at hl 3 rfl) ?_
      refine lv_iload hx hb dW_doNextAct_122 (lv_at hl 0 rfl) ?_
      refine lv_iload_n hx hb dW_doNextAct_124 rfl (lv_at hl 2 rfl) ?_
      refine lv_iconst (v := (-1)) hx hb dW_doNextAct_125 (by decide) ?_
      obtain ⟨x21, ex21, h⟩ := mp_bs h
      refine mp_mv (mp_runV (As := [.int x7, .int x1, .int (-1)]) (rest := []) cx kV_W_122 (cW_addMessages l k ad w x7 x1 (-1) x21 ex21) ⟨rfl, rfl, Nat.le_of_ble_eq_true rfl, Nat.le_of_ble_eq_true rfl⟩ ⟨Nat.zero_le _, Nat.zero_le _⟩ hE hP (mp_Dw hD hAN) (mp_S hS hAN) 0 rfl rfl rfl hl.1 rfl (Nat.le_of_ble_eq_true rfl) dW_doNextAct_126) hS (fun _ h9 => h9) (fun H locs hP hk hS => ?_)
      have hD : va_D (mp_A (aW ad)) (cW k ad x21) := mp_Ds hD rfl
      refine lv_aload_n hx hb dW_doNextAct_129 rfl (lv_at hl 3 rfl) ?_
      refine mp_gW cx hE hP iW 0 rfl 11 (by decide) wq_67 rfl (v := .ref (ad 8)) rfl dW_doNextAct_130 ?_
      refine lv_iload_n hx hb dW_doNextAct_133 rfl (lv_at hl 4 rfl) ?_
      refine lv_iload_n hx hb dW_doNextAct_134 rfl (lv_at hl 2 rfl) ?_
      obtain ⟨hi, h⟩ := mp_sts h
      refine va_iast hx hb hE.1 hP hD hS 8 0 (f := x21.2.2.2.2.2.2.2.2.2.2.2) (n := 12) rfl rfl hi dW_doNextAct_135 (fun H locs hP hD hS => ?_)
      have hP : va_P (kD k) mp_cls (cW k ad (x21.1, x21.2.1, x21.2.2.1, x21.2.2.2.1, x21.2.2.2.2.1, x21.2.2.2.2.2.1, x21.2.2.2.2.2.2.1, x21.2.2.2.2.2.2.2.1, x21.2.2.2.2.2.2.2.2.1, x21.2.2.2.2.2.2.2.2.2.1, x21.2.2.2.2.2.2.2.2.2.2.1, (upd x21.2.2.2.2.2.2.2.2.2.2.2 (Int32.toNatClampNeg a1) x1))) H := hP
      have hD : va_D (mp_A (aW ad)) (cW k ad (x21.1, x21.2.1, x21.2.2.1, x21.2.2.2.1, x21.2.2.2.2.1, x21.2.2.2.2.2.1, x21.2.2.2.2.2.2.1, x21.2.2.2.2.2.2.2.1, x21.2.2.2.2.2.2.2.2.1, x21.2.2.2.2.2.2.2.2.2.1, x21.2.2.2.2.2.2.2.2.2.2.1, (upd x21.2.2.2.2.2.2.2.2.2.2.2 (Int32.toNatClampNeg a1) x1))) := hD
      refine lv_aload_n hx hb dW_doNextAct_136 rfl (lv_at hl 3 rfl) ?_
      refine mp_gW cx hE hP iW 0 rfl 10 (by decide) wq_66 rfl (v := .ref (ad 7)) rfl dW_doNextAct_137 ?_
      refine lv_iload_n hx hb dW_doNextAct_140 rfl (lv_at hl 4 rfl) ?_
      refine lv_dup2_11 hx hb dW_doNextAct_141 rfl rfl ?_
      obtain ⟨hi, x22, ex22, h⟩ := mp_lds h
      refine va_iald hx hb hE.1 hP 7 0 (f := x21.2.2.2.2.2.2.2.2.2.2.1) (n := 12) rfl rfl hi dW_doNextAct_142 ?_
      refine mp_top ex22 ?_
      refine lv_iconst (v := 1) hx hb dW_doNextAct_143 (by decide) ?_
      refine lv_iadd hx hb dW_doNextAct_144 ?_
      obtain ⟨hi, h⟩ := mp_sts h
      refine va_iast hx hb hE.1 hP hD hS 7 0 (f := x21.2.2.2.2.2.2.2.2.2.2.1) (n := 12) rfl rfl hi dW_doNextAct_145 (fun H locs hP hD hS => ?_)
      have hP : va_P (kD k) mp_cls (cW k ad (x21.1, x21.2.1, x21.2.2.1, x21.2.2.2.1, x21.2.2.2.2.1, x21.2.2.2.2.2.1, x21.2.2.2.2.2.2.1, x21.2.2.2.2.2.2.2.1, x21.2.2.2.2.2.2.2.2.1, x21.2.2.2.2.2.2.2.2.2.1, (upd x21.2.2.2.2.2.2.2.2.2.2.1 (Int32.toNatClampNeg a1) (x22 + 1)), (upd x21.2.2.2.2.2.2.2.2.2.2.2 (Int32.toNatClampNeg a1) x1))) H := hP
      have hD : va_D (mp_A (aW ad)) (cW k ad (x21.1, x21.2.1, x21.2.2.1, x21.2.2.2.1, x21.2.2.2.2.1, x21.2.2.2.2.2.1, x21.2.2.2.2.2.2.1, x21.2.2.2.2.2.2.2.1, x21.2.2.2.2.2.2.2.2.1, x21.2.2.2.2.2.2.2.2.2.1, (upd x21.2.2.2.2.2.2.2.2.2.2.1 (Int32.toNatClampNeg a1) (x22 + 1)), (upd x21.2.2.2.2.2.2.2.2.2.2.2 (Int32.toNatClampNeg a1) x1))) := hD
      refine lv_iload_n hx hb dW_doNextAct_146 rfl (lv_at hl 1 rfl) ?_
      exact mp_rim (cf := cW k ad) cx h hP hS dW_doNextAct_147
    · have h := mp_t c4 h
      refine lv_bipush (v := (-9)) hx hb dW_doNextAct_20 (by decide) ?_
      exact mp_rim (cf := cW k ad) cx h hP hS dW_doNextAct_22
theorem cW_doNextAct (l : Launch) (k : KK) (ad : Nat → Nat) (w : SW) (a1 : Int32) (z : (Int32 × SW)) (h : fW_doNextAct w a1 = some z) : mp_CM l k yW_doNextAct bW_doNextAct 5 (some .int) rmW_doNextAct [.ref (ad 0), .int a1] (cW k ad w) (cW k ad z.2) (aW ad) (some (.int z.1)) := by
  refine Met.ofW (cc := bW_doNextAct) (maxL := 5) (ret := (some .int)) (by decide) rfl ?_
  intro p e s m args below meth c s₁ B hml hv
  obtain ⟨rfl, hP, hD, hE⟩ := hv
  have hl := lv_entry ([.ref (ad 0), .int a1]) (n := 5) (Nat.le_of_ble_eq_true rfl)
  rw [lg_entry_eq]
  generalize (lg_sl ([.ref (ad 0), .int a1]) ++ List.replicate (5 - (lg_sl ([.ref (ad 0), .int a1])).length) Slot.unset).toArray = ls at hl ⊢
  exact wW_doNextAct (mp_C.of B hml) k ad w a1 z hE (mp_new hD rfl) hP (mp_own hD rfl) va_S.rf h ls hl
-- MovingPlaces$World.doRound
abbrev rmW_doRound : Room := { frames := 5, cells := 0, slots := 0, locals := 113 }
def fW_doRound_4  : Nat → SW → Int32 → Int32 → Option (Int32 × SW)
  | 0, _, _, _ => none
  | n + 1, w, a1, a2 => (if w.2.2.2.2.2.2.1 ≤ a2 then some (a1, w) else (fW_doNextAct w a2).bind fun x2 => (if x2.1 = (-9) then fW_doRound_4  n x2.2 a1 (a2 + 1) else fW_doRound_4  n x2.2 (a1 + 1) (a2 + 1)))
theorem fW_doRound_4_s (n : Nat) (w : SW) (a1 : Int32) (a2 : Int32) : fW_doRound_4  (n + 1) w a1 a2 = (if w.2.2.2.2.2.2.1 ≤ a2 then some (a1, w) else (fW_doNextAct w a2).bind fun x2 => (if x2.1 = (-9) then fW_doRound_4  n x2.2 a1 (a2 + 1) else fW_doRound_4  n x2.2 (a1 + 1) (a2 + 1))) := rfl
set_option maxHeartbeats 4000000 in
set_option maxRecDepth 100000 in
theorem lW_doRound_4 {p : Program} {l : Launch} {e : Env} {s : State} {m : MethodId} {args : Array Value} {below : List Frame} {meth : Method} {c : Code} (cx : mp_C p s m args meth c bW_doRound 3 (some .int) rW) (k : KK) (ad : Nat → Nat)  (z : (Int32 × SW)) (hE : mp_E k s) (hAN : ∀ q, mp_A (aW ad) q → mp_N k q) : ∀ (n : Nat) (w : SW) (a1 : Int32) (a2 : Int32), fW_doRound_4  n w a1 a2 = some z → ∀ (H : Heap) (locs : List Loc), va_P (kD k) mp_cls (cW k ad w) H → va_D (mp_A (aW ad)) (cW k ad w) → va_S (mp_A (aW ad)) s.heap H locs → ∀ (ls : Array Slot), lv_has ls 3 [(0, .ref (ad 0)), (1, .int a1), (2, .int a2)] → W p l e rmW_doRound s m args below meth c H locs 0 0 (MQ below (mp_Qm k (some (.int z.1)) (cW k ad z.2) (aW ad)) args s 0 0 (mp_A (aW ad))) (F0 m 4 ls []) := by
  obtain ⟨hx, hb, -, hml, hown, hts, -⟩ := id cx
  intro n
  induction n with
  | zero =>
    intro w a1 a2 h
    have h : (none : Option (Int32 × SW)) = some z := h
    cases h
  | succ n ih =>
    intro w a1 a2 h H locs hP hD hS ls hl
    rw [fW_doRound_4_s] at h
    refine lv_iload_n hx hb dW_doRound_4 rfl (lv_at hl 2 rfl) ?_
    refine lv_aload_n hx hb dW_doRound_5 rfl (lv_at hl 0 rfl) ?_
    refine mp_gW cx hE hP iW 0 rfl 6 (by decide) wq_62 rfl (v := .int w.2.2.2.2.2.2.1) rfl dW_doRound_6 ?_
    refine lv_icmp_ge (tgt := 31) hx hb dW_doRound_9 (by decide) (fun c1 => ?_) (fun c1 => ?_)
    · have h := mp_t c1 h
      refine lv_iload_n hx hb dW_doRound_31 rfl (lv_at hl 1 rfl) ?_
      exact mp_rim (cf := cW k ad) cx h hP hS dW_doRound_32
    · have h := mp_f c1 h
      refine lv_aload_n hx hb dW_doRound_12 rfl (lv_at hl 0 rfl) ?_
      refine lv_iload_n hx hb dW_doRound_13 rfl (lv_at hl 2 rfl) ?_
      obtain ⟨x2, ex2, h⟩ := mp_bs h
      refine mp_mi (mp_runV (As := [.int a2]) (rest := []) cx kV_W_126 (cW_doNextAct l k ad w a2 x2 ex2) ⟨rfl, rfl, Nat.le_of_ble_eq_true rfl, Nat.le_of_ble_eq_true rfl⟩ ⟨Nat.zero_le _, Nat.zero_le _⟩ hE hP (mp_Dw hD hAN) (mp_S hS hAN) 0 rfl rfl rfl hl.1 rfl (Nat.le_of_ble_eq_true rfl) dW_doRound_14) hS (fun _ h9 => h9) (fun H locs hP hk hS => ?_)
      have hD : va_D (mp_A (aW ad)) (cW k ad x2.2) := mp_Ds hD rfl
      refine lv_bipush (v := (-9)) hx hb dW_doRound_17 (by decide) ?_
      refine lv_icmp_eq (tgt := 25) hx hb dW_doRound_19 (by decide) (fun c3 => ?_) (fun c3 => ?_)
      · have h := mp_t c3 h
        refine lv_iinc (v := (a2 + 1)) (lv' := [(2, .int (a2 + 1)), (0, .ref (ad 0)), (1, .int a1)]) hx hb dW_doRound_25 hl (k := 2) rfl rfl (by decide) rfl (fun ls hl => ?_)
        refine lv_goto (tgt := 4) hx hb dW_doRound_28 (by decide) ?_
        exact ih x2.2 a1 (a2 + 1) h _ _ hP hD hS ls (lv_sub hl [1, 2, 0] rfl)
      · have h := mp_f c3 h
        refine lv_iinc (v := (a1 + 1)) (lv' := [(1, .int (a1 + 1)), (0, .ref (ad 0)), (2, .int a2)]) hx hb dW_doRound_22 hl (k := 1) rfl rfl (by decide) rfl (fun ls hl => ?_)
        refine lv_iinc (v := (a2 + 1)) (lv' := [(2, .int (a2 + 1)), (1, .int (a1 + 1)), (0, .ref (ad 0))]) hx hb dW_doRound_25 hl (k := 2) rfl rfl (by decide) rfl (fun ls hl => ?_)
        refine lv_goto (tgt := 4) hx hb dW_doRound_28 (by decide) ?_
        exact ih x2.2 (a1 + 1) (a2 + 1) h _ _ hP hD hS ls (lv_sub hl [2, 1, 0] rfl)
def fW_doRound (w : SW) : Option (Int32 × SW) := fW_doRound_4  2000 w 0 0
set_option maxHeartbeats 4000000 in
set_option maxRecDepth 100000 in
theorem wW_doRound {p : Program} {l : Launch} {e : Env} {s : State} {m : MethodId} {args : Array Value} {below : List Frame} {meth : Method} {c : Code} (cx : mp_C p s m args meth c bW_doRound 3 (some .int) rW) (k : KK) (ad : Nat → Nat) (w : SW) (z : (Int32 × SW)) (hE : mp_E k s) (hAN : ∀ q, mp_A (aW ad) q → mp_N k q) {H : Heap} {locs : List Loc} (hP : va_P (kD k) mp_cls (cW k ad w) H) (hD : va_D (mp_A (aW ad)) (cW k ad w)) (hS : va_S (mp_A (aW ad)) s.heap H locs) (h : fW_doRound w = some z) (ls : Array Slot) (hl : lv_has ls 3 [(0, .ref (ad 0))]) : W p l e rmW_doRound s m args below meth c H locs 0 0 (MQ below (mp_Qm k (some (.int z.1)) (cW k ad z.2) (aW ad)) args s 0 0 (mp_A (aW ad))) (F0 m 0 ls []) := by
  obtain ⟨hx, hb, -, hml, hown, hts, -⟩ := id cx
  unfold fW_doRound at h
  refine lv_iconst (v := 0) hx hb dW_doRound_0 (by decide) ?_
  refine lv_istore_n (lv' := [(1, .int 0), (0, .ref (ad 0))]) hx hb dW_doRound_1 rfl hl (by decide) rfl (fun ls hl => ?_)
  refine lv_iconst (v := 0) hx hb dW_doRound_2 (by decide) ?_
  refine lv_istore_n (lv' := [(2, .int 0), (1, .int 0), (0, .ref (ad 0))]) hx hb dW_doRound_3 rfl hl (by decide) rfl (fun ls hl => ?_)
  exact lW_doRound_4 cx k ad  z hE hAN _ w 0 0 h _ _ hP hD hS ls (lv_sub hl [2, 1, 0] rfl)
theorem cW_doRound (l : Launch) (k : KK) (ad : Nat → Nat) (w : SW) (z : (Int32 × SW)) (h : fW_doRound w = some z) : mp_CM l k yW_doRound bW_doRound 3 (some .int) rmW_doRound [.ref (ad 0)] (cW k ad w) (cW k ad z.2) (aW ad) (some (.int z.1)) := by
  refine Met.ofW (cc := bW_doRound) (maxL := 3) (ret := (some .int)) (by decide) rfl ?_
  intro p e s m args below meth c s₁ B hml hv
  obtain ⟨rfl, hP, hD, hE⟩ := hv
  have hl := lv_entry ([.ref (ad 0)]) (n := 3) (Nat.le_of_ble_eq_true rfl)
  rw [lg_entry_eq]
  generalize (lg_sl ([.ref (ad 0)]) ++ List.replicate (3 - (lg_sl ([.ref (ad 0)])).length) Slot.unset).toArray = ls at hl ⊢
  exact wW_doRound (mp_C.of B hml) k ad w z hE (mp_new hD rfl) hP (mp_own hD rfl) va_S.rf h ls hl
-- MovingPlaces$World.hasMessageAnywhere
abbrev rmW_hasMessageAnywhere : Room := { frames := 2, cells := 0, slots := 0, locals := 43 }
def fW_hasMessageAnywhere_2 (w : SW) (a1 : Int32) : Nat → Int32 → Option Int32
  | 0, _ => none
  | n + 1, a2 => (if w.1 ≤ a2 then some 0 else (fW_messagesOf w a2 a1).bind fun x2 => (if x2 ≤ 0 then fW_hasMessageAnywhere_2 w a1 n (a2 + 1) else some 1))
theorem fW_hasMessageAnywhere_2_s (w : SW) (a1 : Int32) (n : Nat) (a2 : Int32) : fW_hasMessageAnywhere_2 w a1 (n + 1) a2 = (if w.1 ≤ a2 then some 0 else (fW_messagesOf w a2 a1).bind fun x2 => (if x2 ≤ 0 then fW_hasMessageAnywhere_2 w a1 n (a2 + 1) else some 1)) := rfl
set_option maxHeartbeats 4000000 in
set_option maxRecDepth 100000 in
theorem lW_hasMessageAnywhere_2 {p : Program} {l : Launch} {e : Env} {s : State} {m : MethodId} {args : Array Value} {below : List Frame} {meth : Method} {c : Code} (cx : mp_C p s m args meth c bW_hasMessageAnywhere 3 (some .boolean) rW) (k : KK) (ad : Nat → Nat) (w : SW) (a1 : Int32) (z : Int32) (hE : mp_E k s) (hP : va_P (kD k) mp_cls (cW k ad w) s.heap) (hD : va_D (mp_N k) (cW k ad w)) : ∀ (n : Nat) (a2 : Int32), fW_hasMessageAnywhere_2 w a1 n a2 = some z → ∀ (ls : Array Slot), lv_has ls 3 [(0, .ref (ad 0)), (1, .int a1), (2, .int a2)] → W p l e rmW_hasMessageAnywhere s m args below meth c s.heap [] 0 0 (MQ below (mp_Qs (some (.int z))) args s 0 0 (fun _ => False)) (F0 m 2 ls []) := by
  obtain ⟨hx, hb, -, hml, hown, hts, -⟩ := id cx
  intro n
  induction n with
  | zero =>
    intro a2 h
    have h : (none : Option Int32) = some z := h
    cases h
  | succ n ih =>
    intro a2 h ls hl
    rw [fW_hasMessageAnywhere_2_s] at h
    refine lv_iload_n hx hb dW_hasMessageAnywhere_2 rfl (lv_at hl 2 rfl) ?_
    refine lv_aload_n hx hb dW_hasMessageAnywhere_3 rfl (lv_at hl 0 rfl) ?_
    refine mp_gW cx hE hP iW 0 rfl 0 (by decide) wq_56 rfl (v := .int w.1) rfl dW_hasMessageAnywhere_4 ?_
    refine lv_icmp_ge (tgt := 27) hx hb dW_hasMessageAnywhere_7 (by decide) (fun c1 => ?_) (fun c1 => ?_)
    · have h := mp_t c1 h
      refine lv_iconst (v := 0) hx hb dW_hasMessageAnywhere_27 (by decide) ?_
      exact mp_rz cx rfl h dW_hasMessageAnywhere_28
    · have h := mp_f c1 h
      refine lv_aload_n hx hb dW_hasMessageAnywhere_10 rfl (lv_at hl 0 rfl) ?_
      refine lv_iload_n hx hb dW_hasMessageAnywhere_11 rfl (lv_at hl 2 rfl) ?_
      refine lv_iload_n hx hb dW_hasMessageAnywhere_12 rfl (lv_at hl 1 rfl) ?_
      obtain ⟨x2, ex2, h⟩ := mp_bs h
      refine mp_si (mp_runV (As := [.int a2, .int a1]) (rest := []) cx kV_W_72 (cW_messagesOf l k ad w a2 a1 x2 ex2) ⟨rfl, rfl, Nat.le_of_ble_eq_true rfl, Nat.le_of_ble_eq_true rfl⟩ ⟨Nat.zero_le _, Nat.zero_le _⟩ hE hP hD va_S.rf 0 rfl rfl rfl hl.1 rfl (Nat.le_of_ble_eq_true rfl) dW_hasMessageAnywhere_13) ?_
      refine lv_if_le (tgt := 21) hx hb dW_hasMessageAnywhere_16 (by decide) (fun c3 => ?_) (fun c3 => ?_)
      · have h := mp_t c3 h
        refine lv_iinc (v := (a2 + 1)) (lv' := [(2, .int (a2 + 1)), (0, .ref (ad 0)), (1, .int a1)]) hx hb dW_hasMessageAnywhere_21 hl (k := 2) rfl rfl (by decide) rfl (fun ls hl => ?_)
        refine lv_goto (tgt := 2) hx hb dW_hasMessageAnywhere_24 (by decide) ?_
        exact ih (a2 + 1) h ls (lv_sub hl [1, 2, 0] rfl)
      · have h := mp_f c3 h
        refine lv_iconst (v := 1) hx hb dW_hasMessageAnywhere_19 (by decide) ?_
        exact mp_rz cx rfl h dW_hasMessageAnywhere_20
def fW_hasMessageAnywhere (w : SW) (a1 : Int32) : Option Int32 := fW_hasMessageAnywhere_2 w a1 2000 0
set_option maxHeartbeats 4000000 in
set_option maxRecDepth 100000 in
theorem wW_hasMessageAnywhere {p : Program} {l : Launch} {e : Env} {s : State} {m : MethodId} {args : Array Value} {below : List Frame} {meth : Method} {c : Code} (cx : mp_C p s m args meth c bW_hasMessageAnywhere 3 (some .boolean) rW) (k : KK) (ad : Nat → Nat) (w : SW) (a1 : Int32) (z : Int32) (hE : mp_E k s) (hP : va_P (kD k) mp_cls (cW k ad w) s.heap) (hD : va_D (mp_N k) (cW k ad w)) (h : fW_hasMessageAnywhere w a1 = some z) (ls : Array Slot) (hl : lv_has ls 3 [(0, .ref (ad 0)), (1, .int a1)]) : W p l e rmW_hasMessageAnywhere s m args below meth c s.heap [] 0 0 (MQ below (mp_Qs (some (.int z))) args s 0 0 (fun _ => False)) (F0 m 0 ls []) := by
  obtain ⟨hx, hb, -, hml, hown, hts, -⟩ := id cx
  unfold fW_hasMessageAnywhere at h
  refine lv_iconst (v := 0) hx hb dW_hasMessageAnywhere_0 (by decide) ?_
  refine lv_istore_n (lv' := [(2, .int 0), (0, .ref (ad 0)), (1, .int a1)]) hx hb dW_hasMessageAnywhere_1 rfl hl (by decide) rfl (fun ls hl => ?_)
  exact lW_hasMessageAnywhere_2 cx k ad w a1 z hE hP hD _ 0 h ls (lv_sub hl [1, 2, 0] rfl)
theorem cW_hasMessageAnywhere (l : Launch) (k : KK) (ad : Nat → Nat) (w : SW) (a1 : Int32) (z : Int32) (h : fW_hasMessageAnywhere w a1 = some z) : mp_CS l k yW_hasMessageAnywhere bW_hasMessageAnywhere 3 (some .boolean) rmW_hasMessageAnywhere [.ref (ad 0), .int a1] (cW k ad w) (some (.int z)) := by
  refine Met.ofW (cc := bW_hasMessageAnywhere) (maxL := 3) (ret := (some .boolean)) (by decide) rfl ?_
  intro p e s m args below meth c s₁ B hml hv
  obtain ⟨rfl, hP, hD, hE⟩ := hv
  have hl := lv_entry ([.ref (ad 0), .int a1]) (n := 3) (Nat.le_of_ble_eq_true rfl)
  rw [lg_entry_eq]
  generalize (lg_sl ([.ref (ad 0), .int a1]) ++ List.replicate (3 - (lg_sl ([.ref (ad 0), .int a1])).length) Slot.unset).toArray = ls at hl ⊢
  exact wW_hasMessageAnywhere (mp_C.of B hml) k ad w a1 z hE hP hD h ls hl
-- MovingPlaces$World.namesFromThread
abbrev rmW_namesFromThread : Room := { frames := 3, cells := 0, slots := 0, locals := 65 }
def fW_namesFromThread_29 (w : SW) (a1 : Int32) : Nat → Int32 → Int32 → Option Int32
  | 0, _, _ => none
  | n + 1, a2, a3 => (fW_actsInAll w a1).bind fun x1 => (if x1 ≤ a3 then some a2 else (fW_actOf w a1 a3).bind fun x3 => (if (x3 / 10) = 4 then (fM_isName (x3 - x3 / 10 * 10)).bind fun x5 => (if x5 = 0 then fW_namesFromThread_29 w a1 n a2 (a3 + 1) else mp_lt (a2 ||| (1 <<< ((x3 - x3 / 10 * 10) &&& 31))) fun x7 => fW_namesFromThread_29 w a1 n x7 (a3 + 1)) else fW_namesFromThread_29 w a1 n a2 (a3 + 1)))
theorem fW_namesFromThread_29_s (w : SW) (a1 : Int32) (n : Nat) (a2 : Int32) (a3 : Int32) : fW_namesFromThread_29 w a1 (n + 1) a2 a3 = (fW_actsInAll w a1).bind fun x1 => (if x1 ≤ a3 then some a2 else (fW_actOf w a1 a3).bind fun x3 => (if (x3 / 10) = 4 then (fM_isName (x3 - x3 / 10 * 10)).bind fun x5 => (if x5 = 0 then fW_namesFromThread_29 w a1 n a2 (a3 + 1) else mp_lt (a2 ||| (1 <<< ((x3 - x3 / 10 * 10) &&& 31))) fun x7 => fW_namesFromThread_29 w a1 n x7 (a3 + 1)) else fW_namesFromThread_29 w a1 n a2 (a3 + 1))) := rfl
set_option maxHeartbeats 4000000 in
set_option maxRecDepth 100000 in
theorem lW_namesFromThread_29 {p : Program} {l : Launch} {e : Env} {s : State} {m : MethodId} {args : Array Value} {below : List Frame} {meth : Method} {c : Code} (cx : mp_C p s m args meth c bW_namesFromThread 5 (some .int) rW) (k : KK) (ad : Nat → Nat) (w : SW) (a1 : Int32) (z : Int32) (hE : mp_E k s) (hP : va_P (kD k) mp_cls (cW k ad w) s.heap) (hD : va_D (mp_N k) (cW k ad w)) : ∀ (n : Nat) (a2 : Int32) (a3 : Int32), fW_namesFromThread_29 w a1 n a2 a3 = some z → ∀ (ls : Array Slot), lv_has ls 5 [(0, .ref (ad 0)), (1, .int a1), (2, .int a2), (3, .int a3)] → W p l e rmW_namesFromThread s m args below meth c s.heap [] 0 0 (MQ below (mp_Qs (some (.int z))) args s 0 0 (fun _ => False)) (F0 m 29 ls []) := by
  obtain ⟨hx, hb, -, hml, hown, hts, -⟩ := id cx
  intro n
  induction n with
  | zero =>
    intro a2 a3 h
    have h : (none : Option Int32) = some z := h
    cases h
  | succ n ih =>
    intro a2 a3 h ls hl
    rw [fW_namesFromThread_29_s] at h
    refine lv_iload_n hx hb dW_namesFromThread_29 rfl (lv_at hl 3 rfl) ?_
    refine lv_aload_n hx hb dW_namesFromThread_30 rfl (lv_at hl 0 rfl) ?_
    refine lv_iload_n hx hb dW_namesFromThread_31 rfl (lv_at hl 1 rfl) ?_
    obtain ⟨x1, ex1, h⟩ := mp_bs h
    refine mp_si (mp_runV (As := [.int a1]) (rest := [.int a3]) cx kV_W_82 (cW_actsInAll l k ad w a1 x1 ex1) ⟨rfl, rfl, Nat.le_of_ble_eq_true rfl, Nat.le_of_ble_eq_true rfl⟩ ⟨Nat.zero_le _, Nat.zero_le _⟩ hE hP hD va_S.rf 0 rfl rfl rfl hl.1 rfl (Nat.le_of_ble_eq_true rfl) dW_namesFromThread_32) ?_
    refine lv_icmp_ge (tgt := 82) hx hb dW_namesFromThread_35 (by decide) (fun c2 => ?_) (fun c2 => ?_)
    · have h := mp_t c2 h
      refine lv_iload_n hx hb dW_namesFromThread_82 rfl (lv_at hl 2 rfl) ?_
      exact mp_ri cx h dW_namesFromThread_83
    · have h := mp_f c2 h
      refine lv_aload_n hx hb dW_namesFromThread_38 rfl (lv_at hl 0 rfl) ?_
      refine lv_iload_n hx hb dW_namesFromThread_39 rfl (lv_at hl 1 rfl) ?_
      refine lv_iload_n hx hb dW_namesFromThread_40 rfl (lv_at hl 3 rfl) ?_
      obtain ⟨x3, ex3, h⟩ := mp_bs h
      refine mp_si (mp_runV (As := [.int a1, .int a3]) (rest := []) cx kV_W_96 (cW_actOf l k ad w a1 a3 x3 ex3) ⟨rfl, rfl, Nat.le_of_ble_eq_true rfl, Nat.le_of_ble_eq_true rfl⟩ ⟨Nat.zero_le _, Nat.zero_le _⟩ hE hP hD va_S.rf 0 rfl rfl rfl hl.1 rfl (Nat.le_of_ble_eq_true rfl) dW_namesFromThread_41) ?_
      refine lv_istore (lv' := [(4, .int x3), (0, .ref (ad 0)), (1, .int a1), (2, .int a2), (3, .int a3)]) hx hb dW_namesFromThread_44 hl (by decide) rfl (fun ls hl => ?_)
      refine lv_iload hx hb dW_namesFromThread_46 (lv_at hl 0 rfl) ?_
      refine lv_bipush (v := 10) hx hb dW_namesFromThread_48 (by decide) ?_
      refine lv_idiv hx hb dW_namesFromThread_50 (by decide) ?_
      refine lv_iconst (v := 4) hx hb dW_namesFromThread_51 (by decide) ?_
      refine lv_icmp_ne (tgt := 76) hx hb dW_namesFromThread_52 (by decide) (fun c4 => ?_) (fun c4 => ?_)
      · have h := mp_f c4 h
        refine lv_iinc (v := (a3 + 1)) (lv' := [(3, .int (a3 + 1)), (4, .int x3), (0, .ref (ad 0)), (1, .int a1), (2, .int a2)]) hx hb dW_namesFromThread_76 hl (k := 4) rfl rfl (by decide) rfl (fun ls hl => ?_)
        refine lv_goto (tgt := 29) hx hb dW_namesFromThread_79 (by decide) ?_
        exact ih a2 (a3 + 1) h ls (lv_sub hl [2, 3, 4, 0] rfl)
      · have h := mp_t c4 h
        refine lv_iload hx hb dW_namesFromThread_55 (lv_at hl 0 rfl) ?_
        refine lv_bipush (v := 10) hx hb dW_namesFromThread_57 (by decide) ?_
        refine lv_irem hx hb dW_namesFromThread_59 (by decide) ?_
        obtain ⟨x5, ex5, h⟩ := mp_bs h
        refine mp_si (mp_runN (As := [.int (x3 - x3 / 10 * 10)]) (rest := []) cx hE.2.1 kN_M_isName (cM_isName l k (x3 - x3 / 10 * 10) x5 ex5) ⟨rfl, rfl, Nat.le_of_ble_eq_true rfl, Nat.le_of_ble_eq_true rfl⟩ ⟨Nat.zero_le _, Nat.zero_le _⟩ hE mp_P0 mp_D0 va_S.rf hl.1 rfl (Nat.le_of_ble_eq_true rfl) dW_namesFromThread_60) ?_
        refine lv_if_eq (tgt := 76) hx hb dW_namesFromThread_63 (by decide) (fun c6 => ?_) (fun c6 => ?_)
        · have h := mp_t c6 h
          refine lv_iinc (v := (a3 + 1)) (lv' := [(3, .int (a3 + 1)), (4, .int x3), (0, .ref (ad 0)), (1, .int a1), (2, .int a2)]) hx hb dW_namesFromThread_76 hl (k := 4) rfl rfl (by decide) rfl (fun ls hl => ?_)
          refine lv_goto (tgt := 29) hx hb dW_namesFromThread_79 (by decide) ?_
          exact ih a2 (a3 + 1) h ls (lv_sub hl [2, 3, 4, 0] rfl)
        · have h := mp_f c6 h
          refine lv_iload_n hx hb dW_namesFromThread_66 rfl (lv_at hl 3 rfl) ?_
          refine lv_iconst (v := 1) hx hb dW_namesFromThread_67 (by decide) ?_
          refine lv_iload hx hb dW_namesFromThread_68 (lv_at hl 0 rfl) ?_
          refine lv_bipush (v := 10) hx hb dW_namesFromThread_70 (by decide) ?_
          refine lv_irem hx hb dW_namesFromThread_72 (by decide) ?_
          refine lv_ishl hx hb dW_namesFromThread_73 ?_
          refine lv_ior hx hb dW_namesFromThread_74 ?_
          obtain ⟨x7, ex7, h⟩ := mp_lts h
          refine mp_top ex7 ?_
          refine lv_istore_n (lv' := [(2, .int x7), (4, .int x3), (0, .ref (ad 0)), (1, .int a1), (3, .int a3)]) hx hb dW_namesFromThread_75 rfl hl (by decide) rfl (fun ls hl => ?_)
          refine lv_iinc (v := (a3 + 1)) (lv' := [(3, .int (a3 + 1)), (2, .int x7), (4, .int x3), (0, .ref (ad 0)), (1, .int a1)]) hx hb dW_namesFromThread_76 hl (k := 4) rfl rfl (by decide) rfl (fun ls hl => ?_)
          refine lv_goto (tgt := 29) hx hb dW_namesFromThread_79 (by decide) ?_
          exact ih x7 (a3 + 1) h ls (lv_sub hl [3, 4, 1, 0] rfl)
def fW_namesFromThread (w : SW) (a1 : Int32) : Option Int32 := (fW_heardBy w a1).bind fun x1 => (fM_isName x1).bind fun x2 => (if x2 = 0 then (fW_actsDone w a1).bind fun x4 => fW_namesFromThread_29 w a1 2000 0 x4 else (fW_heardBy w a1).bind fun x5 => (fW_actsDone w a1).bind fun x6 => fW_namesFromThread_29 w a1 2000 (1 <<< (x5 &&& 31)) x6)
set_option maxHeartbeats 4000000 in
set_option maxRecDepth 100000 in
theorem wW_namesFromThread {p : Program} {l : Launch} {e : Env} {s : State} {m : MethodId} {args : Array Value} {below : List Frame} {meth : Method} {c : Code} (cx : mp_C p s m args meth c bW_namesFromThread 5 (some .int) rW) (k : KK) (ad : Nat → Nat) (w : SW) (a1 : Int32) (z : Int32) (hE : mp_E k s) (hP : va_P (kD k) mp_cls (cW k ad w) s.heap) (hD : va_D (mp_N k) (cW k ad w)) (h : fW_namesFromThread w a1 = some z) (ls : Array Slot) (hl : lv_has ls 5 [(0, .ref (ad 0)), (1, .int a1)]) : W p l e rmW_namesFromThread s m args below meth c s.heap [] 0 0 (MQ below (mp_Qs (some (.int z))) args s 0 0 (fun _ => False)) (F0 m 0 ls []) := by
  obtain ⟨hx, hb, -, hml, hown, hts, -⟩ := id cx
  unfold fW_namesFromThread at h
  refine lv_aload_n hx hb dW_namesFromThread_0 rfl (lv_at hl 0 rfl) ?_
  refine lv_iload_n hx hb dW_namesFromThread_1 rfl (lv_at hl 1 rfl) ?_
  obtain ⟨x1, ex1, h⟩ := mp_bs h
  refine mp_si (mp_runV (As := [.int a1]) (rest := []) cx kV_W_135 (cW_heardBy l k ad w a1 x1 ex1) ⟨rfl, rfl, Nat.le_of_ble_eq_true rfl, Nat.le_of_ble_eq_true rfl⟩ ⟨Nat.zero_le _, Nat.zero_le _⟩ hE hP hD va_S.rf 0 rfl rfl rfl hl.1 rfl (Nat.le_of_ble_eq_true rfl) dW_namesFromThread_2) ?_
  obtain ⟨x2, ex2, h⟩ := mp_bs h
  refine mp_si (mp_runN (As := [.int x1]) (rest := []) cx hE.2.1 kN_M_isName (cM_isName l k x1 x2 ex2) ⟨rfl, rfl, Nat.le_of_ble_eq_true rfl, Nat.le_of_ble_eq_true rfl⟩ ⟨Nat.zero_le _, Nat.zero_le _⟩ hE mp_P0 mp_D0 va_S.rf hl.1 rfl (Nat.le_of_ble_eq_true rfl) dW_namesFromThread_5) ?_
  refine lv_if_eq (tgt := 21) hx hb dW_namesFromThread_8 (by decide) (fun c3 => ?_) (fun c3 => ?_)
  · have h := mp_t c3 h
    refine lv_iconst (v := 0) hx hb dW_namesFromThread_21 (by decide) ?_
    refine lv_istore_n (lv' := [(2, .int 0), (0, .ref (ad 0)), (1, .int a1)]) hx hb dW_namesFromThread_22 rfl hl (by decide) rfl (fun ls hl => ?_)
    refine lv_aload_n hx hb dW_namesFromThread_23 rfl (lv_at hl 1 rfl) ?_
    refine lv_iload_n hx hb dW_namesFromThread_24 rfl (lv_at hl 2 rfl) ?_
    obtain ⟨x4, ex4, h⟩ := mp_bs h
    refine mp_si (mp_runV (As := [.int a1]) (rest := []) cx kV_W_79 (cW_actsDone l k ad w a1 x4 ex4) ⟨rfl, rfl, Nat.le_of_ble_eq_true rfl, Nat.le_of_ble_eq_true rfl⟩ ⟨Nat.zero_le _, Nat.zero_le _⟩ hE hP hD va_S.rf 0 rfl rfl rfl hl.1 rfl (Nat.le_of_ble_eq_true rfl) dW_namesFromThread_25) ?_
    refine lv_istore_n (lv' := [(3, .int x4), (2, .int 0), (0, .ref (ad 0)), (1, .int a1)]) hx hb dW_namesFromThread_28 rfl hl (by decide) rfl (fun ls hl => ?_)
    exact lW_namesFromThread_29 cx k ad w a1 z hE hP hD _ 0 x4 h ls (lv_sub hl [2, 3, 1, 0] rfl)
  · have h := mp_f c3 h
    refine lv_iconst (v := 1) hx hb dW_namesFromThread_11 (by decide) ?_
    refine lv_aload_n hx hb dW_namesFromThread_12 rfl (lv_at hl 0 rfl) ?_
    refine lv_iload_n hx hb dW_namesFromThread_13 rfl (lv_at hl 1 rfl) ?_
    obtain ⟨x5, ex5, h⟩ := mp_bs h
    refine mp_si (mp_runV (As := [.int a1]) (rest := [.int 1]) cx kV_W_135 (cW_heardBy l k ad w a1 x5 ex5) ⟨rfl, rfl, Nat.le_of_ble_eq_true rfl, Nat.le_of_ble_eq_true rfl⟩ ⟨Nat.zero_le _, Nat.zero_le _⟩ hE hP hD va_S.rf 0 rfl rfl rfl hl.1 rfl (Nat.le_of_ble_eq_true rfl) dW_namesFromThread_14) ?_
    refine lv_ishl hx hb dW_namesFromThread_17 ?_
    refine lv_goto (tgt := 22) hx hb dW_namesFromThread_18 (by decide) ?_
    refine lv_istore_n (lv' := [(2, .int (1 <<< (x5 &&& 31))), (0, .ref (ad 0)), (1, .int a1)]) hx hb dW_namesFromThread_22 rfl hl (by decide) rfl (fun ls hl => ?_)
    refine lv_aload_n hx hb dW_namesFromThread_23 rfl (lv_at hl 1 rfl) ?_
    refine lv_iload_n hx hb dW_namesFromThread_24 rfl (lv_at hl 2 rfl) ?_
    obtain ⟨x6, ex6, h⟩ := mp_bs h
    refine mp_si (mp_runV (As := [.int a1]) (rest := []) cx kV_W_79 (cW_actsDone l k ad w a1 x6 ex6) ⟨rfl, rfl, Nat.le_of_ble_eq_true rfl, Nat.le_of_ble_eq_true rfl⟩ ⟨Nat.zero_le _, Nat.zero_le _⟩ hE hP hD va_S.rf 0 rfl rfl rfl hl.1 rfl (Nat.le_of_ble_eq_true rfl) dW_namesFromThread_25) ?_
    refine lv_istore_n (lv' := [(3, .int x6), (2, .int (1 <<< (x5 &&& 31))), (0, .ref (ad 0)), (1, .int a1)]) hx hb dW_namesFromThread_28 rfl hl (by decide) rfl (fun ls hl => ?_)
    exact lW_namesFromThread_29 cx k ad w a1 z hE hP hD _ (1 <<< (x5 &&& 31)) x6 h ls (lv_sub hl [2, 3, 1, 0] rfl)
theorem cW_namesFromThread (l : Launch) (k : KK) (ad : Nat → Nat) (w : SW) (a1 : Int32) (z : Int32) (h : fW_namesFromThread w a1 = some z) : mp_CS l k yW_namesFromThread bW_namesFromThread 5 (some .int) rmW_namesFromThread [.ref (ad 0), .int a1] (cW k ad w) (some (.int z)) := by
  refine Met.ofW (cc := bW_namesFromThread) (maxL := 5) (ret := (some .int)) (by decide) rfl ?_
  intro p e s m args below meth c s₁ B hml hv
  obtain ⟨rfl, hP, hD, hE⟩ := hv
  have hl := lv_entry ([.ref (ad 0), .int a1]) (n := 5) (Nat.le_of_ble_eq_true rfl)
  rw [lg_entry_eq]
  generalize (lg_sl ([.ref (ad 0), .int a1]) ++ List.replicate (5 - (lg_sl ([.ref (ad 0), .int a1])).length) Slot.unset).toArray = ls at hl ⊢
  exact wW_namesFromThread (mp_C.of B hml) k ad w a1 z hE hP hD h ls hl
-- MovingPlaces$World.namesThatMayBeSaid
abbrev rmW_namesThatMayBeSaid : Room := { frames := 4, cells := 0, slots := 0, locals := 89 }
def fW_namesThatMayBeSaid_32 (w : SW) : Nat → Int32 → Int32 → Option Int32
  | 0, _, _ => none
  | n + 1, a1, a2 => (if w.2.2.2.2.2.2.1 ≤ a2 then some a1 else (fW_namesFromThread w a2).bind fun x2 => fW_namesThatMayBeSaid_32 w n (a1 ||| x2) (a2 + 1))
theorem fW_namesThatMayBeSaid_32_s (w : SW) (n : Nat) (a1 : Int32) (a2 : Int32) : fW_namesThatMayBeSaid_32 w (n + 1) a1 a2 = (if w.2.2.2.2.2.2.1 ≤ a2 then some a1 else (fW_namesFromThread w a2).bind fun x2 => fW_namesThatMayBeSaid_32 w n (a1 ||| x2) (a2 + 1)) := rfl
set_option maxHeartbeats 4000000 in
set_option maxRecDepth 100000 in
theorem lW_namesThatMayBeSaid_32 {p : Program} {l : Launch} {e : Env} {s : State} {m : MethodId} {args : Array Value} {below : List Frame} {meth : Method} {c : Code} (cx : mp_C p s m args meth c bW_namesThatMayBeSaid 3 (some .int) rW) (k : KK) (ad : Nat → Nat) (w : SW) (z : Int32) (hE : mp_E k s) (hP : va_P (kD k) mp_cls (cW k ad w) s.heap) (hD : va_D (mp_N k) (cW k ad w)) : ∀ (n : Nat) (a1 : Int32) (a2 : Int32), fW_namesThatMayBeSaid_32 w n a1 a2 = some z → ∀ (ls : Array Slot), lv_has ls 3 [(0, .ref (ad 0)), (1, .int a1), (2, .int a2)] → W p l e rmW_namesThatMayBeSaid s m args below meth c s.heap [] 0 0 (MQ below (mp_Qs (some (.int z))) args s 0 0 (fun _ => False)) (F0 m 32 ls []) := by
  obtain ⟨hx, hb, -, hml, hown, hts, -⟩ := id cx
  intro n
  induction n with
  | zero =>
    intro a1 a2 h
    have h : (none : Option Int32) = some z := h
    cases h
  | succ n ih =>
    intro a1 a2 h ls hl
    rw [fW_namesThatMayBeSaid_32_s] at h
    refine lv_iload_n hx hb dW_namesThatMayBeSaid_32 rfl (lv_at hl 2 rfl) ?_
    refine lv_aload_n hx hb dW_namesThatMayBeSaid_33 rfl (lv_at hl 0 rfl) ?_
    refine mp_gW cx hE hP iW 0 rfl 6 (by decide) wq_62 rfl (v := .int w.2.2.2.2.2.2.1) rfl dW_namesThatMayBeSaid_34 ?_
    refine lv_icmp_ge (tgt := 54) hx hb dW_namesThatMayBeSaid_37 (by decide) (fun c1 => ?_) (fun c1 => ?_)
    · have h := mp_t c1 h
      refine lv_iload_n hx hb dW_namesThatMayBeSaid_54 rfl (lv_at hl 1 rfl) ?_
      exact mp_ri cx h dW_namesThatMayBeSaid_55
    · have h := mp_f c1 h
      refine lv_iload_n hx hb dW_namesThatMayBeSaid_40 rfl (lv_at hl 1 rfl) ?_
      refine lv_aload_n hx hb dW_namesThatMayBeSaid_41 rfl (lv_at hl 0 rfl) ?_
      refine lv_iload_n hx hb dW_namesThatMayBeSaid_42 rfl (lv_at hl 2 rfl) ?_
      obtain ⟨x2, ex2, h⟩ := mp_bs h
      refine mp_si (mp_runV (As := [.int a2]) (rest := [.int a1]) cx kV_W_132 (cW_namesFromThread l k ad w a2 x2 ex2) ⟨rfl, rfl, Nat.le_of_ble_eq_true rfl, Nat.le_of_ble_eq_true rfl⟩ ⟨Nat.zero_le _, Nat.zero_le _⟩ hE hP hD va_S.rf 0 rfl rfl rfl hl.1 rfl (Nat.le_of_ble_eq_true rfl) dW_namesThatMayBeSaid_43) ?_
      refine lv_ior hx hb dW_namesThatMayBeSaid_46 ?_
      refine lv_istore_n (lv' := [(1, .int (a1 ||| x2)), (0, .ref (ad 0)), (2, .int a2)]) hx hb dW_namesThatMayBeSaid_47 rfl hl (by decide) rfl (fun ls hl => ?_)
      refine lv_iinc (v := (a2 + 1)) (lv' := [(2, .int (a2 + 1)), (1, .int (a1 ||| x2)), (0, .ref (ad 0))]) hx hb dW_namesThatMayBeSaid_48 hl (k := 2) rfl rfl (by decide) rfl (fun ls hl => ?_)
      refine lv_goto (tgt := 32) hx hb dW_namesThatMayBeSaid_51 (by decide) ?_
      exact ih (a1 ||| x2) (a2 + 1) h ls (lv_sub hl [2, 1, 0] rfl)
def fW_namesThatMayBeSaid_4 (w : SW) : Nat → Int32 → Int32 → Option Int32
  | 0, _, _ => none
  | n + 1, a1, a2 => (if 6 ≤ a2 then fW_namesThatMayBeSaid_32 w 2000 a1 0 else (fW_hasMessageAnywhere w a2).bind fun x2 => (if x2 = 0 then fW_namesThatMayBeSaid_4 w n a1 (a2 + 1) else mp_lt (a1 ||| (1 <<< (a2 &&& 31))) fun x4 => fW_namesThatMayBeSaid_4 w n x4 (a2 + 1)))
theorem fW_namesThatMayBeSaid_4_s (w : SW) (n : Nat) (a1 : Int32) (a2 : Int32) : fW_namesThatMayBeSaid_4 w (n + 1) a1 a2 = (if 6 ≤ a2 then fW_namesThatMayBeSaid_32 w 2000 a1 0 else (fW_hasMessageAnywhere w a2).bind fun x2 => (if x2 = 0 then fW_namesThatMayBeSaid_4 w n a1 (a2 + 1) else mp_lt (a1 ||| (1 <<< (a2 &&& 31))) fun x4 => fW_namesThatMayBeSaid_4 w n x4 (a2 + 1))) := rfl
set_option maxHeartbeats 4000000 in
set_option maxRecDepth 100000 in
theorem lW_namesThatMayBeSaid_4 {p : Program} {l : Launch} {e : Env} {s : State} {m : MethodId} {args : Array Value} {below : List Frame} {meth : Method} {c : Code} (cx : mp_C p s m args meth c bW_namesThatMayBeSaid 3 (some .int) rW) (k : KK) (ad : Nat → Nat) (w : SW) (z : Int32) (hE : mp_E k s) (hP : va_P (kD k) mp_cls (cW k ad w) s.heap) (hD : va_D (mp_N k) (cW k ad w)) : ∀ (n : Nat) (a1 : Int32) (a2 : Int32), fW_namesThatMayBeSaid_4 w n a1 a2 = some z → ∀ (ls : Array Slot), lv_has ls 3 [(0, .ref (ad 0)), (1, .int a1), (2, .int a2)] → W p l e rmW_namesThatMayBeSaid s m args below meth c s.heap [] 0 0 (MQ below (mp_Qs (some (.int z))) args s 0 0 (fun _ => False)) (F0 m 4 ls []) := by
  obtain ⟨hx, hb, -, hml, hown, hts, -⟩ := id cx
  intro n
  induction n with
  | zero =>
    intro a1 a2 h
    have h : (none : Option Int32) = some z := h
    cases h
  | succ n ih =>
    intro a1 a2 h ls hl
    rw [fW_namesThatMayBeSaid_4_s] at h
    refine lv_iload_n hx hb dW_namesThatMayBeSaid_4 rfl (lv_at hl 2 rfl) ?_
    refine lv_bipush (v := 6) hx hb dW_namesThatMayBeSaid_5 (by decide) ?_
    refine lv_icmp_ge (tgt := 30) hx hb dW_namesThatMayBeSaid_7 (by decide) (fun c1 => ?_) (fun c1 => ?_)
    · have h := mp_t c1 h
      refine lv_iconst (v := 0) hx hb dW_namesThatMayBeSaid_30 (by decide) ?_
      refine lv_istore_n (lv' := [(2, .int 0), (0, .ref (ad 0)), (1, .int a1)]) hx hb dW_namesThatMayBeSaid_31 rfl hl (by decide) rfl (fun ls hl => ?_)
      exact lW_namesThatMayBeSaid_32 cx k ad w z hE hP hD _ a1 0 h ls (lv_sub hl [1, 2, 0] rfl)
    · have h := mp_f c1 h
      refine lv_aload_n hx hb dW_namesThatMayBeSaid_10 rfl (lv_at hl 0 rfl) ?_
      refine lv_iload_n hx hb dW_namesThatMayBeSaid_11 rfl (lv_at hl 2 rfl) ?_
      obtain ⟨x2, ex2, h⟩ := mp_bs h
      refine mp_si (mp_runV (As := [.int a2]) (rest := []) cx kV_W_129 (cW_hasMessageAnywhere l k ad w a2 x2 ex2) ⟨rfl, rfl, Nat.le_of_ble_eq_true rfl, Nat.le_of_ble_eq_true rfl⟩ ⟨Nat.zero_le _, Nat.zero_le _⟩ hE hP hD va_S.rf 0 rfl rfl rfl hl.1 rfl (Nat.le_of_ble_eq_true rfl) dW_namesThatMayBeSaid_12) ?_
      refine lv_if_eq (tgt := 24) hx hb dW_namesThatMayBeSaid_15 (by decide) (fun c3 => ?_) (fun c3 => ?_)
      · have h := mp_t c3 h
        refine lv_iinc (v := (a2 + 1)) (lv' := [(2, .int (a2 + 1)), (0, .ref (ad 0)), (1, .int a1)]) hx hb dW_namesThatMayBeSaid_24 hl (k := 2) rfl rfl (by decide) rfl (fun ls hl => ?_)
        refine lv_goto (tgt := 4) hx hb dW_namesThatMayBeSaid_27 (by decide) ?_
        exact ih a1 (a2 + 1) h ls (lv_sub hl [1, 2, 0] rfl)
      · have h := mp_f c3 h
        refine lv_iload_n hx hb dW_namesThatMayBeSaid_18 rfl (lv_at hl 1 rfl) ?_
        refine lv_iconst (v := 1) hx hb dW_namesThatMayBeSaid_19 (by decide) ?_
        refine lv_iload_n hx hb dW_namesThatMayBeSaid_20 rfl (lv_at hl 2 rfl) ?_
        refine lv_ishl hx hb dW_namesThatMayBeSaid_21 ?_
        refine lv_ior hx hb dW_namesThatMayBeSaid_22 ?_
        obtain ⟨x4, ex4, h⟩ := mp_lts h
        refine mp_top ex4 ?_
        refine lv_istore_n (lv' := [(1, .int x4), (0, .ref (ad 0)), (2, .int a2)]) hx hb dW_namesThatMayBeSaid_23 rfl hl (by decide) rfl (fun ls hl => ?_)
        refine lv_iinc (v := (a2 + 1)) (lv' := [(2, .int (a2 + 1)), (1, .int x4), (0, .ref (ad 0))]) hx hb dW_namesThatMayBeSaid_24 hl (k := 2) rfl rfl (by decide) rfl (fun ls hl => ?_)
        refine lv_goto (tgt := 4) hx hb dW_namesThatMayBeSaid_27 (by decide) ?_
        exact ih x4 (a2 + 1) h ls (lv_sub hl [2, 1, 0] rfl)
def fW_namesThatMayBeSaid (w : SW) : Option Int32 := fW_namesThatMayBeSaid_4 w 2000 0 0
set_option maxHeartbeats 4000000 in
set_option maxRecDepth 100000 in
theorem wW_namesThatMayBeSaid {p : Program} {l : Launch} {e : Env} {s : State} {m : MethodId} {args : Array Value} {below : List Frame} {meth : Method} {c : Code} (cx : mp_C p s m args meth c bW_namesThatMayBeSaid 3 (some .int) rW) (k : KK) (ad : Nat → Nat) (w : SW) (z : Int32) (hE : mp_E k s) (hP : va_P (kD k) mp_cls (cW k ad w) s.heap) (hD : va_D (mp_N k) (cW k ad w)) (h : fW_namesThatMayBeSaid w = some z) (ls : Array Slot) (hl : lv_has ls 3 [(0, .ref (ad 0))]) : W p l e rmW_namesThatMayBeSaid s m args below meth c s.heap [] 0 0 (MQ below (mp_Qs (some (.int z))) args s 0 0 (fun _ => False)) (F0 m 0 ls []) := by
  obtain ⟨hx, hb, -, hml, hown, hts, -⟩ := id cx
  unfold fW_namesThatMayBeSaid at h
  refine lv_iconst (v := 0) hx hb dW_namesThatMayBeSaid_0 (by decide) ?_
  refine lv_istore_n (lv' := [(1, .int 0), (0, .ref (ad 0))]) hx hb dW_namesThatMayBeSaid_1 rfl hl (by decide) rfl (fun ls hl => ?_)
  refine lv_iconst (v := 0) hx hb dW_namesThatMayBeSaid_2 (by decide) ?_
  refine lv_istore_n (lv' := [(2, .int 0), (1, .int 0), (0, .ref (ad 0))]) hx hb dW_namesThatMayBeSaid_3 rfl hl (by decide) rfl (fun ls hl => ?_)
  exact lW_namesThatMayBeSaid_4 cx k ad w z hE hP hD _ 0 0 h ls (lv_sub hl [2, 1, 0] rfl)
theorem cW_namesThatMayBeSaid (l : Launch) (k : KK) (ad : Nat → Nat) (w : SW) (z : Int32) (h : fW_namesThatMayBeSaid w = some z) : mp_CS l k yW_namesThatMayBeSaid bW_namesThatMayBeSaid 3 (some .int) rmW_namesThatMayBeSaid [.ref (ad 0)] (cW k ad w) (some (.int z)) := by
  refine Met.ofW (cc := bW_namesThatMayBeSaid) (maxL := 3) (ret := (some .int)) (by decide) rfl ?_
  intro p e s m args below meth c s₁ B hml hv
  obtain ⟨rfl, hP, hD, hE⟩ := hv
  have hl := lv_entry ([.ref (ad 0)]) (n := 3) (Nat.le_of_ble_eq_true rfl)
  rw [lg_entry_eq]
  generalize (lg_sl ([.ref (ad 0)]) ++ List.replicate (3 - (lg_sl ([.ref (ad 0)])).length) Slot.unset).toArray = ls at hl ⊢
  exact wW_namesThatMayBeSaid (mp_C.of B hml) k ad w z hE hP hD h ls hl
-- MovingPlaces$World.bringsMotion
abbrev rmW_bringsMotion : Room := { frames := 3, cells := 0, slots := 0, locals := 65 }
def fW_bringsMotion_7 (w : SW) (a1 : Int32) (a2 : Int32) (a3 : Int32) : Nat → Int32 → Option Int32
  | 0, _ => none
  | n + 1, a4 => (fW_actsInAll w a1).bind fun x1 => (if x1 ≤ a4 then some 0 else (fW_actOf w a1 a4).bind fun x3 => (if (x3 / 10) = 1 then some 1 else (if (x3 / 10) = 2 then some 1 else (if (x3 - x3 / 10 * 10) = 9 then (if (x3 / 10) = 3 then (if (a3 &&& a2) = 0 then fW_bringsMotion_7 w a1 a2 a3 n (a4 + 1) else some 1) else fW_bringsMotion_7 w a1 a2 a3 n (a4 + 1)) else mp_lt (1 <<< ((x3 - x3 / 10 * 10) &&& 31)) fun x7 => (if (x3 / 10) = 3 then (if (x7 &&& a2) = 0 then fW_bringsMotion_7 w a1 a2 a3 n (a4 + 1) else some 1) else fW_bringsMotion_7 w a1 a2 a3 n (a4 + 1))))))
theorem fW_bringsMotion_7_s (w : SW) (a1 : Int32) (a2 : Int32) (a3 : Int32) (n : Nat) (a4 : Int32) : fW_bringsMotion_7 w a1 a2 a3 (n + 1) a4 = (fW_actsInAll w a1).bind fun x1 => (if x1 ≤ a4 then some 0 else (fW_actOf w a1 a4).bind fun x3 => (if (x3 / 10) = 1 then some 1 else (if (x3 / 10) = 2 then some 1 else (if (x3 - x3 / 10 * 10) = 9 then (if (x3 / 10) = 3 then (if (a3 &&& a2) = 0 then fW_bringsMotion_7 w a1 a2 a3 n (a4 + 1) else some 1) else fW_bringsMotion_7 w a1 a2 a3 n (a4 + 1)) else mp_lt (1 <<< ((x3 - x3 / 10 * 10) &&& 31)) fun x7 => (if (x3 / 10) = 3 then (if (x7 &&& a2) = 0 then fW_bringsMotion_7 w a1 a2 a3 n (a4 + 1) else some 1) else fW_bringsMotion_7 w a1 a2 a3 n (a4 + 1)))))) := rfl
set_option maxHeartbeats 4000000 in
set_option maxRecDepth 100000 in
theorem lW_bringsMotion_7 {p : Program} {l : Launch} {e : Env} {s : State} {m : MethodId} {args : Array Value} {below : List Frame} {meth : Method} {c : Code} (cx : mp_C p s m args meth c bW_bringsMotion 8 (some .boolean) rW) (k : KK) (ad : Nat → Nat) (w : SW) (a1 : Int32) (a2 : Int32) (a3 : Int32) (z : Int32) (hE : mp_E k s) (hP : va_P (kD k) mp_cls (cW k ad w) s.heap) (hD : va_D (mp_N k) (cW k ad w)) : ∀ (n : Nat) (a4 : Int32), fW_bringsMotion_7 w a1 a2 a3 n a4 = some z → ∀ (ls : Array Slot), lv_has ls 8 [(0, .ref (ad 0)), (1, .int a1), (2, .int a2), (3, .int a3), (4, .int a4)] → W p l e rmW_bringsMotion s m args below meth c s.heap [] 0 0 (MQ below (mp_Qs (some (.int z))) args s 0 0 (fun _ => False)) (F0 m 7 ls []) := by
  obtain ⟨hx, hb, -, hml, hown, hts, -⟩ := id cx
  intro n
  induction n with
  | zero =>
    intro a4 h
    have h : (none : Option Int32) = some z := h
    cases h
  | succ n ih =>
    intro a4 h ls hl
    rw [fW_bringsMotion_7_s] at h
    refine lv_iload hx hb dW_bringsMotion_7 (lv_at hl 4 rfl) ?_
    refine lv_aload_n hx hb dW_bringsMotion_9 rfl (lv_at hl 0 rfl) ?_
    refine lv_iload_n hx hb dW_bringsMotion_10 rfl (lv_at hl 1 rfl) ?_
    obtain ⟨x1, ex1, h⟩ := mp_bs h
    refine mp_si (mp_runV (As := [.int a1]) (rest := [.int a4]) cx kV_W_82 (cW_actsInAll l k ad w a1 x1 ex1) ⟨rfl, rfl, Nat.le_of_ble_eq_true rfl, Nat.le_of_ble_eq_true rfl⟩ ⟨Nat.zero_le _, Nat.zero_le _⟩ hE hP hD va_S.rf 0 rfl rfl rfl hl.1 rfl (Nat.le_of_ble_eq_true rfl) dW_bringsMotion_11) ?_
    refine lv_icmp_ge (tgt := 91) hx hb dW_bringsMotion_14 (by decide) (fun c2 => ?_) (fun c2 => ?_)
    · have h := mp_t c2 h
      refine lv_iconst (v := 0) hx hb dW_bringsMotion_91 (by decide) ?_
      exact mp_rz cx rfl h dW_bringsMotion_92
    · have h := mp_f c2 h
      refine lv_aload_n hx hb dW_bringsMotion_17 rfl (lv_at hl 0 rfl) ?_
      refine lv_iload_n hx hb dW_bringsMotion_18 rfl (lv_at hl 1 rfl) ?_
      refine lv_iload hx hb dW_bringsMotion_19 (lv_at hl 4 rfl) ?_
      obtain ⟨x3, ex3, h⟩ := mp_bs h
      refine mp_si (mp_runV (As := [.int a1, .int a4]) (rest := []) cx kV_W_96 (cW_actOf l k ad w a1 a4 x3 ex3) ⟨rfl, rfl, Nat.le_of_ble_eq_true rfl, Nat.le_of_ble_eq_true rfl⟩ ⟨Nat.zero_le _, Nat.zero_le _⟩ hE hP hD va_S.rf 0 rfl rfl rfl hl.1 rfl (Nat.le_of_ble_eq_true rfl) dW_bringsMotion_21) ?_
      refine lv_istore (lv' := [(5, .int x3), (0, .ref (ad 0)), (1, .int a1), (2, .int a2), (3, .int a3), (4, .int a4)]) hx hb dW_bringsMotion_24 hl (by decide) rfl (fun ls hl => ?_)
      refine lv_iload hx hb dW_bringsMotion_26 (lv_at hl 0 rfl) ?_
      refine lv_bipush (v := 10) hx hb dW_bringsMotion_28 (by decide) ?_
      refine lv_idiv hx hb dW_bringsMotion_30 (by decide) ?_
      refine lv_istore (lv' := [(6, .int (x3 / 10)), (5, .int x3), (0, .ref (ad 0)), (1, .int a1), (2, .int a2), (3, .int a3), (4, .int a4)]) hx hb dW_bringsMotion_31 hl (by decide) rfl (fun ls hl => ?_)
      refine lv_iload hx hb dW_bringsMotion_33 (lv_at hl 0 rfl) ?_
      refine lv_iconst (v := 1) hx hb dW_bringsMotion_35 (by decide) ?_
      refine lv_icmp_eq (tgt := 45) hx hb dW_bringsMotion_36 (by decide) (fun c4 => ?_) (fun c4 => ?_)
      · have h := mp_t c4 h
        refine lv_iconst (v := 1) hx hb dW_bringsMotion_45 (by decide) ?_
        exact mp_rz cx rfl h dW_bringsMotion_46
      · have h := mp_f c4 h
        refine lv_iload hx hb dW_bringsMotion_39 (lv_at hl 0 rfl) ?_
        refine lv_iconst (v := 2) hx hb dW_bringsMotion_41 (by decide) ?_
        refine lv_icmp_ne (tgt := 47) hx hb dW_bringsMotion_42 (by decide) (fun c5 => ?_) (fun c5 => ?_)
        · have h := mp_f c5 h
          refine lv_iload hx hb dW_bringsMotion_47 (lv_at hl 1 rfl) ?_
          refine lv_bipush (v := 10) hx hb dW_bringsMotion_49 (by decide) ?_
          refine lv_irem hx hb dW_bringsMotion_51 (by decide) ?_
          refine lv_bipush (v := 9) hx hb dW_bringsMotion_52 (by decide) ?_
          refine lv_icmp_ne (tgt := 61) hx hb dW_bringsMotion_54 (by decide) (fun c6 => ?_) (fun c6 => ?_)
          · have h := mp_f c6 h
            refine lv_iconst (v := 1) hx hb dW_bringsMotion_61 (by decide) ?_
            refine lv_iload hx hb dW_bringsMotion_62 (lv_at hl 1 rfl) ?_
            refine lv_bipush (v := 10) hx hb dW_bringsMotion_64 (by decide) ?_
            refine lv_irem hx hb dW_bringsMotion_66 (by decide) ?_
            refine lv_ishl hx hb dW_bringsMotion_67 ?_
            obtain ⟨x7, ex7, h⟩ := mp_lts h
            refine mp_top ex7 ?_
            refine lv_istore (lv' := [(7, .int x7), (6, .int (x3 / 10)), (5, .int x3), (0, .ref (ad 0)), (1, .int a1), (2, .int a2), (3, .int a3), (4, .int a4)]) hx hb dW_bringsMotion_68 hl (by decide) rfl (fun ls hl => ?_)
            refine lv_iload hx hb dW_bringsMotion_70 (lv_at hl 1 rfl) ?_
            refine lv_iconst (v := 3) hx hb dW_bringsMotion_72 (by decide) ?_
            refine lv_icmp_ne (tgt := 85) hx hb dW_bringsMotion_73 (by decide) (fun c8 => ?_) (fun c8 => ?_)
            · have h := mp_f c8 h
              refine lv_iinc (v := (a4 + 1)) (lv' := [(4, .int (a4 + 1)), (7, .int x7), (6, .int (x3 / 10)), (5, .int x3), (0, .ref (ad 0)), (1, .int a1), (2, .int a2), (3, .int a3)]) hx hb dW_bringsMotion_85 hl (k := 7) rfl rfl (by decide) rfl (fun ls hl => ?_)
              refine lv_goto (tgt := 7) hx hb dW_bringsMotion_88 (by decide) ?_
              exact ih (a4 + 1) h ls (lv_sub hl [4, 5, 6, 7, 0] rfl)
            · have h := mp_t c8 h
              refine lv_iload hx hb dW_bringsMotion_76 (lv_at hl 0 rfl) ?_
              refine lv_iload_n hx hb dW_bringsMotion_78 rfl (lv_at hl 5 rfl) ?_
              refine lv_iand hx hb dW_bringsMotion_79 ?_
              refine lv_if_eq (tgt := 85) hx hb dW_bringsMotion_80 (by decide) (fun c9 => ?_) (fun c9 => ?_)
              · have h := mp_t c9 h
                refine lv_iinc (v := (a4 + 1)) (lv' := [(4, .int (a4 + 1)), (7, .int x7), (6, .int (x3 / 10)), (5, .int x3), (0, .ref (ad 0)), (1, .int a1), (2, .int a2), (3, .int a3)]) hx hb dW_bringsMotion_85 hl (k := 7) rfl rfl (by decide) rfl (fun ls hl => ?_)
                refine lv_goto (tgt := 7) hx hb dW_bringsMotion_88 (by decide) ?_
                exact ih (a4 + 1) h ls (lv_sub hl [4, 5, 6, 7, 0] rfl)
              · have h := mp_f c9 h
                refine lv_iconst (v := 1) hx hb dW_bringsMotion_83 (by decide) ?_
                exact mp_rz cx rfl h dW_bringsMotion_84
          · have h := mp_t c6 h
            refine lv_iload_n hx hb dW_bringsMotion_57 rfl (lv_at hl 5 rfl) ?_
            refine lv_goto (tgt := 68) hx hb dW_bringsMotion_58 (by decide) ?_
            refine lv_istore (lv' := [(7, .int a3), (6, .int (x3 / 10)), (5, .int x3), (0, .ref (ad 0)), (1, .int a1), (2, .int a2), (3, .int a3), (4, .int a4)]) hx hb dW_bringsMotion_68 hl (by decide) rfl (fun ls hl => ?_)
            refine lv_iload hx hb dW_bringsMotion_70 (lv_at hl 1 rfl) ?_
            refine lv_iconst (v := 3) hx hb dW_bringsMotion_72 (by decide) ?_
            refine lv_icmp_ne (tgt := 85) hx hb dW_bringsMotion_73 (by decide) (fun c10 => ?_) (fun c10 => ?_)
            · have h := mp_f c10 h
              refine lv_iinc (v := (a4 + 1)) (lv' := [(4, .int (a4 + 1)), (7, .int a3), (6, .int (x3 / 10)), (5, .int x3), (0, .ref (ad 0)), (1, .int a1), (2, .int a2), (3, .int a3)]) hx hb dW_bringsMotion_85 hl (k := 7) rfl rfl (by decide) rfl (fun ls hl => ?_)
              refine lv_goto (tgt := 7) hx hb dW_bringsMotion_88 (by decide) ?_
              exact ih (a4 + 1) h ls (lv_sub hl [4, 5, 6, 7, 0] rfl)
            · have h := mp_t c10 h
              refine lv_iload hx hb dW_bringsMotion_76 (lv_at hl 0 rfl) ?_
              refine lv_iload_n hx hb dW_bringsMotion_78 rfl (lv_at hl 5 rfl) ?_
              refine lv_iand hx hb dW_bringsMotion_79 ?_
              refine lv_if_eq (tgt := 85) hx hb dW_bringsMotion_80 (by decide) (fun c11 => ?_) (fun c11 => ?_)
              · have h := mp_t c11 h
                refine lv_iinc (v := (a4 + 1)) (lv' := [(4, .int (a4 + 1)), (7, .int a3), (6, .int (x3 / 10)), (5, .int x3), (0, .ref (ad 0)), (1, .int a1), (2, .int a2), (3, .int a3)]) hx hb dW_bringsMotion_85 hl (k := 7) rfl rfl (by decide) rfl (fun ls hl => ?_)
                refine lv_goto (tgt := 7) hx hb dW_bringsMotion_88 (by decide) ?_
                exact ih (a4 + 1) h ls (lv_sub hl [4, 5, 6, 7, 0] rfl)
              · have h := mp_f c11 h
                refine lv_iconst (v := 1) hx hb dW_bringsMotion_83 (by decide) ?_
                exact mp_rz cx rfl h dW_bringsMotion_84
        · have h := mp_t c5 h
          refine lv_iconst (v := 1) hx hb dW_bringsMotion_45 (by decide) ?_
          exact mp_rz cx rfl h dW_bringsMotion_46
def fW_bringsMotion (w : SW) (a1 : Int32) (a2 : Int32) (a3 : Int32) : Option Int32 := (fW_actsDone w a1).bind fun x1 => fW_bringsMotion_7 w a1 a2 a3 2000 x1
set_option maxHeartbeats 4000000 in
set_option maxRecDepth 100000 in
theorem wW_bringsMotion {p : Program} {l : Launch} {e : Env} {s : State} {m : MethodId} {args : Array Value} {below : List Frame} {meth : Method} {c : Code} (cx : mp_C p s m args meth c bW_bringsMotion 8 (some .boolean) rW) (k : KK) (ad : Nat → Nat) (w : SW) (a1 : Int32) (a2 : Int32) (a3 : Int32) (z : Int32) (hE : mp_E k s) (hP : va_P (kD k) mp_cls (cW k ad w) s.heap) (hD : va_D (mp_N k) (cW k ad w)) (h : fW_bringsMotion w a1 a2 a3 = some z) (ls : Array Slot) (hl : lv_has ls 8 [(0, .ref (ad 0)), (1, .int a1), (2, .int a2), (3, .int a3)]) : W p l e rmW_bringsMotion s m args below meth c s.heap [] 0 0 (MQ below (mp_Qs (some (.int z))) args s 0 0 (fun _ => False)) (F0 m 0 ls []) := by
  obtain ⟨hx, hb, -, hml, hown, hts, -⟩ := id cx
  unfold fW_bringsMotion at h
  refine lv_aload_n hx hb dW_bringsMotion_0 rfl (lv_at hl 0 rfl) ?_
  refine lv_iload_n hx hb dW_bringsMotion_1 rfl (lv_at hl 1 rfl) ?_
  obtain ⟨x1, ex1, h⟩ := mp_bs h
  refine mp_si (mp_runV (As := [.int a1]) (rest := []) cx kV_W_79 (cW_actsDone l k ad w a1 x1 ex1) ⟨rfl, rfl, Nat.le_of_ble_eq_true rfl, Nat.le_of_ble_eq_true rfl⟩ ⟨Nat.zero_le _, Nat.zero_le _⟩ hE hP hD va_S.rf 0 rfl rfl rfl hl.1 rfl (Nat.le_of_ble_eq_true rfl) dW_bringsMotion_2) ?_
  refine lv_istore (lv' := [(4, .int x1), (0, .ref (ad 0)), (1, .int a1), (2, .int a2), (3, .int a3)]) hx hb dW_bringsMotion_5 hl (by decide) rfl (fun ls hl => ?_)
  exact lW_bringsMotion_7 cx k ad w a1 a2 a3 z hE hP hD _ x1 h ls (lv_sub hl [1, 2, 3, 4, 0] rfl)
theorem cW_bringsMotion (l : Launch) (k : KK) (ad : Nat → Nat) (w : SW) (a1 : Int32) (a2 : Int32) (a3 : Int32) (z : Int32) (h : fW_bringsMotion w a1 a2 a3 = some z) : mp_CS l k yW_bringsMotion bW_bringsMotion 8 (some .boolean) rmW_bringsMotion [.ref (ad 0), .int a1, .int a2, .int a3] (cW k ad w) (some (.int z)) := by
  refine Met.ofW (cc := bW_bringsMotion) (maxL := 8) (ret := (some .boolean)) (by decide) rfl ?_
  intro p e s m args below meth c s₁ B hml hv
  obtain ⟨rfl, hP, hD, hE⟩ := hv
  have hl := lv_entry ([.ref (ad 0), .int a1, .int a2, .int a3]) (n := 8) (Nat.le_of_ble_eq_true rfl)
  rw [lg_entry_eq]
  generalize (lg_sl ([.ref (ad 0), .int a1, .int a2, .int a3]) ++ List.replicate (8 - (lg_sl ([.ref (ad 0), .int a1, .int a2, .int a3])).length) Slot.unset).toArray = ls at hl ⊢
  exact wW_bringsMotion (mp_C.of B hml) k ad w a1 a2 a3 z hE hP hD h ls hl
-- MovingPlaces$World.namesMovedFrom
abbrev rmW_namesMovedFrom : Room := { frames := 4, cells := 0, slots := 0, locals := 92 }
def fW_namesMovedFrom_5 (w : SW) (a1 : Int32) (a2 : Int32) : Nat → Int32 → Int32 → Option Int32
  | 0, _, _ => none
  | n + 1, a3, a4 => (if w.2.2.2.2.2.2.1 ≤ a4 then some a3 else mp_ld w.2.2.2.2.2.2.2.1 12 a4 fun x2 => (fW_nameOf w x2).bind fun x3 => (fM_isName x3).bind fun x4 => (if x4 = 0 then fW_namesMovedFrom_5 w a1 a2 n a3 (a4 + 1) else (fW_bringsMotion w a4 a1 a2).bind fun x6 => (if x6 = 0 then fW_namesMovedFrom_5 w a1 a2 n a3 (a4 + 1) else mp_lt (a3 ||| (1 <<< (x3 &&& 31))) fun x8 => fW_namesMovedFrom_5 w a1 a2 n x8 (a4 + 1))))
theorem fW_namesMovedFrom_5_s (w : SW) (a1 : Int32) (a2 : Int32) (n : Nat) (a3 : Int32) (a4 : Int32) : fW_namesMovedFrom_5 w a1 a2 (n + 1) a3 a4 = (if w.2.2.2.2.2.2.1 ≤ a4 then some a3 else mp_ld w.2.2.2.2.2.2.2.1 12 a4 fun x2 => (fW_nameOf w x2).bind fun x3 => (fM_isName x3).bind fun x4 => (if x4 = 0 then fW_namesMovedFrom_5 w a1 a2 n a3 (a4 + 1) else (fW_bringsMotion w a4 a1 a2).bind fun x6 => (if x6 = 0 then fW_namesMovedFrom_5 w a1 a2 n a3 (a4 + 1) else mp_lt (a3 ||| (1 <<< (x3 &&& 31))) fun x8 => fW_namesMovedFrom_5 w a1 a2 n x8 (a4 + 1)))) := rfl
set_option maxHeartbeats 4000000 in
set_option maxRecDepth 100000 in
theorem lW_namesMovedFrom_5 {p : Program} {l : Launch} {e : Env} {s : State} {m : MethodId} {args : Array Value} {below : List Frame} {meth : Method} {c : Code} (cx : mp_C p s m args meth c bW_namesMovedFrom 6 (some .int) rW) (k : KK) (ad : Nat → Nat) (w : SW) (a1 : Int32) (a2 : Int32) (z : Int32) (hE : mp_E k s) (hP : va_P (kD k) mp_cls (cW k ad w) s.heap) (hD : va_D (mp_N k) (cW k ad w)) : ∀ (n : Nat) (a3 : Int32) (a4 : Int32), fW_namesMovedFrom_5 w a1 a2 n a3 a4 = some z → ∀ (ls : Array Slot), lv_has ls 6 [(0, .ref (ad 0)), (1, .int a1), (2, .int a2), (3, .int a3), (4, .int a4)] → W p l e rmW_namesMovedFrom s m args below meth c s.heap [] 0 0 (MQ below (mp_Qs (some (.int z))) args s 0 0 (fun _ => False)) (F0 m 5 ls []) := by
  obtain ⟨hx, hb, -, hml, hown, hts, -⟩ := id cx
  intro n
  induction n with
  | zero =>
    intro a3 a4 h
    have h : (none : Option Int32) = some z := h
    cases h
  | succ n ih =>
    intro a3 a4 h ls hl
    rw [fW_namesMovedFrom_5_s] at h
    refine lv_iload hx hb dW_namesMovedFrom_5 (lv_at hl 4 rfl) ?_
    refine lv_aload_n hx hb dW_namesMovedFrom_7 rfl (lv_at hl 0 rfl) ?_
    refine mp_gW cx hE hP iW 0 rfl 6 (by decide) wq_62 rfl (v := .int w.2.2.2.2.2.2.1) rfl dW_namesMovedFrom_8 ?_
    refine lv_icmp_ge (tgt := 59) hx hb dW_namesMovedFrom_11 (by decide) (fun c1 => ?_) (fun c1 => ?_)
    · have h := mp_t c1 h
      refine lv_iload_n hx hb dW_namesMovedFrom_59 rfl (lv_at hl 3 rfl) ?_
      exact mp_ri cx h dW_namesMovedFrom_60
    · have h := mp_f c1 h
      refine lv_aload_n hx hb dW_namesMovedFrom_14 rfl (lv_at hl 0 rfl) ?_
      refine lv_aload_n hx hb dW_namesMovedFrom_15 rfl (lv_at hl 0 rfl) ?_
      refine mp_gW cx hE hP iW 0 rfl 7 (by decide) wq_63 rfl (v := .ref (ad 4)) rfl dW_namesMovedFrom_16 ?_
      refine lv_iload hx hb dW_namesMovedFrom_19 (lv_at hl 4 rfl) ?_
      obtain ⟨hi, x2, ex2, h⟩ := mp_lds h
      refine va_iald hx hb hE.1 hP 4 0 (f := w.2.2.2.2.2.2.2.1) (n := 12) rfl rfl hi dW_namesMovedFrom_21 ?_
      refine mp_top ex2 ?_
      obtain ⟨x3, ex3, h⟩ := mp_bs h
      refine mp_si (mp_runV (As := [.int x2]) (rest := []) cx kV_W_109 (cW_nameOf l k ad w x2 x3 ex3) ⟨rfl, rfl, Nat.le_of_ble_eq_true rfl, Nat.le_of_ble_eq_true rfl⟩ ⟨Nat.zero_le _, Nat.zero_le _⟩ hE hP hD va_S.rf 0 rfl rfl rfl hl.1 rfl (Nat.le_of_ble_eq_true rfl) dW_namesMovedFrom_22) ?_
      refine lv_istore (lv' := [(5, .int x3), (0, .ref (ad 0)), (1, .int a1), (2, .int a2), (3, .int a3), (4, .int a4)]) hx hb dW_namesMovedFrom_25 hl (by decide) rfl (fun ls hl => ?_)
      refine lv_iload hx hb dW_namesMovedFrom_27 (lv_at hl 0 rfl) ?_
      obtain ⟨x4, ex4, h⟩ := mp_bs h
      refine mp_si (mp_runN (As := [.int x3]) (rest := []) cx hE.2.1 kN_M_isName (cM_isName l k x3 x4 ex4) ⟨rfl, rfl, Nat.le_of_ble_eq_true rfl, Nat.le_of_ble_eq_true rfl⟩ ⟨Nat.zero_le _, Nat.zero_le _⟩ hE mp_P0 mp_D0 va_S.rf hl.1 rfl (Nat.le_of_ble_eq_true rfl) dW_namesMovedFrom_29) ?_
      refine lv_if_eq (tgt := 53) hx hb dW_namesMovedFrom_32 (by decide) (fun c5 => ?_) (fun c5 => ?_)
      · have h := mp_t c5 h
        refine lv_iinc (v := (a4 + 1)) (lv' := [(4, .int (a4 + 1)), (5, .int x3), (0, .ref (ad 0)), (1, .int a1), (2, .int a2), (3, .int a3)]) hx hb dW_namesMovedFrom_53 hl (k := 5) rfl rfl (by decide) rfl (fun ls hl => ?_)
        refine lv_goto (tgt := 5) hx hb dW_namesMovedFrom_56 (by decide) ?_
        exact ih a3 (a4 + 1) h ls (lv_sub hl [2, 3, 4, 5, 0] rfl)
      · have h := mp_f c5 h
        refine lv_aload_n hx hb dW_namesMovedFrom_35 rfl (lv_at hl 1 rfl) ?_
        refine lv_iload hx hb dW_namesMovedFrom_36 (lv_at hl 5 rfl) ?_
        refine lv_iload_n hx hb dW_namesMovedFrom_38 rfl (lv_at hl 2 rfl) ?_
        refine lv_iload_n hx hb dW_namesMovedFrom_39 rfl (lv_at hl 3 rfl) ?_
        obtain ⟨x6, ex6, h⟩ := mp_bs h
        refine mp_si (mp_runV (As := [.int a4, .int a1, .int a2]) (rest := []) cx kV_W_145 (cW_bringsMotion l k ad w a4 a1 a2 x6 ex6) ⟨rfl, rfl, Nat.le_of_ble_eq_true rfl, Nat.le_of_ble_eq_true rfl⟩ ⟨Nat.zero_le _, Nat.zero_le _⟩ hE hP hD va_S.rf 0 rfl rfl rfl hl.1 rfl (Nat.le_of_ble_eq_true rfl) dW_namesMovedFrom_40) ?_
        refine lv_if_eq (tgt := 53) hx hb dW_namesMovedFrom_43 (by decide) (fun c7 => ?_) (fun c7 => ?_)
        · have h := mp_t c7 h
          refine lv_iinc (v := (a4 + 1)) (lv' := [(4, .int (a4 + 1)), (5, .int x3), (0, .ref (ad 0)), (1, .int a1), (2, .int a2), (3, .int a3)]) hx hb dW_namesMovedFrom_53 hl (k := 5) rfl rfl (by decide) rfl (fun ls hl => ?_)
          refine lv_goto (tgt := 5) hx hb dW_namesMovedFrom_56 (by decide) ?_
          exact ih a3 (a4 + 1) h ls (lv_sub hl [2, 3, 4, 5, 0] rfl)
        · have h := mp_f c7 h
          refine lv_iload_n hx hb dW_namesMovedFrom_46 rfl (lv_at hl 4 rfl) ?_
          refine lv_iconst (v := 1) hx hb dW_namesMovedFrom_47 (by decide) ?_
          refine lv_iload hx hb dW_namesMovedFrom_48 (lv_at hl 0 rfl) ?_
          refine lv_ishl hx hb dW_namesMovedFrom_50 ?_
          refine lv_ior hx hb dW_namesMovedFrom_51 ?_
          obtain ⟨x8, ex8, h⟩ := mp_lts h
          refine mp_top ex8 ?_
          refine lv_istore_n (lv' := [(3, .int x8), (5, .int x3), (0, .ref (ad 0)), (1, .int a1), (2, .int a2), (4, .int a4)]) hx hb dW_namesMovedFrom_52 rfl hl (by decide) rfl (fun ls hl => ?_)
          refine lv_iinc (v := (a4 + 1)) (lv' := [(4, .int (a4 + 1)), (3, .int x8), (5, .int x3), (0, .ref (ad 0)), (1, .int a1), (2, .int a2)]) hx hb dW_namesMovedFrom_53 hl (k := 5) rfl rfl (by decide) rfl (fun ls hl => ?_)
          refine lv_goto (tgt := 5) hx hb dW_namesMovedFrom_56 (by decide) ?_
          exact ih x8 (a4 + 1) h ls (lv_sub hl [3, 4, 5, 1, 0] rfl)
def fW_namesMovedFrom (w : SW) (a1 : Int32) (a2 : Int32) : Option Int32 := fW_namesMovedFrom_5 w a1 a2 2000 0 0
set_option maxHeartbeats 4000000 in
set_option maxRecDepth 100000 in
theorem wW_namesMovedFrom {p : Program} {l : Launch} {e : Env} {s : State} {m : MethodId} {args : Array Value} {below : List Frame} {meth : Method} {c : Code} (cx : mp_C p s m args meth c bW_namesMovedFrom 6 (some .int) rW) (k : KK) (ad : Nat → Nat) (w : SW) (a1 : Int32) (a2 : Int32) (z : Int32) (hE : mp_E k s) (hP : va_P (kD k) mp_cls (cW k ad w) s.heap) (hD : va_D (mp_N k) (cW k ad w)) (h : fW_namesMovedFrom w a1 a2 = some z) (ls : Array Slot) (hl : lv_has ls 6 [(0, .ref (ad 0)), (1, .int a1), (2, .int a2)]) : W p l e rmW_namesMovedFrom s m args below meth c s.heap [] 0 0 (MQ below (mp_Qs (some (.int z))) args s 0 0 (fun _ => False)) (F0 m 0 ls []) := by
  obtain ⟨hx, hb, -, hml, hown, hts, -⟩ := id cx
  unfold fW_namesMovedFrom at h
  refine lv_iconst (v := 0) hx hb dW_namesMovedFrom_0 (by decide) ?_
  refine lv_istore_n (lv' := [(3, .int 0), (0, .ref (ad 0)), (1, .int a1), (2, .int a2)]) hx hb dW_namesMovedFrom_1 rfl hl (by decide) rfl (fun ls hl => ?_)
  refine lv_iconst (v := 0) hx hb dW_namesMovedFrom_2 (by decide) ?_
  refine lv_istore (lv' := [(4, .int 0), (3, .int 0), (0, .ref (ad 0)), (1, .int a1), (2, .int a2)]) hx hb dW_namesMovedFrom_3 hl (by decide) rfl (fun ls hl => ?_)
  exact lW_namesMovedFrom_5 cx k ad w a1 a2 z hE hP hD _ 0 0 h ls (lv_sub hl [2, 3, 4, 1, 0] rfl)
theorem cW_namesMovedFrom (l : Launch) (k : KK) (ad : Nat → Nat) (w : SW) (a1 : Int32) (a2 : Int32) (z : Int32) (h : fW_namesMovedFrom w a1 a2 = some z) : mp_CS l k yW_namesMovedFrom bW_namesMovedFrom 6 (some .int) rmW_namesMovedFrom [.ref (ad 0), .int a1, .int a2] (cW k ad w) (some (.int z)) := by
  refine Met.ofW (cc := bW_namesMovedFrom) (maxL := 6) (ret := (some .int)) (by decide) rfl ?_
  intro p e s m args below meth c s₁ B hml hv
  obtain ⟨rfl, hP, hD, hE⟩ := hv
  have hl := lv_entry ([.ref (ad 0), .int a1, .int a2]) (n := 6) (Nat.le_of_ble_eq_true rfl)
  rw [lg_entry_eq]
  generalize (lg_sl ([.ref (ad 0), .int a1, .int a2]) ++ List.replicate (6 - (lg_sl ([.ref (ad 0), .int a1, .int a2])).length) Slot.unset).toArray = ls at hl ⊢
  exact wW_namesMovedFrom (mp_C.of B hml) k ad w a1 a2 z hE hP hD h ls hl
-- MovingPlaces$World.namesThatMove
abbrev rmW_namesThatMove : Room := { frames := 5, cells := 0, slots := 0, locals := 117 }
def fW_namesThatMove_9 (w : SW) (a1 : Int32) : Nat → Int32 → Int32 → Option Int32
  | 0, _, _ => none
  | n + 1, a2, a3 => (if 6 ≤ a3 then some a2 else (fW_namesMovedFrom w a2 a1).bind fun x2 => fW_namesThatMove_9 w a1 n (a2 ||| x2) (a3 + 1))
theorem fW_namesThatMove_9_s (w : SW) (a1 : Int32) (n : Nat) (a2 : Int32) (a3 : Int32) : fW_namesThatMove_9 w a1 (n + 1) a2 a3 = (if 6 ≤ a3 then some a2 else (fW_namesMovedFrom w a2 a1).bind fun x2 => fW_namesThatMove_9 w a1 n (a2 ||| x2) (a3 + 1)) := rfl
set_option maxHeartbeats 4000000 in
set_option maxRecDepth 100000 in
theorem lW_namesThatMove_9 {p : Program} {l : Launch} {e : Env} {s : State} {m : MethodId} {args : Array Value} {below : List Frame} {meth : Method} {c : Code} (cx : mp_C p s m args meth c bW_namesThatMove 4 (some .int) rW) (k : KK) (ad : Nat → Nat) (w : SW) (a1 : Int32) (z : Int32) (hE : mp_E k s) (hP : va_P (kD k) mp_cls (cW k ad w) s.heap) (hD : va_D (mp_N k) (cW k ad w)) : ∀ (n : Nat) (a2 : Int32) (a3 : Int32), fW_namesThatMove_9 w a1 n a2 a3 = some z → ∀ (ls : Array Slot), lv_has ls 4 [(0, .ref (ad 0)), (1, .int a1), (2, .int a2), (3, .int a3)] → W p l e rmW_namesThatMove s m args below meth c s.heap [] 0 0 (MQ below (mp_Qs (some (.int z))) args s 0 0 (fun _ => False)) (F0 m 9 ls []) := by
  obtain ⟨hx, hb, -, hml, hown, hts, -⟩ := id cx
  intro n
  induction n with
  | zero =>
    intro a2 a3 h
    have h : (none : Option Int32) = some z := h
    cases h
  | succ n ih =>
    intro a2 a3 h ls hl
    rw [fW_namesThatMove_9_s] at h
    refine lv_iload_n hx hb dW_namesThatMove_9 rfl (lv_at hl 3 rfl) ?_
    refine lv_bipush (v := 6) hx hb dW_namesThatMove_10 (by decide) ?_
    refine lv_icmp_ge (tgt := 30) hx hb dW_namesThatMove_12 (by decide) (fun c1 => ?_) (fun c1 => ?_)
    · have h := mp_t c1 h
      refine lv_iload_n hx hb dW_namesThatMove_30 rfl (lv_at hl 2 rfl) ?_
      exact mp_ri cx h dW_namesThatMove_31
    · have h := mp_f c1 h
      refine lv_iload_n hx hb dW_namesThatMove_15 rfl (lv_at hl 2 rfl) ?_
      refine lv_aload_n hx hb dW_namesThatMove_16 rfl (lv_at hl 0 rfl) ?_
      refine lv_iload_n hx hb dW_namesThatMove_17 rfl (lv_at hl 2 rfl) ?_
      refine lv_iload_n hx hb dW_namesThatMove_18 rfl (lv_at hl 1 rfl) ?_
      obtain ⟨x2, ex2, h⟩ := mp_bs h
      refine mp_si (mp_runV (As := [.int a2, .int a1]) (rest := [.int a2]) cx kV_W_142 (cW_namesMovedFrom l k ad w a2 a1 x2 ex2) ⟨rfl, rfl, Nat.le_of_ble_eq_true rfl, Nat.le_of_ble_eq_true rfl⟩ ⟨Nat.zero_le _, Nat.zero_le _⟩ hE hP hD va_S.rf 0 rfl rfl rfl hl.1 rfl (Nat.le_of_ble_eq_true rfl) dW_namesThatMove_19) ?_
      refine lv_ior hx hb dW_namesThatMove_22 ?_
      refine lv_istore_n (lv' := [(2, .int (a2 ||| x2)), (0, .ref (ad 0)), (1, .int a1), (3, .int a3)]) hx hb dW_namesThatMove_23 rfl hl (by decide) rfl (fun ls hl => ?_)
      refine lv_iinc (v := (a3 + 1)) (lv' := [(3, .int (a3 + 1)), (2, .int (a2 ||| x2)), (0, .ref (ad 0)), (1, .int a1)]) hx hb dW_namesThatMove_24 hl (k := 3) rfl rfl (by decide) rfl (fun ls hl => ?_)
      refine lv_goto (tgt := 9) hx hb dW_namesThatMove_27 (by decide) ?_
      exact ih (a2 ||| x2) (a3 + 1) h ls (lv_sub hl [2, 3, 1, 0] rfl)
def fW_namesThatMove (w : SW) : Option Int32 := (fW_namesThatMayBeSaid w).bind fun x1 => fW_namesThatMove_9 w x1 2000 0 0
set_option maxHeartbeats 4000000 in
set_option maxRecDepth 100000 in
theorem wW_namesThatMove {p : Program} {l : Launch} {e : Env} {s : State} {m : MethodId} {args : Array Value} {below : List Frame} {meth : Method} {c : Code} (cx : mp_C p s m args meth c bW_namesThatMove 4 (some .int) rW) (k : KK) (ad : Nat → Nat) (w : SW) (z : Int32) (hE : mp_E k s) (hP : va_P (kD k) mp_cls (cW k ad w) s.heap) (hD : va_D (mp_N k) (cW k ad w)) (h : fW_namesThatMove w = some z) (ls : Array Slot) (hl : lv_has ls 4 [(0, .ref (ad 0))]) : W p l e rmW_namesThatMove s m args below meth c s.heap [] 0 0 (MQ below (mp_Qs (some (.int z))) args s 0 0 (fun _ => False)) (F0 m 0 ls []) := by
  obtain ⟨hx, hb, -, hml, hown, hts, -⟩ := id cx
  unfold fW_namesThatMove at h
  refine lv_aload_n hx hb dW_namesThatMove_0 rfl (lv_at hl 0 rfl) ?_
  obtain ⟨x1, ex1, h⟩ := mp_bs h
  refine mp_si (mp_runV (As := []) (rest := []) cx kV_W_138 (cW_namesThatMayBeSaid l k ad w x1 ex1) ⟨rfl, rfl, Nat.le_of_ble_eq_true rfl, Nat.le_of_ble_eq_true rfl⟩ ⟨Nat.zero_le _, Nat.zero_le _⟩ hE hP hD va_S.rf 0 rfl rfl rfl hl.1 rfl (Nat.le_of_ble_eq_true rfl) dW_namesThatMove_1) ?_
  refine lv_istore_n (lv' := [(1, .int x1), (0, .ref (ad 0))]) hx hb dW_namesThatMove_4 rfl hl (by decide) rfl (fun ls hl => ?_)
  refine lv_iconst (v := 0) hx hb dW_namesThatMove_5 (by decide) ?_
  refine lv_istore_n (lv' := [(2, .int 0), (1, .int x1), (0, .ref (ad 0))]) hx hb dW_namesThatMove_6 rfl hl (by decide) rfl (fun ls hl => ?_)
  refine lv_iconst (v := 0) hx hb dW_namesThatMove_7 (by decide) ?_
  refine lv_istore_n (lv' := [(3, .int 0), (2, .int 0), (1, .int x1), (0, .ref (ad 0))]) hx hb dW_namesThatMove_8 rfl hl (by decide) rfl (fun ls hl => ?_)
  exact lW_namesThatMove_9 cx k ad w x1 z hE hP hD _ 0 0 h ls (lv_sub hl [3, 2, 1, 0] rfl)
theorem cW_namesThatMove (l : Launch) (k : KK) (ad : Nat → Nat) (w : SW) (z : Int32) (h : fW_namesThatMove w = some z) : mp_CS l k yW_namesThatMove bW_namesThatMove 4 (some .int) rmW_namesThatMove [.ref (ad 0)] (cW k ad w) (some (.int z)) := by
  refine Met.ofW (cc := bW_namesThatMove) (maxL := 4) (ret := (some .int)) (by decide) rfl ?_
  intro p e s m args below meth c s₁ B hml hv
  obtain ⟨rfl, hP, hD, hE⟩ := hv
  have hl := lv_entry ([.ref (ad 0)]) (n := 4) (Nat.le_of_ble_eq_true rfl)
  rw [lg_entry_eq]
  generalize (lg_sl ([.ref (ad 0)]) ++ List.replicate (4 - (lg_sl ([.ref (ad 0)])).length) Slot.unset).toArray = ls at hl ⊢
  exact wW_namesThatMove (mp_C.of B hml) k ad w z hE hP hD h ls hl
