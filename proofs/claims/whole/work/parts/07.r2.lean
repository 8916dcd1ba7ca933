theorem dR_leastIn_0 : decode bR_leastIn 0 = .ok (.iconst 1, 1) := by decide +kernel
theorem dR_leastIn_1 : decode bR_leastIn 1 = .ok (.istore 4, 2) := by decide +kernel
theorem dR_leastIn_3 : decode bR_leastIn 3 = .ok (.iload 4, 2) := by decide +kernel
theorem dR_leastIn_5 : decode bR_leastIn 5 = .ok (.aload_n 0, 1) := by decide +kernel
theorem dR_leastIn_6 : decode bR_leastIn 6 = .ok (.getfield 7, 3) := by decide +kernel
theorem dR_leastIn_9 : decode bR_leastIn 9 = .ok (.iconst 0, 1) := by decide +kernel
theorem dR_leastIn_10 : decode bR_leastIn 10 = .ok (.iaload, 1) := by decide +kernel
theorem dR_leastIn_11 : decode bR_leastIn 11 = .ok (.if_icmp .ge 67, 3) := by decide +kernel
theorem dR_leastIn_14 : decode bR_leastIn 14 = .ok (.aload_n 0, 1) := by decide +kernel
theorem dR_leastIn_15 : decode bR_leastIn 15 = .ok (.iload 4, 2) := by decide +kernel
theorem dR_leastIn_17 : decode bR_leastIn 17 = .ok (.invokevirtual 30, 3) := by decide +kernel
theorem dR_leastIn_20 : decode bR_leastIn 20 = .ok (.ifCond .eq 52, 3) := by decide +kernel
theorem dR_leastIn_23 : decode bR_leastIn 23 = .ok (.iload 4, 2) := by decide +kernel
theorem dR_leastIn_25 : decode bR_leastIn 25 = .ok (.iload_n 2, 1) := by decide +kernel
theorem dR_leastIn_26 : decode bR_leastIn 26 = .ok (.if_icmp .eq 46, 3) := by decide +kernel
theorem dR_leastIn_29 : decode bR_leastIn 29 = .ok (.aload_n 0, 1) := by decide +kernel
theorem dR_leastIn_30 : decode bR_leastIn 30 = .ok (.getfield 7, 3) := by decide +kernel
theorem dR_leastIn_33 : decode bR_leastIn 33 = .ok (.bipush 15, 2) := by decide +kernel
theorem dR_leastIn_35 : decode bR_leastIn 35 = .ok (.iload 4, 2) := by decide +kernel
theorem dR_leastIn_37 : decode bR_leastIn 37 = .ok (.iadd, 1) := by decide +kernel
theorem dR_leastIn_38 : decode bR_leastIn 38 = .ok (.iaload, 1) := by decide +kernel
theorem dR_leastIn_39 : decode bR_leastIn 39 = .ok (.iload_n 1, 1) := by decide +kernel
theorem dR_leastIn_40 : decode bR_leastIn 40 = .ok (.if_icmp .ne 32, 3) := by decide +kernel
theorem dR_leastIn_43 : decode bR_leastIn 43 = .ok (.aload_n 0, 1) := by decide +kernel
theorem dR_leastIn_44 : decode bR_leastIn 44 = .ok (.getfield 7, 3) := by decide +kernel
theorem dR_leastIn_47 : decode bR_leastIn 47 = .ok (.iconst 3, 1) := by decide +kernel
theorem dR_leastIn_48 : decode bR_leastIn 48 = .ok (.iload 4, 2) := by decide +kernel
theorem dR_leastIn_50 : decode bR_leastIn 50 = .ok (.iadd, 1) := by decide +kernel
theorem dR_leastIn_51 : decode bR_leastIn 51 = .ok (.iaload, 1) := by decide +kernel
theorem dR_leastIn_52 : decode bR_leastIn 52 = .ok (.iload_n 3, 1) := by decide +kernel
theorem dR_leastIn_53 : decode bR_leastIn 53 = .ok (.if_icmp .ne 19, 3) := by decide +kernel
theorem dR_leastIn_56 : decode bR_leastIn 56 = .ok (.aload_n 0, 1) := by decide +kernel
theorem dR_leastIn_57 : decode bR_leastIn 57 = .ok (.getfield 7, 3) := by decide +kernel
theorem dR_leastIn_60 : decode bR_leastIn 60 = .ok (.bipush 27, 2) := by decide +kernel
theorem dR_leastIn_62 : decode bR_leastIn 62 = .ok (.iload 4, 2) := by decide +kernel
theorem dR_leastIn_64 : decode bR_leastIn 64 = .ok (.iadd, 1) := by decide +kernel
theorem dR_leastIn_65 : decode bR_leastIn 65 = .ok (.iaload, 1) := by decide +kernel
theorem dR_leastIn_66 : decode bR_leastIn 66 = .ok (.ifCond .ne 6, 3) := by decide +kernel
theorem dR_leastIn_69 : decode bR_leastIn 69 = .ok (.iload 4, 2) := by decide +kernel
theorem dR_leastIn_71 : decode bR_leastIn 71 = .ok (.ireturn, 1) := by decide +kernel
theorem dR_leastIn_72 : decode bR_leastIn 72 = .ok (.iinc 4 1, 3) := by decide +kernel
theorem dR_leastIn_75 : decode bR_leastIn 75 = .ok (.goto (-72), 3) := by decide +kernel
theorem dR_leastIn_78 : decode bR_leastIn 78 = .ok (.bipush (-9), 2) := by decide +kernel
theorem dR_leastIn_80 : decode bR_leastIn 80 = .ok (.ireturn, 1) := by decide +kernel
theorem dR_leastMessage_0 : decode bR_leastMessage 0 = .ok (.iconst 0, 1) := by decide +kernel
theorem dR_leastMessage_1 : decode bR_leastMessage 1 = .ok (.istore_n 2, 1) := by decide +kernel
theorem dR_leastMessage_2 : decode bR_leastMessage 2 = .ok (.iload_n 2, 1) := by decide +kernel
theorem dR_leastMessage_3 : decode bR_leastMessage 3 = .ok (.bipush 6, 2) := by decide +kernel
theorem dR_leastMessage_5 : decode bR_leastMessage 5 = .ok (.if_icmp .ge 28, 3) := by decide +kernel
theorem dR_leastMessage_8 : decode bR_leastMessage 8 = .ok (.aload_n 0, 1) := by decide +kernel
theorem dR_leastMessage_9 : decode bR_leastMessage 9 = .ok (.getfield 7, 3) := by decide +kernel
theorem dR_leastMessage_12 : decode bR_leastMessage 12 = .ok (.bipush 39, 2) := by decide +kernel
theorem dR_leastMessage_14 : decode bR_leastMessage 14 = .ok (.bipush 6, 2) := by decide +kernel
theorem dR_leastMessage_16 : decode bR_leastMessage 16 = .ok (.iload_n 1, 1) := by decide +kernel
theorem dR_leastMessage_17 : decode bR_leastMessage 17 = .ok (.imul, 1) := by decide +kernel
theorem dR_leastMessage_18 : decode bR_leastMessage 18 = .ok (.iadd, 1) := by decide +kernel
theorem dR_leastMessage_19 : decode bR_leastMessage 19 = .ok (.iload_n 2, 1) := by decide +kernel
theorem dR_leastMessage_20 : decode bR_leastMessage 20 = .ok (.iadd, 1) := by decide +kernel
theorem dR_leastMessage_21 : decode bR_leastMessage 21 = .ok (.iaload, 1) := by decide +kernel
theorem dR_leastMessage_22 : decode bR_leastMessage 22 = .ok (.ifCond .le 5, 3) := by decide +kernel
theorem dR_leastMessage_25 : decode bR_leastMessage 25 = .ok (.iload_n 2, 1) := by decide +kernel
theorem dR_leastMessage_26 : decode bR_leastMessage 26 = .ok (.ireturn, 1) := by decide +kernel
theorem dR_leastMessage_27 : decode bR_leastMessage 27 = .ok (.iinc 2 1, 3) := by decide +kernel
theorem dR_leastMessage_30 : decode bR_leastMessage 30 = .ok (.goto (-28), 3) := by decide +kernel
theorem dR_leastMessage_33 : decode bR_leastMessage 33 = .ok (.bipush (-9), 2) := by decide +kernel
theorem dR_leastMessage_35 : decode bR_leastMessage 35 = .ok (.ireturn, 1) := by decide +kernel
theorem dR_nameOf_0 : decode bR_nameOf 0 = .ok (.aload_n 0, 1) := by decide +kernel
theorem dR_nameOf_1 : decode bR_nameOf 1 = .ok (.iload_n 1, 1) := by decide +kernel
theorem dR_nameOf_2 : decode bR_nameOf 2 = .ok (.invokevirtual 62, 3) := by decide +kernel
theorem dR_nameOf_5 : decode bR_nameOf 5 = .ok (.bipush 10, 2) := by decide +kernel
theorem dR_nameOf_7 : decode bR_nameOf 7 = .ok (.irem, 1) := by decide +kernel
theorem dR_nameOf_8 : decode bR_nameOf 8 = .ok (.istore_n 2, 1) := by decide +kernel
theorem dR_nameOf_9 : decode bR_nameOf 9 = .ok (.iload_n 2, 1) := by decide +kernel
theorem dR_nameOf_10 : decode bR_nameOf 10 = .ok (.bipush 9, 2) := by decide +kernel
theorem dR_nameOf_12 : decode bR_nameOf 12 = .ok (.if_icmp .ne 16, 3) := by decide +kernel
theorem dR_nameOf_15 : decode bR_nameOf 15 = .ok (.aload_n 0, 1) := by decide +kernel
theorem dR_nameOf_16 : decode bR_nameOf 16 = .ok (.getfield 7, 3) := by decide +kernel
theorem dR_nameOf_19 : decode bR_nameOf 19 = .ok (.sipush 147, 3) := by decide +kernel
theorem dR_nameOf_22 : decode bR_nameOf 22 = .ok (.iload_n 1, 1) := by decide +kernel
theorem dR_nameOf_23 : decode bR_nameOf 23 = .ok (.iadd, 1) := by decide +kernel
theorem dR_nameOf_24 : decode bR_nameOf 24 = .ok (.iaload, 1) := by decide +kernel
theorem dR_nameOf_25 : decode bR_nameOf 25 = .ok (.goto 4, 3) := by decide +kernel
theorem dR_nameOf_28 : decode bR_nameOf 28 = .ok (.iload_n 2, 1) := by decide +kernel
theorem dR_nameOf_29 : decode bR_nameOf 29 = .ok (.ireturn, 1) := by decide +kernel
theorem dR_doneWith_0 : decode bR_doneWith 0 = .ok (.aload_n 0, 1) := by decide +kernel
theorem dR_doneWith_1 : decode bR_doneWith 1 = .ok (.getfield 7, 3) := by decide +kernel
theorem dR_doneWith_4 : decode bR_doneWith 4 = .ok (.bipush 111, 2) := by decide +kernel
theorem dR_doneWith_6 : decode bR_doneWith 6 = .ok (.iload_n 1, 1) := by decide +kernel
theorem dR_doneWith_7 : decode bR_doneWith 7 = .ok (.iadd, 1) := by decide +kernel
theorem dR_doneWith_8 : decode bR_doneWith 8 = .ok (.iaload, 1) := by decide +kernel
theorem dR_doneWith_9 : decode bR_doneWith 9 = .ok (.istore_n 2, 1) := by decide +kernel
theorem dR_doneWith_10 : decode bR_doneWith 10 = .ok (.aload_n 0, 1) := by decide +kernel
theorem dR_doneWith_11 : decode bR_doneWith 11 = .ok (.iload_n 1, 1) := by decide +kernel
theorem dR_doneWith_12 : decode bR_doneWith 12 = .ok (.invokevirtual 62, 3) := by decide +kernel
theorem dR_doneWith_15 : decode bR_doneWith 15 = .ok (.bipush 10, 2) := by decide +kernel
theorem dR_doneWith_17 : decode bR_doneWith 17 = .ok (.idiv, 1) := by decide +kernel
theorem dR_doneWith_18 : decode bR_doneWith 18 = .ok (.istore_n 3, 1) := by decide +kernel
theorem dR_doneWith_19 : decode bR_doneWith 19 = .ok (.aload_n 0, 1) := by decide +kernel
theorem dR_doneWith_20 : decode bR_doneWith 20 = .ok (.iload_n 1, 1) := by decide +kernel
theorem dR_doneWith_21 : decode bR_doneWith 21 = .ok (.invokevirtual 68, 3) := by decide +kernel
theorem dR_doneWith_24 : decode bR_doneWith 24 = .ok (.istore 4, 2) := by decide +kernel
theorem dR_doneWith_26 : decode bR_doneWith 26 = .ok (.aload_n 0, 1) := by decide +kernel
theorem dR_doneWith_27 : decode bR_doneWith 27 = .ok (.iload_n 1, 1) := by decide +kernel
theorem dR_doneWith_28 : decode bR_doneWith 28 = .ok (.invokevirtual 56, 3) := by decide +kernel
theorem dR_doneWith_31 : decode bR_doneWith 31 = .ok (.ifCond .ne 15, 3) := by decide +kernel
theorem dR_doneWith_34 : decode bR_doneWith 34 = .ok (.iload_n 3, 1) := by decide +kernel
theorem dR_doneWith_35 : decode bR_doneWith 35 = .ok (.iconst 5, 1) := by decide +kernel
theorem dR_doneWith_36 : decode bR_doneWith 36 = .ok (.if_icmp .eq 13, 3) := by decide +kernel
theorem dR_doneWith_39 : decode bR_doneWith 39 = .ok (.iload 4, 2) := by decide +kernel
theorem dR_doneWith_41 : decode bR_doneWith 41 = .ok (.bipush (-9), 2) := by decide +kernel
theorem dR_doneWith_43 : decode bR_doneWith 43 = .ok (.if_icmp .ne 6, 3) := by decide +kernel
theorem dR_doneWith_46 : decode bR_doneWith 46 = .ok (.bipush (-9), 2) := by decide +kernel
theorem dR_doneWith_48 : decode bR_doneWith 48 = .ok (.ireturn, 1) := by decide +kernel
theorem dR_doneWith_49 : decode bR_doneWith 49 = .ok (.iload_n 3, 1) := by decide +kernel
theorem dR_doneWith_50 : decode bR_doneWith 50 = .ok (.tableswitch 142 1 4 #[30, 56, 129, 139], 30) := by decide +kernel
theorem dR_doneWith_80 : decode bR_doneWith 80 = .ok (.iload_n 2, 1) := by decide +kernel
theorem dR_doneWith_81 : decode bR_doneWith 81 = .ok (.ifCond .ne 8, 3) := by decide +kernel
theorem dR_doneWith_84 : decode bR_doneWith 84 = .ok (.bipush (-9), 2) := by decide +kernel
theorem dR_doneWith_86 : decode bR_doneWith 86 = .ok (.goto 19, 3) := by decide +kernel
theorem dR_doneWith_89 : decode bR_doneWith 89 = .ok (.aload_n 0, 1) := by decide +kernel
theorem dR_doneWith_90 : decode bR_doneWith 90 = .ok (.aload_n 0, 1) := by decide +kernel
theorem dR_doneWith_91 : decode bR_doneWith 91 = .ok (.getfield 7, 3) := by decide +kernel
theorem dR_doneWith_94 : decode bR_doneWith 94 = .ok (.bipush 15, 2) := by decide +kernel
theorem dR_doneWith_96 : decode bR_doneWith 96 = .ok (.iload_n 2, 1) := by decide +kernel
theorem dR_doneWith_97 : decode bR_doneWith 97 = .ok (.iadd, 1) := by decide +kernel
theorem dR_doneWith_98 : decode bR_doneWith 98 = .ok (.iaload, 1) := by decide +kernel
theorem dR_doneWith_99 : decode bR_doneWith 99 = .ok (.iload_n 2, 1) := by decide +kernel
theorem dR_doneWith_100 : decode bR_doneWith 100 = .ok (.iload 4, 2) := by decide +kernel
theorem dR_doneWith_102 : decode bR_doneWith 102 = .ok (.invokevirtual 71, 3) := by decide +kernel
theorem dR_doneWith_105 : decode bR_doneWith 105 = .ok (.ireturn, 1) := by decide +kernel
theorem dR_doneWith_106 : decode bR_doneWith 106 = .ok (.iload_n 2, 1) := by decide +kernel
theorem dR_doneWith_107 : decode bR_doneWith 107 = .ok (.ifCond .eq 57, 3) := by decide +kernel
theorem dR_doneWith_110 : decode bR_doneWith 110 = .ok (.aload_n 0, 1) := by decide +kernel
theorem dR_doneWith_111 : decode bR_doneWith 111 = .ok (.getfield 7, 3) := by decide +kernel
theorem dR_doneWith_114 : decode bR_doneWith 114 = .ok (.bipush 15, 2) := by decide +kernel
theorem dR_doneWith_116 : decode bR_doneWith 116 = .ok (.iload_n 2, 1) := by decide +kernel
theorem dR_doneWith_117 : decode bR_doneWith 117 = .ok (.iadd, 1) := by decide +kernel
theorem dR_doneWith_118 : decode bR_doneWith 118 = .ok (.iaload, 1) := by decide +kernel
theorem dR_doneWith_119 : decode bR_doneWith 119 = .ok (.ifCond .eq 45, 3) := by decide +kernel
theorem dR_doneWith_122 : decode bR_doneWith 122 = .ok (.aload_n 0, 1) := by decide +kernel
theorem dR_doneWith_123 : decode bR_doneWith 123 = .ok (.getfield 7, 3) := by decide +kernel
theorem dR_doneWith_126 : decode bR_doneWith 126 = .ok (.iconst 3, 1) := by decide +kernel
theorem dR_doneWith_127 : decode bR_doneWith 127 = .ok (.aload_n 0, 1) := by decide +kernel
theorem dR_doneWith_128 : decode bR_doneWith 128 = .ok (.getfield 7, 3) := by decide +kernel
theorem dR_doneWith_131 : decode bR_doneWith 131 = .ok (.bipush 15, 2) := by decide +kernel
theorem dR_doneWith_133 : decode bR_doneWith 133 = .ok (.iload_n 2, 1) := by decide +kernel
theorem dR_doneWith_134 : decode bR_doneWith 134 = .ok (.iadd, 1) := by decide +kernel
theorem dR_doneWith_135 : decode bR_doneWith 135 = .ok (.iaload, 1) := by decide +kernel
theorem dR_doneWith_136 : decode bR_doneWith 136 = .ok (.iadd, 1) := by decide +kernel
theorem dR_doneWith_137 : decode bR_doneWith 137 = .ok (.iaload, 1) := by decide +kernel
theorem dR_doneWith_138 : decode bR_doneWith 138 = .ok (.iload 4, 2) := by decide +kernel
theorem dR_doneWith_140 : decode bR_doneWith 140 = .ok (.if_icmp .ne 24, 3) := by decide +kernel
theorem dR_doneWith_143 : decode bR_doneWith 143 = .ok (.aload_n 0, 1) := by decide +kernel
theorem dR_doneWith_144 : decode bR_doneWith 144 = .ok (.getfield 7, 3) := by decide +kernel
theorem dR_doneWith_147 : decode bR_doneWith 147 = .ok (.bipush 27, 2) := by decide +kernel
theorem dR_doneWith_149 : decode bR_doneWith 149 = .ok (.aload_n 0, 1) := by decide +kernel
theorem dR_doneWith_150 : decode bR_doneWith 150 = .ok (.getfield 7, 3) := by decide +kernel
theorem dR_doneWith_153 : decode bR_doneWith 153 = .ok (.bipush 15, 2) := by decide +kernel
theorem dR_doneWith_155 : decode bR_doneWith 155 = .ok (.iload_n 2, 1) := by decide +kernel
theorem dR_doneWith_156 : decode bR_doneWith 156 = .ok (.iadd, 1) := by decide +kernel
theorem dR_doneWith_157 : decode bR_doneWith 157 = .ok (.iaload, 1) := by decide +kernel
theorem dR_doneWith_158 : decode bR_doneWith 158 = .ok (.iadd, 1) := by decide +kernel
theorem dR_doneWith_159 : decode bR_doneWith 159 = .ok (.iaload, 1) := by decide +kernel
theorem dR_doneWith_160 : decode bR_doneWith 160 = .ok (.iconst 1, 1) := by decide +kernel
theorem dR_doneWith_161 : decode bR_doneWith 161 = .ok (.if_icmp .ne 8, 3) := by decide +kernel
theorem dR_doneWith_164 : decode bR_doneWith 164 = .ok (.bipush (-9), 2) := by decide +kernel
theorem dR_doneWith_166 : decode bR_doneWith 166 = .ok (.goto 12, 3) := by decide +kernel
theorem dR_doneWith_169 : decode bR_doneWith 169 = .ok (.aload_n 0, 1) := by decide +kernel
theorem dR_doneWith_170 : decode bR_doneWith 170 = .ok (.getfield 7, 3) := by decide +kernel
theorem dR_doneWith_173 : decode bR_doneWith 173 = .ok (.bipush 15, 2) := by decide +kernel
theorem dR_doneWith_175 : decode bR_doneWith 175 = .ok (.iload_n 2, 1) := by decide +kernel
theorem dR_doneWith_176 : decode bR_doneWith 176 = .ok (.iadd, 1) := by decide +kernel
theorem dR_doneWith_177 : decode bR_doneWith 177 = .ok (.iaload, 1) := by decide +kernel
theorem dR_doneWith_178 : decode bR_doneWith 178 = .ok (.ireturn, 1) := by decide +kernel
theorem dR_doneWith_179 : decode bR_doneWith 179 = .ok (.aload_n 0, 1) := by decide +kernel
theorem dR_doneWith_180 : decode bR_doneWith 180 = .ok (.iload_n 2, 1) := by decide +kernel
theorem dR_doneWith_181 : decode bR_doneWith 181 = .ok (.bipush (-9), 2) := by decide +kernel
theorem dR_doneWith_183 : decode bR_doneWith 183 = .ok (.iload 4, 2) := by decide +kernel
theorem dR_doneWith_185 : decode bR_doneWith 185 = .ok (.invokevirtual 71, 3) := by decide +kernel
theorem dR_doneWith_188 : decode bR_doneWith 188 = .ok (.ireturn, 1) := by decide +kernel
theorem dR_doneWith_189 : decode bR_doneWith 189 = .ok (.iload 4, 2) := by decide +kernel
theorem dR_doneWith_191 : decode bR_doneWith 191 = .ok (.ireturn, 1) := by decide +kernel
theorem dR_doneWith_192 : decode bR_doneWith 192 = .ok (.aload_n 0, 1) := by decide +kernel
theorem dR_doneWith_193 : decode bR_doneWith 193 = .ok (.iload_n 2, 1) := by decide +kernel
theorem dR_doneWith_194 : decode bR_doneWith 194 = .ok (.invokevirtual 75, 3) := by decide +kernel
theorem dR_doneWith_197 : decode bR_doneWith 197 = .ok (.ireturn, 1) := by decide +kernel
theorem dR_opens_0 : decode bR_opens 0 = .ok (.aload_n 0, 1) := by decide +kernel
theorem dR_opens_1 : decode bR_opens 1 = .ok (.getfield 7, 3) := by decide +kernel
theorem dR_opens_4 : decode bR_opens 4 = .ok (.iconst 2, 1) := by decide +kernel
theorem dR_opens_5 : decode bR_opens 5 = .ok (.dup2, 1) := by decide +kernel
theorem dR_opens_6 : decode bR_opens 6 = .ok (.iaload, 1) := by decide +kernel
theorem dR_opens_7 : decode bR_opens 7 = .ok (.iconst 1, 1) := by decide +kernel
theorem dR_opens_8 : decode bR_opens 8 = .ok (.iload_n 2, 1) := by decide +kernel
theorem dR_opens_9 : decode bR_opens 9 = .ok (.ishl, 1) := by decide +kernel
theorem dR_opens_10 : decode bR_opens 10 = .ok (.ior, 1) := by decide +kernel
theorem dR_opens_11 : decode bR_opens 11 = .ok (.iastore, 1) := by decide +kernel
theorem dR_opens_12 : decode bR_opens 12 = .ok (.iconst 0, 1) := by decide +kernel
theorem dR_opens_13 : decode bR_opens 13 = .ok (.istore_n 3, 1) := by decide +kernel
theorem dR_opens_14 : decode bR_opens 14 = .ok (.iload_n 3, 1) := by decide +kernel
theorem dR_opens_15 : decode bR_opens 15 = .ok (.aload_n 0, 1) := by decide +kernel
theorem dR_opens_16 : decode bR_opens 16 = .ok (.getfield 7, 3) := by decide +kernel
theorem dR_opens_19 : decode bR_opens 19 = .ok (.iconst 0, 1) := by decide +kernel
theorem dR_opens_20 : decode bR_opens 20 = .ok (.iaload, 1) := by decide +kernel
theorem dR_opens_21 : decode bR_opens 21 = .ok (.if_icmp .ge 44, 3) := by decide +kernel
theorem dR_opens_24 : decode bR_opens 24 = .ok (.aload_n 0, 1) := by decide +kernel
theorem dR_opens_25 : decode bR_opens 25 = .ok (.getfield 7, 3) := by decide +kernel
theorem dR_opens_28 : decode bR_opens 28 = .ok (.bipush 15, 2) := by decide +kernel
theorem dR_opens_30 : decode bR_opens 30 = .ok (.iload_n 3, 1) := by decide +kernel
theorem dR_opens_31 : decode bR_opens 31 = .ok (.iadd, 1) := by decide +kernel
theorem dR_opens_32 : decode bR_opens 32 = .ok (.aload_n 0, 1) := by decide +kernel
theorem dR_opens_33 : decode bR_opens 33 = .ok (.getfield 7, 3) := by decide +kernel
theorem dR_opens_36 : decode bR_opens 36 = .ok (.bipush 15, 2) := by decide +kernel
theorem dR_opens_38 : decode bR_opens 38 = .ok (.iload_n 3, 1) := by decide +kernel
theorem dR_opens_39 : decode bR_opens 39 = .ok (.iadd, 1) := by decide +kernel
theorem dR_opens_40 : decode bR_opens 40 = .ok (.iaload, 1) := by decide +kernel
theorem dR_opens_41 : decode bR_opens 41 = .ok (.iload_n 2, 1) := by decide +kernel
theorem dR_opens_42 : decode bR_opens 42 = .ok (.if_icmp .ne 7, 3) := by decide +kernel
theorem dR_opens_45 : decode bR_opens 45 = .ok (.iload_n 1, 1) := by decide +kernel
theorem dR_opens_46 : decode bR_opens 46 = .ok (.goto 12, 3) := by decide +kernel
theorem dR_opens_49 : decode bR_opens 49 = .ok (.aload_n 0, 1) := by decide +kernel
theorem dR_opens_50 : decode bR_opens 50 = .ok (.getfield 7, 3) := by decide +kernel
theorem dR_opens_53 : decode bR_opens 53 = .ok (.bipush 15, 2) := by decide +kernel
theorem dR_opens_55 : decode bR_opens 55 = .ok (.iload_n 3, 1) := by decide +kernel
theorem dR_opens_56 : decode bR_opens 56 = .ok (.iadd, 1) := by decide +kernel
theorem dR_opens_57 : decode bR_opens 57 = .ok (.iaload, 1) := by decide +kernel
theorem dR_opens_58 : decode bR_opens 58 = .ok (.iastore, 1) := by decide +kernel
theorem dR_opens_59 : decode bR_opens 59 = .ok (.iinc 3 1, 3) := by decide +kernel
theorem dR_opens_62 : decode bR_opens 62 = .ok (.goto (-48), 3) := by decide +kernel
theorem dR_opens_65 : decode bR_opens 65 = .ok (.iconst 0, 1) := by decide +kernel
theorem dR_opens_66 : decode bR_opens 66 = .ok (.istore_n 3, 1) := by decide +kernel
theorem dR_opens_67 : decode bR_opens 67 = .ok (.iload_n 3, 1) := by decide +kernel
theorem dR_opens_68 : decode bR_opens 68 = .ok (.aload_n 0, 1) := by decide +kernel
theorem dR_opens_69 : decode bR_opens 69 = .ok (.getfield 7, 3) := by decide +kernel
theorem dR_opens_72 : decode bR_opens 72 = .ok (.iconst 1, 1) := by decide +kernel
theorem dR_opens_73 : decode bR_opens 73 = .ok (.iaload, 1) := by decide +kernel
theorem dR_opens_74 : decode bR_opens 74 = .ok (.if_icmp .ge 44, 3) := by decide +kernel
theorem dR_opens_77 : decode bR_opens 77 = .ok (.aload_n 0, 1) := by decide +kernel
theorem dR_opens_78 : decode bR_opens 78 = .ok (.getfield 7, 3) := by decide +kernel
theorem dR_opens_81 : decode bR_opens 81 = .ok (.bipush 111, 2) := by decide +kernel
theorem dR_opens_83 : decode bR_opens 83 = .ok (.iload_n 3, 1) := by decide +kernel
theorem dR_opens_84 : decode bR_opens 84 = .ok (.iadd, 1) := by decide +kernel
theorem dR_opens_85 : decode bR_opens 85 = .ok (.aload_n 0, 1) := by decide +kernel
theorem dR_opens_86 : decode bR_opens 86 = .ok (.getfield 7, 3) := by decide +kernel
theorem dR_opens_89 : decode bR_opens 89 = .ok (.bipush 111, 2) := by decide +kernel
theorem dR_opens_91 : decode bR_opens 91 = .ok (.iload_n 3, 1) := by decide +kernel
theorem dR_opens_92 : decode bR_opens 92 = .ok (.iadd, 1) := by decide +kernel
theorem dR_opens_93 : decode bR_opens 93 = .ok (.iaload, 1) := by decide +kernel
theorem dR_opens_94 : decode bR_opens 94 = .ok (.iload_n 2, 1) := by decide +kernel
theorem dR_opens_95 : decode bR_opens 95 = .ok (.if_icmp .ne 7, 3) := by decide +kernel
theorem dR_opens_98 : decode bR_opens 98 = .ok (.iload_n 1, 1) := by decide +kernel
theorem dR_opens_99 : decode bR_opens 99 = .ok (.goto 12, 3) := by decide +kernel
theorem dR_opens_102 : decode bR_opens 102 = .ok (.aload_n 0, 1) := by decide +kernel
theorem dR_opens_103 : decode bR_opens 103 = .ok (.getfield 7, 3) := by decide +kernel
theorem dR_opens_106 : decode bR_opens 106 = .ok (.bipush 111, 2) := by decide +kernel
theorem dR_opens_108 : decode bR_opens 108 = .ok (.iload_n 3, 1) := by decide +kernel
theorem dR_opens_109 : decode bR_opens 109 = .ok (.iadd, 1) := by decide +kernel
theorem dR_opens_110 : decode bR_opens 110 = .ok (.iaload, 1) := by decide +kernel
theorem dR_opens_111 : decode bR_opens 111 = .ok (.iastore, 1) := by decide +kernel
theorem dR_opens_112 : decode bR_opens 112 = .ok (.iinc 3 1, 3) := by decide +kernel
theorem dR_opens_115 : decode bR_opens 115 = .ok (.goto (-48), 3) := by decide +kernel
theorem dR_opens_118 : decode bR_opens 118 = .ok (.iconst 0, 1) := by decide +kernel
theorem dR_opens_119 : decode bR_opens 119 = .ok (.istore_n 3, 1) := by decide +kernel
theorem dR_opens_120 : decode bR_opens 120 = .ok (.iload_n 3, 1) := by decide +kernel
theorem dR_opens_121 : decode bR_opens 121 = .ok (.bipush 6, 2) := by decide +kernel
theorem dR_opens_123 : decode bR_opens 123 = .ok (.if_icmp .ge 55, 3) := by decide +kernel
theorem dR_opens_126 : decode bR_opens 126 = .ok (.aload_n 0, 1) := by decide +kernel
theorem dR_opens_127 : decode bR_opens 127 = .ok (.getfield 7, 3) := by decide +kernel
theorem dR_opens_130 : decode bR_opens 130 = .ok (.bipush 39, 2) := by decide +kernel
theorem dR_opens_132 : decode bR_opens 132 = .ok (.bipush 6, 2) := by decide +kernel
theorem dR_opens_134 : decode bR_opens 134 = .ok (.iload_n 1, 1) := by decide +kernel
theorem dR_opens_135 : decode bR_opens 135 = .ok (.imul, 1) := by decide +kernel
theorem dR_opens_136 : decode bR_opens 136 = .ok (.iadd, 1) := by decide +kernel
theorem dR_opens_137 : decode bR_opens 137 = .ok (.iload_n 3, 1) := by decide +kernel
theorem dR_opens_138 : decode bR_opens 138 = .ok (.iadd, 1) := by decide +kernel
theorem dR_opens_139 : decode bR_opens 139 = .ok (.dup2, 1) := by decide +kernel
theorem dR_opens_140 : decode bR_opens 140 = .ok (.iaload, 1) := by decide +kernel
theorem dR_opens_141 : decode bR_opens 141 = .ok (.aload_n 0, 1) := by decide +kernel
theorem dR_opens_142 : decode bR_opens 142 = .ok (.getfield 7, 3) := by decide +kernel
theorem dR_opens_145 : decode bR_opens 145 = .ok (.bipush 39, 2) := by decide +kernel
theorem dR_opens_147 : decode bR_opens 147 = .ok (.bipush 6, 2) := by decide +kernel
theorem dR_opens_149 : decode bR_opens 149 = .ok (.iload_n 2, 1) := by decide +kernel
theorem dR_opens_150 : decode bR_opens 150 = .ok (.imul, 1) := by decide +kernel
theorem dR_opens_151 : decode bR_opens 151 = .ok (.iadd, 1) := by decide +kernel
theorem dR_opens_152 : decode bR_opens 152 = .ok (.iload_n 3, 1) := by decide +kernel
theorem dR_opens_153 : decode bR_opens 153 = .ok (.iadd, 1) := by decide +kernel
theorem dR_opens_154 : decode bR_opens 154 = .ok (.iaload, 1) := by decide +kernel
theorem dR_opens_155 : decode bR_opens 155 = .ok (.iadd, 1) := by decide +kernel
theorem dR_opens_156 : decode bR_opens 156 = .ok (.iastore, 1) := by decide +kernel
theorem dR_opens_157 : decode bR_opens 157 = .ok (.aload_n 0, 1) := by decide +kernel
theorem dR_opens_158 : decode bR_opens 158 = .ok (.getfield 7, 3) := by decide +kernel
theorem dR_opens_161 : decode bR_opens 161 = .ok (.bipush 39, 2) := by decide +kernel
theorem dR_opens_163 : decode bR_opens 163 = .ok (.bipush 6, 2) := by decide +kernel
theorem dR_opens_165 : decode bR_opens 165 = .ok (.iload_n 2, 1) := by decide +kernel
theorem dR_opens_166 : decode bR_opens 166 = .ok (.imul, 1) := by decide +kernel
theorem dR_opens_167 : decode bR_opens 167 = .ok (.iadd, 1) := by decide +kernel
theorem dR_opens_168 : decode bR_opens 168 = .ok (.iload_n 3, 1) := by decide +kernel
theorem dR_opens_169 : decode bR_opens 169 = .ok (.iadd, 1) := by decide +kernel
theorem dR_opens_170 : decode bR_opens 170 = .ok (.iconst 0, 1) := by decide +kernel
theorem dR_opens_171 : decode bR_opens 171 = .ok (.iastore, 1) := by decide +kernel
theorem dR_opens_172 : decode bR_opens 172 = .ok (.iinc 3 1, 3) := by decide +kernel
theorem dR_opens_175 : decode bR_opens 175 = .ok (.goto (-55), 3) := by decide +kernel
theorem dR_opens_178 : decode bR_opens 178 = .ok (.return_, 1) := by decide +kernel
theorem dR_does_0 : decode bR_does 0 = .ok (.aload_n 0, 1) := by decide +kernel
theorem dR_does_1 : decode bR_does 1 = .ok (.iload_n 1, 1) := by decide +kernel
theorem dR_does_2 : decode bR_does 2 = .ok (.invokevirtual 78, 3) := by decide +kernel
theorem dR_does_5 : decode bR_does 5 = .ok (.istore_n 2, 1) := by decide +kernel
theorem dR_does_6 : decode bR_does 6 = .ok (.iload_n 2, 1) := by decide +kernel
theorem dR_does_7 : decode bR_does 7 = .ok (.bipush (-9), 2) := by decide +kernel
theorem dR_does_9 : decode bR_does 9 = .ok (.if_icmp .ne 5, 3) := by decide +kernel
theorem dR_does_12 : decode bR_does 12 = .ok (.iconst 0, 1) := by decide +kernel
theorem dR_does_13 : decode bR_does 13 = .ok (.ireturn, 1) := by decide +kernel
theorem dR_does_14 : decode bR_does 14 = .ok (.aload_n 0, 1) := by decide +kernel
theorem dR_does_15 : decode bR_does 15 = .ok (.getfield 7, 3) := by decide +kernel
theorem dR_does_18 : decode bR_does 18 = .ok (.bipush 111, 2) := by decide +kernel
theorem dR_does_20 : decode bR_does 20 = .ok (.iload_n 1, 1) := by decide +kernel
theorem dR_does_21 : decode bR_does 21 = .ok (.iadd, 1) := by decide +kernel
theorem dR_does_22 : decode bR_does 22 = .ok (.iaload, 1) := by decide +kernel
theorem dR_does_23 : decode bR_does 23 = .ok (.istore_n 3, 1) := by decide +kernel
theorem dR_does_24 : decode bR_does 24 = .ok (.aload_n 0, 1) := by decide +kernel
theorem dR_does_25 : decode bR_does 25 = .ok (.iload_n 1, 1) := by decide +kernel
theorem dR_does_26 : decode bR_does 26 = .ok (.invokevirtual 62, 3) := by decide +kernel
theorem dR_does_29 : decode bR_does 29 = .ok (.bipush 10, 2) := by decide +kernel
theorem dR_does_31 : decode bR_does 31 = .ok (.idiv, 1) := by decide +kernel
theorem dR_does_32 : decode bR_does 32 = .ok (.istore 4, 2) := by decide +kernel
theorem dR_does_34 : decode bR_does 34 = .ok (.aload_n 0, 1) := by decide +kernel
theorem dR_does_35 : decode bR_does 35 = .ok (.getfield 7, 3) := by decide +kernel
theorem dR_does_38 : decode bR_does 38 = .ok (.sipush 135, 3) := by decide +kernel
theorem dR_does_41 : decode bR_does 41 = .ok (.iload_n 1, 1) := by decide +kernel
theorem dR_does_42 : decode bR_does 42 = .ok (.iadd, 1) := by decide +kernel
theorem dR_does_43 : decode bR_does 43 = .ok (.dup2, 1) := by decide +kernel
theorem dR_does_44 : decode bR_does 44 = .ok (.iaload, 1) := by decide +kernel
theorem dR_does_45 : decode bR_does 45 = .ok (.iconst 1, 1) := by decide +kernel
theorem dR_does_46 : decode bR_does 46 = .ok (.iadd, 1) := by decide +kernel
theorem dR_does_47 : decode bR_does 47 = .ok (.iastore, 1) := by decide +kernel
theorem dR_does_48 : decode bR_does 48 = .ok (.iload 4, 2) := by decide +kernel
theorem dR_does_50 : decode bR_does 50 = .ok (.iconst 1, 1) := by decide +kernel
theorem dR_does_51 : decode bR_does 51 = .ok (.if_icmp .ne 16, 3) := by decide +kernel
theorem dR_does_54 : decode bR_does 54 = .ok (.aload_n 0, 1) := by decide +kernel
theorem dR_does_55 : decode bR_does 55 = .ok (.getfield 7, 3) := by decide +kernel
theorem dR_does_58 : decode bR_does 58 = .ok (.bipush 15, 2) := by decide +kernel
theorem dR_does_60 : decode bR_does 60 = .ok (.iload_n 3, 1) := by decide +kernel
theorem dR_does_61 : decode bR_does 61 = .ok (.iadd, 1) := by decide +kernel
theorem dR_does_62 : decode bR_does 62 = .ok (.iload_n 2, 1) := by decide +kernel
theorem dR_does_63 : decode bR_does 63 = .ok (.iastore, 1) := by decide +kernel
theorem dR_does_64 : decode bR_does 64 = .ok (.goto 101, 3) := by decide +kernel
theorem dR_does_67 : decode bR_does 67 = .ok (.iload 4, 2) := by decide +kernel
theorem dR_does_69 : decode bR_does 69 = .ok (.iconst 2, 1) := by decide +kernel
theorem dR_does_70 : decode bR_does 70 = .ok (.if_icmp .ne 24, 3) := by decide +kernel
theorem dR_does_73 : decode bR_does 73 = .ok (.aload_n 0, 1) := by decide +kernel
theorem dR_does_74 : decode bR_does 74 = .ok (.getfield 7, 3) := by decide +kernel
theorem dR_does_77 : decode bR_does 77 = .ok (.bipush 15, 2) := by decide +kernel
theorem dR_does_79 : decode bR_does 79 = .ok (.iload_n 3, 1) := by decide +kernel
theorem dR_does_80 : decode bR_does 80 = .ok (.iadd, 1) := by decide +kernel
theorem dR_does_81 : decode bR_does 81 = .ok (.aload_n 0, 1) := by decide +kernel
theorem dR_does_82 : decode bR_does 82 = .ok (.getfield 7, 3) := by decide +kernel
theorem dR_does_85 : decode bR_does 85 = .ok (.bipush 15, 2) := by decide +kernel
theorem dR_does_87 : decode bR_does 87 = .ok (.iload_n 2, 1) := by decide +kernel
theorem dR_does_88 : decode bR_does 88 = .ok (.iadd, 1) := by decide +kernel
theorem dR_does_89 : decode bR_does 89 = .ok (.iaload, 1) := by decide +kernel
theorem dR_does_90 : decode bR_does 90 = .ok (.iastore, 1) := by decide +kernel
theorem dR_does_91 : decode bR_does 91 = .ok (.goto 74, 3) := by decide +kernel
theorem dR_does_94 : decode bR_does 94 = .ok (.iload 4, 2) := by decide +kernel
theorem dR_does_96 : decode bR_does 96 = .ok (.iconst 3, 1) := by decide +kernel
theorem dR_does_97 : decode bR_does 97 = .ok (.if_icmp .ne 12, 3) := by decide +kernel
theorem dR_does_100 : decode bR_does 100 = .ok (.aload_n 0, 1) := by decide +kernel
theorem dR_does_101 : decode bR_does 101 = .ok (.iload_n 3, 1) := by decide +kernel
theorem dR_does_102 : decode bR_does 102 = .ok (.iload_n 2, 1) := by decide +kernel
theorem dR_does_103 : decode bR_does 103 = .ok (.invokevirtual 81, 3) := by decide +kernel
theorem dR_does_106 : decode bR_does 106 = .ok (.goto 59, 3) := by decide +kernel
theorem dR_does_109 : decode bR_does 109 = .ok (.iload 4, 2) := by decide +kernel
theorem dR_does_111 : decode bR_does 111 = .ok (.iconst 4, 1) := by decide +kernel
theorem dR_does_112 : decode bR_does 112 = .ok (.if_icmp .ne 24, 3) := by decide +kernel
theorem dR_does_115 : decode bR_does 115 = .ok (.aload_n 0, 1) := by decide +kernel
theorem dR_does_116 : decode bR_does 116 = .ok (.getfield 7, 3) := by decide +kernel
theorem dR_does_119 : decode bR_does 119 = .ok (.bipush 39, 2) := by decide +kernel
theorem dR_does_121 : decode bR_does 121 = .ok (.bipush 6, 2) := by decide +kernel
theorem dR_does_123 : decode bR_does 123 = .ok (.iload_n 3, 1) := by decide +kernel
theorem dR_does_124 : decode bR_does 124 = .ok (.imul, 1) := by decide +kernel
theorem dR_does_125 : decode bR_does 125 = .ok (.iadd, 1) := by decide +kernel
theorem dR_does_126 : decode bR_does 126 = .ok (.iload_n 2, 1) := by decide +kernel
theorem dR_does_127 : decode bR_does 127 = .ok (.iadd, 1) := by decide +kernel
theorem dR_does_128 : decode bR_does 128 = .ok (.dup2, 1) := by decide +kernel
theorem dR_does_129 : decode bR_does 129 = .ok (.iaload, 1) := by decide +kernel
theorem dR_does_130 : decode bR_does 130 = .ok (.iconst 1, 1) := by decide +kernel
theorem dR_does_131 : decode bR_does 131 = .ok (.iadd, 1) := by decide +kernel
theorem dR_does_132 : decode bR_does 132 = .ok (.iastore, 1) := by decide +kernel
theorem dR_does_133 : decode bR_does 133 = .ok (.goto 32, 3) := by decide +kernel
theorem dR_does_136 : decode bR_does 136 = .ok (.aload_n 0, 1) := by decide +kernel
theorem dR_does_137 : decode bR_does 137 = .ok (.getfield 7, 3) := by decide +kernel
theorem dR_does_140 : decode bR_does 140 = .ok (.bipush 39, 2) := by decide +kernel
theorem dR_does_142 : decode bR_does 142 = .ok (.bipush 6, 2) := by decide +kernel
theorem dR_does_144 : decode bR_does 144 = .ok (.iload_n 3, 1) := by decide +kernel
theorem dR_does_145 : decode bR_does 145 = .ok (.imul, 1) := by decide +kernel
theorem dR_does_146 : decode bR_does 146 = .ok (.iadd, 1) := by decide +kernel
theorem dR_does_147 : decode bR_does 147 = .ok (.iload_n 2, 1) := by decide +kernel
theorem dR_does_148 : decode bR_does 148 = .ok (.iadd, 1) := by decide +kernel
theorem dR_does_149 : decode bR_does 149 = .ok (.dup2, 1) := by decide +kernel
theorem dR_does_150 : decode bR_does 150 = .ok (.iaload, 1) := by decide +kernel
theorem dR_does_151 : decode bR_does 151 = .ok (.iconst 1, 1) := by decide +kernel
theorem dR_does_152 : decode bR_does 152 = .ok (.isub, 1) := by decide +kernel
theorem dR_does_153 : decode bR_does 153 = .ok (.iastore, 1) := by decide +kernel
theorem dR_does_154 : decode bR_does 154 = .ok (.aload_n 0, 1) := by decide +kernel
theorem dR_does_155 : decode bR_does 155 = .ok (.getfield 7, 3) := by decide +kernel
theorem dR_does_158 : decode bR_does 158 = .ok (.sipush 147, 3) := by decide +kernel
theorem dR_does_161 : decode bR_does 161 = .ok (.iload_n 1, 1) := by decide +kernel
theorem dR_does_162 : decode bR_does 162 = .ok (.iadd, 1) := by decide +kernel
theorem dR_does_163 : decode bR_does 163 = .ok (.iload_n 2, 1) := by decide +kernel
theorem dR_does_164 : decode bR_does 164 = .ok (.iastore, 1) := by decide +kernel
theorem dR_does_165 : decode bR_does 165 = .ok (.iconst 1, 1) := by decide +kernel
theorem dR_does_166 : decode bR_does 166 = .ok (.ireturn, 1) := by decide +kernel
theorem dR_can_0 : decode bR_can 0 = .ok (.iconst 0, 1) := by decide +kernel
theorem dR_can_1 : decode bR_can 1 = .ok (.istore_n 1, 1) := by decide +kernel
theorem dR_can_2 : decode bR_can 2 = .ok (.iconst 0, 1) := by decide +kernel
theorem dR_can_3 : decode bR_can 3 = .ok (.istore_n 2, 1) := by decide +kernel
theorem dR_can_4 : decode bR_can 4 = .ok (.iload_n 2, 1) := by decide +kernel
theorem dR_can_5 : decode bR_can 5 = .ok (.aload_n 0, 1) := by decide +kernel
theorem dR_can_6 : decode bR_can 6 = .ok (.getfield 7, 3) := by decide +kernel
theorem dR_can_9 : decode bR_can 9 = .ok (.iconst 1, 1) := by decide +kernel
theorem dR_can_10 : decode bR_can 10 = .ok (.iaload, 1) := by decide +kernel
theorem dR_can_11 : decode bR_can 11 = .ok (.if_icmp .ge 29, 3) := by decide +kernel
theorem dR_can_14 : decode bR_can 14 = .ok (.iload_n 1, 1) := by decide +kernel
theorem dR_can_15 : decode bR_can 15 = .ok (.aload_n 0, 1) := by decide +kernel
theorem dR_can_16 : decode bR_can 16 = .ok (.iload_n 2, 1) := by decide +kernel
theorem dR_can_17 : decode bR_can 17 = .ok (.invokevirtual 78, 3) := by decide +kernel
theorem dR_can_20 : decode bR_can 20 = .ok (.bipush (-9), 2) := by decide +kernel
theorem dR_can_22 : decode bR_can 22 = .ok (.if_icmp .eq 9, 3) := by decide +kernel
theorem dR_can_25 : decode bR_can 25 = .ok (.iconst 1, 1) := by decide +kernel
theorem dR_can_26 : decode bR_can 26 = .ok (.iload_n 2, 1) := by decide +kernel
theorem dR_can_27 : decode bR_can 27 = .ok (.ishl, 1) := by decide +kernel
theorem dR_can_28 : decode bR_can 28 = .ok (.goto 4, 3) := by decide +kernel
theorem dR_can_31 : decode bR_can 31 = .ok (.iconst 0, 1) := by decide +kernel
theorem dR_can_32 : decode bR_can 32 = .ok (.ior, 1) := by decide +kernel
theorem dR_can_33 : decode bR_can 33 = .ok (.istore_n 1, 1) := by decide +kernel
theorem dR_can_34 : decode bR_can 34 = .ok (.iinc 2 1, 3) := by decide +kernel
theorem dR_can_37 : decode bR_can 37 = .ok (.goto (-33), 3) := by decide +kernel
theorem dR_can_40 : decode bR_can 40 = .ok (.iload_n 1, 1) := by decide +kernel
theorem dR_can_41 : decode bR_can 41 = .ok (.ireturn, 1) := by decide +kernel
theorem dR_act_0 : decode bR_act 0 = .ok (.aload_n 0, 1) := by decide +kernel
theorem dR_act_1 : decode bR_act 1 = .ok (.iload_n 1, 1) := by decide +kernel
theorem dR_act_2 : decode bR_act 2 = .ok (.invokevirtual 59, 3) := by decide +kernel
theorem dR_act_5 : decode bR_act 5 = .ok (.ifCond .ne 5, 3) := by decide +kernel
theorem dR_act_8 : decode bR_act 8 = .ok (.iconst (-1), 1) := by decide +kernel
theorem dR_act_9 : decode bR_act 9 = .ok (.ireturn, 1) := by decide +kernel
theorem dR_act_10 : decode bR_act 10 = .ok (.aload_n 0, 1) := by decide +kernel
theorem dR_act_11 : decode bR_act 11 = .ok (.iload_n 1, 1) := by decide +kernel
theorem dR_act_12 : decode bR_act 12 = .ok (.invokevirtual 62, 3) := by decide +kernel
theorem dR_act_15 : decode bR_act 15 = .ok (.bipush 10, 2) := by decide +kernel
theorem dR_act_17 : decode bR_act 17 = .ok (.idiv, 1) := by decide +kernel
theorem dR_act_18 : decode bR_act 18 = .ok (.istore_n 2, 1) := by decide +kernel
theorem dR_act_19 : decode bR_act 19 = .ok (.aload_n 0, 1) := by decide +kernel
theorem dR_act_20 : decode bR_act 20 = .ok (.iload_n 1, 1) := by decide +kernel
theorem dR_act_21 : decode bR_act 21 = .ok (.invokevirtual 85, 3) := by decide +kernel
theorem dR_act_24 : decode bR_act 24 = .ok (.ifCond .eq 7, 3) := by decide +kernel
theorem dR_act_27 : decode bR_act 27 = .ok (.iload_n 2, 1) := by decide +kernel
theorem dR_act_28 : decode bR_act 28 = .ok (.goto 5, 3) := by decide +kernel
theorem dR_act_31 : decode bR_act 31 = .ok (.bipush (-3), 2) := by decide +kernel
theorem dR_act_33 : decode bR_act 33 = .ok (.ireturn, 1) := by decide +kernel
theorem dR_rounds_0 : decode bR_rounds 0 = .ok (.iload_n 1, 1) := by decide +kernel
theorem dR_rounds_1 : decode bR_rounds 1 = .ok (.iconst 1, 1) := by decide +kernel
theorem dR_rounds_2 : decode bR_rounds 2 = .ok (.bipush 50, 2) := by decide +kernel
theorem dR_rounds_4 : decode bR_rounds 4 = .ok (.invokestatic 22, 3) := by decide +kernel
theorem dR_rounds_7 : decode bR_rounds 7 = .ok (.ifCond .ne 6, 3) := by decide +kernel
theorem dR_rounds_10 : decode bR_rounds 10 = .ok (.bipush (-2), 2) := by decide +kernel
theorem dR_rounds_12 : decode bR_rounds 12 = .ok (.ireturn, 1) := by decide +kernel
theorem dR_rounds_13 : decode bR_rounds 13 = .ok (.iconst 0, 1) := by decide +kernel
theorem dR_rounds_14 : decode bR_rounds 14 = .ok (.istore_n 2, 1) := by decide +kernel
theorem dR_rounds_15 : decode bR_rounds 15 = .ok (.iconst 1, 1) := by decide +kernel
theorem dR_rounds_16 : decode bR_rounds 16 = .ok (.istore_n 3, 1) := by decide +kernel
theorem dR_rounds_17 : decode bR_rounds 17 = .ok (.iconst 0, 1) := by decide +kernel
theorem dR_rounds_18 : decode bR_rounds 18 = .ok (.istore 4, 2) := by decide +kernel
theorem dR_rounds_20 : decode bR_rounds 20 = .ok (.iload 4, 2) := by decide +kernel
theorem dR_rounds_22 : decode bR_rounds 22 = .ok (.iload_n 1, 1) := by decide +kernel
theorem dR_rounds_23 : decode bR_rounds 23 = .ok (.if_icmp .ge 56, 3) := by decide +kernel
theorem dR_rounds_26 : decode bR_rounds 26 = .ok (.iload_n 3, 1) := by decide +kernel
theorem dR_rounds_27 : decode bR_rounds 27 = .ok (.ifCond .le 52, 3) := by decide +kernel
theorem dR_rounds_30 : decode bR_rounds 30 = .ok (.iconst 0, 1) := by decide +kernel
theorem dR_rounds_31 : decode bR_rounds 31 = .ok (.istore_n 3, 1) := by decide +kernel
theorem dR_rounds_32 : decode bR_rounds 32 = .ok (.iconst 0, 1) := by decide +kernel
theorem dR_rounds_33 : decode bR_rounds 33 = .ok (.istore 5, 2) := by decide +kernel
theorem dR_rounds_35 : decode bR_rounds 35 = .ok (.iload 5, 2) := by decide +kernel
theorem dR_rounds_37 : decode bR_rounds 37 = .ok (.aload_n 0, 1) := by decide +kernel
theorem dR_rounds_38 : decode bR_rounds 38 = .ok (.getfield 7, 3) := by decide +kernel
theorem dR_rounds_41 : decode bR_rounds 41 = .ok (.iconst 1, 1) := by decide +kernel
theorem dR_rounds_42 : decode bR_rounds 42 = .ok (.iaload, 1) := by decide +kernel
theorem dR_rounds_43 : decode bR_rounds 43 = .ok (.if_icmp .ge 26, 3) := by decide +kernel
theorem dR_rounds_46 : decode bR_rounds 46 = .ok (.iload_n 3, 1) := by decide +kernel
theorem dR_rounds_47 : decode bR_rounds 47 = .ok (.aload_n 0, 1) := by decide +kernel
theorem dR_rounds_48 : decode bR_rounds 48 = .ok (.iload 5, 2) := by decide +kernel
theorem dR_rounds_50 : decode bR_rounds 50 = .ok (.invokevirtual 85, 3) := by decide +kernel
theorem dR_rounds_53 : decode bR_rounds 53 = .ok (.ifCond .eq 7, 3) := by decide +kernel
theorem dR_rounds_56 : decode bR_rounds 56 = .ok (.iconst 1, 1) := by decide +kernel
theorem dR_rounds_57 : decode bR_rounds 57 = .ok (.goto 4, 3) := by decide +kernel
theorem dR_rounds_60 : decode bR_rounds 60 = .ok (.iconst 0, 1) := by decide +kernel
theorem dR_rounds_61 : decode bR_rounds 61 = .ok (.iadd, 1) := by decide +kernel
theorem dR_rounds_62 : decode bR_rounds 62 = .ok (.istore_n 3, 1) := by decide +kernel
theorem dR_rounds_63 : decode bR_rounds 63 = .ok (.iinc 5 1, 3) := by decide +kernel
theorem dR_rounds_66 : decode bR_rounds 66 = .ok (.goto (-31), 3) := by decide +kernel
theorem dR_rounds_69 : decode bR_rounds 69 = .ok (.iload_n 2, 1) := by decide +kernel
theorem dR_rounds_70 : decode bR_rounds 70 = .ok (.iload_n 3, 1) := by decide +kernel
theorem dR_rounds_71 : decode bR_rounds 71 = .ok (.iadd, 1) := by decide +kernel
theorem dR_rounds_72 : decode bR_rounds 72 = .ok (.istore_n 2, 1) := by decide +kernel
theorem dR_rounds_73 : decode bR_rounds 73 = .ok (.iinc 4 1, 3) := by decide +kernel
theorem dR_rounds_76 : decode bR_rounds 76 = .ok (.goto (-56), 3) := by decide +kernel
theorem dR_rounds_79 : decode bR_rounds 79 = .ok (.iload_n 2, 1) := by decide +kernel
theorem dR_rounds_80 : decode bR_rounds 80 = .ok (.ireturn, 1) := by decide +kernel
theorem dR_keepsAt_0 : decode bR_keepsAt 0 = .ok (.iconst 0, 1) := by decide +kernel
theorem dR_keepsAt_1 : decode bR_keepsAt 1 = .ok (.istore_n 2, 1) := by decide +kernel
theorem dR_keepsAt_2 : decode bR_keepsAt 2 = .ok (.iload_n 2, 1) := by decide +kernel
theorem dR_keepsAt_3 : decode bR_keepsAt 3 = .ok (.sipush 231, 3) := by decide +kernel
theorem dR_keepsAt_6 : decode bR_keepsAt 6 = .ok (.if_icmp .ge 27, 3) := by decide +kernel
theorem dR_keepsAt_9 : decode bR_keepsAt 9 = .ok (.aload_n 0, 1) := by decide +kernel
theorem dR_keepsAt_10 : decode bR_keepsAt 10 = .ok (.getfield 16, 3) := by decide +kernel
theorem dR_keepsAt_13 : decode bR_keepsAt 13 = .ok (.sipush 231, 3) := by decide +kernel
theorem dR_keepsAt_16 : decode bR_keepsAt 16 = .ok (.iload_n 1, 1) := by decide +kernel
theorem dR_keepsAt_17 : decode bR_keepsAt 17 = .ok (.imul, 1) := by decide +kernel
theorem dR_keepsAt_18 : decode bR_keepsAt 18 = .ok (.iload_n 2, 1) := by decide +kernel
theorem dR_keepsAt_19 : decode bR_keepsAt 19 = .ok (.iadd, 1) := by decide +kernel
theorem dR_keepsAt_20 : decode bR_keepsAt 20 = .ok (.aload_n 0, 1) := by decide +kernel
theorem dR_keepsAt_21 : decode bR_keepsAt 21 = .ok (.getfield 7, 3) := by decide +kernel
theorem dR_keepsAt_24 : decode bR_keepsAt 24 = .ok (.iload_n 2, 1) := by decide +kernel
theorem dR_keepsAt_25 : decode bR_keepsAt 25 = .ok (.iaload, 1) := by decide +kernel
theorem dR_keepsAt_26 : decode bR_keepsAt 26 = .ok (.iastore, 1) := by decide +kernel
theorem dR_keepsAt_27 : decode bR_keepsAt 27 = .ok (.iinc 2 1, 3) := by decide +kernel
theorem dR_keepsAt_30 : decode bR_keepsAt 30 = .ok (.goto (-28), 3) := by decide +kernel
theorem dR_keepsAt_33 : decode bR_keepsAt 33 = .ok (.return_, 1) := by decide +kernel
theorem dR_putsFrom_0 : decode bR_putsFrom 0 = .ok (.iconst 0, 1) := by decide +kernel
theorem dR_putsFrom_1 : decode bR_putsFrom 1 = .ok (.istore_n 2, 1) := by decide +kernel
theorem dR_putsFrom_2 : decode bR_putsFrom 2 = .ok (.iload_n 2, 1) := by decide +kernel
theorem dR_putsFrom_3 : decode bR_putsFrom 3 = .ok (.sipush 231, 3) := by decide +kernel
theorem dR_putsFrom_6 : decode bR_putsFrom 6 = .ok (.if_icmp .ge 27, 3) := by decide +kernel
theorem dR_putsFrom_9 : decode bR_putsFrom 9 = .ok (.aload_n 0, 1) := by decide +kernel
theorem dR_putsFrom_10 : decode bR_putsFrom 10 = .ok (.getfield 7, 3) := by decide +kernel
theorem dR_putsFrom_13 : decode bR_putsFrom 13 = .ok (.iload_n 2, 1) := by decide +kernel
theorem dR_putsFrom_14 : decode bR_putsFrom 14 = .ok (.aload_n 0, 1) := by decide +kernel
theorem dR_putsFrom_15 : decode bR_putsFrom 15 = .ok (.getfield 16, 3) := by decide +kernel
theorem dR_putsFrom_18 : decode bR_putsFrom 18 = .ok (.sipush 231, 3) := by decide +kernel
theorem dR_putsFrom_21 : decode bR_putsFrom 21 = .ok (.iload_n 1, 1) := by decide +kernel
theorem dR_putsFrom_22 : decode bR_putsFrom 22 = .ok (.imul, 1) := by decide +kernel
theorem dR_putsFrom_23 : decode bR_putsFrom 23 = .ok (.iload_n 2, 1) := by decide +kernel
theorem dR_putsFrom_24 : decode bR_putsFrom 24 = .ok (.iadd, 1) := by decide +kernel
theorem dR_putsFrom_25 : decode bR_putsFrom 25 = .ok (.iaload, 1) := by decide +kernel
theorem dR_putsFrom_26 : decode bR_putsFrom 26 = .ok (.iastore, 1) := by decide +kernel
theorem dR_putsFrom_27 : decode bR_putsFrom 27 = .ok (.iinc 2 1, 3) := by decide +kernel
theorem dR_putsFrom_30 : decode bR_putsFrom 30 = .ok (.goto (-28), 3) := by decide +kernel
theorem dR_putsFrom_33 : decode bR_putsFrom 33 = .ok (.return_, 1) := by decide +kernel
theorem dR_threadAt_0 : decode bR_threadAt 0 = .ok (.iload_n 1, 1) := by decide +kernel
theorem dR_threadAt_1 : decode bR_threadAt 1 = .ok (.istore 4, 2) := by decide +kernel
theorem dR_threadAt_3 : decode bR_threadAt 3 = .ok (.iload_n 2, 1) := by decide +kernel
theorem dR_threadAt_4 : decode bR_threadAt 4 = .ok (.iconst 1, 1) := by decide +kernel
theorem dR_threadAt_5 : decode bR_threadAt 5 = .ok (.isub, 1) := by decide +kernel
theorem dR_threadAt_6 : decode bR_threadAt 6 = .ok (.istore 5, 2) := by decide +kernel
theorem dR_threadAt_8 : decode bR_threadAt 8 = .ok (.iload 5, 2) := by decide +kernel
theorem dR_threadAt_10 : decode bR_threadAt 10 = .ok (.iload_n 3, 1) := by decide +kernel
theorem dR_threadAt_11 : decode bR_threadAt 11 = .ok (.if_icmp .le 20, 3) := by decide +kernel
theorem dR_threadAt_14 : decode bR_threadAt 14 = .ok (.iload 4, 2) := by decide +kernel
theorem dR_threadAt_16 : decode bR_threadAt 16 = .ok (.aload_n 0, 1) := by decide +kernel
theorem dR_threadAt_17 : decode bR_threadAt 17 = .ok (.getfield 7, 3) := by decide +kernel
theorem dR_threadAt_20 : decode bR_threadAt 20 = .ok (.iconst 1, 1) := by decide +kernel
theorem dR_threadAt_21 : decode bR_threadAt 21 = .ok (.iaload, 1) := by decide +kernel
theorem dR_threadAt_22 : decode bR_threadAt 22 = .ok (.idiv, 1) := by decide +kernel
theorem dR_threadAt_23 : decode bR_threadAt 23 = .ok (.istore 4, 2) := by decide +kernel
theorem dR_threadAt_25 : decode bR_threadAt 25 = .ok (.iinc 5 (-1), 3) := by decide +kernel
theorem dR_threadAt_28 : decode bR_threadAt 28 = .ok (.goto (-20), 3) := by decide +kernel
theorem dR_threadAt_31 : decode bR_threadAt 31 = .ok (.iload 4, 2) := by decide +kernel
theorem dR_threadAt_33 : decode bR_threadAt 33 = .ok (.aload_n 0, 1) := by decide +kernel
theorem dR_threadAt_34 : decode bR_threadAt 34 = .ok (.getfield 7, 3) := by decide +kernel
theorem dR_threadAt_37 : decode bR_threadAt 37 = .ok (.iconst 1, 1) := by decide +kernel
theorem dR_threadAt_38 : decode bR_threadAt 38 = .ok (.iaload, 1) := by decide +kernel
theorem dR_threadAt_39 : decode bR_threadAt 39 = .ok (.irem, 1) := by decide +kernel
theorem dR_threadAt_40 : decode bR_threadAt 40 = .ok (.ireturn, 1) := by decide +kernel
set_option maxRecDepth 20000 in
theorem wq_501 : Cond.methodLink rR 68 yR_nameOf ∈ wT := wT_in 501 rfl rfl
set_option maxRecDepth 20000 in
theorem wq_503 : Cond.instanceMethod yR_nameOf ∈ wT := wT_in 503 rfl rfl
theorem wq_21 : Cond.selects rR yR_nameOf yR_nameOf ∈ wT := wT_in 21 rfl rfl
set_option maxRecDepth 20000 in
theorem wq_504 : Cond.code yR_nameOf bR_nameOf 3 (some .int) ∈ wT := wT_in 504 rfl rfl
theorem kV_R_68 : mp_V rR 68 yR_nameOf bR_nameOf 3 (some .int) 1 := ⟨wq_501, wq_503, wq_21, wq_39, wq_504, ⟨by decide, by decide, by decide +kernel⟩⟩
set_option maxRecDepth 20000 in
theorem wq_505 : Cond.methodLink rR 71 yR_leastIn ∈ wT := wT_in 505 rfl rfl
set_option maxRecDepth 20000 in
theorem wq_507 : Cond.instanceMethod yR_leastIn ∈ wT := wT_in 507 rfl rfl
theorem wq_22 : Cond.selects rR yR_leastIn yR_leastIn ∈ wT := wT_in 22 rfl rfl
set_option maxRecDepth 20000 in
theorem wq_508 : Cond.code yR_leastIn bR_leastIn 5 (some .int) ∈ wT := wT_in 508 rfl rfl
theorem kV_R_71 : mp_V rR 71 yR_leastIn bR_leastIn 5 (some .int) 3 := ⟨wq_505, wq_507, wq_22, wq_39, wq_508, ⟨by decide, by decide, by decide +kernel⟩⟩
set_option maxRecDepth 20000 in
theorem wq_509 : Cond.methodLink rR 75 yR_leastMessage ∈ wT := wT_in 509 rfl rfl
set_option maxRecDepth 20000 in
theorem wq_511 : Cond.instanceMethod yR_leastMessage ∈ wT := wT_in 511 rfl rfl
theorem wq_23 : Cond.selects rR yR_leastMessage yR_leastMessage ∈ wT := wT_in 23 rfl rfl
set_option maxRecDepth 20000 in
theorem wq_512 : Cond.code yR_leastMessage bR_leastMessage 3 (some .int) ∈ wT := wT_in 512 rfl rfl
theorem kV_R_75 : mp_V rR 75 yR_leastMessage bR_leastMessage 3 (some .int) 1 := ⟨wq_509, wq_511, wq_23, wq_39, wq_512, ⟨by decide, by decide, by decide +kernel⟩⟩
set_option maxRecDepth 20000 in
theorem wq_497 : Cond.methodLink rR 78 yR_doneWith ∈ wT := wT_in 497 rfl rfl
set_option maxRecDepth 20000 in
theorem wq_499 : Cond.instanceMethod yR_doneWith ∈ wT := wT_in 499 rfl rfl
theorem wq_20 : Cond.selects rR yR_doneWith yR_doneWith ∈ wT := wT_in 20 rfl rfl
set_option maxRecDepth 20000 in
theorem wq_500 : Cond.code yR_doneWith bR_doneWith 5 (some .int) ∈ wT := wT_in 500 rfl rfl
theorem kV_R_78 : mp_V rR 78 yR_doneWith bR_doneWith 5 (some .int) 1 := ⟨wq_497, wq_499, wq_20, wq_39, wq_500, ⟨by decide, by decide, by decide +kernel⟩⟩
set_option maxRecDepth 20000 in
theorem wq_521 : Cond.methodLink rR 81 yR_opens ∈ wT := wT_in 521 rfl rfl
set_option maxRecDepth 20000 in
theorem wq_523 : Cond.instanceMethod yR_opens ∈ wT := wT_in 523 rfl rfl
theorem wq_25 : Cond.selects rR yR_opens yR_opens ∈ wT := wT_in 25 rfl rfl
set_option maxRecDepth 20000 in
theorem wq_524 : Cond.code yR_opens bR_opens 4 none ∈ wT := wT_in 524 rfl rfl
theorem kV_R_81 : mp_V rR 81 yR_opens bR_opens 4 none 2 := ⟨wq_521, wq_523, wq_25, wq_39, wq_524, ⟨by decide, by decide, by decide +kernel⟩⟩
set_option maxRecDepth 20000 in
theorem wq_517 : Cond.methodLink rR 85 yR_does ∈ wT := wT_in 517 rfl rfl
set_option maxRecDepth 20000 in
theorem wq_519 : Cond.instanceMethod yR_does ∈ wT := wT_in 519 rfl rfl
theorem wq_24 : Cond.selects rR yR_does yR_does ∈ wT := wT_in 24 rfl rfl
set_option maxRecDepth 20000 in
theorem wq_520 : Cond.code yR_does bR_does 5 (some .boolean) ∈ wT := wT_in 520 rfl rfl
theorem kV_R_85 : mp_V rR 85 yR_does bR_does 5 (some .boolean) 1 := ⟨wq_517, wq_519, wq_24, wq_39, wq_520, ⟨by decide, by decide, by decide +kernel⟩⟩
theorem wq_403 : Cond.fieldLink rR 16 rR "kept" "[I" ∈ wT := wT_in 403 rfl rfl
-- MovingPlacesModel.leastIn
abbrev rmR_leastIn : Room := { frames := 2, cells := 0, slots := 0, locals := 43 }
def fR_leastIn_3 (g : SR) (a1 : Int32) (a2 : Int32) (a3 : Int32) : Nat → Int32 → Option Int32
  | 0, _ => none
  | n + 1, a4 => mp_ld g.1 231 0 fun x1 => (if x1 ≤ a4 then some (-9) else (fR_isPlace g a4).bind fun x3 => (if x3 = 0 then fR_leastIn_3 g a1 a2 a3 n (a4 + 1) else (if a4 = a2 then fR_leastIn_3 g a1 a2 a3 n (a4 + 1) else mp_ld g.1 231 (15 + a4) fun x6 => (if x6 = a1 then mp_ld g.1 231 (3 + a4) fun x8 => (if x8 = a3 then mp_ld g.1 231 (27 + a4) fun x10 => (if x10 = 0 then some a4 else fR_leastIn_3 g a1 a2 a3 n (a4 + 1)) else fR_leastIn_3 g a1 a2 a3 n (a4 + 1)) else fR_leastIn_3 g a1 a2 a3 n (a4 + 1)))))
theorem fR_leastIn_3_s (g : SR) (a1 : Int32) (a2 : Int32) (a3 : Int32) (n : Nat) (a4 : Int32) : fR_leastIn_3 g a1 a2 a3 (n + 1) a4 = mp_ld g.1 231 0 fun x1 => (if x1 ≤ a4 then some (-9) else (fR_isPlace g a4).bind fun x3 => (if x3 = 0 then fR_leastIn_3 g a1 a2 a3 n (a4 + 1) else (if a4 = a2 then fR_leastIn_3 g a1 a2 a3 n (a4 + 1) else mp_ld g.1 231 (15 + a4) fun x6 => (if x6 = a1 then mp_ld g.1 231 (3 + a4) fun x8 => (if x8 = a3 then mp_ld g.1 231 (27 + a4) fun x10 => (if x10 = 0 then some a4 else fR_leastIn_3 g a1 a2 a3 n (a4 + 1)) else fR_leastIn_3 g a1 a2 a3 n (a4 + 1)) else fR_leastIn_3 g a1 a2 a3 n (a4 + 1))))) := rfl
set_option maxHeartbeats 4000000 in
set_option maxRecDepth 100000 in
theorem lR_leastIn_3 {p : Program} {l : Launch} {e : Env} {s : State} {m : MethodId} {args : Array Value} {below : List Frame} {meth : Method} {c : Code} (cx : mp_C p s m args meth c bR_leastIn 5 (some .int) rR) (k : KK) (ad : Nat → Nat) (g : SR) (a1 : Int32) (a2 : Int32) (a3 : Int32) (z : Int32) (hE : mp_E k s) (hP : va_P (kD k) mp_cls (cR k ad g) s.heap) (hD : va_D (mp_N k) (cR k ad g)) : ∀ (n : Nat) (a4 : Int32), fR_leastIn_3 g a1 a2 a3 n a4 = some z → ∀ (ls : Array Slot), lv_has ls 5 [(0, .ref (ad 0)), (1, .int a1), (2, .int a2), (3, .int a3), (4, .int a4)] → W p l e rmR_leastIn s m args below meth c s.heap [] 0 0 (MQ below (mp_Qs (some (.int z))) args s 0 0 (fun _ => False)) (F0 m 3 ls []) := by
  obtain ⟨hx, hb, -, hml, hown, hts, -⟩ := id cx
  intro n
  induction n with
  | zero =>
    intro a4 h
    have h : (none : Option Int32) = some z := h
    cases h
  | succ n ih =>
    intro a4 h ls hl
    rw [fR_leastIn_3_s] at h
    refine lv_iload hx hb dR_leastIn_3 (lv_at hl 4 rfl) ?_
    refine lv_aload_n hx hb dR_leastIn_5 rfl (lv_at hl 0 rfl) ?_
    refine mp_gR cx hE hP iR 0 rfl 0 (by decide) wq_401 rfl (v := .ref (ad 1)) rfl dR_leastIn_6 ?_
    refine lv_iconst (v := 0) hx hb dR_leastIn_9 (by decide) ?_
    obtain ⟨hi, x1, ex1, h⟩ := mp_lds h
    refine va_iald hx hb hE.1 hP 1 0 (f := g.1) (n := 231) rfl rfl hi dR_leastIn_10 ?_
    refine mp_top ex1 ?_
    refine lv_icmp_ge (tgt := 78) hx hb dR_leastIn_11 (by decide) (fun c2 => ?_) (fun c2 => ?_)
    · have h := mp_t c2 h
      refine lv_bipush (v := (-9)) hx hb dR_leastIn_78 (by decide) ?_
      exact mp_ri cx h dR_leastIn_80
    · have h := mp_f c2 h
      refine lv_aload_n hx hb dR_leastIn_14 rfl (lv_at hl 0 rfl) ?_
      refine lv_iload hx hb dR_leastIn_15 (lv_at hl 4 rfl) ?_
      obtain ⟨x3, ex3, h⟩ := mp_bs h
      refine mp_si (mp_runV (As := [.int a4]) (rest := []) cx kV_R_30 (cR_isPlace l k ad g a4 x3 ex3) ⟨rfl, rfl, Nat.le_of_ble_eq_true rfl, Nat.le_of_ble_eq_true rfl⟩ ⟨Nat.zero_le _, Nat.zero_le _⟩ hE hP hD va_S.rf 0 rfl rfl rfl hl.1 rfl (Nat.le_of_ble_eq_true rfl) dR_leastIn_17) ?_
      refine lv_if_eq (tgt := 72) hx hb dR_leastIn_20 (by decide) (fun c4 => ?_) (fun c4 => ?_)
      · have h := mp_t c4 h
        refine lv_iinc (v := (a4 + 1)) (lv' := [(4, .int (a4 + 1)), (0, .ref (ad 0)), (1, .int a1), (2, .int a2), (3, .int a3)]) hx hb dR_leastIn_72 hl (k := 4) rfl rfl (by decide) rfl (fun ls hl => ?_)
        refine lv_goto (tgt := 3) hx hb dR_leastIn_75 (by decide) ?_
        exact ih (a4 + 1) h ls (lv_sub hl [1, 2, 3, 4, 0] rfl)
      · have h := mp_f c4 h
        refine lv_iload hx hb dR_leastIn_23 (lv_at hl 4 rfl) ?_
        refine lv_iload_n hx hb dR_leastIn_25 rfl (lv_at hl 2 rfl) ?_
        refine lv_icmp_eq (tgt := 72) hx hb dR_leastIn_26 (by decide) (fun c5 => ?_) (fun c5 => ?_)
        · have h := mp_t c5 h
          refine lv_iinc (v := (a4 + 1)) (lv' := [(4, .int (a4 + 1)), (0, .ref (ad 0)), (1, .int a1), (2, .int a2), (3, .int a3)]) hx hb dR_leastIn_72 hl (k := 4) rfl rfl (by decide) rfl (fun ls hl => ?_)
          refine lv_goto (tgt := 3) hx hb dR_leastIn_75 (by decide) ?_
          exact ih (a4 + 1) h ls (lv_sub hl [1, 2, 3, 4, 0] rfl)
        · have h := mp_f c5 h
          refine lv_aload_n hx hb dR_leastIn_29 rfl (lv_at hl 0 rfl) ?_
          refine mp_gR cx hE hP iR 0 rfl 0 (by decide) wq_401 rfl (v := .ref (ad 1)) rfl dR_leastIn_30 ?_
          refine lv_bipush (v := 15) hx hb dR_leastIn_33 (by decide) ?_
          refine lv_iload hx hb dR_leastIn_35 (lv_at hl 4 rfl) ?_
          refine lv_iadd hx hb dR_leastIn_37 ?_
          obtain ⟨hi, x6, ex6, h⟩ := mp_lds h
          refine va_iald hx hb hE.1 hP 1 0 (f := g.1) (n := 231) rfl rfl hi dR_leastIn_38 ?_
          refine mp_top ex6 ?_
          refine lv_iload_n hx hb dR_leastIn_39 rfl (lv_at hl 1 rfl) ?_
          refine lv_icmp_ne (tgt := 72) hx hb dR_leastIn_40 (by decide) (fun c7 => ?_) (fun c7 => ?_)
          · have h := mp_f c7 h
            refine lv_iinc (v := (a4 + 1)) (lv' := [(4, .int (a4 + 1)), (0, .ref (ad 0)), (1, .int a1), (2, .int a2), (3, .int a3)]) hx hb dR_leastIn_72 hl (k := 4) rfl rfl (by decide) rfl (fun ls hl => ?_)
            refine lv_goto (tgt := 3) hx hb dR_leastIn_75 (by decide) ?_
            exact ih (a4 + 1) h ls (lv_sub hl [1, 2, 3, 4, 0] rfl)
          · have h := mp_t c7 h
            refine lv_aload_n hx hb dR_leastIn_43 rfl (lv_at hl 0 rfl) ?_
            refine mp_gR cx hE hP iR 0 rfl 0 (by decide) wq_401 rfl (v := .ref (ad 1)) rfl dR_leastIn_44 ?_
            refine lv_iconst (v := 3) hx hb dR_leastIn_47 (by decide) ?_
            refine lv_iload hx hb dR_leastIn_48 (lv_at hl 4 rfl) ?_
            refine lv_iadd hx hb dR_leastIn_50 ?_
            obtain ⟨hi, x8, ex8, h⟩ := mp_lds h
            refine va_iald hx hb hE.1 hP 1 0 (f := g.1) (n := 231) rfl rfl hi dR_leastIn_51 ?_
            refine mp_top ex8 ?_
            refine lv_iload_n hx hb dR_leastIn_52 rfl (lv_at hl 3 rfl) ?_
            refine lv_icmp_ne (tgt := 72) hx hb dR_leastIn_53 (by decide) (fun c9 => ?_) (fun c9 => ?_)
            · have h := mp_f c9 h
              refine lv_iinc (v := (a4 + 1)) (lv' := [(4, .int (a4 + 1)), (0, .ref (ad 0)), (1, .int a1), (2, .int a2), (3, .int a3)]) hx hb dR_leastIn_72 hl (k := 4) rfl rfl (by decide) rfl (fun ls hl => ?_)
              refine lv_goto (tgt := 3) hx hb dR_leastIn_75 (by decide) ?_
              exact ih (a4 + 1) h ls (lv_sub hl [1, 2, 3, 4, 0] rfl)
            · have h := mp_t c9 h
              refine lv_aload_n hx hb dR_leastIn_56 rfl (lv_at hl 0 rfl) ?_
              refine mp_gR cx hE hP iR 0 rfl 0 (by decide) wq_401 rfl (v := .ref (ad 1)) rfl dR_leastIn_57 ?_
              refine lv_bipush (v := 27) hx hb dR_leastIn_60 (by decide) ?_
              refine lv_iload hx hb dR_leastIn_62 (lv_at hl 4 rfl) ?_
              refine lv_iadd hx hb dR_leastIn_64 ?_
              obtain ⟨hi, x10, ex10, h⟩ := mp_lds h
              refine va_iald hx hb hE.1 hP 1 0 (f := g.1) (n := 231) rfl rfl hi dR_leastIn_65 ?_
              refine mp_top ex10 ?_
              refine lv_if_ne (tgt := 72) hx hb dR_leastIn_66 (by decide) (fun c11 => ?_) (fun c11 => ?_)
              · have h := mp_f c11 h
                refine lv_iinc (v := (a4 + 1)) (lv' := [(4, .int (a4 + 1)), (0, .ref (ad 0)), (1, .int a1), (2, .int a2), (3, .int a3)]) hx hb dR_leastIn_72 hl (k := 4) rfl rfl (by decide) rfl (fun ls hl => ?_)
                refine lv_goto (tgt := 3) hx hb dR_leastIn_75 (by decide) ?_
                exact ih (a4 + 1) h ls (lv_sub hl [1, 2, 3, 4, 0] rfl)
              · have h := mp_t c11 h
                refine lv_iload hx hb dR_leastIn_69 (lv_at hl 4 rfl) ?_
                exact mp_ri cx h dR_leastIn_71
def fR_leastIn (g : SR) (a1 : Int32) (a2 : Int32) (a3 : Int32) : Option Int32 := fR_leastIn_3 g a1 a2 a3 2000 1
set_option maxHeartbeats 4000000 in
set_option maxRecDepth 100000 in
theorem wR_leastIn {p : Program} {l : Launch} {e : Env} {s : State} {m : MethodId} {args : Array Value} {below : List Frame} {meth : Method} {c : Code} (cx : mp_C p s m args meth c bR_leastIn 5 (some .int) rR) (k : KK) (ad : Nat → Nat) (g : SR) (a1 : Int32) (a2 : Int32) (a3 : Int32) (z : Int32) (hE : mp_E k s) (hP : va_P (kD k) mp_cls (cR k ad g) s.heap) (hD : va_D (mp_N k) (cR k ad g)) (h : fR_leastIn g a1 a2 a3 = some z) (ls : Array Slot) (hl : lv_has ls 5 [(0, .ref (ad 0)), (1, .int a1), (2, .int a2), (3, .int a3)]) : W p l e rmR_leastIn s m args below meth c s.heap [] 0 0 (MQ below (mp_Qs (some (.int z))) args s 0 0 (fun _ => False)) (F0 m 0 ls []) := by
  obtain ⟨hx, hb, -, hml, hown, hts, -⟩ := id cx
  unfold fR_leastIn at h
  refine lv_iconst (v := 1) hx hb dR_leastIn_0 (by decide) ?_
  refine lv_istore (lv' := [(4, .int 1), (0, .ref (ad 0)), (1, .int a1), (2, .int a2), (3, .int a3)]) hx hb dR_leastIn_1 hl (by decide) rfl (fun ls hl => ?_)
  exact lR_leastIn_3 cx k ad g a1 a2 a3 z hE hP hD _ 1 h ls (lv_sub hl [1, 2, 3, 4, 0] rfl)
theorem cR_leastIn (l : Launch) (k : KK) (ad : Nat → Nat) (g : SR) (a1 : Int32) (a2 : Int32) (a3 : Int32) (z : Int32) (h : fR_leastIn g a1 a2 a3 = some z) : mp_CS l k yR_leastIn bR_leastIn 5 (some .int) rmR_leastIn [.ref (ad 0), .int a1, .int a2, .int a3] (cR k ad g) (some (.int z)) := by
  refine Met.ofW (cc := bR_leastIn) (maxL := 5) (ret := (some .int)) (by decide) rfl ?_
  intro p e s m args below meth c s₁ B hml hv
  obtain ⟨rfl, hP, hD, hE⟩ := hv
  have hl := lv_entry ([.ref (ad 0), .int a1, .int a2, .int a3]) (n := 5) (Nat.le_of_ble_eq_true rfl)
  rw [lg_entry_eq]
  generalize (lg_sl ([.ref (ad 0), .int a1, .int a2, .int a3]) ++ List.replicate (5 - (lg_sl ([.ref (ad 0), .int a1, .int a2, .int a3])).length) Slot.unset).toArray = ls at hl ⊢
  exact wR_leastIn (mp_C.of B hml) k ad g a1 a2 a3 z hE hP hD h ls hl
-- MovingPlacesModel.leastMessage
abbrev rmR_leastMessage : Room := { frames := 0, cells := 0, slots := 0, locals := 0 }
def fR_leastMessage_2 (g : SR) (a1 : Int32) : Nat → Int32 → Option Int32
  | 0, _ => none
  | n + 1, a2 => (if 6 ≤ a2 then some (-9) else mp_ld g.1 231 ((39 + (6 * a1)) + a2) fun x2 => (if x2 ≤ 0 then fR_leastMessage_2 g a1 n (a2 + 1) else some a2))
theorem fR_leastMessage_2_s (g : SR) (a1 : Int32) (n : Nat) (a2 : Int32) : fR_leastMessage_2 g a1 (n + 1) a2 = (if 6 ≤ a2 then some (-9) else mp_ld g.1 231 ((39 + (6 * a1)) + a2) fun x2 => (if x2 ≤ 0 then fR_leastMessage_2 g a1 n (a2 + 1) else some a2)) := rfl
set_option maxHeartbeats 4000000 in
set_option maxRecDepth 100000 in
theorem lR_leastMessage_2 {p : Program} {l : Launch} {e : Env} {s : State} {m : MethodId} {args : Array Value} {below : List Frame} {meth : Method} {c : Code} (cx : mp_C p s m args meth c bR_leastMessage 3 (some .int) rR) (k : KK) (ad : Nat → Nat) (g : SR) (a1 : Int32) (z : Int32) (hE : mp_E k s) (hP : va_P (kD k) mp_cls (cR k ad g) s.heap) (hD : va_D (mp_N k) (cR k ad g)) : ∀ (n : Nat) (a2 : Int32), fR_leastMessage_2 g a1 n a2 = some z → ∀ (ls : Array Slot), lv_has ls 3 [(0, .ref (ad 0)), (1, .int a1), (2, .int a2)] → W p l e rmR_leastMessage s m args below meth c s.heap [] 0 0 (MQ below (mp_Qs (some (.int z))) args s 0 0 (fun _ => False)) (F0 m 2 ls []) := by
  obtain ⟨hx, hb, -, hml, hown, hts, -⟩ := id cx
  intro n
  induction n with
  | zero =>
    intro a2 h
    have h : (none : Option Int32) = some z := h
    cases h
  | succ n ih =>
    intro a2 h ls hl
    rw [fR_leastMessage_2_s] at h
    refine lv_iload_n hx hb dR_leastMessage_2 rfl (lv_at hl 2 rfl) ?_
    refine lv_bipush (v := 6) hx hb dR_leastMessage_3 (by decide) ?_
    refine lv_icmp_ge (tgt := 33) hx hb dR_leastMessage_5 (by decide) (fun c1 => ?_) (fun c1 => ?_)
    · have h := mp_t c1 h
      refine lv_bipush (v := (-9)) hx hb dR_leastMessage_33 (by decide) ?_
      exact mp_ri cx h dR_leastMessage_35
    · have h := mp_f c1 h
      refine lv_aload_n hx hb dR_leastMessage_8 rfl (lv_at hl 0 rfl) ?_
      refine mp_gR cx hE hP iR 0 rfl 0 (by decide) wq_401 rfl (v := .ref (ad 1)) rfl dR_leastMessage_9 ?_
      refine lv_bipush (v := 39) hx hb dR_leastMessage_12 (by decide) ?_
      refine lv_bipush (v := 6) hx hb dR_leastMessage_14 (by decide) ?_
      refine lv_iload_n hx hb dR_leastMessage_16 rfl (lv_at hl 1 rfl) ?_
      refine lv_imul hx hb dR_leastMessage_17 ?_
      refine lv_iadd hx hb dR_leastMessage_18 ?_
      refine lv_iload_n hx hb dR_leastMessage_19 rfl (lv_at hl 2 rfl) ?_
      refine lv_iadd hx hb dR_leastMessage_20 ?_
      obtain ⟨hi, x2, ex2, h⟩ := mp_lds h
      refine va_iald hx hb hE.1 hP 1 0 (f := g.1) (n := 231) rfl rfl hi dR_leastMessage_21 ?_
      refine mp_top ex2 ?_
      refine lv_if_le (tgt := 27) hx hb dR_leastMessage_22 (by decide) (fun c3 => ?_) (fun c3 => ?_)
      · have h := mp_t c3 h
        refine lv_iinc (v := (a2 + 1)) (lv' := [(2, .int (a2 + 1)), (0, .ref (ad 0)), (1, .int a1)]) hx hb dR_leastMessage_27 hl (k := 2) rfl rfl (by decide) rfl (fun ls hl => ?_)
        refine lv_goto (tgt := 2) hx hb dR_leastMessage_30 (by decide) ?_
        exact ih (a2 + 1) h ls (lv_sub hl [1, 2, 0] rfl)
      · have h := mp_f c3 h
        refine lv_iload_n hx hb dR_leastMessage_25 rfl (lv_at hl 2 rfl) ?_
        exact mp_ri cx h dR_leastMessage_26
def fR_leastMessage (g : SR) (a1 : Int32) : Option Int32 := fR_leastMessage_2 g a1 2000 0
set_option maxHeartbeats 4000000 in
set_option maxRecDepth 100000 in
theorem wR_leastMessage {p : Program} {l : Launch} {e : Env} {s : State} {m : MethodId} {args : Array Value} {below : List Frame} {meth : Method} {c : Code} (cx : mp_C p s m args meth c bR_leastMessage 3 (some .int) rR) (k : KK) (ad : Nat → Nat) (g : SR) (a1 : Int32) (z : Int32) (hE : mp_E k s) (hP : va_P (kD k) mp_cls (cR k ad g) s.heap) (hD : va_D (mp_N k) (cR k ad g)) (h : fR_leastMessage g a1 = some z) (ls : Array Slot) (hl : lv_has ls 3 [(0, .ref (ad 0)), (1, .int a1)]) : W p l e rmR_leastMessage s m args below meth c s.heap [] 0 0 (MQ below (mp_Qs (some (.int z))) args s 0 0 (fun _ => False)) (F0 m 0 ls []) := by
  obtain ⟨hx, hb, -, hml, hown, hts, -⟩ := id cx
  unfold fR_leastMessage at h
  refine lv_iconst (v := 0) hx hb dR_leastMessage_0 (by decide) ?_
  refine lv_istore_n (lv' := [(2, .int 0), (0, .ref (ad 0)), (1, .int a1)]) hx hb dR_leastMessage_1 rfl hl (by decide) rfl (fun ls hl => ?_)
  exact lR_leastMessage_2 cx k ad g a1 z hE hP hD _ 0 h ls (lv_sub hl [1, 2, 0] rfl)
theorem cR_leastMessage (l : Launch) (k : KK) (ad : Nat → Nat) (g : SR) (a1 : Int32) (z : Int32) (h : fR_leastMessage g a1 = some z) : mp_CS l k yR_leastMessage bR_leastMessage 3 (some .int) rmR_leastMessage [.ref (ad 0), .int a1] (cR k ad g) (some (.int z)) := by
  refine Met.ofW (cc := bR_leastMessage) (maxL := 3) (ret := (some .int)) (by decide) rfl ?_
  intro p e s m args below meth c s₁ B hml hv
  obtain ⟨rfl, hP, hD, hE⟩ := hv
  have hl := lv_entry ([.ref (ad 0), .int a1]) (n := 3) (Nat.le_of_ble_eq_true rfl)
  rw [lg_entry_eq]
  generalize (lg_sl ([.ref (ad 0), .int a1]) ++ List.replicate (3 - (lg_sl ([.ref (ad 0), .int a1])).length) Slot.unset).toArray = ls at hl ⊢
  exact wR_leastMessage (mp_C.of B hml) k ad g a1 z hE hP hD h ls hl
-- MovingPlacesModel.nameOf
abbrev rmR_nameOf : Room := { frames := 2, cells := 0, slots := 0, locals := 42 }
def fR_nameOf (g : SR) (a1 : Int32) : Option Int32 := (fR_nextOf g a1).bind fun x1 => (if (x1 - x1 / 10 * 10) = 9 then mp_ld g.1 231 (147 + a1) fun x3 => some x3 else some (x1 - x1 / 10 * 10))
set_option maxHeartbeats 4000000 in
set_option maxRecDepth 100000 in
theorem wR_nameOf {p : Program} {l : Launch} {e : Env} {s : State} {m : MethodId} {args : Array Value} {below : List Frame} {meth : Method} {c : Code} (cx : mp_C p s m args meth c bR_nameOf 3 (some .int) rR) (k : KK) (ad : Nat → Nat) (g : SR) (a1 : Int32) (z : Int32) (hE : mp_E k s) (hP : va_P (kD k) mp_cls (cR k ad g) s.heap) (hD : va_D (mp_N k) (cR k ad g)) (h : fR_nameOf g a1 = some z) (ls : Array Slot) (hl : lv_has ls 3 [(0, .ref (ad 0)), (1, .int a1)]) : W p l e rmR_nameOf s m args below meth c s.heap [] 0 0 (MQ below (mp_Qs (some (.int z))) args s 0 0 (fun _ => False)) (F0 m 0 ls []) := by
  obtain ⟨hx, hb, -, hml, hown, hts, -⟩ := id cx
  unfold fR_nameOf at h
  refine lv_aload_n hx hb dR_nameOf_0 rfl (lv_at hl 0 rfl) ?_
  refine lv_iload_n hx hb dR_nameOf_1 rfl (lv_at hl 1 rfl) ?_
  obtain ⟨x1, ex1, h⟩ := mp_bs h
  refine mp_si (mp_runV (As := [.int a1]) (rest := []) cx kV_R_62 (cR_nextOf l k ad g a1 x1 ex1) ⟨rfl, rfl, Nat.le_of_ble_eq_true rfl, Nat.le_of_ble_eq_true rfl⟩ ⟨Nat.zero_le _, Nat.zero_le _⟩ hE hP hD va_S.rf 0 rfl rfl rfl hl.1 rfl (Nat.le_of_ble_eq_true rfl) dR_nameOf_2) ?_
  refine lv_bipush (v := 10) hx hb dR_nameOf_5 (by decide) ?_
  refine lv_irem hx hb dR_nameOf_7 (by decide) ?_
  refine lv_istore_n (lv' := [(2, .int (x1 - x1 / 10 * 10)), (0, .ref (ad 0)), (1, .int a1)]) hx hb dR_nameOf_8 rfl hl (by decide) rfl (fun ls hl => ?_)
  refine lv_iload_n hx hb dR_nameOf_9 rfl (lv_at hl 0 rfl) ?_
  refine lv_bipush (v := 9) hx hb dR_nameOf_10 (by decide) ?_
  refine lv_icmp_ne (tgt := 28) hx hb dR_nameOf_12 (by decide) (fun c2 => ?_) (fun c2 => ?_)
  · have h := mp_f c2 h
    refine lv_iload_n hx hb dR_nameOf_28 rfl (lv_at hl 0 rfl) ?_
    exact mp_ri cx h dR_nameOf_29
  · have h := mp_t c2 h
    refine lv_aload_n hx hb dR_nameOf_15 rfl (lv_at hl 1 rfl) ?_
    refine mp_gR cx hE hP iR 0 rfl 0 (by decide) wq_401 rfl (v := .ref (ad 1)) rfl dR_nameOf_16 ?_
    refine lv_sipush (v := 147) hx hb dR_nameOf_19 (by decide) ?_
    refine lv_iload_n hx hb dR_nameOf_22 rfl (lv_at hl 2 rfl) ?_
    refine lv_iadd hx hb dR_nameOf_23 ?_
    obtain ⟨hi, x3, ex3, h⟩ := mp_lds h
    refine va_iald hx hb hE.1 hP 1 0 (f := g.1) (n := 231) rfl rfl hi dR_nameOf_24 ?_
    refine mp_top ex3 ?_
    refine lv_goto (tgt := 29) hx hb dR_nameOf_25 (by decide) ?_
    exact mp_ri cx h dR_nameOf_29
theorem cR_nameOf (l : Launch) (k : KK) (ad : Nat → Nat) (g : SR) (a1 : Int32) (z : Int32) (h : fR_nameOf g a1 = some z) : mp_CS l k yR_nameOf bR_nameOf 3 (some .int) rmR_nameOf [.ref (ad 0), .int a1] (cR k ad g) (some (.int z)) := by
  refine Met.ofW (cc := bR_nameOf) (maxL := 3) (ret := (some .int)) (by decide) rfl ?_
  intro p e s m args below meth c s₁ B hml hv
  obtain ⟨rfl, hP, hD, hE⟩ := hv
  have hl := lv_entry ([.ref (ad 0), .int a1]) (n := 3) (Nat.le_of_ble_eq_true rfl)
  rw [lg_entry_eq]
  generalize (lg_sl ([.ref (ad 0), .int a1]) ++ List.replicate (3 - (lg_sl ([.ref (ad 0), .int a1])).length) Slot.unset).toArray = ls at hl ⊢
  exact wR_nameOf (mp_C.of B hml) k ad g a1 z hE hP hD h ls hl
-- MovingPlacesModel.doneWith
abbrev rmR_doneWith : Room := { frames := 3, cells := 0, slots := 0, locals := 67 }
def fR_doneWith (g : SR) (a1 : Int32) : Option Int32 := mp_ld g.1 231 (111 + a1) fun x1 => (fR_nextOf g a1).bind fun x2 => (fR_nameOf g a1).bind fun x3 => (fR_isOver g a1).bind fun x4 => (if x4 = 0 then (if (x2 / 10) = 5 then (if (x2 / 10) = 1 then (if x1 = 0 then some (-9) else mp_ld g.1 231 (15 + x1) fun x9 => (fR_leastIn g x9 x1 x3).bind fun x10 => some x10) else if (x2 / 10) = 2 then (if x1 = 0 then some (-9) else mp_ld g.1 231 (15 + x1) fun x13 => (if x13 = 0 then some (-9) else mp_ld g.1 231 (15 + x1) fun x15 => mp_ld g.1 231 (3 + x15) fun x16 => (if x16 = x3 then mp_ld g.1 231 (15 + x1) fun x18 => mp_ld g.1 231 (27 + x18) fun x19 => (if x19 = 1 then some (-9) else mp_ld g.1 231 (15 + x1) fun x21 => some x21) else some (-9)))) else if (x2 / 10) = 3 then (fR_leastIn g x1 (-9) x3).bind fun x23 => some x23 else if (x2 / 10) = 4 then some x3 else (fR_leastMessage g x1).bind fun x25 => some x25) else (if x3 = (-9) then some (-9) else (if (x2 / 10) = 1 then (if x1 = 0 then some (-9) else mp_ld g.1 231 (15 + x1) fun x29 => (fR_leastIn g x29 x1 x3).bind fun x30 => some x30) else if (x2 / 10) = 2 then (if x1 = 0 then some (-9) else mp_ld g.1 231 (15 + x1) fun x33 => (if x33 = 0 then some (-9) else mp_ld g.1 231 (15 + x1) fun x35 => mp_ld g.1 231 (3 + x35) fun x36 => (if x36 = x3 then mp_ld g.1 231 (15 + x1) fun x38 => mp_ld g.1 231 (27 + x38) fun x39 => (if x39 = 1 then some (-9) else mp_ld g.1 231 (15 + x1) fun x41 => some x41) else some (-9)))) else if (x2 / 10) = 3 then (fR_leastIn g x1 (-9) x3).bind fun x43 => some x43 else if (x2 / 10) = 4 then some x3 else (fR_leastMessage g x1).bind fun x45 => some x45))) else some (-9))
set_option maxHeartbeats 4000000 in
set_option maxRecDepth 100000 in
theorem wR_doneWith {p : Program} {l : Launch} {e : Env} {s : State} {m : MethodId} {args : Array Value} {below : List Frame} {meth : Method} {c : Code} (cx : mp_C p s m args meth c bR_doneWith 5 (some .int) rR) (k : KK) (ad : Nat → Nat) (g : SR) (a1 : Int32) (z : Int32) (hE : mp_E k s) (hP : va_P (kD k) mp_cls (cR k ad g) s.heap) (hD : va_D (mp_N k) (cR k ad g)) (h : fR_doneWith g a1 = some z) (ls : Array Slot) (hl : lv_has ls 5 [(0, .ref (ad 0)), (1, .int a1)]) : W p l e rmR_doneWith s m args below meth c s.heap [] 0 0 (MQ below (mp_Qs (some (.int z))) args s 0 0 (fun _ => False)) (F0 m 0 ls []) := by
  obtain ⟨hx, hb, -, hml, hown, hts, -⟩ := id cx
  unfold fR_doneWith at h
  refine lv_aload_n hx hb dR_doneWith_0 rfl (lv_at hl 0 rfl) ?_
  refine mp_gR cx hE hP iR 0 rfl 0 (by decide) wq_401 rfl (v := .ref (ad 1)) rfl dR_doneWith_1 ?_
  refine lv_bipush (v := 111) hx hb dR_doneWith_4 (by decide) ?_
  refine lv_iload_n hx hb dR_doneWith_6 rfl (lv_at hl 1 rfl) ?_
  refine lv_iadd hx hb dR_doneWith_7 ?_
  obtain ⟨hi, x1, ex1, h⟩ := mp_lds h
  refine va_iald hx hb hE.1 hP 1 0 (f := g.1) (n := 231) rfl rfl hi dR_doneWith_8 ?_
  refine mp_top ex1 ?_
  refine lv_istore_n (lv' := [(2, .int x1), (0, .ref (ad 0)), (1, .int a1)]) hx hb dR_doneWith_9 rfl hl (by decide) rfl (fun ls hl => ?_)
  refine lv_aload_n hx hb dR_doneWith_10 rfl (lv_at hl 1 rfl) ?_
  refine lv_iload_n hx hb dR_doneWith_11 rfl (lv_at hl 2 rfl) ?_
  obtain ⟨x2, ex2, h⟩ := mp_bs h
  refine mp_si (mp_runV (As := [.int a1]) (rest := []) cx kV_R_62 (cR_nextOf l k ad g a1 x2 ex2) ⟨rfl, rfl, Nat.le_of_ble_eq_true rfl, Nat.le_of_ble_eq_true rfl⟩ ⟨Nat.zero_le _, Nat.zero_le _⟩ hE hP hD va_S.rf 0 rfl rfl rfl hl.1 rfl (Nat.le_of_ble_eq_true rfl) dR_doneWith_12) ?_
  refine lv_bipush (v := 10) hx hb dR_doneWith_15 (by decide) ?_
  refine lv_idiv hx hb dR_doneWith_17 (by decide) ?_
  refine lv_istore_n (lv' := [(3, .int (x2 / 10)), (2, .int x1), (0, .ref (ad 0)), (1, .int a1)]) hx hb dR_doneWith_18 rfl hl (by decide) rfl (fun ls hl => ?_)
  refine lv_aload_n hx hb dR_doneWith_19 rfl (lv_at hl 2 rfl) ?_
  refine lv_iload_n hx hb dR_doneWith_20 rfl (lv_at hl 3 rfl) ?_
  obtain ⟨x3, ex3, h⟩ := mp_bs h
  refine mp_si (mp_runV (As := [.int a1]) (rest := []) cx kV_R_68 (cR_nameOf l k ad g a1 x3 ex3) ⟨rfl, rfl, Nat.le_of_ble_eq_true rfl, Nat.le_of_ble_eq_true rfl⟩ ⟨Nat.zero_le _, Nat.zero_le _⟩ hE hP hD va_S.rf 0 rfl rfl rfl hl.1 rfl (Nat.le_of_ble_eq_true rfl) dR_doneWith_21) ?_
  refine lv_istore (lv' := [(4, .int x3), (3, .int (x2 / 10)), (2, .int x1), (0, .ref (ad 0)), (1, .int a1)]) hx hb dR_doneWith_24 hl (by decide) rfl (fun ls hl => ?_)
  refine lv_aload_n hx hb dR_doneWith_26 rfl (lv_at hl 3 rfl) ?_
  refine lv_iload_n hx hb dR_doneWith_27 rfl (lv_at hl 4 rfl) ?_
  obtain ⟨x4, ex4, h⟩ := mp_bs h
  refine mp_si (mp_runV (As := [.int a1]) (rest := []) cx kV_R_56 (cR_isOver l k ad g a1 x4 ex4) ⟨rfl, rfl, Nat.le_of_ble_eq_true rfl, Nat.le_of_ble_eq_true rfl⟩ ⟨Nat.zero_le _, Nat.zero_le _⟩ hE hP hD va_S.rf 0 rfl rfl rfl hl.1 rfl (Nat.le_of_ble_eq_true rfl) dR_doneWith_28) ?_
  refine lv_if_ne (tgt := 46) hx hb dR_doneWith_31 (by decide) (fun c5 => ?_) (fun c5 => ?_)
  · have h := mp_f c5 h
    refine lv_bipush (v := (-9)) hx hb dR_doneWith_46 (by decide) ?_
    exact mp_ri cx h dR_doneWith_48
  · have h := mp_t c5 h
    refine lv_iload_n hx hb dR_doneWith_34 rfl (lv_at hl 1 rfl) ?_
    refine lv_iconst (v := 5) hx hb dR_doneWith_35 (by decide) ?_
    refine lv_icmp_eq (tgt := 49) hx hb dR_doneWith_36 (by decide) (fun c6 => ?_) (fun c6 => ?_)
    · have h := mp_t c6 h
      refine lv_iload_n hx hb dR_doneWith_49 rfl (lv_at hl 1 rfl) ?_
      by_cases c7 : (x2 / 10) = 1
      · have h := mp_t c7 h
        refine lv_tableIn (off := 30) (tgt := 80) hx hb dR_doneWith_50 (by rw [c7]; decide) (by rw [c7]; decide) (by rw [c7]; rfl) (by decide) ?_
        refine lv_iload_n hx hb dR_doneWith_80 rfl (lv_at hl 2 rfl) ?_
        refine lv_if_ne (tgt := 89) hx hb dR_doneWith_81 (by decide) (fun c8 => ?_) (fun c8 => ?_)
        · have h := mp_f c8 h
          refine lv_aload_n hx hb dR_doneWith_89 rfl (lv_at hl 3 rfl) ?_
          refine lv_aload_n hx hb dR_doneWith_90 rfl (lv_at hl 3 rfl) ?_
          refine mp_gR cx hE hP iR 0 rfl 0 (by decide) wq_401 rfl (v := .ref (ad 1)) rfl dR_doneWith_91 ?_
          refine lv_bipush (v := 15) hx hb dR_doneWith_94 (by decide) ?_
          refine lv_iload_n hx hb dR_doneWith_96 rfl (lv_at hl 2 rfl) ?_
          refine lv_iadd hx hb dR_doneWith_97 ?_
          obtain ⟨hi, x9, ex9, h⟩ := mp_lds h
          refine va_iald hx hb hE.1 hP 1 0 (f := g.1) (n := 231) rfl rfl hi dR_doneWith_98 ?_
          refine mp_top ex9 ?_
          refine lv_iload_n hx hb dR_doneWith_99 rfl (lv_at hl 2 rfl) ?_
          refine lv_iload hx hb dR_doneWith_100 (lv_at hl 0 rfl) ?_
          obtain ⟨x10, ex10, h⟩ := mp_bs h
          refine mp_si (mp_runV (As := [.int x9, .int x1, .int x3]) (rest := []) cx kV_R_71 (cR_leastIn l k ad g x9 x1 x3 x10 ex10) ⟨rfl, rfl, Nat.le_of_ble_eq_true rfl, Nat.le_of_ble_eq_true rfl⟩ ⟨Nat.zero_le _, Nat.zero_le _⟩ hE hP hD va_S.rf 0 rfl rfl rfl hl.1 rfl (Nat.le_of_ble_eq_true rfl) dR_doneWith_102) ?_
          exact mp_ri cx h dR_doneWith_105
        · have h := mp_t c8 h
          refine lv_bipush (v := (-9)) hx hb dR_doneWith_84 (by decide) ?_
          refine lv_goto (tgt := 105) hx hb dR_doneWith_86 (by decide) ?_
          exact mp_ri cx h dR_doneWith_105
      have h := mp_f c7 h
      by_cases c11 : (x2 / 10) = 2
      · have h := mp_t c11 h
        refine lv_tableIn (off := 56) (tgt := 106) hx hb dR_doneWith_50 (by rw [c11]; decide) (by rw [c11]; decide) (by rw [c11]; rfl) (by decide) ?_
        refine lv_iload_n hx hb dR_doneWith_106 rfl (lv_at hl 2 rfl) ?_
        refine lv_if_eq (tgt := 164) hx hb dR_doneWith_107 (by decide) (fun c12 => ?_) (fun c12 => ?_)
        · have h := mp_t c12 h
          refine lv_bipush (v := (-9)) hx hb dR_doneWith_164 (by decide) ?_
          refine lv_goto (tgt := 178) hx hb dR_doneWith_166 (by decide) ?_
          exact mp_ri cx h dR_doneWith_178
        · have h := mp_f c12 h
          refine lv_aload_n hx hb dR_doneWith_110 rfl (lv_at hl 3 rfl) ?_
          refine mp_gR cx hE hP iR 0 rfl 0 (by decide) wq_401 rfl (v := .ref (ad 1)) rfl dR_doneWith_111 ?_
          refine lv_bipush (v := 15) hx hb dR_doneWith_114 (by decide) ?_
          refine lv_iload_n hx hb dR_doneWith_116 rfl (lv_at hl 2 rfl) ?_
          refine lv_iadd hx hb dR_doneWith_117 ?_
          obtain ⟨hi, x13, ex13, h⟩ := mp_lds h
          refine va_iald hx hb hE.1 hP 1 0 (f := g.1) (n := 231) rfl rfl hi dR_doneWith_118 ?_
          refine mp_top ex13 ?_
          refine lv_if_eq (tgt := 164) hx hb dR_doneWith_119 (by decide) (fun c14 => ?_) (fun c14 => ?_)
          · have h := mp_t c14 h
            refine lv_bipush (v := (-9)) hx hb dR_doneWith_164 (by decide) ?_
            refine lv_goto (tgt := 178) hx hb dR_doneWith_166 (by decide) ?_
            exact mp_ri cx h dR_doneWith_178
          · have h := mp_f c14 h
            refine lv_aload_n hx hb dR_doneWith_122 rfl (lv_at hl 3 rfl) ?_
            refine mp_gR cx hE hP iR 0 rfl 0 (by decide) wq_401 rfl (v := .ref (ad 1)) rfl dR_doneWith_123 ?_
            refine lv_iconst (v := 3) hx hb dR_doneWith_126 (by decide) ?_
            refine lv_aload_n hx hb dR_doneWith_127 rfl (lv_at hl 3 rfl) ?_
            refine mp_gR cx hE hP iR 0 rfl 0 (by decide) wq_401 rfl (v := .ref (ad 1)) rfl dR_doneWith_128 ?_
            refine lv_bipush (v := 15) hx hb dR_doneWith_131 (by decide) ?_
            refine lv_iload_n hx hb dR_doneWith_133 rfl (lv_at hl 2 rfl) ?_
            refine lv_iadd hx hb dR_doneWith_134 ?_
            obtain ⟨hi, x15, ex15, h⟩ := mp_lds h
            refine va_iald hx hb hE.1 hP 1 0 (f := g.1) (n := 231) rfl rfl hi dR_doneWith_135 ?_
            refine mp_top ex15 ?_
            refine lv_iadd hx hb dR_doneWith_136 ?_
            obtain ⟨hi, x16, ex16, h⟩ := mp_lds h
            refine va_iald hx hb hE.1 hP 1 0 (f := g.1) (n := 231) rfl rfl hi dR_doneWith_137 ?_
            refine mp_top ex16 ?_
            refine lv_iload hx hb dR_doneWith_138 (lv_at hl 0 rfl) ?_
            refine lv_icmp_ne (tgt := 164) hx hb dR_doneWith_140 (by decide) (fun c17 => ?_) (fun c17 => ?_)
            · have h := mp_f c17 h
              refine lv_bipush (v := (-9)) hx hb dR_doneWith_164 (by decide) ?_
              refine lv_goto (tgt := 178) hx hb dR_doneWith_166 (by decide) ?_
              exact mp_ri cx h dR_doneWith_178
            · have h := mp_t c17 h
              refine lv_aload_n hx hb dR_doneWith_143 rfl (lv_at hl 3 rfl) ?_
              refine mp_gR cx hE hP iR 0 rfl 0 (by decide) wq_401 rfl (v := .ref (ad 1)) rfl dR_doneWith_144 ?_
              refine lv_bipush (v := 27) hx hb dR_doneWith_147 (by decide) ?_
              refine lv_aload_n hx hb dR_doneWith_149 rfl (lv_at hl 3 rfl) ?_
              refine mp_gR cx hE hP iR 0 rfl 0 (by decide) wq_401 rfl (v := .ref (ad 1)) rfl dR_doneWith_150 ?_
              refine lv_bipush (v := 15) hx hb dR_doneWith_153 (by decide) ?_
              refine lv_iload_n hx hb dR_doneWith_155 rfl (lv_at hl 2 rfl) ?_
              refine lv_iadd hx hb dR_doneWith_156 ?_
              obtain ⟨hi, x18, ex18, h⟩ := mp_lds h
              refine va_iald hx hb hE.1 hP 1 0 (f := g.1) (n := 231) rfl rfl hi dR_doneWith_157 ?_
              refine mp_top ex18 ?_
              refine lv_iadd hx hb dR_doneWith_158 ?_
              obtain ⟨hi, x19, ex19, h⟩ := mp_lds h
              refine va_iald hx hb hE.1 hP 1 0 (f := g.1) (n := 231) rfl rfl hi dR_doneWith_159 ?_
              refine mp_top ex19 ?_
              refine lv_iconst (v := 1) hx hb dR_doneWith_160 (by decide) ?_
              refine lv_icmp_ne (tgt := 169) hx hb dR_doneWith_161 (by decide) (fun c20 => ?_) (fun c20 => ?_)
              · have h := mp_f c20 h
                refine lv_aload_n hx hb dR_doneWith_169 rfl (lv_at hl 3 rfl) ?_
                refine mp_gR cx hE hP iR 0 rfl 0 (by decide) wq_401 rfl (v := .ref (ad 1)) rfl dR_doneWith_170 ?_
                refine lv_bipush (v := 15) hx hb dR_doneWith_173 (by decide) ?_
                refine lv_iload_n hx hb dR_doneWith_175 rfl (lv_at hl 2 rfl) ?_
                refine lv_iadd hx hb dR_doneWith_176 ?_
                obtain ⟨hi, x21, ex21, h⟩ := mp_lds h
                refine va_iald hx hb hE.1 hP 1 0 (f := g.1) (n := 231) rfl rfl hi dR_doneWith_177 ?_
                refine mp_top ex21 ?_
                exact mp_ri cx h dR_doneWith_178
              · have h := mp_t c20 h
                refine lv_bipush (v := (-9)) hx hb dR_doneWith_164 (by decide) ?_
                refine lv_goto (tgt := 178) hx hb dR_doneWith_166 (by decide) ?_
                exact mp_ri cx h dR_doneWith_178
      have h := mp_f c11 h
      by_cases c22 : (x2 / 10) = 3
      · have h := mp_t c22 h
        refine lv_tableIn (off := 129) (tgt := 179) hx hb dR_doneWith_50 (by rw [c22]; decide) (by rw [c22]; decide) (by rw [c22]; rfl) (by decide) ?_
        refine lv_aload_n hx hb dR_doneWith_179 rfl (lv_at hl 3 rfl) ?_
        refine lv_iload_n hx hb dR_doneWith_180 rfl (lv_at hl 2 rfl) ?_
        refine lv_bipush (v := (-9)) hx hb dR_doneWith_181 (by decide) ?_
        refine lv_iload hx hb dR_doneWith_183 (lv_at hl 0 rfl) ?_
        obtain ⟨x23, ex23, h⟩ := mp_bs h
        refine mp_si (mp_runV (As := [.int x1, .int (-9), .int x3]) (rest := []) cx kV_R_71 (cR_leastIn l k ad g x1 (-9) x3 x23 ex23) ⟨rfl, rfl, Nat.le_of_ble_eq_true rfl, Nat.le_of_ble_eq_true rfl⟩ ⟨Nat.zero_le _, Nat.zero_le _⟩ hE hP hD va_S.rf 0 rfl rfl rfl hl.1 rfl (Nat.le_of_ble_eq_true rfl) dR_doneWith_185) ?_
        exact mp_ri cx h dR_doneWith_188
      have h := mp_f c22 h
      by_cases c24 : (x2 / 10) = 4
      · have h := mp_t c24 h
        refine lv_tableIn (off := 139) (tgt := 189) hx hb dR_doneWith_50 (by rw [c24]; decide) (by rw [c24]; decide) (by rw [c24]; rfl) (by decide) ?_
        refine lv_iload hx hb dR_doneWith_189 (lv_at hl 0 rfl) ?_
        exact mp_ri cx h dR_doneWith_191
      have h := mp_f c24 h
      have qc7 : ((x2 / 10)).toInt ≠ 1 := mp_ne c7
      have qc11 : ((x2 / 10)).toInt ≠ 2 := mp_ne c11
      have qc22 : ((x2 / 10)).toInt ≠ 3 := mp_ne c22
      have qc24 : ((x2 / 10)).toInt ≠ 4 := mp_ne c24
      refine lv_tableOut (tgt := 192) hx hb dR_doneWith_50 (by omega) (by decide) ?_
      refine lv_aload_n hx hb dR_doneWith_192 rfl (lv_at hl 3 rfl) ?_
      refine lv_iload_n hx hb dR_doneWith_193 rfl (lv_at hl 2 rfl) ?_
      obtain ⟨x25, ex25, h⟩ := mp_bs h
      refine mp_si (mp_runV (As := [.int x1]) (rest := []) cx kV_R_75 (cR_leastMessage l k ad g x1 x25 ex25) ⟨rfl, rfl, Nat.le_of_ble_eq_true rfl, Nat.le_of_ble_eq_true rfl⟩ ⟨Nat.zero_le _, Nat.zero_le _⟩ hE hP hD va_S.rf 0 rfl rfl rfl hl.1 rfl (Nat.le_of_ble_eq_true rfl) dR_doneWith_194) ?_
      exact mp_ri cx h dR_doneWith_197
    · have h := mp_f c6 h
      refine lv_iload hx hb dR_doneWith_39 (lv_at hl 0 rfl) ?_
      refine lv_bipush (v := (-9)) hx hb dR_doneWith_41 (by decide) ?_
      refine lv_icmp_ne (tgt := 49) hx hb dR_doneWith_43 (by decide) (fun c26 => ?_) (fun c26 => ?_)
      · have h := mp_f c26 h
        refine lv_iload_n hx hb dR_doneWith_49 rfl (lv_at hl 1 rfl) ?_
        by_cases c27 : (x2 / 10) = 1
        · have h := mp_t c27 h
          refine lv_tableIn (off := 30) (tgt := 80) hx hb dR_doneWith_50 (by rw [c27]; decide) (by rw [c27]; decide) (by rw [c27]; rfl) (by decide) ?_
          refine lv_iload_n hx hb dR_doneWith_80 rfl (lv_at hl 2 rfl) ?_
          refine lv_if_ne (tgt := 89) hx hb dR_doneWith_81 (by decide) (fun c28 => ?_) (fun c28 => ?_)
          · have h := mp_f c28 h
            refine lv_aload_n hx hb dR_doneWith_89 rfl (lv_at hl 3 rfl) ?_
            refine lv_aload_n hx hb dR_doneWith_90 rfl (lv_at hl 3 rfl) ?_
            refine mp_gR cx hE hP iR 0 rfl 0 (by decide) wq_401 rfl (v := .ref (ad 1)) rfl dR_doneWith_91 ?_
            refine lv_bipush (v := 15) hx hb dR_doneWith_94 (by decide) ?_
            refine lv_iload_n hx hb dR_doneWith_96 rfl (lv_at hl 2 rfl) ?_
            refine lv_iadd hx hb dR_doneWith_97 ?_
            obtain ⟨hi, x29, ex29, h⟩ := mp_lds h
            refine va_iald hx hb hE.1 hP 1 0 (f := g.1) (n := 231) rfl rfl hi dR_doneWith_98 ?_
            refine mp_top ex29 ?_
            refine lv_iload_n hx hb dR_doneWith_99 rfl (lv_at hl 2 rfl) ?_
            refine lv_iload hx hb dR_doneWith_100 (lv_at hl 0 rfl) ?_
            obtain ⟨x30, ex30, h⟩ := mp_bs h
            refine mp_si (mp_runV (As := [.int x29, .int x1, .int x3]) (rest := []) cx kV_R_71 (cR_leastIn l k ad g x29 x1 x3 x30 ex30) ⟨rfl, rfl, Nat.le_of_ble_eq_true rfl, Nat.le_of_ble_eq_true rfl⟩ ⟨Nat.zero_le _, Nat.zero_le _⟩ hE hP hD va_S.rf 0 rfl rfl rfl hl.1 rfl (Nat.le_of_ble_eq_true rfl) dR_doneWith_102) ?_
            exact mp_ri cx h dR_doneWith_105
          · have h := mp_t c28 h
            refine lv_bipush (v := (-9)) hx hb dR_doneWith_84 (by decide) ?_
            refine lv_goto (tgt := 105) hx hb dR_doneWith_86 (by decide) ?_
            exact mp_ri cx h dR_doneWith_105
        have h := mp_f c27 h
        by_cases c31 : (x2 / 10) = 2
        · have h := mp_t c31 h
          refine lv_tableIn (off := 56) (tgt := 106) hx hb dR_doneWith_50 (by rw [c31]; decide) (by rw [c31]; decide) (by rw [c31]; rfl) (by decide) ?_
          refine lv_iload_n hx hb dR_doneWith_106 rfl (lv_at hl 2 rfl) ?_
          refine lv_if_eq (tgt := 164) hx hb dR_doneWith_107 (by decide) (fun c32 => ?_) (fun c32 => ?_)
          · have h := mp_t c32 h
            refine lv_bipush (v := (-9)) hx hb dR_doneWith_164 (by decide) ?_
            refine lv_goto (tgt := 178) hx hb dR_doneWith_166 (by decide) ?_
            exact mp_ri cx h dR_doneWith_178
          · have h := mp_f c32 h
            refine lv_aload_n hx hb dR_doneWith_110 rfl (lv_at hl 3 rfl) ?_
            refine mp_gR cx hE hP iR 0 rfl 0 (by decide) wq_401 rfl (v := .ref (ad 1)) rfl dR_doneWith_111 ?_
            refine lv_bipush (v := 15) hx hb dR_doneWith_114 (by decide) ?_
            refine lv_iload_n hx hb dR_doneWith_116 rfl (lv_at hl 2 rfl) ?_
            refine lv_iadd hx hb dR_doneWith_117 ?_
            obtain ⟨hi, x33, ex33, h⟩ := mp_lds h
            refine va_iald hx hb hE.1 hP 1 0 (f := g.1) (n := 231) rfl rfl hi dR_doneWith_118 ?_
            refine mp_top ex33 ?_
            refine lv_if_eq (tgt := 164) hx hb dR_doneWith_119 (by decide) (fun c34 => ?_) (fun c34 => ?_)
            · have h := mp_t c34 h
              refine lv_bipush (v := (-9)) hx hb dR_doneWith_164 (by decide) ?_
              refine lv_goto (tgt := 178) hx hb dR_doneWith_166 (by decide) ?_
              exact mp_ri cx h dR_doneWith_178
            · have h := mp_f c34 h
              refine lv_aload_n hx hb dR_doneWith_122 rfl (lv_at hl 3 rfl) ?_
              refine mp_gR cx hE hP iR 0 rfl 0 (by decide) wq_401 rfl (v := .ref (ad 1)) rfl dR_doneWith_123 ?_
              refine lv_iconst (v := 3) hx hb dR_doneWith_126 (by decide) ?_
              refine lv_aload_n hx hb dR_doneWith_127 rfl (lv_at hl 3 rfl) ?_
              refine mp_gR cx hE hP iR 0 rfl 0 (by decide) wq_401 rfl (v := .ref (ad 1)) rfl dR_doneWith_128 ?_
              refine lv_bipush (v := 15) hx hb dR_doneWith_131 (by decide) ?_
              refine lv_iload_n hx hb dR_doneWith_133 rfl (lv_at hl 2 rfl) ?_
              refine lv_iadd hx hb dR_doneWith_134 ?_
              obtain ⟨hi, x35, ex35, h⟩ := mp_lds h
              refine va_iald hx hb hE.1 hP 1 0 (f := g.1) (n := 231) rfl rfl hi dR_doneWith_135 ?_
              refine mp_top ex35 ?_
              refine lv_iadd hx hb dR_doneWith_136 ?_
              obtain ⟨hi, x36, ex36, h⟩ := mp_lds h
              refine va_iald hx hb hE.1 hP 1 0 (f := g.1) (n := 231) rfl rfl hi dR_doneWith_137 ?_
              refine mp_top ex36 ?_
              refine lv_iload hx hb dR_doneWith_138 (lv_at hl 0 rfl) ?_
              refine lv_icmp_ne (tgt := 164) hx hb dR_doneWith_140 (by decide) (fun c37 => ?_) (fun c37 => ?_)
              · have h := mp_f c37 h
                refine lv_bipush (v := (-9)) hx hb dR_doneWith_164 (by decide) ?_
                refine lv_goto (tgt := 178) hx hb dR_doneWith_166 (by decide) ?_
                exact mp_ri cx h dR_doneWith_178
              · have h := mp_t c37 h
                refine lv_aload_n hx hb dR_doneWith_143 rfl (lv_at hl 3 rfl) ?_
                refine mp_gR cx hE hP iR 0 rfl 0 (by decide) wq_401 rfl (v := .ref (ad 1)) rfl dR_doneWith_144 ?_
                refine lv_bipush (v := 27) hx hb dR_doneWith_147 (by decide) ?_
                refine lv_aload_n hx hb dR_doneWith_149 rfl (lv_at hl 3 rfl) ?_
                refine mp_gR cx hE hP iR 0 rfl 0 (by decide) wq_401 rfl (v := .ref (ad 1)) rfl dR_doneWith_150 ?_
                refine lv_bipush (v := 15) hx hb dR_doneWith_153 (by decide) ?_
                refine lv_iload_n hx hb dR_doneWith_155 rfl (lv_at hl 2 rfl) ?_
                refine lv_iadd hx hb dR_doneWith_156 ?_
                obtain ⟨hi, x38, ex38, h⟩ := mp_lds h
                refine va_iald hx hb hE.1 hP 1 0 (f := g.1) (n := 231) rfl rfl hi dR_doneWith_157 ?_
                refine mp_top ex38 ?_
                refine lv_iadd hx hb dR_doneWith_158 ?_
                obtain ⟨hi, x39, ex39, h⟩ := mp_lds h
                refine va_iald hx hb hE.1 hP 1 0 (f := g.1) (n := 231) rfl rfl hi dR_doneWith_159 ?_
                refine mp_top ex39 ?_
                refine lv_iconst (v := 1) hx hb dR_doneWith_160 (by decide) ?_
                refine lv_icmp_ne (tgt := 169) hx hb dR_doneWith_161 (by decide) (fun c40 => ?_) (fun c40 => ?_)
                · have h := mp_f c40 h
                  refine lv_aload_n hx hb dR_doneWith_169 rfl (lv_at hl 3 rfl) ?_
                  refine mp_gR cx hE hP iR 0 rfl 0 (by decide) wq_401 rfl (v := .ref (ad 1)) rfl dR_doneWith_170 ?_
                  refine lv_bipush (v := 15) hx hb dR_doneWith_173 (by decide) ?_
                  refine lv_iload_n hx hb dR_doneWith_175 rfl (lv_at hl 2 rfl) ?_
                  refine lv_iadd hx hb dR_doneWith_176 ?_
                  obtain ⟨hi, x41, ex41, h⟩ := mp_lds h
                  refine va_iald hx hb hE.1 hP 1 0 (f := g.1) (n := 231) rfl rfl hi dR_doneWith_177 ?_
                  refine mp_top ex41 ?_
                  exact mp_ri cx h dR_doneWith_178
                · have h := mp_t c40 h
                  refine lv_bipush (v := (-9)) hx hb dR_doneWith_164 (by decide) ?_
                  refine lv_goto (tgt := 178) hx hb dR_doneWith_166 (by decide) ?_
                  exact mp_ri cx h dR_doneWith_178
        have h := mp_f c31 h
        by_cases c42 : (x2 / 10) = 3
        · have h := mp_t c42 h
          refine lv_tableIn (off := 129) (tgt := 179) hx hb dR_doneWith_50 (by rw [c42]; decide) (by rw [c42]; decide) (by rw [c42]; rfl) (by decide) ?_
          refine lv_aload_n hx hb dR_doneWith_179 rfl (lv_at hl 3 rfl) ?_
          refine lv_iload_n hx hb dR_doneWith_180 rfl (lv_at hl 2 rfl) ?_
          refine lv_bipush (v := (-9)) hx hb dR_doneWith_181 (by decide) ?_
          refine lv_iload hx hb dR_doneWith_183 (lv_at hl 0 rfl) ?_
          obtain ⟨x43, ex43, h⟩ := mp_bs h
          refine mp_si (mp_runV (As := [.int x1, .int (-9), .int x3]) (rest := []) cx kV_R_71 (cR_leastIn l k ad g x1 (-9) x3 x43 ex43) ⟨rfl, rfl, Nat.le_of_ble_eq_true rfl, Nat.le_of_ble_eq_true rfl⟩ ⟨Nat.zero_le _, Nat.zero_le _⟩ hE hP hD va_S.rf 0 rfl rfl rfl hl.1 rfl (Nat.le_of_ble_eq_true rfl) dR_doneWith_185) ?_
          exact mp_ri cx h dR_doneWith_188
        have h := mp_f c42 h
        by_cases c44 : (x2 / 10) = 4
        · have h := mp_t c44 h
          refine lv_tableIn (off := 139) (tgt := 189) hx hb dR_doneWith_50 (by rw [c44]; decide) (by rw [c44]; decide) (by rw [c44]; rfl) (by decide) ?_
          refine lv_iload hx hb dR_doneWith_189 (lv_at hl 0 rfl) ?_
          exact mp_ri cx h dR_doneWith_191
        have h := mp_f c44 h
        have qc27 : ((x2 / 10)).toInt ≠ 1 := mp_ne c27
        have qc31 : ((x2 / 10)).toInt ≠ 2 := mp_ne c31
        have qc42 : ((x2 / 10)).toInt ≠ 3 := mp_ne c42
        have qc44 : ((x2 / 10)).toInt ≠ 4 := mp_ne c44
        refine lv_tableOut (tgt := 192) hx hb dR_doneWith_50 (by omega) (by decide) ?_
        refine lv_aload_n hx hb dR_doneWith_192 rfl (lv_at hl 3 rfl) ?_
        refine lv_iload_n hx hb dR_doneWith_193 rfl (lv_at hl 2 rfl) ?_
        obtain ⟨x45, ex45, h⟩ := mp_bs h
        refine mp_si (mp_runV (As := [.int x1]) (rest := []) cx kV_R_75 (cR_leastMessage l k ad g x1 x45 ex45) ⟨rfl, rfl, Nat.le_of_ble_eq_true rfl, Nat.le_of_ble_eq_true rfl⟩ ⟨Nat.zero_le _, Nat.zero_le _⟩ hE hP hD va_S.rf 0 rfl rfl rfl hl.1 rfl (Nat.le_of_ble_eq_true rfl) dR_doneWith_194) ?_
        exact mp_ri cx h dR_doneWith_197
      · have h := mp_t c26 h
        refine lv_bipush (v := (-9)) hx hb dR_doneWith_46 (by decide) ?_
        exact mp_ri cx h dR_doneWith_48
theorem cR_doneWith (l : Launch) (k : KK) (ad : Nat → Nat) (g : SR) (a1 : Int32) (z : Int32) (h : fR_doneWith g a1 = some z) : mp_CS l k yR_doneWith bR_doneWith 5 (some .int) rmR_doneWith [.ref (ad 0), .int a1] (cR k ad g) (some (.int z)) := by
  refine Met.ofW (cc := bR_doneWith) (maxL := 5) (ret := (some .int)) (by decide) rfl ?_
  intro p e s m args below meth c s₁ B hml hv
  obtain ⟨rfl, hP, hD, hE⟩ := hv
  have hl := lv_entry ([.ref (ad 0), .int a1]) (n := 5) (Nat.le_of_ble_eq_true rfl)
  rw [lg_entry_eq]
  generalize (lg_sl ([.ref (ad 0), .int a1]) ++ List.replicate (5 - (lg_sl ([.ref (ad 0), .int a1])).length) Slot.unset).toArray = ls at hl ⊢
  exact wR_doneWith (mp_C.of B hml) k ad g a1 z hE hP hD h ls hl
-- MovingPlacesModel.opens
abbrev rmR_opens : Room := { frames := 0, cells := 0, slots := 0, locals := 0 }
def fR_opens_120 (a1 : Int32) (a2 : Int32) : Nat → SR → Int32 → Option SR
  | 0, _, _ => none
  | n + 1, g, a3 => (if 6 ≤ a3 then some g else mp_ld g.1 231 ((39 + (6 * a1)) + a3) fun x2 => mp_ld g.1 231 ((39 + (6 * a2)) + a3) fun x3 => mp_st 231 ((39 + (6 * a1)) + a3) (mp_st 231 ((39 + (6 * a2)) + a3) (fR_opens_120 a1 a2 n ((upd (upd g.1 (Int32.toNatClampNeg ((39 + (6 * a1)) + a3)) (x2 + x3)) (Int32.toNatClampNeg ((39 + (6 * a2)) + a3)) 0), g.2.1, g.2.2.1, g.2.2.2.1, g.2.2.2.2) (a3 + 1))))
theorem fR_opens_120_s (a1 : Int32) (a2 : Int32) (n : Nat) (g : SR) (a3 : Int32) : fR_opens_120 a1 a2 (n + 1) g a3 = (if 6 ≤ a3 then some g else mp_ld g.1 231 ((39 + (6 * a1)) + a3) fun x2 => mp_ld g.1 231 ((39 + (6 * a2)) + a3) fun x3 => mp_st 231 ((39 + (6 * a1)) + a3) (mp_st 231 ((39 + (6 * a2)) + a3) (fR_opens_120 a1 a2 n ((upd (upd g.1 (Int32.toNatClampNeg ((39 + (6 * a1)) + a3)) (x2 + x3)) (Int32.toNatClampNeg ((39 + (6 * a2)) + a3)) 0), g.2.1, g.2.2.1, g.2.2.2.1, g.2.2.2.2) (a3 + 1)))) := rfl
set_option maxHeartbeats 4000000 in
set_option maxRecDepth 100000 in
theorem lR_opens_120 {p : Program} {l : Launch} {e : Env} {s : State} {m : MethodId} {args : Array Value} {below : List Frame} {meth : Method} {c : Code} (cx : mp_C p s m args meth c bR_opens 4 none rR) (k : KK) (ad : Nat → Nat) (a1 : Int32) (a2 : Int32) (z : SR) (hE : mp_E k s) (hAN : ∀ q, mp_A (aR ad) q → mp_N k q) : ∀ (n : Nat) (g : SR) (a3 : Int32), fR_opens_120 a1 a2 n g a3 = some z → ∀ (H : Heap) (locs : List Loc), va_P (kD k) mp_cls (cR k ad g) H → va_D (mp_A (aR ad)) (cR k ad g) → va_S (mp_A (aR ad)) s.heap H locs → ∀ (ls : Array Slot), lv_has ls 4 [(0, .ref (ad 0)), (1, .int a1), (2, .int a2), (3, .int a3)] → W p l e rmR_opens s m args below meth c H locs 0 0 (MQ below (mp_Qm k none (cR k ad z) (aR ad)) args s 0 0 (mp_A (aR ad))) (F0 m 120 ls []) := by
  obtain ⟨hx, hb, -, hml, hown, hts, -⟩ := id cx
  intro n
  induction n with
  | zero =>
    intro g a3 h
    have h : (none : Option SR) = some z := h
    cases h
  | succ n ih =>
    intro g a3 h H locs hP hD hS ls hl
    rw [fR_opens_120_s] at h
    refine lv_iload_n hx hb dR_opens_120 rfl (lv_at hl 3 rfl) ?_
    refine lv_bipush (v := 6) hx hb dR_opens_121 (by decide) ?_
    refine lv_icmp_ge (tgt := 178) hx hb dR_opens_123 (by decide) (fun c1 => ?_) (fun c1 => ?_)
    · have h := mp_t c1 h
      exact mp_rvm (cf := cR k ad) cx h hP hS dR_opens_178
    · have h := mp_f c1 h
      refine lv_aload_n hx hb dR_opens_126 rfl (lv_at hl 0 rfl) ?_
      refine mp_gR cx hE hP iR 0 rfl 0 (by decide) wq_401 rfl (v := .ref (ad 1)) rfl dR_opens_127 ?_
      refine lv_bipush (v := 39) hx hb dR_opens_130 (by decide) ?_
      refine lv_bipush (v := 6) hx hb dR_opens_132 (by decide) ?_
      refine lv_iload_n hx hb dR_opens_134 rfl (lv_at hl 1 rfl) ?_
      refine lv_imul hx hb dR_opens_135 ?_
      refine lv_iadd hx hb dR_opens_136 ?_
      refine lv_iload_n hx hb dR_opens_137 rfl (lv_at hl 3 rfl) ?_
      refine lv_iadd hx hb dR_opens_138 ?_
      refine lv_dup2_11 hx hb dR_opens_139 rfl rfl ?_
      obtain ⟨hi, x2, ex2, h⟩ := mp_lds h
      refine va_iald hx hb hE.1 hP 1 0 (f := g.1) (n := 231) rfl rfl hi dR_opens_140 ?_
      refine mp_top ex2 ?_
      refine lv_aload_n hx hb dR_opens_141 rfl (lv_at hl 0 rfl) ?_
      refine mp_gR cx hE hP iR 0 rfl 0 (by decide) wq_401 rfl (v := .ref (ad 1)) rfl dR_opens_142 ?_
      refine lv_bipush (v := 39) hx hb dR_opens_145 (by decide) ?_
      refine lv_bipush (v := 6) hx hb dR_opens_147 (by decide) ?_
      refine lv_iload_n hx hb dR_opens_149 rfl (lv_at hl 2 rfl) ?_
      refine lv_imul hx hb dR_opens_150 ?_
      refine lv_iadd hx hb dR_opens_151 ?_
      refine lv_iload_n hx hb dR_opens_152 rfl (lv_at hl 3 rfl) ?_
      refine lv_iadd hx hb dR_opens_153 ?_
      obtain ⟨hi, x3, ex3, h⟩ := mp_lds h
      refine va_iald hx hb hE.1 hP 1 0 (f := g.1) (n := 231) rfl rfl hi dR_opens_154 ?_
      refine mp_top ex3 ?_
      refine lv_iadd hx hb dR_opens_155 ?_
      obtain ⟨hi, h⟩ := mp_sts h
      refine va_iast hx hb hE.1 hP hD hS 1 0 (f := g.1) (n := 231) rfl rfl hi dR_opens_156 (fun H locs hP hD hS => ?_)
      have hP : va_P (kD k) mp_cls (cR k ad ((upd g.1 (Int32.toNatClampNeg ((39 + (6 * a1)) + a3)) (x2 + x3)), g.2.1, g.2.2.1, g.2.2.2.1, g.2.2.2.2)) H := hP
      have hD : va_D (mp_A (aR ad)) (cR k ad ((upd g.1 (Int32.toNatClampNeg ((39 + (6 * a1)) + a3)) (x2 + x3)), g.2.1, g.2.2.1, g.2.2.2.1, g.2.2.2.2)) := hD
      refine lv_aload_n hx hb dR_opens_157 rfl (lv_at hl 0 rfl) ?_
      refine mp_gR cx hE hP iR 0 rfl 0 (by decide) wq_401 rfl (v := .ref (ad 1)) rfl dR_opens_158 ?_
      refine lv_bipush (v := 39) hx hb dR_opens_161 (by decide) ?_
      refine lv_bipush (v := 6) hx hb dR_opens_163 (by decide) ?_
      refine lv_iload_n hx hb dR_opens_165 rfl (lv_at hl 2 rfl) ?_
      refine lv_imul hx hb dR_opens_166 ?_
      refine lv_iadd hx hb dR_opens_167 ?_
      refine lv_iload_n hx hb dR_opens_168 rfl (lv_at hl 3 rfl) ?_
      refine lv_iadd hx hb dR_opens_169 ?_
      refine lv_iconst (v := 0) hx hb dR_opens_170 (by decide) ?_
      obtain ⟨hi, h⟩ := mp_sts h
      refine va_iast hx hb hE.1 hP hD hS 1 0 (f := (upd g.1 (Int32.toNatClampNeg ((39 + (6 * a1)) + a3)) (x2 + x3))) (n := 231) rfl rfl hi dR_opens_171 (fun H locs hP hD hS => ?_)
      have hP : va_P (kD k) mp_cls (cR k ad ((upd (upd g.1 (Int32.toNatClampNeg ((39 + (6 * a1)) + a3)) (x2 + x3)) (Int32.toNatClampNeg ((39 + (6 * a2)) + a3)) 0), g.2.1, g.2.2.1, g.2.2.2.1, g.2.2.2.2)) H := hP
      have hD : va_D (mp_A (aR ad)) (cR k ad ((upd (upd g.1 (Int32.toNatClampNeg ((39 + (6 * a1)) + a3)) (x2 + x3)) (Int32.toNatClampNeg ((39 + (6 * a2)) + a3)) 0), g.2.1, g.2.2.1, g.2.2.2.1, g.2.2.2.2)) := hD
      refine lv_iinc (v := (a3 + 1)) (lv' := [(3, .int (a3 + 1)), (0, .ref (ad 0)), (1, .int a1), (2, .int a2)]) hx hb dR_opens_172 hl (k := 3) rfl rfl (by decide) rfl (fun ls hl => ?_)
      refine lv_goto (tgt := 120) hx hb dR_opens_175 (by decide) ?_
      exact ih ((upd (upd g.1 (Int32.toNatClampNeg ((39 + (6 * a1)) + a3)) (x2 + x3)) (Int32.toNatClampNeg ((39 + (6 * a2)) + a3)) 0), g.2.1, g.2.2.1, g.2.2.2.1, g.2.2.2.2) (a3 + 1) h _ _ hP hD hS ls (lv_sub hl [1, 2, 3, 0] rfl)
def fR_opens_67 (a1 : Int32) (a2 : Int32) : Nat → SR → Int32 → Option SR
  | 0, _, _ => none
  | n + 1, g, a3 => mp_ld g.1 231 1 fun x1 => (if x1 ≤ a3 then fR_opens_120 a1 a2 2000 g 0 else mp_ld g.1 231 (111 + a3) fun x3 => (if x3 = a2 then mp_st 231 (111 + a3) (fR_opens_67 a1 a2 n ((upd g.1 (Int32.toNatClampNeg (111 + a3)) a1), g.2.1, g.2.2.1, g.2.2.2.1, g.2.2.2.2) (a3 + 1)) else mp_ld g.1 231 (111 + a3) fun x5 => mp_st 231 (111 + a3) (fR_opens_67 a1 a2 n ((upd g.1 (Int32.toNatClampNeg (111 + a3)) x5), g.2.1, g.2.2.1, g.2.2.2.1, g.2.2.2.2) (a3 + 1))))
theorem fR_opens_67_s (a1 : Int32) (a2 : Int32) (n : Nat) (g : SR) (a3 : Int32) : fR_opens_67 a1 a2 (n + 1) g a3 = mp_ld g.1 231 1 fun x1 => (if x1 ≤ a3 then fR_opens_120 a1 a2 2000 g 0 else mp_ld g.1 231 (111 + a3) fun x3 => (if x3 = a2 then mp_st 231 (111 + a3) (fR_opens_67 a1 a2 n ((upd g.1 (Int32.toNatClampNeg (111 + a3)) a1), g.2.1, g.2.2.1, g.2.2.2.1, g.2.2.2.2) (a3 + 1)) else mp_ld g.1 231 (111 + a3) fun x5 => mp_st 231 (111 + a3) (fR_opens_67 a1 a2 n ((upd g.1 (Int32.toNatClampNeg (111 + a3)) x5), g.2.1, g.2.2.1, g.2.2.2.1, g.2.2.2.2) (a3 + 1)))) := rfl
set_option maxHeartbeats 4000000 in
set_option maxRecDepth 100000 in
theorem lR_opens_67 {p : Program} {l : Launch} {e : Env} {s : State} {m : MethodId} {args : Array Value} {below : List Frame} {meth : Method} {c : Code} (cx : mp_C p s m args meth c bR_opens 4 none rR) (k : KK) (ad : Nat → Nat) (a1 : Int32) (a2 : Int32) (z : SR) (hE : mp_E k s) (hAN : ∀ q, mp_A (aR ad) q → mp_N k q) : ∀ (n : Nat) (g : SR) (a3 : Int32), fR_opens_67 a1 a2 n g a3 = some z → ∀ (H : Heap) (locs : List Loc), va_P (kD k) mp_cls (cR k ad g) H → va_D (mp_A (aR ad)) (cR k ad g) → va_S (mp_A (aR ad)) s.heap H locs → ∀ (ls : Array Slot), lv_has ls 4 [(0, .ref (ad 0)), (1, .int a1), (2, .int a2), (3, .int a3)] → W p l e rmR_opens s m args below meth c H locs 0 0 (MQ below (mp_Qm k none (cR k ad z) (aR ad)) args s 0 0 (mp_A (aR ad))) (F0 m 67 ls []) := by
  obtain ⟨hx, hb, -, hml, hown, hts, -⟩ := id cx
  intro n
  induction n with
  | zero =>
    intro g a3 h
    have h : (none : Option SR) = some z := h
    cases h
  | succ n ih =>
    intro g a3 h H locs hP hD hS ls hl
    rw [fR_opens_67_s] at h
    refine lv_iload_n hx hb dR_opens_67 rfl (lv_at hl 3 rfl) ?_
    refine lv_aload_n hx hb dR_opens_68 rfl (lv_at hl 0 rfl) ?_
    refine mp_gR cx hE hP iR 0 rfl 0 (by decide) wq_401 rfl (v := .ref (ad 1)) rfl dR_opens_69 ?_
    refine lv_iconst (v := 1) hx hb dR_opens_72 (by decide) ?_
    obtain ⟨hi, x1, ex1, h⟩ := mp_lds h
    refine va_iald hx hb hE.1 hP 1 0 (f := g.1) (n := 231) rfl rfl hi dR_opens_73 ?_
    refine mp_top ex1 ?_
    refine lv_icmp_ge (tgt := 118) hx hb dR_opens_74 (by decide) (fun c2 => ?_) (fun c2 => ?_)
    · have h := mp_t c2 h
      refine lv_iconst (v := 0) hx hb dR_opens_118 (by decide) ?_
      refine lv_istore_n (lv' := [(3, .int 0), (0, .ref (ad 0)), (1, .int a1), (2, .int a2)]) hx hb dR_opens_119 rfl hl (by decide) rfl (fun ls hl => ?_)
      exact lR_opens_120 cx k ad a1 a2 z hE hAN _ g 0 h _ _ hP hD hS ls (lv_sub hl [1, 2, 3, 0] rfl)
    · have h := mp_f c2 h
      refine lv_aload_n hx hb dR_opens_77 rfl (lv_at hl 0 rfl) ?_
      refine mp_gR cx hE hP iR 0 rfl 0 (by decide) wq_401 rfl (v := .ref (ad 1)) rfl dR_opens_78 ?_
      refine lv_bipush (v := 111) hx hb dR_opens_81 (by decide) ?_
      refine lv_iload_n hx hb dR_opens_83 rfl (lv_at hl 3 rfl) ?_
      refine lv_iadd hx hb dR_opens_84 ?_
      refine lv_aload_n hx hb dR_opens_85 rfl (lv_at hl 0 rfl) ?_
      refine mp_gR cx hE hP iR 0 rfl 0 (by decide) wq_401 rfl (v := .ref (ad 1)) rfl dR_opens_86 ?_
      refine lv_bipush (v := 111) hx hb dR_opens_89 (by decide) ?_
      refine lv_iload_n hx hb dR_opens_91 rfl (lv_at hl 3 rfl) ?_
      refine lv_iadd hx hb dR_opens_92 ?_
      obtain ⟨hi, x3, ex3, h⟩ := mp_lds h
      refine va_iald hx hb hE.1 hP 1 0 (f := g.1) (n := 231) rfl rfl hi dR_opens_93 ?_
      refine mp_top ex3 ?_
      refine lv_iload_n hx hb dR_opens_94 rfl (lv_at hl 2 rfl) ?_
      refine lv_icmp_ne (tgt := 102) hx hb dR_opens_95 (by decide) (fun c4 => ?_) (fun c4 => ?_)
      · have h := mp_f c4 h
        refine lv_aload_n hx hb dR_opens_102 rfl (lv_at hl 0 rfl) ?_
        refine mp_gR cx hE hP iR 0 rfl 0 (by decide) wq_401 rfl (v := .ref (ad 1)) rfl dR_opens_103 ?_
        refine lv_bipush (v := 111) hx hb dR_opens_106 (by decide) ?_
        refine lv_iload_n hx hb dR_opens_108 rfl (lv_at hl 3 rfl) ?_
        refine lv_iadd hx hb dR_opens_109 ?_
        obtain ⟨hi, x5, ex5, h⟩ := mp_lds h
        refine va_iald hx hb hE.1 hP 1 0 (f := g.1) (n := 231) rfl rfl hi dR_opens_110 ?_
        refine mp_top ex5 ?_
        obtain ⟨hi, h⟩ := mp_sts h
        refine va_iast hx hb hE.1 hP hD hS 1 0 (f := g.1) (n := 231) rfl rfl hi dR_opens_111 (fun H locs hP hD hS => ?_)
        have hP : va_P (kD k) mp_cls (cR k ad ((upd g.1 (Int32.toNatClampNeg (111 + a3)) x5), g.2.1, g.2.2.1, g.2.2.2.1, g.2.2.2.2)) H := hP
        have hD : va_D (mp_A (aR ad)) (cR k ad ((upd g.1 (Int32.toNatClampNeg (111 + a3)) x5), g.2.1, g.2.2.1, g.2.2.2.1, g.2.2.2.2)) := hD
        refine lv_iinc (v := (a3 + 1)) (lv' := [(3, .int (a3 + 1)), (0, .ref (ad 0)), (1, .int a1), (2, .int a2)]) hx hb dR_opens_112 hl (k := 3) rfl rfl (by decide) rfl (fun ls hl => ?_)
        refine lv_goto (tgt := 67) hx hb dR_opens_115 (by decide) ?_
        exact ih ((upd g.1 (Int32.toNatClampNeg (111 + a3)) x5), g.2.1, g.2.2.1, g.2.2.2.1, g.2.2.2.2) (a3 + 1) h _ _ hP hD hS ls (lv_sub hl [1, 2, 3, 0] rfl)
      · have h := mp_t c4 h
        refine lv_iload_n hx hb dR_opens_98 rfl (lv_at hl 1 rfl) ?_
        refine lv_goto (tgt := 111) hx hb dR_opens_99 (by decide) ?_
        obtain ⟨hi, h⟩ := mp_sts h
        refine va_iast hx hb hE.1 hP hD hS 1 0 (f := g.1) (n := 231) rfl rfl hi dR_opens_111 (fun H locs hP hD hS => ?_)
        have hP : va_P (kD k) mp_cls (cR k ad ((upd g.1 (Int32.toNatClampNeg (111 + a3)) a1), g.2.1, g.2.2.1, g.2.2.2.1, g.2.2.2.2)) H := hP
        have hD : va_D (mp_A (aR ad)) (cR k ad ((upd g.1 (Int32.toNatClampNeg (111 + a3)) a1), g.2.1, g.2.2.1, g.2.2.2.1, g.2.2.2.2)) := hD
        refine lv_iinc (v := (a3 + 1)) (lv' := [(3, .int (a3 + 1)), (0, .ref (ad 0)), (1, .int a1), (2, .int a2)]) hx hb dR_opens_112 hl (k := 3) rfl rfl (by decide) rfl (fun ls hl => ?_)
        refine lv_goto (tgt := 67) hx hb dR_opens_115 (by decide) ?_
        exact ih ((upd g.1 (Int32.toNatClampNeg (111 + a3)) a1), g.2.1, g.2.2.1, g.2.2.2.1, g.2.2.2.2) (a3 + 1) h _ _ hP hD hS ls (lv_sub hl [1, 2, 3, 0] rfl)
def fR_opens_14 (a1 : Int32) (a2 : Int32) : Nat → SR → Int32 → Option SR
  | 0, _, _ => none
  | n + 1, g, a3 => mp_ld g.1 231 0 fun x1 => (if x1 ≤ a3 then fR_opens_67 a1 a2 2000 g 0 else mp_ld g.1 231 (15 + a3) fun x3 => (if x3 = a2 then mp_st 231 (15 + a3) (fR_opens_14 a1 a2 n ((upd g.1 (Int32.toNatClampNeg (15 + a3)) a1), g.2.1, g.2.2.1, g.2.2.2.1, g.2.2.2.2) (a3 + 1)) else mp_ld g.1 231 (15 + a3) fun x5 => mp_st 231 (15 + a3) (fR_opens_14 a1 a2 n ((upd g.1 (Int32.toNatClampNeg (15 + a3)) x5), g.2.1, g.2.2.1, g.2.2.2.1, g.2.2.2.2) (a3 + 1))))
theorem fR_opens_14_s (a1 : Int32) (a2 : Int32) (n : Nat) (g : SR) (a3 : Int32) : fR_opens_14 a1 a2 (n + 1) g a3 = mp_ld g.1 231 0 fun x1 => (if x1 ≤ a3 then fR_opens_67 a1 a2 2000 g 0 else mp_ld g.1 231 (15 + a3) fun x3 => (if x3 = a2 then mp_st 231 (15 + a3) (fR_opens_14 a1 a2 n ((upd g.1 (Int32.toNatClampNeg (15 + a3)) a1), g.2.1, g.2.2.1, g.2.2.2.1, g.2.2.2.2) (a3 + 1)) else mp_ld g.1 231 (15 + a3) fun x5 => mp_st 231 (15 + a3) (fR_opens_14 a1 a2 n ((upd g.1 (Int32.toNatClampNeg (15 + a3)) x5), g.2.1, g.2.2.1, g.2.2.2.1, g.2.2.2.2) (a3 + 1)))) := rfl
set_option maxHeartbeats 4000000 in
set_option maxRecDepth 100000 in
theorem lR_opens_14 {p : Program} {l : Launch} {e : Env} {s : State} {m : MethodId} {args : Array Value} {below : List Frame} {meth : Method} {c : Code} (cx : mp_C p s m args meth c bR_opens 4 none rR) (k : KK) (ad : Nat → Nat) (a1 : Int32) (a2 : Int32) (z : SR) (hE : mp_E k s) (hAN : ∀ q, mp_A (aR ad) q → mp_N k q) : ∀ (n : Nat) (g : SR) (a3 : Int32), fR_opens_14 a1 a2 n g a3 = some z → ∀ (H : Heap) (locs : List Loc), va_P (kD k) mp_cls (cR k ad g) H → va_D (mp_A (aR ad)) (cR k ad g) → va_S (mp_A (aR ad)) s.heap H locs → ∀ (ls : Array Slot), lv_has ls 4 [(0, .ref (ad 0)), (1, .int a1), (2, .int a2), (3, .int a3)] → W p l e rmR_opens s m args below meth c H locs 0 0 (MQ below (mp_Qm k none (cR k ad z) (aR ad)) args s 0 0 (mp_A (aR ad))) (F0 m 14 ls []) := by
  obtain ⟨hx, hb, -, hml, hown, hts, -⟩ := id cx
  intro n
  induction n with
  | zero =>
    intro g a3 h
    have h : (none : Option SR) = some z := h
    cases h
  | succ n ih =>
    intro g a3 h H locs hP hD hS ls hl
    rw [fR_opens_14_s] at h
    refine lv_iload_n hx hb dR_opens_14 rfl (lv_at hl 3 rfl) ?_
    refine lv_aload_n hx hb dR_opens_15 rfl (lv_at hl 0 rfl) ?_
    refine mp_gR cx hE hP iR 0 rfl 0 (by decide) wq_401 rfl (v := .ref (ad 1)) rfl dR_opens_16 ?_
    refine lv_iconst (v := 0) hx hb dR_opens_19 (by decide) ?_
    obtain ⟨hi, x1, ex1, h⟩ := mp_lds h
    refine va_iald hx hb hE.1 hP 1 0 (f := g.1) (n := 231) rfl rfl hi dR_opens_20 ?_
    refine mp_top ex1 ?_
    refine lv_icmp_ge (tgt := 65) hx hb dR_opens_21 (by decide) (fun c2 => ?_) (fun c2 => ?_)
    · have h := mp_t c2 h
      refine lv_iconst (v := 0) hx hb dR_opens_65 (by decide) ?_
      refine lv_istore_n (lv' := [(3, .int 0), (0, .ref (ad 0)), (1, .int a1), (2, .int a2)]) hx hb dR_opens_66 rfl hl (by decide) rfl (fun ls hl => ?_)
      exact lR_opens_67 cx k ad a1 a2 z hE hAN _ g 0 h _ _ hP hD hS ls (lv_sub hl [1, 2, 3, 0] rfl)
    · have h := mp_f c2 h
      refine lv_aload_n hx hb dR_opens_24 rfl (lv_at hl 0 rfl) ?_
      refine mp_gR cx hE hP iR 0 rfl 0 (by decide) wq_401 rfl (v := .ref (ad 1)) rfl dR_opens_25 ?_
      refine lv_bipush (v := 15) hx hb dR_opens_28 (by decide) ?_
      refine lv_iload_n hx hb dR_opens_30 rfl (lv_at hl 3 rfl) ?_
      refine lv_iadd hx hb dR_opens_31 ?_
      refine lv_aload_n hx hb dR_opens_32 rfl (lv_at hl 0 rfl) ?_
      refine mp_gR cx hE hP iR 0 rfl 0 (by decide) wq_401 rfl (v := .ref (ad 1)) rfl dR_opens_33 ?_
      refine lv_bipush (v := 15) hx hb dR_opens_36 (by decide) ?_
      refine lv_iload_n hx hb dR_opens_38 rfl (lv_at hl 3 rfl) ?_
      refine lv_iadd hx hb dR_opens_39 ?_
      obtain ⟨hi, x3, ex3, h⟩ := mp_lds h
      refine va_iald hx hb hE.1 hP 1 0 (f := g.1) (n := 231) rfl rfl hi dR_opens_40 ?_
      refine mp_top ex3 ?_
      refine lv_iload_n hx hb dR_opens_41 rfl (lv_at hl 2 rfl) ?_
      refine lv_icmp_ne (tgt := 49) hx hb dR_opens_42 (by decide) (fun c4 => ?_) (fun c4 => ?_)
      · have h := mp_f c4 h
        refine lv_aload_n hx hb dR_opens_49 rfl (lv_at hl 0 rfl) ?_
        refine mp_gR cx hE hP iR 0 rfl 0 (by decide) wq_401 rfl (v := .ref (ad 1)) rfl dR_opens_50 ?_
        refine lv_bipush (v := 15) hx hb dR_opens_53 (by decide) ?_
        refine lv_iload_n hx hb dR_opens_55 rfl (lv_at hl 3 rfl) ?_
        refine lv_iadd hx hb dR_opens_56 ?_
        obtain ⟨hi, x5, ex5, h⟩ := mp_lds h
        refine va_iald hx hb hE.1 hP 1 0 (f := g.1) (n := 231) rfl rfl hi dR_opens_57 ?_
        refine mp_top ex5 ?_
        obtain ⟨hi, h⟩ := mp_sts h
        refine va_iast hx hb hE.1 hP hD hS 1 0 (f := g.1) (n := 231) rfl rfl hi dR_opens_58 (fun H locs hP hD hS => ?_)
        have hP : va_P (kD k) mp_cls (cR k ad ((upd g.1 (Int32.toNatClampNeg (15 + a3)) x5), g.2.1, g.2.2.1, g.2.2.2.1, g.2.2.2.2)) H := hP
        have hD : va_D (mp_A (aR ad)) (cR k ad ((upd g.1 (Int32.toNatClampNeg (15 + a3)) x5), g.2.1, g.2.2.1, g.2.2.2.1, g.2.2.2.2)) := hD
        refine lv_iinc (v := (a3 + 1)) (lv' := [(3, .int (a3 + 1)), (0, .ref (ad 0)), (1, .int a1), (2, .int a2)]) hx hb dR_opens_59 hl (k := 3) rfl rfl (by decide) rfl (fun ls hl => ?_)
        refine lv_goto (tgt := 14) hx hb dR_opens_62 (by decide) ?_
        exact ih ((upd g.1 (Int32.toNatClampNeg (15 + a3)) x5), g.2.1, g.2.2.1, g.2.2.2.1, g.2.2.2.2) (a3 + 1) h _ _ hP hD hS ls (lv_sub hl [1, 2, 3, 0] rfl)
      · have h := mp_t c4 h
        refine lv_iload_n hx hb dR_opens_45 rfl (lv_at hl 1 rfl) ?_
        refine lv_goto (tgt := 58) hx hb dR_opens_46 (by decide) ?_
        obtain ⟨hi, h⟩ := mp_sts h
        refine va_iast hx hb hE.1 hP hD hS 1 0 (f := g.1) (n := 231) rfl rfl hi dR_opens_58 (fun H locs hP hD hS => ?_)
        have hP : va_P (kD k) mp_cls (cR k ad ((upd g.1 (Int32.toNatClampNeg (15 + a3)) a1), g.2.1, g.2.2.1, g.2.2.2.1, g.2.2.2.2)) H := hP
        have hD : va_D (mp_A (aR ad)) (cR k ad ((upd g.1 (Int32.toNatClampNeg (15 + a3)) a1), g.2.1, g.2.2.1, g.2.2.2.1, g.2.2.2.2)) := hD
        refine lv_iinc (v := (a3 + 1)) (lv' := [(3, .int (a3 + 1)), (0, .ref (ad 0)), (1, .int a1), (2, .int a2)]) hx hb dR_opens_59 hl (k := 3) rfl rfl (by decide) rfl (fun ls hl => ?_)
        refine lv_goto (tgt := 14) hx hb dR_opens_62 (by decide) ?_
        exact ih ((upd g.1 (Int32.toNatClampNeg (15 + a3)) a1), g.2.1, g.2.2.1, g.2.2.2.1, g.2.2.2.2) (a3 + 1) h _ _ hP hD hS ls (lv_sub hl [1, 2, 3, 0] rfl)
def fR_opens (g : SR) (a1 : Int32) (a2 : Int32) : Option SR := mp_ld g.1 231 2 fun x1 => mp_st 231 2 (fR_opens_14 a1 a2 2000 ((upd g.1 (Int32.toNatClampNeg 2) (x1 ||| (1 <<< (a2 &&& 31)))), g.2.1, g.2.2.1, g.2.2.2.1, g.2.2.2.2) 0)
set_option maxHeartbeats 4000000 in
set_option maxRecDepth 100000 in
theorem wR_opens {p : Program} {l : Launch} {e : Env} {s : State} {m : MethodId} {args : Array Value} {below : List Frame} {meth : Method} {c : Code} (cx : mp_C p s m args meth c bR_opens 4 none rR) (k : KK) (ad : Nat → Nat) (g : SR) (a1 : Int32) (a2 : Int32) (z : SR) (hE : mp_E k s) (hAN : ∀ q, mp_A (aR ad) q → mp_N k q) {H : Heap} {locs : List Loc} (hP : va_P (kD k) mp_cls (cR k ad g) H) (hD : va_D (mp_A (aR ad)) (cR k ad g)) (hS : va_S (mp_A (aR ad)) s.heap H locs) (h : fR_opens g a1 a2 = some z) (ls : Array Slot) (hl : lv_has ls 4 [(0, .ref (ad 0)), (1, .int a1), (2, .int a2)]) : W p l e rmR_opens s m args below meth c H locs 0 0 (MQ below (mp_Qm k none (cR k ad z) (aR ad)) args s 0 0 (mp_A (aR ad))) (F0 m 0 ls []) := by
  obtain ⟨hx, hb, -, hml, hown, hts, -⟩ := id cx
  unfold fR_opens at h
  refine lv_aload_n hx hb dR_opens_0 rfl (lv_at hl 0 rfl) ?_
  refine mp_gR cx hE hP iR 0 rfl 0 (by decide) wq_401 rfl (v := .ref (ad 1)) rfl dR_opens_1 ?_
  refine lv_iconst (v := 2) hx hb dR_opens_4 (by decide) ?_
  refine lv_dup2_11 hx hb dR_opens_5 rfl rfl ?_
  obtain ⟨hi, x1, ex1, h⟩ := mp_lds h
  refine va_iald hx hb hE.1 hP 1 0 (f := g.1) (n := 231) rfl rfl hi dR_opens_6 ?_
  refine mp_top ex1 ?_
  refine lv_iconst (v := 1) hx hb dR_opens_7 (by decide) ?_
  refine lv_iload_n hx hb dR_opens_8 rfl (lv_at hl 2 rfl) ?_
  refine lv_ishl hx hb dR_opens_9 ?_
  refine lv_ior hx hb dR_opens_10 ?_
  obtain ⟨hi, h⟩ := mp_sts h
  refine va_iast hx hb hE.1 hP hD hS 1 0 (f := g.1) (n := 231) rfl rfl hi dR_opens_11 (fun H locs hP hD hS => ?_)
  have hP : va_P (kD k) mp_cls (cR k ad ((upd g.1 (Int32.toNatClampNeg 2) (x1 ||| (1 <<< (a2 &&& 31)))), g.2.1, g.2.2.1, g.2.2.2.1, g.2.2.2.2)) H := hP
  have hD : va_D (mp_A (aR ad)) (cR k ad ((upd g.1 (Int32.toNatClampNeg 2) (x1 ||| (1 <<< (a2 &&& 31)))), g.2.1, g.2.2.1, g.2.2.2.1, g.2.2.2.2)) := hD
  refine lv_iconst (v := 0) hx hb dR_opens_12 (by decide) ?_
  refine lv_istore_n (lv' := [(3, .int 0), (0, .ref (ad 0)), (1, .int a1), (2, .int a2)]) hx hb dR_opens_13 rfl hl (by decide) rfl (fun ls hl => ?_)
  exact lR_opens_14 cx k ad a1 a2 z hE hAN _ ((upd g.1 (Int32.toNatClampNeg 2) (x1 ||| (1 <<< (a2 &&& 31)))), g.2.1, g.2.2.1, g.2.2.2.1, g.2.2.2.2) 0 h _ _ hP hD hS ls (lv_sub hl [1, 2, 3, 0] rfl)
theorem cR_opens (l : Launch) (k : KK) (ad : Nat → Nat) (g : SR) (a1 : Int32) (a2 : Int32) (z : SR) (h : fR_opens g a1 a2 = some z) : mp_CM l k yR_opens bR_opens 4 none rmR_opens [.ref (ad 0), .int a1, .int a2] (cR k ad g) (cR k ad z) (aR ad) (none) := by
  refine Met.ofW (cc := bR_opens) (maxL := 4) (ret := none) (by decide) rfl ?_
  intro p e s m args below meth c s₁ B hml hv
  obtain ⟨rfl, hP, hD, hE⟩ := hv
  have hl := lv_entry ([.ref (ad 0), .int a1, .int a2]) (n := 4) (Nat.le_of_ble_eq_true rfl)
  rw [lg_entry_eq]
  generalize (lg_sl ([.ref (ad 0), .int a1, .int a2]) ++ List.replicate (4 - (lg_sl ([.ref (ad 0), .int a1, .int a2])).length) Slot.unset).toArray = ls at hl ⊢
  exact wR_opens (mp_C.of B hml) k ad g a1 a2 z hE (mp_new hD rfl) hP (mp_own hD rfl) va_S.rf h ls hl
-- MovingPlacesModel.does
abbrev rmR_does : Room := { frames := 4, cells := 0, slots := 0, locals := 91 }
def fR_does (g : SR) (a1 : Int32) : Option (Int32 × SR) := (fR_doneWith g a1).bind fun x1 => (if x1 = (-9) then some (0, g) else mp_ld g.1 231 (111 + a1) fun x3 => (fR_nextOf g a1).bind fun x4 => mp_ld g.1 231 (135 + a1) fun x5 => mp_st 231 (135 + a1) ((if (x4 / 10) = 1 then mp_st 231 (15 + x3) (some (1, ((upd (upd g.1 (Int32.toNatClampNeg (135 + a1)) (x5 + 1)) (Int32.toNatClampNeg (15 + x3)) x1), g.2.1, g.2.2.1, g.2.2.2.1, g.2.2.2.2))) else (if (x4 / 10) = 2 then mp_ld (upd g.1 (Int32.toNatClampNeg (135 + a1)) (x5 + 1)) 231 (15 + x1) fun x13 => mp_st 231 (15 + x3) (some (1, ((upd (upd g.1 (Int32.toNatClampNeg (135 + a1)) (x5 + 1)) (Int32.toNatClampNeg (15 + x3)) x13), g.2.1, g.2.2.1, g.2.2.2.1, g.2.2.2.2))) else (if (x4 / 10) = 3 then (fR_opens ((upd g.1 (Int32.toNatClampNeg (135 + a1)) (x5 + 1)), g.2.1, g.2.2.1, g.2.2.2.1, g.2.2.2.2) x3 x1).bind fun x12 => some (1, x12) else (if (x4 / 10) = 4 then mp_ld (upd g.1 (Int32.toNatClampNeg (135 + a1)) (x5 + 1)) 231 ((39 + (6 * x3)) + x1) fun x11 => mp_st 231 ((39 + (6 * x3)) + x1) (some (1, ((upd (upd g.1 (Int32.toNatClampNeg (135 + a1)) (x5 + 1)) (Int32.toNatClampNeg ((39 + (6 * x3)) + x1)) (x11 + 1)), g.2.1, g.2.2.1, g.2.2.2.1, g.2.2.2.2))) else mp_ld (upd g.1 (Int32.toNatClampNeg (135 + a1)) (x5 + 1)) 231 ((39 + (6 * x3)) + x1) fun x10 => mp_st 231 ((39 + (6 * x3)) + x1) (mp_st 231 (147 + a1) (some (1, ((upd (upd (upd g.1 (Int32.toNatClampNeg (135 + a1)) (x5 + 1)) (Int32.toNatClampNeg ((39 + (6 * x3)) + x1)) (x10 - 1)) (Int32.toNatClampNeg (147 + a1)) x1), g.2.1, g.2.2.1, g.2.2.2.1, g.2.2.2.2))))))))))
set_option maxHeartbeats 4000000 in
set_option maxRecDepth 100000 in
theorem wR_does {p : Program} {l : Launch} {e : Env} {s : State} {m : MethodId} {args : Array Value} {below : List Frame} {meth : Method} {c : Code} (cx : mp_C p s m args meth c bR_does 5 (some .boolean) rR) (k : KK) (ad : Nat → Nat) (g : SR) (a1 : Int32) (z : (Int32 × SR)) (hE : mp_E k s) (hAN : ∀ q, mp_A (aR ad) q → mp_N k q) {H : Heap} {locs : List Loc} (hP : va_P (kD k) mp_cls (cR k ad g) H) (hD : va_D (mp_A (aR ad)) (cR k ad g)) (hS : va_S (mp_A (aR ad)) s.heap H locs) (h : fR_does g a1 = some z) (ls : Array Slot) (hl : lv_has ls 5 [(0, .ref (ad 0)), (1, .int a1)]) : W p l e rmR_does s m args below meth c H locs 0 0 (MQ below (mp_Qm k (some (.int z.1)) (cR k ad z.2) (aR ad)) args s 0 0 (mp_A (aR ad))) (F0 m 0 ls []) := by
  obtain ⟨hx, hb, -, hml, hown, hts, -⟩ := id cx
  unfold fR_does at h
  refine lv_aload_n hx hb dR_does_0 rfl (lv_at hl 0 rfl) ?_
  refine lv_iload_n hx hb dR_does_1 rfl (lv_at hl 1 rfl) ?_
  obtain ⟨x1, ex1, h⟩ := mp_bs h
  refine mp_si (mp_runV (As := [.int a1]) (rest := []) cx kV_R_78 (cR_doneWith l k ad g a1 x1 ex1) ⟨rfl, rfl, Nat.le_of_ble_eq_true rfl, Nat.le_of_ble_eq_true rfl⟩ ⟨Nat.zero_le _, Nat.zero_le _⟩ hE hP (mp_Dw hD hAN) (mp_S hS hAN) 0 rfl rfl rfl hl.1 rfl (Nat.le_of_ble_eq_true rfl) dR_does_2) ?_
  refine lv_istore_n (lv' := [(2, .int x1), (0, .ref (ad 0)), (1, .int a1)]) hx hb dR_does_5 rfl hl (by decide) rfl (fun ls hl => ?_)
  refine lv_iload_n hx hb dR_does_6 rfl (lv_at hl 0 rfl) ?_
  refine lv_bipush (v := (-9)) hx hb dR_does_7 (by decide) ?_
  refine lv_icmp_ne (tgt := 14) hx hb dR_does_9 (by decide) (fun c2 => ?_) (fun c2 => ?_)
  · have h := mp_f c2 h
    refine lv_aload_n hx hb dR_does_14 rfl (lv_at hl 1 rfl) ?_
    refine mp_gR cx hE hP iR 0 rfl 0 (by decide) wq_401 rfl (v := .ref (ad 1)) rfl dR_does_15 ?_
    refine lv_bipush (v := 111) hx hb dR_does_18 (by decide) ?_
    refine lv_iload_n hx hb dR_does_20 rfl (lv_at hl 2 rfl) ?_
    refine lv_iadd hx hb dR_does_21 ?_
    obtain ⟨hi, x3, ex3, h⟩ := mp_lds h
    refine va_iald hx hb hE.1 hP 1 0 (f := g.1) (n := 231) rfl rfl hi dR_does_22 ?_
    refine mp_top ex3 ?_
    refine lv_istore_n (lv' := [(3, .int x3), (2, .int x1), (0, .ref (ad 0)), (1, .int a1)]) hx hb dR_does_23 rfl hl (by decide) rfl (fun ls hl => ?_)
    refine lv_aload_n hx hb dR_does_24 rfl (lv_at hl 2 rfl) ?_
    refine lv_iload_n hx hb dR_does_25 rfl (lv_at hl 3 rfl) ?_
    obtain ⟨x4, ex4, h⟩ := mp_bs h
    refine mp_si (mp_runV (As := [.int a1]) (rest := []) cx kV_R_62 (cR_nextOf l k ad g a1 x4 ex4) ⟨rfl, rfl, Nat.le_of_ble_eq_true rfl, Nat.le_of_ble_eq_true rfl⟩ ⟨Nat.zero_le _, Nat.zero_le _⟩ hE hP (mp_Dw hD hAN) (mp_S hS hAN) 0 rfl rfl rfl hl.1 rfl (Nat.le_of_ble_eq_true rfl) dR_does_26) ?_
    refine lv_bipush (v := 10) hx hb dR_does_29 (by decide) ?_
    refine lv_idiv hx hb dR_does_31 (by decide) ?_
    refine lv_istore (lv' := [(4, .int (x4 / 10)), (3, .int x3), (2, .int x1), (0, .ref (ad 0)), (1, .int a1)]) hx hb dR_does_32 hl (by decide) rfl (fun ls hl => ?_)
    refine lv_aload_n hx hb dR_does_34 rfl (lv_at hl 3 rfl) ?_
    refine mp_gR cx hE hP iR 0 rfl 0 (by decide) wq_401 rfl (v := .ref (ad 1)) rfl dR_does_35 ?_
    refine lv_sipush (v := 135) hx hb dR_does_38 (by decide) ?_
    refine lv_iload_n hx hb dR_does_41 rfl (lv_at hl 4 rfl) ?_
    refine lv_iadd hx hb dR_does_42 ?_
    refine lv_dup2_11 hx hb dR_does_43 rfl rfl ?_
    obtain ⟨hi, x5, ex5, h⟩ := mp_lds h
    refine va_iald hx hb hE.1 hP 1 0 (f := g.1) (n := 231) rfl rfl hi dR_does_44 ?_
    refine mp_top ex5 ?_
    refine lv_iconst (v := 1) hx hb dR_does_45 (by decide) ?_
    refine lv_iadd hx hb dR_does_46 ?_
    obtain ⟨hi, h⟩ := mp_sts h
    refine va_iast hx hb hE.1 hP hD hS 1 0 (f := g.1) (n := 231) rfl rfl hi dR_does_47 (fun H locs hP hD hS => ?_)
    have hP : va_P (kD k) mp_cls (cR k ad ((upd g.1 (Int32.toNatClampNeg (135 + a1)) (x5 + 1)), g.2.1, g.2.2.1, g.2.2.2.1, g.2.2.2.2)) H := hP
    have hD : va_D (mp_A (aR ad)) (cR k ad ((upd g.1 (Int32.toNatClampNeg (135 + a1)) (x5 + 1)), g.2.1, g.2.2.1, g.2.2.2.1, g.2.2.2.2)) := hD
    refine lv_iload hx hb dR_does_48 (lv_at hl 0 rfl) ?_
    refine lv_iconst (v := 1) hx hb dR_does_50 (by decide) ?_
    refine lv_icmp_ne (tgt := 67) hx hb dR_does_51 (by decide) (fun c6 => ?_) (fun c6 => ?_)
    · have h := mp_f c6 h
      refine lv_iload hx hb dR_does_67 (lv_at hl 0 rfl) ?_
      refine lv_iconst (v := 2) hx hb dR_does_69 (by decide) ?_
      refine lv_icmp_ne (tgt := 94) hx hb dR_does_70 (by decide) (fun c7 => ?_) (fun c7 => ?_)
      · have h := mp_f c7 h
        refine lv_iload hx hb dR_does_94 (lv_at hl 0 rfl) ?_
        refine lv_iconst (v := 3) hx hb dR_does_96 (by decide) ?_
        refine lv_icmp_ne (tgt := 109) hx hb dR_does_97 (by decide) (fun c8 => ?_) (fun c8 => ?_)
        · have h := mp_f c8 h
          refine lv_iload hx hb dR_does_109 (lv_at hl 0 rfl) ?_
          refine lv_iconst (v := 4) hx hb dR_does_111 (by decide) ?_
          refine lv_icmp_ne (tgt := 136) hx hb dR_does_112 (by decide) (fun c9 => ?_) (fun c9 => ?_)
          · have h := mp_f c9 h
            refine lv_aload_n hx hb dR_does_136 rfl (lv_at hl 3 rfl) ?_
            refine mp_gR cx hE hP iR 0 rfl 0 (by decide) wq_401 rfl (v := .ref (ad 1)) rfl dR_does_137 ?_
            refine lv_bipush (v := 39) hx hb dR_does_140 (by decide) ?_
            refine lv_bipush (v := 6) hx hb dR_does_142 (by decide) ?_
            refine lv_iload_n hx hb dR_does_144 rfl (lv_at hl 1 rfl) ?_
            refine lv_imul hx hb dR_does_145 ?_
            refine lv_iadd hx hb dR_does_146 ?_
            refine lv_iload_n hx hb dR_does_147 rfl (lv_at hl 2 rfl) ?_
            refine lv_iadd hx hb dR_does_148 ?_
            refine lv_dup2_11 hx hb dR_does_149 rfl rfl ?_
            obtain ⟨hi, x10, ex10, h⟩ := mp_lds h
            refine va_iald hx hb hE.1 hP 1 0 (f := (upd g.1 (Int32.toNatClampNeg (135 + a1)) (x5 + 1))) (n := 231) rfl rfl hi dR_does_150 ?_
            refine mp_top ex10 ?_
            refine lv_iconst (v := 1) hx hb dR_does_151 (by decide) ?_
            refine lv_isub hx hb dR_does_152 ?_
            obtain ⟨hi, h⟩ := mp_sts h
            refine va_iast hx hb hE.1 hP hD hS 1 0 (f := (upd g.1 (Int32.toNatClampNeg (135 + a1)) (x5 + 1))) (n := 231) rfl rfl hi dR_does_153 (fun H locs hP hD hS => ?_)
            have hP : va_P (kD k) mp_cls (cR k ad ((upd (upd g.1 (Int32.toNatClampNeg (135 + a1)) (x5 + 1)) (Int32.toNatClampNeg ((39 + (6 * x3)) + x1)) (x10 - 1)), g.2.1, g.2.2.1, g.2.2.2.1, g.2.2.2.2)) H := hP
            have hD : va_D (mp_A (aR ad)) (cR k ad ((upd (upd g.1 (Int32.toNatClampNeg (135 + a1)) (x5 + 1)) (Int32.toNatClampNeg ((39 + (6 * x3)) + x1)) (x10 - 1)), g.2.1, g.2.2.1, g.2.2.2.1, g.2.2.2.2)) := hD
            refine lv_aload_n hx hb dR_does_154 rfl (lv_at hl 3 rfl) ?_
            refine mp_gR cx hE hP iR 0 rfl 0 (by decide) wq_401 rfl (v := .ref (ad 1)) rfl dR_does_155 ?_
            refine lv_sipush (v := 147) hx hb dR_does_158 (by decide) ?_
            refine lv_iload_n hx hb dR_does_161 rfl (lv_at hl 4 rfl) ?_
            refine lv_iadd hx hb dR_does_162 ?_
            refine lv_iload_n hx hb dR_does_163 rfl (lv_at hl 2 rfl) ?_
            obtain ⟨hi, h⟩ := mp_sts h
            refine va_iast hx hb hE.1 hP hD hS 1 0 (f := (upd (upd g.1 (Int32.toNatClampNeg (135 + a1)) (x5 + 1)) (Int32.toNatClampNeg ((39 + (6 * x3)) + x1)) (x10 - 1))) (n := 231) rfl rfl hi dR_does_164 (fun H locs hP hD hS => ?_)
            have hP : va_P (kD k) mp_cls (cR k ad ((upd (upd (upd g.1 (Int32.toNatClampNeg (135 + a1)) (x5 + 1)) (Int32.toNatClampNeg ((39 + (6 * x3)) + x1)) (x10 - 1)) (Int32.toNatClampNeg (147 + a1)) x1), g.2.1, g.2.2.1, g.2.2.2.1, g.2.2.2.2)) H := hP
            have hD : va_D (mp_A (aR ad)) (cR k ad ((upd (upd (upd g.1 (Int32.toNatClampNeg (135 + a1)) (x5 + 1)) (Int32.toNatClampNeg ((39 + (6 * x3)) + x1)) (x10 - 1)) (Int32.toNatClampNeg (147 + a1)) x1), g.2.1, g.2.2.1, g.2.2.2.1, g.2.2.2.2)) := hD
            refine lv_iconst (v := 1) hx hb dR_does_165 (by decide) ?_
            exact mp_rzm (cf := cR k ad) cx rfl h hP hS dR_does_166
          · have h := mp_t c9 h
            refine lv_aload_n hx hb dR_does_115 rfl (lv_at hl 3 rfl) ?_
            refine mp_gR cx hE hP iR 0 rfl 0 (by decide) wq_401 rfl (v := .ref (ad 1)) rfl dR_does_116 ?_
            refine lv_bipush (v := 39) hx hb dR_does_119 (by decide) ?_
            refine lv_bipush (v := 6) hx hb dR_does_121 (by decide) ?_
            refine lv_iload_n hx hb dR_does_123 rfl (lv_at hl 1 rfl) ?_
            refine lv_imul hx hb dR_does_124 ?_
            refine lv_iadd hx hb dR_does_125 ?_
            refine lv_iload_n hx hb dR_does_126 rfl (lv_at hl 2 rfl) ?_
            refine lv_iadd hx hb dR_does_127 ?_
            refine lv_dup2_11 hx hb dR_does_128 rfl rfl ?_
            obtain ⟨hi, x11, ex11, h⟩ := mp_lds h
            refine va_iald hx hb hE.1 hP 1 0 (f := (upd g.1 (Int32.toNatClampNeg (135 + a1)) (x5 + 1))) (n := 231) rfl rfl hi dR_does_129 ?_
            refine mp_top ex11 ?_
            refine lv_iconst (v := 1) hx hb dR_does_130 (by decide) ?_
            refine lv_iadd hx hb dR_does_131 ?_
            obtain ⟨hi, h⟩ := mp_sts h
            refine va_iast hx hb hE.1 hP hD hS 1 0 (f := (upd g.1 (Int32.toNatClampNeg (135 + a1)) (x5 + 1))) (n := 231) rfl rfl hi dR_does_132 (fun H locs hP hD hS => ?_)
            have hP : va_P (kD k) mp_cls (cR k ad ((upd (upd g.1 (Int32.toNatClampNeg (135 + a1)) (x5 + 1)) (Int32.toNatClampNeg ((39 + (6 * x3)) + x1)) (x11 + 1)), g.2.1, g.2.2.1, g.2.2.2.1, g.2.2.2.2)) H := hP
            have hD : va_D (mp_A (aR ad)) (cR k ad ((upd (upd g.1 (Int32.toNatClampNeg (135 + a1)) (x5 + 1)) (Int32.toNatClampNeg ((39 + (6 * x3)) + x1)) (x11 + 1)), g.2.1, g.2.2.1, g.2.2.2.1, g.2.2.2.2)) := hD
            refine lv_goto (tgt := 165) hx hb dR_does_133 (by decide) ?_
            refine lv_iconst (v := 1) hx hb dR_does_165 (by decide) ?_
            exact mp_rzm (cf := cR k ad) cx rfl h hP hS dR_does_166
        · have h := mp_t c8 h
          refine lv_aload_n hx hb dR_does_100 rfl (lv_at hl 3 rfl) ?_
          refine lv_iload_n hx hb dR_does_101 rfl (lv_at hl 1 rfl) ?_
          refine lv_iload_n hx hb dR_does_102 rfl (lv_at hl 2 rfl) ?_
          obtain ⟨x12, ex12, h⟩ := mp_bs h
          refine mp_mv (mp_runV (As := [.int x3, .int x1]) (rest := []) cx kV_R_81 (cR_opens l k ad ((upd g.1 (Int32.toNatClampNeg (135 + a1)) (x5 + 1)), g.2.1, g.2.2.1, g.2.2.2.1, g.2.2.2.2) x3 x1 x12 ex12) ⟨rfl, rfl, Nat.le_of_ble_eq_true rfl, Nat.le_of_ble_eq_true rfl⟩ ⟨Nat.zero_le _, Nat.zero_le _⟩ hE hP (mp_Dw hD hAN) (mp_S hS hAN) 0 rfl rfl rfl hl.1 rfl (Nat.le_of_ble_eq_true rfl) dR_does_103) hS (fun _ h9 => h9) (fun H locs hP hk hS => ?_)
          have hD : va_D (mp_A (aR ad)) (cR k ad x12) := mp_Ds hD rfl
          refine lv_goto (tgt := 165) hx hb dR_does_106 (by decide) ?_
          refine lv_iconst (v := 1) hx hb dR_does_165 (by decide) ?_
          exact mp_rzm (cf := cR k ad) cx rfl h hP hS dR_does_166
      · have h := mp_t c7 h
        refine lv_aload_n hx hb dR_does_73 rfl (lv_at hl 3 rfl) ?_
        refine mp_gR cx hE hP iR 0 rfl 0 (by decide) wq_401 rfl (v := .ref (ad 1)) rfl dR_does_74 ?_
        refine lv_bipush (v := 15) hx hb dR_does_77 (by decide) ?_
        refine lv_iload_n hx hb dR_does_79 rfl (lv_at hl 1 rfl) ?_
        refine lv_iadd hx hb dR_does_80 ?_
        refine lv_aload_n hx hb dR_does_81 rfl (lv_at hl 3 rfl) ?_
        refine mp_gR cx hE hP iR 0 rfl 0 (by decide) wq_401 rfl (v := .ref (ad 1)) rfl dR_does_82 ?_
        refine lv_bipush (v := 15) hx hb dR_does_85 (by decide) ?_
        refine lv_iload_n hx hb dR_does_87 rfl (lv_at hl 2 rfl) ?_
        refine lv_iadd hx hb dR_does_88 ?_
        obtain ⟨hi, x13, ex13, h⟩ := mp_lds h
        refine va_iald hx hb hE.1 hP 1 0 (f := (upd g.1 (Int32.toNatClampNeg (135 + a1)) (x5 + 1))) (n := 231) rfl rfl hi dR_does_89 ?_
        refine mp_top ex13 ?_
        obtain ⟨hi, h⟩ := mp_sts h
        refine va_iast hx hb hE.1 hP hD hS 1 0 (f := (upd g.1 (Int32.toNatClampNeg (135 + a1)) (x5 + 1))) (n := 231) rfl rfl hi dR_does_90 (fun H locs hP hD hS => ?_)
        have hP : va_P (kD k) mp_cls (cR k ad ((upd (upd g.1 (Int32.toNatClampNeg (135 + a1)) (x5 + 1)) (Int32.toNatClampNeg (15 + x3)) x13), g.2.1, g.2.2.1, g.2.2.2.1, g.2.2.2.2)) H := hP
        have hD : va_D (mp_A (aR ad)) (cR k ad ((upd (upd g.1 (Int32.toNatClampNeg (135 + a1)) (x5 + 1)) (Int32.toNatClampNeg (15 + x3)) x13), g.2.1, g.2.2.1, g.2.2.2.1, g.2.2.2.2)) := hD
        refine lv_goto (tgt := 165) hx hb dR_does_91 (by decide) ?_
        refine lv_iconst (v := 1) hx hb dR_does_165 (by decide) ?_
        exact mp_rzm (cf := cR k ad) cx rfl h hP hS dR_does_166
    · have h := mp_t c6 h
      refine lv_aload_n hx hb dR_does_54 rfl (lv_at hl 3 rfl) ?_
      refine mp_gR cx hE hP iR 0 rfl 0 (by decide) wq_401 rfl (v := .ref (ad 1)) rfl dR_does_55 ?_
      refine lv_bipush (v := 15) hx hb dR_does_58 (by decide) ?_
      refine lv_iload_n hx hb dR_does_60 rfl (lv_at hl 1 rfl) ?_
      refine lv_iadd hx hb dR_does_61 ?_
      refine lv_iload_n hx hb dR_does_62 rfl (lv_at hl 2 rfl) ?_
      obtain ⟨hi, h⟩ := mp_sts h
      refine va_iast hx hb hE.1 hP hD hS 1 0 (f := (upd g.1 (Int32.toNatClampNeg (135 + a1)) (x5 + 1))) (n := 231) rfl rfl hi dR_does_63 (fun H locs hP hD hS => ?_)
      have hP : va_P (kD k) mp_cls (cR k ad ((upd (upd g.1 (Int32.toNatClampNeg (135 + a1)) (x5 + 1)) (Int32.toNatClampNeg (15 + x3)) x1), g.2.1, g.2.2.1, g.2.2.2.1, g.2.2.2.2)) H := hP
      have hD : va_D (mp_A (aR ad)) (cR k ad ((upd (upd g.1 (Int32.toNatClampNeg (135 + a1)) (x5 + 1)) (Int32.toNatClampNeg (15 + x3)) x1), g.2.1, g.2.2.1, g.2.2.2.1, g.2.2.2.2)) := hD
      refine lv_goto (tgt := 165) hx hb dR_does_64 (by decide) ?_
      refine lv_iconst (v := 1) hx hb dR_does_165 (by decide) ?_
      exact mp_rzm (cf := cR k ad) cx rfl h hP hS dR_does_166
  · have h := mp_t c2 h
    refine lv_iconst (v := 0) hx hb dR_does_12 (by decide) ?_
    exact mp_rzm (cf := cR k ad) cx rfl h hP hS dR_does_13
theorem cR_does (l : Launch) (k : KK) (ad : Nat → Nat) (g : SR) (a1 : Int32) (z : (Int32 × SR)) (h : fR_does g a1 = some z) : mp_CM l k yR_does bR_does 5 (some .boolean) rmR_does [.ref (ad 0), .int a1] (cR k ad g) (cR k ad z.2) (aR ad) (some (.int z.1)) := by
  refine Met.ofW (cc := bR_does) (maxL := 5) (ret := (some .boolean)) (by decide) rfl ?_
  intro p e s m args below meth c s₁ B hml hv
  obtain ⟨rfl, hP, hD, hE⟩ := hv
  have hl := lv_entry ([.ref (ad 0), .int a1]) (n := 5) (Nat.le_of_ble_eq_true rfl)
  rw [lg_entry_eq]
  generalize (lg_sl ([.ref (ad 0), .int a1]) ++ List.replicate (5 - (lg_sl ([.ref (ad 0), .int a1])).length) Slot.unset).toArray = ls at hl ⊢
  exact wR_does (mp_C.of B hml) k ad g a1 z hE (mp_new hD rfl) hP (mp_own hD rfl) va_S.rf h ls hl
-- MovingPlacesModel.can
abbrev rmR_can : Room := { frames := 4, cells := 0, slots := 0, locals := 91 }
def fR_can_4 (g : SR) : Nat → Int32 → Int32 → Option Int32
  | 0, _, _ => none
  | n + 1, a1, a2 => mp_ld g.1 231 1 fun x1 => (if x1 ≤ a2 then some a1 else (fR_doneWith g a2).bind fun x3 => (if x3 = (-9) then fR_can_4 g n (a1 ||| 0) (a2 + 1) else mp_lt (a1 ||| (1 <<< (a2 &&& 31))) fun x5 => fR_can_4 g n x5 (a2 + 1)))
theorem fR_can_4_s (g : SR) (n : Nat) (a1 : Int32) (a2 : Int32) : fR_can_4 g (n + 1) a1 a2 = mp_ld g.1 231 1 fun x1 => (if x1 ≤ a2 then some a1 else (fR_doneWith g a2).bind fun x3 => (if x3 = (-9) then fR_can_4 g n (a1 ||| 0) (a2 + 1) else mp_lt (a1 ||| (1 <<< (a2 &&& 31))) fun x5 => fR_can_4 g n x5 (a2 + 1))) := rfl
set_option maxHeartbeats 4000000 in
set_option maxRecDepth 100000 in
theorem lR_can_4 {p : Program} {l : Launch} {e : Env} {s : State} {m : MethodId} {args : Array Value} {below : List Frame} {meth : Method} {c : Code} (cx : mp_C p s m args meth c bR_can 3 (some .int) rR) (k : KK) (ad : Nat → Nat) (g : SR) (z : Int32) (hE : mp_E k s) (hP : va_P (kD k) mp_cls (cR k ad g) s.heap) (hD : va_D (mp_N k) (cR k ad g)) : ∀ (n : Nat) (a1 : Int32) (a2 : Int32), fR_can_4 g n a1 a2 = some z → ∀ (ls : Array Slot), lv_has ls 3 [(0, .ref (ad 0)), (1, .int a1), (2, .int a2)] → W p l e rmR_can s m args below meth c s.heap [] 0 0 (MQ below (mp_Qs (some (.int z))) args s 0 0 (fun _ => False)) (F0 m 4 ls []) := by
  obtain ⟨hx, hb, -, hml, hown, hts, -⟩ := id cx
  intro n
  induction n with
  | zero =>
    intro a1 a2 h
    have h : (none : Option Int32) = some z := h
    cases h
  | succ n ih =>
    intro a1 a2 h ls hl
    rw [fR_can_4_s] at h
    refine lv_iload_n hx hb dR_can_4 rfl (lv_at hl 2 rfl) ?_
    refine lv_aload_n hx hb dR_can_5 rfl (lv_at hl 0 rfl) ?_
    refine mp_gR cx hE hP iR 0 rfl 0 (by decide) wq_401 rfl (v := .ref (ad 1)) rfl dR_can_6 ?_
    refine lv_iconst (v := 1) hx hb dR_can_9 (by decide) ?_
    obtain ⟨hi, x1, ex1, h⟩ := mp_lds h
    refine va_iald hx hb hE.1 hP 1 0 (f := g.1) (n := 231) rfl rfl hi dR_can_10 ?_
    refine mp_top ex1 ?_
    refine lv_icmp_ge (tgt := 40) hx hb dR_can_11 (by decide) (fun c2 => ?_) (fun c2 => ?_)
    · have h := mp_t c2 h
      refine lv_iload_n hx hb dR_can_40 rfl (lv_at hl 1 rfl) ?_
      exact mp_ri cx h dR_can_41
    · have h := mp_f c2 h
      refine lv_iload_n hx hb dR_can_14 rfl (lv_at hl 1 rfl) ?_
      refine lv_aload_n hx hb dR_can_15 rfl (lv_at hl 0 rfl) ?_
      refine lv_iload_n hx hb dR_can_16 rfl (lv_at hl 2 rfl) ?_
      obtain ⟨x3, ex3, h⟩ := mp_bs h
      refine mp_si (mp_runV (As := [.int a2]) (rest := [.int a1]) cx kV_R_78 (cR_doneWith l k ad g a2 x3 ex3) ⟨rfl, rfl, Nat.le_of_ble_eq_true rfl, Nat.le_of_ble_eq_true rfl⟩ ⟨Nat.zero_le _, Nat.zero_le _⟩ hE hP hD va_S.rf 0 rfl rfl rfl hl.1 rfl (Nat.le_of_ble_eq_true rfl) dR_can_17) ?_
      refine lv_bipush (v := (-9)) hx hb dR_can_20 (by decide) ?_
      refine lv_icmp_eq (tgt := 31) hx hb dR_can_22 (by decide) (fun c4 => ?_) (fun c4 => ?_)
      · have h := mp_t c4 h
        refine lv_iconst (v := 0) hx hb dR_can_31 (by decide) ?_
        refine lv_ior hx hb dR_can_32 ?_
        refine lv_istore_n (lv' := [(1, .int (a1 ||| 0)), (0, .ref (ad 0)), (2, .int a2)]) hx hb dR_can_33 rfl hl (by decide) rfl (fun ls hl => ?_)
        refine lv_iinc (v := (a2 + 1)) (lv' := [(2, .int (a2 + 1)), (1, .int (a1 ||| 0)), (0, .ref (ad 0))]) hx hb dR_can_34 hl (k := 2) rfl rfl (by decide) rfl (fun ls hl => ?_)
        refine lv_goto (tgt := 4) hx hb dR_can_37 (by decide) ?_
        exact ih (a1 ||| 0) (a2 + 1) h ls (lv_sub hl [2, 1, 0] rfl)
      · have h := mp_f c4 h
        refine lv_iconst (v := 1) hx hb dR_can_25 (by decide) ?_
        refine lv_iload_n hx hb dR_can_26 rfl (lv_at hl 2 rfl) ?_
        refine lv_ishl hx hb dR_can_27 ?_
        refine lv_goto (tgt := 32) hx hb dR_can_28 (by decide) ?_
        refine lv_ior hx hb dR_can_32 ?_
        obtain ⟨x5, ex5, h⟩ := mp_lts h
        refine mp_top ex5 ?_
        refine lv_istore_n (lv' := [(1, .int x5), (0, .ref (ad 0)), (2, .int a2)]) hx hb dR_can_33 rfl hl (by decide) rfl (fun ls hl => ?_)
        refine lv_iinc (v := (a2 + 1)) (lv' := [(2, .int (a2 + 1)), (1, .int x5), (0, .ref (ad 0))]) hx hb dR_can_34 hl (k := 2) rfl rfl (by decide) rfl (fun ls hl => ?_)
        refine lv_goto (tgt := 4) hx hb dR_can_37 (by decide) ?_
        exact ih x5 (a2 + 1) h ls (lv_sub hl [2, 1, 0] rfl)
def fR_can (g : SR) : Option Int32 := fR_can_4 g 2000 0 0
set_option maxHeartbeats 4000000 in
set_option maxRecDepth 100000 in
theorem wR_can {p : Program} {l : Launch} {e : Env} {s : State} {m : MethodId} {args : Array Value} {below : List Frame} {meth : Method} {c : Code} (cx : mp_C p s m args meth c bR_can 3 (some .int) rR) (k : KK) (ad : Nat → Nat) (g : SR) (z : Int32) (hE : mp_E k s) (hP : va_P (kD k) mp_cls (cR k ad g) s.heap) (hD : va_D (mp_N k) (cR k ad g)) (h : fR_can g = some z) (ls : Array Slot) (hl : lv_has ls 3 [(0, .ref (ad 0))]) : W p l e rmR_can s m args below meth c s.heap [] 0 0 (MQ below (mp_Qs (some (.int z))) args s 0 0 (fun _ => False)) (F0 m 0 ls []) := by
  obtain ⟨hx, hb, -, hml, hown, hts, -⟩ := id cx
  unfold fR_can at h
  refine lv_iconst (v := 0) hx hb dR_can_0 (by decide) ?_
  refine lv_istore_n (lv' := [(1, .int 0), (0, .ref (ad 0))]) hx hb dR_can_1 rfl hl (by decide) rfl (fun ls hl => ?_)
  refine lv_iconst (v := 0) hx hb dR_can_2 (by decide) ?_
  refine lv_istore_n (lv' := [(2, .int 0), (1, .int 0), (0, .ref (ad 0))]) hx hb dR_can_3 rfl hl (by decide) rfl (fun ls hl => ?_)
  exact lR_can_4 cx k ad g z hE hP hD _ 0 0 h ls (lv_sub hl [2, 1, 0] rfl)
theorem cR_can (l : Launch) (k : KK) (ad : Nat → Nat) (g : SR) (z : Int32) (h : fR_can g = some z) : mp_CS l k yR_can bR_can 3 (some .int) rmR_can [.ref (ad 0)] (cR k ad g) (some (.int z)) := by
  refine Met.ofW (cc := bR_can) (maxL := 3) (ret := (some .int)) (by decide) rfl ?_
  intro p e s m args below meth c s₁ B hml hv
  obtain ⟨rfl, hP, hD, hE⟩ := hv
  have hl := lv_entry ([.ref (ad 0)]) (n := 3) (Nat.le_of_ble_eq_true rfl)
  rw [lg_entry_eq]
  generalize (lg_sl ([.ref (ad 0)]) ++ List.replicate (3 - (lg_sl ([.ref (ad 0)])).length) Slot.unset).toArray = ls at hl ⊢
  exact wR_can (mp_C.of B hml) k ad g z hE hP hD h ls hl
-- MovingPlacesModel.act
abbrev rmR_act : Room := { frames := 5, cells := 0, slots := 0, locals := 115 }
def fR_act (g : SR) (a1 : Int32) : Option (Int32 × SR) := (fR_isThread g a1).bind fun x1 => (if x1 = 0 then some ((-1), g) else (fR_nextOf g a1).bind fun x3 => (fR_does g a1).bind fun x4 => (if x4.1 = 0 then some ((-3), x4.2) else some ((x3 / 10), x4.2)))
set_option maxHeartbeats 4000000 in
set_option maxRecDepth 100000 in
theorem wR_act {p : Program} {l : Launch} {e : Env} {s : State} {m : MethodId} {args : Array Value} {below : List Frame} {meth : Method} {c : Code} (cx : mp_C p s m args meth c bR_act 3 (some .int) rR) (k : KK) (ad : Nat → Nat) (g : SR) (a1 : Int32) (z : (Int32 × SR)) (hE : mp_E k s) (hAN : ∀ q, mp_A (aR ad) q → mp_N k q) {H : Heap} {locs : List Loc} (hP : va_P (kD k) mp_cls (cR k ad g) H) (hD : va_D (mp_A (aR ad)) (cR k ad g)) (hS : va_S (mp_A (aR ad)) s.heap H locs) (h : fR_act g a1 = some z) (ls : Array Slot) (hl : lv_has ls 3 [(0, .ref (ad 0)), (1, .int a1)]) : W p l e rmR_act s m args below meth c H locs 0 0 (MQ below (mp_Qm k (some (.int z.1)) (cR k ad z.2) (aR ad)) args s 0 0 (mp_A (aR ad))) (F0 m 0 ls []) := by
  obtain ⟨hx, hb, -, hml, hown, hts, -⟩ := id cx
  unfold fR_act at h
  refine lv_aload_n hx hb dR_act_0 rfl (lv_at hl 0 rfl) ?_
  refine lv_iload_n hx hb dR_act_1 rfl (lv_at hl 1 rfl) ?_
  obtain ⟨x1, ex1, h⟩ := mp_bs h
  refine mp_si (mp_runV (As := [.int a1]) (rest := []) cx kV_R_59 (cR_isThread l k ad g a1 x1 ex1) ⟨rfl, rfl, Nat.le_of_ble_eq_true rfl, Nat.le_of_ble_eq_true rfl⟩ ⟨Nat.zero_le _, Nat.zero_le _⟩ hE hP (mp_Dw hD hAN) (mp_S hS hAN) 0 rfl rfl rfl hl.1 rfl (Nat.le_of_ble_eq_true rfl) dR_act_2) ?_
  refine lv_if_ne (tgt := 10) hx hb dR_act_5 (by decide) (fun c2 => ?_) (fun c2 => ?_)
  · have h := mp_f c2 h
    refine lv_aload_n hx hb dR_act_10 rfl (lv_at hl 0 rfl) ?_
    refine lv_iload_n hx hb dR_act_11 rfl (lv_at hl 1 rfl) ?_
    obtain ⟨x3, ex3, h⟩ := mp_bs h
    refine mp_si (mp_runV (As := [.int a1]) (rest := []) cx kV_R_62 (cR_nextOf l k ad g a1 x3 ex3) ⟨rfl, rfl, Nat.le_of_ble_eq_true rfl, Nat.le_of_ble_eq_true rfl⟩ ⟨Nat.zero_le _, Nat.zero_le _⟩ hE hP (mp_Dw hD hAN) (mp_S hS hAN) 0 rfl rfl rfl hl.1 rfl (Nat.le_of_ble_eq_true rfl) dR_act_12) ?_
    refine lv_bipush (v := 10) hx hb dR_act_15 (by decide) ?_
    refine lv_idiv hx hb dR_act_17 (by decide) ?_
    refine lv_istore_n (lv' := [(2, .int (x3 / 10)), (0, .ref (ad 0)), (1, .int a1)]) hx hb dR_act_18 rfl hl (by decide) rfl (fun ls hl => ?_)
    refine lv_aload_n hx hb dR_act_19 rfl (lv_at hl 1 rfl) ?_
    refine lv_iload_n hx hb dR_act_20 rfl (lv_at hl 2 rfl) ?_
    obtain ⟨x4, ex4, h⟩ := mp_bs h
    refine mp_mi (mp_runV (As := [.int a1]) (rest := []) cx kV_R_85 (cR_does l k ad g a1 x4 ex4) ⟨rfl, rfl, Nat.le_of_ble_eq_true rfl, Nat.le_of_ble_eq_true rfl⟩ ⟨Nat.zero_le _, Nat.zero_le _⟩ hE hP (mp_Dw hD hAN) (mp_S hS hAN) 0 rfl rfl rfl hl.1 rfl (Nat.le_of_ble_eq_true rfl) dR_act_21) hS (fun _ h9 => h9) (fun H locs hP hk hS => ?_)
    have hD : va_D (mp_A (aR ad)) (cR k ad x4.2) := mp_Ds hD rfl
    refine lv_if_eq (tgt := 31) hx hb dR_act_24 (by decide) (fun c5 => ?_) (fun c5 => ?_)
    · have h := mp_t c5 h
      refine lv_bipush (v := (-3)) hx hb dR_act_31 (by decide) ?_
      exact mp_rim (cf := cR k ad) cx h hP hS dR_act_33
    · have h := mp_f c5 h
      refine lv_iload_n hx hb dR_act_27 rfl (lv_at hl 0 rfl) ?_
      refine lv_goto (tgt := 33) hx hb dR_act_28 (by decide) ?_
      exact mp_rim (cf := cR k ad) cx h hP hS dR_act_33
  · have h := mp_t c2 h
    refine lv_iconst (v := (-1)) hx hb dR_act_8 (by decide) ?_
    exact mp_rim (cf := cR k ad) cx h hP hS dR_act_9
theorem cR_act (l : Launch) (k : KK) (ad : Nat → Nat) (g : SR) (a1 : Int32) (z : (Int32 × SR)) (h : fR_act g a1 = some z) : mp_CM l k yR_act bR_act 3 (some .int) rmR_act [.ref (ad 0), .int a1] (cR k ad g) (cR k ad z.2) (aR ad) (some (.int z.1)) := by
  refine Met.ofW (cc := bR_act) (maxL := 3) (ret := (some .int)) (by decide) rfl ?_
  intro p e s m args below meth c s₁ B hml hv
  obtain ⟨rfl, hP, hD, hE⟩ := hv
  have hl := lv_entry ([.ref (ad 0), .int a1]) (n := 3) (Nat.le_of_ble_eq_true rfl)
  rw [lg_entry_eq]
  generalize (lg_sl ([.ref (ad 0), .int a1]) ++ List.replicate (3 - (lg_sl ([.ref (ad 0), .int a1])).length) Slot.unset).toArray = ls at hl ⊢
  exact wR_act (mp_C.of B hml) k ad g a1 z hE (mp_new hD rfl) hP (mp_own hD rfl) va_S.rf h ls hl
-- MovingPlacesModel.rounds
abbrev rmR_rounds : Room := { frames := 5, cells := 0, slots := 0, locals := 115 }
def fR_rounds_35 (a1 : Int32) (a2 : Int32) (a4 : Int32) (kk : SR → Int32 → Option (Int32 × SR)) : Nat → SR → Int32 → Int32 → Option (Int32 × SR)
  | 0, _, _, _ => none
  | n + 1, g, a3, a5 => mp_ld g.1 231 1 fun x1 => (if x1 ≤ a5 then kk g a3 else (fR_does g a5).bind fun x3 => (if x3.1 = 0 then fR_rounds_35 a1 a2 a4 kk n x3.2 (a3 + 0) (a5 + 1) else fR_rounds_35 a1 a2 a4 kk n x3.2 (a3 + 1) (a5 + 1)))
theorem fR_rounds_35_s (a1 : Int32) (a2 : Int32) (a4 : Int32) (kk : SR → Int32 → Option (Int32 × SR)) (n : Nat) (g : SR) (a3 : Int32) (a5 : Int32) : fR_rounds_35 a1 a2 a4 kk (n + 1) g a3 a5 = mp_ld g.1 231 1 fun x1 => (if x1 ≤ a5 then kk g a3 else (fR_does g a5).bind fun x3 => (if x3.1 = 0 then fR_rounds_35 a1 a2 a4 kk n x3.2 (a3 + 0) (a5 + 1) else fR_rounds_35 a1 a2 a4 kk n x3.2 (a3 + 1) (a5 + 1))) := rfl
set_option maxHeartbeats 4000000 in
set_option maxRecDepth 100000 in
theorem lR_rounds_35 {p : Program} {l : Launch} {e : Env} {s : State} {m : MethodId} {args : Array Value} {below : List Frame} {meth : Method} {c : Code} (cx : mp_C p s m args meth c bR_rounds 6 (some .int) rR) (k : KK) (ad : Nat → Nat) (a1 : Int32) (a2 : Int32) (a4 : Int32) (kk : SR → Int32 → Option (Int32 × SR)) (z : (Int32 × SR)) (hE : mp_E k s) (hAN : ∀ q, mp_A (aR ad) q → mp_N k q) (hk : ∀ (g : SR) (a3 : Int32), kk g a3 = some z → ∀ (H : Heap) (locs : List Loc), va_P (kD k) mp_cls (cR k ad g) H → va_D (mp_A (aR ad)) (cR k ad g) → va_S (mp_A (aR ad)) s.heap H locs → ∀ (ls : Array Slot), lv_has ls 6 [(0, .ref (ad 0)), (1, .int a1), (2, .int a2), (3, .int a3), (4, .int a4)] → W p l e rmR_rounds s m args below meth c H locs 0 0 (MQ below (mp_Qm k (some (.int z.1)) (cR k ad z.2) (aR ad)) args s 0 0 (mp_A (aR ad))) (F0 m 69 ls [])) : ∀ (n : Nat) (g : SR) (a3 : Int32) (a5 : Int32), fR_rounds_35 a1 a2 a4 kk n g a3 a5 = some z → ∀ (H : Heap) (locs : List Loc), va_P (kD k) mp_cls (cR k ad g) H → va_D (mp_A (aR ad)) (cR k ad g) → va_S (mp_A (aR ad)) s.heap H locs → ∀ (ls : Array Slot), lv_has ls 6 [(0, .ref (ad 0)), (1, .int a1), (2, .int a2), (3, .int a3), (4, .int a4), (5, .int a5)] → W p l e rmR_rounds s m args below meth c H locs 0 0 (MQ below (mp_Qm k (some (.int z.1)) (cR k ad z.2) (aR ad)) args s 0 0 (mp_A (aR ad))) (F0 m 35 ls []) := by
  obtain ⟨hx, hb, -, hml, hown, hts, -⟩ := id cx
  intro n
  induction n with
  | zero =>
    intro g a3 a5 h
    have h : (none : Option (Int32 × SR)) = some z := h
    cases h
  | succ n ih =>
    intro g a3 a5 h H locs hP hD hS ls hl
    rw [fR_rounds_35_s] at h
    refine lv_iload hx hb dR_rounds_35 (lv_at hl 5 rfl) ?_
    refine lv_aload_n hx hb dR_rounds_37 rfl (lv_at hl 0 rfl) ?_
    refine mp_gR cx hE hP iR 0 rfl 0 (by decide) wq_401 rfl (v := .ref (ad 1)) rfl dR_rounds_38 ?_
    refine lv_iconst (v := 1) hx hb dR_rounds_41 (by decide) ?_
    obtain ⟨hi, x1, ex1, h⟩ := mp_lds h
    refine va_iald hx hb hE.1 hP 1 0 (f := g.1) (n := 231) rfl rfl hi dR_rounds_42 ?_
    refine mp_top ex1 ?_
    refine lv_icmp_ge (tgt := 69) hx hb dR_rounds_43 (by decide) (fun c2 => ?_) (fun c2 => ?_)
    · have h := mp_t c2 h
      exact hk g a3 h _ _ hP hD hS ls (lv_sub hl [0, 1, 2, 3, 4] rfl)
    · have h := mp_f c2 h
      refine lv_iload_n hx hb dR_rounds_46 rfl (lv_at hl 3 rfl) ?_
      refine lv_aload_n hx hb dR_rounds_47 rfl (lv_at hl 0 rfl) ?_
      refine lv_iload hx hb dR_rounds_48 (lv_at hl 5 rfl) ?_
      obtain ⟨x3, ex3, h⟩ := mp_bs h
      refine mp_mi (mp_runV (As := [.int a5]) (rest := [.int a3]) cx kV_R_85 (cR_does l k ad g a5 x3 ex3) ⟨rfl, rfl, Nat.le_of_ble_eq_true rfl, Nat.le_of_ble_eq_true rfl⟩ ⟨Nat.zero_le _, Nat.zero_le _⟩ hE hP (mp_Dw hD hAN) (mp_S hS hAN) 0 rfl rfl rfl hl.1 rfl (Nat.le_of_ble_eq_true rfl) dR_rounds_50) hS (fun _ h9 => h9) (fun H locs hP hk hS => ?_)
      have hD : va_D (mp_A (aR ad)) (cR k ad x3.2) := mp_Ds hD rfl
      refine lv_if_eq (tgt := 60) hx hb dR_rounds_53 (by decide) (fun c4 => ?_) (fun c4 => ?_)
      · have h := mp_t c4 h
        refine lv_iconst (v := 0) hx hb dR_rounds_60 (by decide) ?_
        refine lv_iadd hx hb dR_rounds_61 ?_
        refine lv_istore_n (lv' := [(3, .int (a3 + 0)), (0, .ref (ad 0)), (1, .int a1), (2, .int a2), (4, .int a4), (5, .int a5)]) hx hb dR_rounds_62 rfl hl (by decide) rfl (fun ls hl => ?_)
        refine lv_iinc (v := (a5 + 1)) (lv' := [(5, .int (a5 + 1)), (3, .int (a3 + 0)), (0, .ref (ad 0)), (1, .int a1), (2, .int a2), (4, .int a4)]) hx hb dR_rounds_63 hl (k := 5) rfl rfl (by decide) rfl (fun ls hl => ?_)
        refine lv_goto (tgt := 35) hx hb dR_rounds_66 (by decide) ?_
        exact ih x3.2 (a3 + 0) (a5 + 1) h _ _ hP hD hS ls (lv_sub hl [2, 3, 4, 1, 5, 0] rfl)
      · have h := mp_f c4 h
        refine lv_iconst (v := 1) hx hb dR_rounds_56 (by decide) ?_
        refine lv_goto (tgt := 61) hx hb dR_rounds_57 (by decide) ?_
        refine lv_iadd hx hb dR_rounds_61 ?_
        refine lv_istore_n (lv' := [(3, .int (a3 + 1)), (0, .ref (ad 0)), (1, .int a1), (2, .int a2), (4, .int a4), (5, .int a5)]) hx hb dR_rounds_62 rfl hl (by decide) rfl (fun ls hl => ?_)
        refine lv_iinc (v := (a5 + 1)) (lv' := [(5, .int (a5 + 1)), (3, .int (a3 + 1)), (0, .ref (ad 0)), (1, .int a1), (2, .int a2), (4, .int a4)]) hx hb dR_rounds_63 hl (k := 5) rfl rfl (by decide) rfl (fun ls hl => ?_)
        refine lv_goto (tgt := 35) hx hb dR_rounds_66 (by decide) ?_
        exact ih x3.2 (a3 + 1) (a5 + 1) h _ _ hP hD hS ls (lv_sub hl [2, 3, 4, 1, 5, 0] rfl)
def fR_rounds_20 (a1 : Int32) : Nat → SR → Int32 → Int32 → Int32 → Option (Int32 × SR)
  | 0, _, _, _, _ => none
  | n + 1, g, a2, a3, a4 => (if a1 ≤ a4 then some (a2, g) else (if a3 ≤ 0 then some (a2, g) else fR_rounds_35 a1 a2 a4 (fun s4 y3 => fR_rounds_20 a1 n s4 (a2 + y3) y3 (a4 + 1)) 2000 g 0 0))
theorem fR_rounds_20_s (a1 : Int32) (n : Nat) (g : SR) (a2 : Int32) (a3 : Int32) (a4 : Int32) : fR_rounds_20 a1 (n + 1) g a2 a3 a4 = (if a1 ≤ a4 then some (a2, g) else (if a3 ≤ 0 then some (a2, g) else fR_rounds_35 a1 a2 a4 (fun s4 y3 => fR_rounds_20 a1 n s4 (a2 + y3) y3 (a4 + 1)) 2000 g 0 0)) := rfl
set_option maxHeartbeats 4000000 in
set_option maxRecDepth 100000 in
theorem lR_rounds_20 {p : Program} {l : Launch} {e : Env} {s : State} {m : MethodId} {args : Array Value} {below : List Frame} {meth : Method} {c : Code} (cx : mp_C p s m args meth c bR_rounds 6 (some .int) rR) (k : KK) (ad : Nat → Nat) (a1 : Int32) (z : (Int32 × SR)) (hE : mp_E k s) (hAN : ∀ q, mp_A (aR ad) q → mp_N k q) : ∀ (n : Nat) (g : SR) (a2 : Int32) (a3 : Int32) (a4 : Int32), fR_rounds_20 a1 n g a2 a3 a4 = some z → ∀ (H : Heap) (locs : List Loc), va_P (kD k) mp_cls (cR k ad g) H → va_D (mp_A (aR ad)) (cR k ad g) → va_S (mp_A (aR ad)) s.heap H locs → ∀ (ls : Array Slot), lv_has ls 6 [(0, .ref (ad 0)), (1, .int a1), (2, .int a2), (3, .int a3), (4, .int a4)] → W p l e rmR_rounds s m args below meth c H locs 0 0 (MQ below (mp_Qm k (some (.int z.1)) (cR k ad z.2) (aR ad)) args s 0 0 (mp_A (aR ad))) (F0 m 20 ls []) := by
  obtain ⟨hx, hb, -, hml, hown, hts, -⟩ := id cx
  intro n
  induction n with
  | zero =>
    intro g a2 a3 a4 h
    have h : (none : Option (Int32 × SR)) = some z := h
    cases h
  | succ n ih =>
    intro g a2 a3 a4 h H locs hP hD hS ls hl
    rw [fR_rounds_20_s] at h
    refine lv_iload hx hb dR_rounds_20 (lv_at hl 4 rfl) ?_
    refine lv_iload_n hx hb dR_rounds_22 rfl (lv_at hl 1 rfl) ?_
    refine lv_icmp_ge (tgt := 79) hx hb dR_rounds_23 (by decide) (fun c1 => ?_) (fun c1 => ?_)
    · have h := mp_t c1 h
      refine lv_iload_n hx hb dR_rounds_79 rfl (lv_at hl 2 rfl) ?_
      exact mp_rim (cf := cR k ad) cx h hP hS dR_rounds_80
    · have h := mp_f c1 h
      refine lv_iload_n hx hb dR_rounds_26 rfl (lv_at hl 3 rfl) ?_
      refine lv_if_le (tgt := 79) hx hb dR_rounds_27 (by decide) (fun c2 => ?_) (fun c2 => ?_)
      · have h := mp_t c2 h
        refine lv_iload_n hx hb dR_rounds_79 rfl (lv_at hl 2 rfl) ?_
        exact mp_rim (cf := cR k ad) cx h hP hS dR_rounds_80
      · have h := mp_f c2 h
        refine lv_iconst (v := 0) hx hb dR_rounds_30 (by decide) ?_
        refine lv_istore_n (lv' := [(3, .int 0), (0, .ref (ad 0)), (1, .int a1), (2, .int a2), (4, .int a4)]) hx hb dR_rounds_31 rfl hl (by decide) rfl (fun ls hl => ?_)
        refine lv_iconst (v := 0) hx hb dR_rounds_32 (by decide) ?_
        refine lv_istore (lv' := [(5, .int 0), (3, .int 0), (0, .ref (ad 0)), (1, .int a1), (2, .int a2), (4, .int a4)]) hx hb dR_rounds_33 hl (by decide) rfl (fun ls hl => ?_)
        refine lR_rounds_35 cx k ad a1 a2 a4 _ z hE hAN (fun s4 y3 h H locs hP hD hS ls hl => ?_) _ g 0 0 h _ _ hP hD hS ls (lv_sub hl [2, 3, 4, 1, 5, 0] rfl)
        refine lv_iload_n hx hb dR_rounds_69 rfl (lv_at hl 2 rfl) ?_
        refine lv_iload_n hx hb dR_rounds_70 rfl (lv_at hl 3 rfl) ?_
        refine lv_iadd hx hb dR_rounds_71 ?_
        refine lv_istore_n (lv' := [(2, .int (a2 + y3)), (0, .ref (ad 0)), (1, .int a1), (3, .int y3), (4, .int a4)]) hx hb dR_rounds_72 rfl hl (by decide) rfl (fun ls hl => ?_)
        refine lv_iinc (v := (a4 + 1)) (lv' := [(4, .int (a4 + 1)), (2, .int (a2 + y3)), (0, .ref (ad 0)), (1, .int a1), (3, .int y3)]) hx hb dR_rounds_73 hl (k := 4) rfl rfl (by decide) rfl (fun ls hl => ?_)
        refine lv_goto (tgt := 20) hx hb dR_rounds_76 (by decide) ?_
        exact ih s4 (a2 + y3) y3 (a4 + 1) h _ _ hP hD hS ls (lv_sub hl [2, 3, 1, 4, 0] rfl)
def fR_rounds (g : SR) (a1 : Int32) : Option (Int32 × SR) := (fR_between a1 1 50).bind fun x1 => (if x1 = 0 then some ((-2), g) else fR_rounds_20 a1 2000 g 0 1 0)
set_option maxHeartbeats 4000000 in
set_option maxRecDepth 100000 in
theorem wR_rounds {p : Program} {l : Launch} {e : Env} {s : State} {m : MethodId} {args : Array Value} {below : List Frame} {meth : Method} {c : Code} (cx : mp_C p s m args meth c bR_rounds 6 (some .int) rR) (k : KK) (ad : Nat → Nat) (g : SR) (a1 : Int32) (z : (Int32 × SR)) (hE : mp_E k s) (hAN : ∀ q, mp_A (aR ad) q → mp_N k q) {H : Heap} {locs : List Loc} (hP : va_P (kD k) mp_cls (cR k ad g) H) (hD : va_D (mp_A (aR ad)) (cR k ad g)) (hS : va_S (mp_A (aR ad)) s.heap H locs) (h : fR_rounds g a1 = some z) (ls : Array Slot) (hl : lv_has ls 6 [(0, .ref (ad 0)), (1, .int a1)]) : W p l e rmR_rounds s m args below meth c H locs 0 0 (MQ below (mp_Qm k (some (.int z.1)) (cR k ad z.2) (aR ad)) args s 0 0 (mp_A (aR ad))) (F0 m 0 ls []) := by
  obtain ⟨hx, hb, -, hml, hown, hts, -⟩ := id cx
  unfold fR_rounds at h
  refine lv_iload_n hx hb dR_rounds_0 rfl (lv_at hl 1 rfl) ?_
  refine lv_iconst (v := 1) hx hb dR_rounds_1 (by decide) ?_
  refine lv_bipush (v := 50) hx hb dR_rounds_2 (by decide) ?_
  obtain ⟨x1, ex1, h⟩ := mp_bs h
  refine mp_si (mp_runT (As := [.int a1, .int 1, .int 50]) (rest := []) cx kT_R_22 (cR_between l k a1 1 50 x1 ex1) ⟨rfl, rfl, Nat.le_of_ble_eq_true rfl, Nat.le_of_ble_eq_true rfl⟩ ⟨Nat.zero_le _, Nat.zero_le _⟩ hE mp_P0 mp_D0 (mp_S hS hAN) hl.1 rfl (Nat.le_of_ble_eq_true rfl) dR_rounds_4) ?_
  refine lv_if_ne (tgt := 13) hx hb dR_rounds_7 (by decide) (fun c2 => ?_) (fun c2 => ?_)
  · have h := mp_f c2 h
    refine lv_iconst (v := 0) hx hb dR_rounds_13 (by decide) ?_
    refine lv_istore_n (lv' := [(2, .int 0), (0, .ref (ad 0)), (1, .int a1)]) hx hb dR_rounds_14 rfl hl (by decide) rfl (fun ls hl => ?_)
    refine lv_iconst (v := 1) hx hb dR_rounds_15 (by decide) ?_
    refine lv_istore_n (lv' := [(3, .int 1), (2, .int 0), (0, .ref (ad 0)), (1, .int a1)]) hx hb dR_rounds_16 rfl hl (by decide) rfl (fun ls hl => ?_)
    refine lv_iconst (v := 0) hx hb dR_rounds_17 (by decide) ?_
    refine lv_istore (lv' := [(4, .int 0), (3, .int 1), (2, .int 0), (0, .ref (ad 0)), (1, .int a1)]) hx hb dR_rounds_18 hl (by decide) rfl (fun ls hl => ?_)
    exact lR_rounds_20 cx k ad a1 z hE hAN _ g 0 1 0 h _ _ hP hD hS ls (lv_sub hl [3, 4, 2, 1, 0] rfl)
  · have h := mp_t c2 h
    refine lv_bipush (v := (-2)) hx hb dR_rounds_10 (by decide) ?_
    exact mp_rim (cf := cR k ad) cx h hP hS dR_rounds_12
theorem cR_rounds (l : Launch) (k : KK) (ad : Nat → Nat) (g : SR) (a1 : Int32) (z : (Int32 × SR)) (h : fR_rounds g a1 = some z) : mp_CM l k yR_rounds bR_rounds 6 (some .int) rmR_rounds [.ref (ad 0), .int a1] (cR k ad g) (cR k ad z.2) (aR ad) (some (.int z.1)) := by
  refine Met.ofW (cc := bR_rounds) (maxL := 6) (ret := (some .int)) (by decide) rfl ?_
  intro p e s m args below meth c s₁ B hml hv
  obtain ⟨rfl, hP, hD, hE⟩ := hv
  have hl := lv_entry ([.ref (ad 0), .int a1]) (n := 6) (Nat.le_of_ble_eq_true rfl)
  rw [lg_entry_eq]
  generalize (lg_sl ([.ref (ad 0), .int a1]) ++ List.replicate (6 - (lg_sl ([.ref (ad 0), .int a1])).length) Slot.unset).toArray = ls at hl ⊢
  exact wR_rounds (mp_C.of B hml) k ad g a1 z hE (mp_new hD rfl) hP (mp_own hD rfl) va_S.rf h ls hl
-- MovingPlacesModel.keepsAt
abbrev rmR_keepsAt : Room := { frames := 0, cells := 0, slots := 0, locals := 0 }
def fR_keepsAt_2 (a1 : Int32) : Nat → SR → Int32 → Option SR
  | 0, _, _ => none
  | n + 1, g, a2 => (if 231 ≤ a2 then some g else mp_ld g.1 231 a2 fun x2 => mp_st 693 ((231 * a1) + a2) (fR_keepsAt_2 a1 n (g.1, g.2.1, (upd g.2.2.1 (Int32.toNatClampNeg ((231 * a1) + a2)) x2), g.2.2.2.1, g.2.2.2.2) (a2 + 1)))
theorem fR_keepsAt_2_s (a1 : Int32) (n : Nat) (g : SR) (a2 : Int32) : fR_keepsAt_2 a1 (n + 1) g a2 = (if 231 ≤ a2 then some g else mp_ld g.1 231 a2 fun x2 => mp_st 693 ((231 * a1) + a2) (fR_keepsAt_2 a1 n (g.1, g.2.1, (upd g.2.2.1 (Int32.toNatClampNeg ((231 * a1) + a2)) x2), g.2.2.2.1, g.2.2.2.2) (a2 + 1))) := rfl
set_option maxHeartbeats 4000000 in
set_option maxRecDepth 100000 in
theorem lR_keepsAt_2 {p : Program} {l : Launch} {e : Env} {s : State} {m : MethodId} {args : Array Value} {below : List Frame} {meth : Method} {c : Code} (cx : mp_C p s m args meth c bR_keepsAt 3 none rR) (k : KK) (ad : Nat → Nat) (a1 : Int32) (z : SR) (hE : mp_E k s) (hAN : ∀ q, mp_A (aR ad) q → mp_N k q) : ∀ (n : Nat) (g : SR) (a2 : Int32), fR_keepsAt_2 a1 n g a2 = some z → ∀ (H : Heap) (locs : List Loc), va_P (kD k) mp_cls (cR k ad g) H → va_D (mp_A (aR ad)) (cR k ad g) → va_S (mp_A (aR ad)) s.heap H locs → ∀ (ls : Array Slot), lv_has ls 3 [(0, .ref (ad 0)), (1, .int a1), (2, .int a2)] → W p l e rmR_keepsAt s m args below meth c H locs 0 0 (MQ below (mp_Qm k none (cR k ad z) (aR ad)) args s 0 0 (mp_A (aR ad))) (F0 m 2 ls []) := by
  obtain ⟨hx, hb, -, hml, hown, hts, -⟩ := id cx
  intro n
  induction n with
  | zero =>
    intro g a2 h
    have h : (none : Option SR) = some z := h
    cases h
  | succ n ih =>
    intro g a2 h H locs hP hD hS ls hl
    rw [fR_keepsAt_2_s] at h
    refine lv_iload_n hx hb dR_keepsAt_2 rfl (lv_at hl 2 rfl) ?_
    refine lv_sipush (v := 231) hx hb dR_keepsAt_3 (by decide) ?_
    refine lv_icmp_ge (tgt := 33) hx hb dR_keepsAt_6 (by decide) (fun c1 => ?_) (fun c1 => ?_)
    · have h := mp_t c1 h
      exact mp_rvm (cf := cR k ad) cx h hP hS dR_keepsAt_33
    · have h := mp_f c1 h
      refine lv_aload_n hx hb dR_keepsAt_9 rfl (lv_at hl 0 rfl) ?_
      refine mp_gR cx hE hP iR 0 rfl 2 (by decide) wq_403 rfl (v := .ref (ad 3)) rfl dR_keepsAt_10 ?_
      refine lv_sipush (v := 231) hx hb dR_keepsAt_13 (by decide) ?_
      refine lv_iload_n hx hb dR_keepsAt_16 rfl (lv_at hl 1 rfl) ?_
      refine lv_imul hx hb dR_keepsAt_17 ?_
      refine lv_iload_n hx hb dR_keepsAt_18 rfl (lv_at hl 2 rfl) ?_
      refine lv_iadd hx hb dR_keepsAt_19 ?_
      refine lv_aload_n hx hb dR_keepsAt_20 rfl (lv_at hl 0 rfl) ?_
      refine mp_gR cx hE hP iR 0 rfl 0 (by decide) wq_401 rfl (v := .ref (ad 1)) rfl dR_keepsAt_21 ?_
      refine lv_iload_n hx hb dR_keepsAt_24 rfl (lv_at hl 2 rfl) ?_
      obtain ⟨hi, x2, ex2, h⟩ := mp_lds h
      refine va_iald hx hb hE.1 hP 1 0 (f := g.1) (n := 231) rfl rfl hi dR_keepsAt_25 ?_
      refine mp_top ex2 ?_
      obtain ⟨hi, h⟩ := mp_sts h
      refine va_iast hx hb hE.1 hP hD hS 3 0 (f := g.2.2.1) (n := 693) rfl rfl hi dR_keepsAt_26 (fun H locs hP hD hS => ?_)
      have hP : va_P (kD k) mp_cls (cR k ad (g.1, g.2.1, (upd g.2.2.1 (Int32.toNatClampNeg ((231 * a1) + a2)) x2), g.2.2.2.1, g.2.2.2.2)) H := hP
      have hD : va_D (mp_A (aR ad)) (cR k ad (g.1, g.2.1, (upd g.2.2.1 (Int32.toNatClampNeg ((231 * a1) + a2)) x2), g.2.2.2.1, g.2.2.2.2)) := hD
      refine lv_iinc (v := (a2 + 1)) (lv' := [(2, .int (a2 + 1)), (0, .ref (ad 0)), (1, .int a1)]) hx hb dR_keepsAt_27 hl (k := 2) rfl rfl (by decide) rfl (fun ls hl => ?_)
      refine lv_goto (tgt := 2) hx hb dR_keepsAt_30 (by decide) ?_
      exact ih (g.1, g.2.1, (upd g.2.2.1 (Int32.toNatClampNeg ((231 * a1) + a2)) x2), g.2.2.2.1, g.2.2.2.2) (a2 + 1) h _ _ hP hD hS ls (lv_sub hl [1, 2, 0] rfl)
def fR_keepsAt (g : SR) (a1 : Int32) : Option SR := fR_keepsAt_2 a1 2000 g 0
set_option maxHeartbeats 4000000 in
set_option maxRecDepth 100000 in
theorem wR_keepsAt {p : Program} {l : Launch} {e : Env} {s : State} {m : MethodId} {args : Array Value} {below : List Frame} {meth : Method} {c : Code} (cx : mp_C p s m args meth c bR_keepsAt 3 none rR) (k : KK) (ad : Nat → Nat) (g : SR) (a1 : Int32) (z : SR) (hE : mp_E k s) (hAN : ∀ q, mp_A (aR ad) q → mp_N k q) {H : Heap} {locs : List Loc} (hP : va_P (kD k) mp_cls (cR k ad g) H) (hD : va_D (mp_A (aR ad)) (cR k ad g)) (hS : va_S (mp_A (aR ad)) s.heap H locs) (h : fR_keepsAt g a1 = some z) (ls : Array Slot) (hl : lv_has ls 3 [(0, .ref (ad 0)), (1, .int a1)]) : W p l e rmR_keepsAt s m args below meth c H locs 0 0 (MQ below (mp_Qm k none (cR k ad z) (aR ad)) args s 0 0 (mp_A (aR ad))) (F0 m 0 ls []) := by
  obtain ⟨hx, hb, -, hml, hown, hts, -⟩ := id cx
  unfold fR_keepsAt at h
  refine lv_iconst (v := 0) hx hb dR_keepsAt_0 (by decide) ?_
  refine lv_istore_n (lv' := [(2, .int 0), (0, .ref (ad 0)), (1, .int a1)]) hx hb dR_keepsAt_1 rfl hl (by decide) rfl (fun ls hl => ?_)
  exact lR_keepsAt_2 cx k ad a1 z hE hAN _ g 0 h _ _ hP hD hS ls (lv_sub hl [1, 2, 0] rfl)
theorem cR_keepsAt (l : Launch) (k : KK) (ad : Nat → Nat) (g : SR) (a1 : Int32) (z : SR) (h : fR_keepsAt g a1 = some z) : mp_CM l k yR_keepsAt bR_keepsAt 3 none rmR_keepsAt [.ref (ad 0), .int a1] (cR k ad g) (cR k ad z) (aR ad) (none) := by
  refine Met.ofW (cc := bR_keepsAt) (maxL := 3) (ret := none) (by decide) rfl ?_
  intro p e s m args below meth c s₁ B hml hv
  obtain ⟨rfl, hP, hD, hE⟩ := hv
  have hl := lv_entry ([.ref (ad 0), .int a1]) (n := 3) (Nat.le_of_ble_eq_true rfl)
  rw [lg_entry_eq]
  generalize (lg_sl ([.ref (ad 0), .int a1]) ++ List.replicate (3 - (lg_sl ([.ref (ad 0), .int a1])).length) Slot.unset).toArray = ls at hl ⊢
  exact wR_keepsAt (mp_C.of B hml) k ad g a1 z hE (mp_new hD rfl) hP (mp_own hD rfl) va_S.rf h ls hl
-- MovingPlacesModel.putsFrom
abbrev rmR_putsFrom : Room := { frames := 0, cells := 0, slots := 0, locals := 0 }
def fR_putsFrom_2 (a1 : Int32) : Nat → SR → Int32 → Option SR
  | 0, _, _ => none
  | n + 1, g, a2 => (if 231 ≤ a2 then some g else mp_ld g.2.2.1 693 ((231 * a1) + a2) fun x2 => mp_st 231 a2 (fR_putsFrom_2 a1 n ((upd g.1 (Int32.toNatClampNeg a2) x2), g.2.1, g.2.2.1, g.2.2.2.1, g.2.2.2.2) (a2 + 1)))
theorem fR_putsFrom_2_s (a1 : Int32) (n : Nat) (g : SR) (a2 : Int32) : fR_putsFrom_2 a1 (n + 1) g a2 = (if 231 ≤ a2 then some g else mp_ld g.2.2.1 693 ((231 * a1) + a2) fun x2 => mp_st 231 a2 (fR_putsFrom_2 a1 n ((upd g.1 (Int32.toNatClampNeg a2) x2), g.2.1, g.2.2.1, g.2.2.2.1, g.2.2.2.2) (a2 + 1))) := rfl
set_option maxHeartbeats 4000000 in
set_option maxRecDepth 100000 in
theorem lR_putsFrom_2 {p : Program} {l : Launch} {e : Env} {s : State} {m : MethodId} {args : Array Value} {below : List Frame} {meth : Method} {c : Code} (cx : mp_C p s m args meth c bR_putsFrom 3 none rR) (k : KK) (ad : Nat → Nat) (a1 : Int32) (z : SR) (hE : mp_E k s) (hAN : ∀ q, mp_A (aR ad) q → mp_N k q) : ∀ (n : Nat) (g : SR) (a2 : Int32), fR_putsFrom_2 a1 n g a2 = some z → ∀ (H : Heap) (locs : List Loc), va_P (kD k) mp_cls (cR k ad g) H → va_D (mp_A (aR ad)) (cR k ad g) → va_S (mp_A (aR ad)) s.heap H locs → ∀ (ls : Array Slot), lv_has ls 3 [(0, .ref (ad 0)), (1, .int a1), (2, .int a2)] → W p l e rmR_putsFrom s m args below meth c H locs 0 0 (MQ below (mp_Qm k none (cR k ad z) (aR ad)) args s 0 0 (mp_A (aR ad))) (F0 m 2 ls []) := by
  obtain ⟨hx, hb, -, hml, hown, hts, -⟩ := id cx
  intro n
  induction n with
  | zero =>
    intro g a2 h
    have h : (none : Option SR) = some z := h
    cases h
  | succ n ih =>
    intro g a2 h H locs hP hD hS ls hl
    rw [fR_putsFrom_2_s] at h
    refine lv_iload_n hx hb dR_putsFrom_2 rfl (lv_at hl 2 rfl) ?_
    refine lv_sipush (v := 231) hx hb dR_putsFrom_3 (by decide) ?_
    refine lv_icmp_ge (tgt := 33) hx hb dR_putsFrom_6 (by decide) (fun c1 => ?_) (fun c1 => ?_)
    · have h := mp_t c1 h
      exact mp_rvm (cf := cR k ad) cx h hP hS dR_putsFrom_33
    · have h := mp_f c1 h
      refine lv_aload_n hx hb dR_putsFrom_9 rfl (lv_at hl 0 rfl) ?_
      refine mp_gR cx hE hP iR 0 rfl 0 (by decide) wq_401 rfl (v := .ref (ad 1)) rfl dR_putsFrom_10 ?_
      refine lv_iload_n hx hb dR_putsFrom_13 rfl (lv_at hl 2 rfl) ?_
      refine lv_aload_n hx hb dR_putsFrom_14 rfl (lv_at hl 0 rfl) ?_
      refine mp_gR cx hE hP iR 0 rfl 2 (by decide) wq_403 rfl (v := .ref (ad 3)) rfl dR_putsFrom_15 ?_
      refine lv_sipush (v := 231) hx hb dR_putsFrom_18 (by decide) ?_
      refine lv_iload_n hx hb dR_putsFrom_21 rfl (lv_at hl 1 rfl) ?_
      refine lv_imul hx hb dR_putsFrom_22 ?_
      refine lv_iload_n hx hb dR_putsFrom_23 rfl (lv_at hl 2 rfl) ?_
      refine lv_iadd hx hb dR_putsFrom_24 ?_
      obtain ⟨hi, x2, ex2, h⟩ := mp_lds h
      refine va_iald hx hb hE.1 hP 3 0 (f := g.2.2.1) (n := 693) rfl rfl hi dR_putsFrom_25 ?_
      refine mp_top ex2 ?_
      obtain ⟨hi, h⟩ := mp_sts h
      refine va_iast hx hb hE.1 hP hD hS 1 0 (f := g.1) (n := 231) rfl rfl hi dR_putsFrom_26 (fun H locs hP hD hS => ?_)
      have hP : va_P (kD k) mp_cls (cR k ad ((upd g.1 (Int32.toNatClampNeg a2) x2), g.2.1, g.2.2.1, g.2.2.2.1, g.2.2.2.2)) H := hP
      have hD : va_D (mp_A (aR ad)) (cR k ad ((upd g.1 (Int32.toNatClampNeg a2) x2), g.2.1, g.2.2.1, g.2.2.2.1, g.2.2.2.2)) := hD
      refine lv_iinc (v := (a2 + 1)) (lv' := [(2, .int (a2 + 1)), (0, .ref (ad 0)), (1, .int a1)]) hx hb dR_putsFrom_27 hl (k := 2) rfl rfl (by decide) rfl (fun ls hl => ?_)
      refine lv_goto (tgt := 2) hx hb dR_putsFrom_30 (by decide) ?_
      exact ih ((upd g.1 (Int32.toNatClampNeg a2) x2), g.2.1, g.2.2.1, g.2.2.2.1, g.2.2.2.2) (a2 + 1) h _ _ hP hD hS ls (lv_sub hl [1, 2, 0] rfl)
def fR_putsFrom (g : SR) (a1 : Int32) : Option SR := fR_putsFrom_2 a1 2000 g 0
set_option maxHeartbeats 4000000 in
set_option maxRecDepth 100000 in
theorem wR_putsFrom {p : Program} {l : Launch} {e : Env} {s : State} {m : MethodId} {args : Array Value} {below : List Frame} {meth : Method} {c : Code} (cx : mp_C p s m args meth c bR_putsFrom 3 none rR) (k : KK) (ad : Nat → Nat) (g : SR) (a1 : Int32) (z : SR) (hE : mp_E k s) (hAN : ∀ q, mp_A (aR ad) q → mp_N k q) {H : Heap} {locs : List Loc} (hP : va_P (kD k) mp_cls (cR k ad g) H) (hD : va_D (mp_A (aR ad)) (cR k ad g)) (hS : va_S (mp_A (aR ad)) s.heap H locs) (h : fR_putsFrom g a1 = some z) (ls : Array Slot) (hl : lv_has ls 3 [(0, .ref (ad 0)), (1, .int a1)]) : W p l e rmR_putsFrom s m args below meth c H locs 0 0 (MQ below (mp_Qm k none (cR k ad z) (aR ad)) args s 0 0 (mp_A (aR ad))) (F0 m 0 ls []) := by
  obtain ⟨hx, hb, -, hml, hown, hts, -⟩ := id cx
  unfold fR_putsFrom at h
  refine lv_iconst (v := 0) hx hb dR_putsFrom_0 (by decide) ?_
  refine lv_istore_n (lv' := [(2, .int 0), (0, .ref (ad 0)), (1, .int a1)]) hx hb dR_putsFrom_1 rfl hl (by decide) rfl (fun ls hl => ?_)
  exact lR_putsFrom_2 cx k ad a1 z hE hAN _ g 0 h _ _ hP hD hS ls (lv_sub hl [1, 2, 0] rfl)
theorem cR_putsFrom (l : Launch) (k : KK) (ad : Nat → Nat) (g : SR) (a1 : Int32) (z : SR) (h : fR_putsFrom g a1 = some z) : mp_CM l k yR_putsFrom bR_putsFrom 3 none rmR_putsFrom [.ref (ad 0), .int a1] (cR k ad g) (cR k ad z) (aR ad) (none) := by
  refine Met.ofW (cc := bR_putsFrom) (maxL := 3) (ret := none) (by decide) rfl ?_
  intro p e s m args below meth c s₁ B hml hv
  obtain ⟨rfl, hP, hD, hE⟩ := hv
  have hl := lv_entry ([.ref (ad 0), .int a1]) (n := 3) (Nat.le_of_ble_eq_true rfl)
  rw [lg_entry_eq]
  generalize (lg_sl ([.ref (ad 0), .int a1]) ++ List.replicate (3 - (lg_sl ([.ref (ad 0), .int a1])).length) Slot.unset).toArray = ls at hl ⊢
  exact wR_putsFrom (mp_C.of B hml) k ad g a1 z hE (mp_new hD rfl) hP (mp_own hD rfl) va_S.rf h ls hl
-- MovingPlacesModel.threadAt
abbrev rmR_threadAt : Room := { frames := 0, cells := 0, slots := 0, locals := 0 }
def fR_threadAt_8 (g : SR) (a3 : Int32) : Nat → Int32 → Int32 → Option Int32
  | 0, _, _ => none
  | n + 1, a4, a5 => (if a5 ≤ a3 then mp_ld g.1 231 1 fun x2 => mp_nz x2 (some (a4 - a4 / x2 * x2)) else mp_ld g.1 231 1 fun x4 => mp_nz x4 (fR_threadAt_8 g a3 n (a4 / x4) (a5 + (-1))))
theorem fR_threadAt_8_s (g : SR) (a3 : Int32) (n : Nat) (a4 : Int32) (a5 : Int32) : fR_threadAt_8 g a3 (n + 1) a4 a5 = (if a5 ≤ a3 then mp_ld g.1 231 1 fun x2 => mp_nz x2 (some (a4 - a4 / x2 * x2)) else mp_ld g.1 231 1 fun x4 => mp_nz x4 (fR_threadAt_8 g a3 n (a4 / x4) (a5 + (-1)))) := rfl
set_option maxHeartbeats 4000000 in
set_option maxRecDepth 100000 in
theorem lR_threadAt_8 {p : Program} {l : Launch} {e : Env} {s : State} {m : MethodId} {args : Array Value} {below : List Frame} {meth : Method} {c : Code} (cx : mp_C p s m args meth c bR_threadAt 6 (some .int) rR) (k : KK) (ad : Nat → Nat) (g : SR) (a3 : Int32) (z : Int32) (hE : mp_E k s) (hP : va_P (kD k) mp_cls (cR k ad g) s.heap) (hD : va_D (mp_N k) (cR k ad g)) : ∀ (n : Nat) (a4 : Int32) (a5 : Int32), fR_threadAt_8 g a3 n a4 a5 = some z → ∀ (ls : Array Slot), lv_has ls 6 [(0, .ref (ad 0)), (3, .int a3), (4, .int a4), (5, .int a5)] → W p l e rmR_threadAt s m args below meth c s.heap [] 0 0 (MQ below (mp_Qs (some (.int z))) args s 0 0 (fun _ => False)) (F0 m 8 ls []) := by
  obtain ⟨hx, hb, -, hml, hown, hts, -⟩ := id cx
  intro n
  induction n with
  | zero =>
    intro a4 a5 h
    have h : (none : Option Int32) = some z := h
    cases h
  | succ n ih =>
    intro a4 a5 h ls hl
    rw [fR_threadAt_8_s] at h
    refine lv_iload hx hb dR_threadAt_8 (lv_at hl 3 rfl) ?_
    refine lv_iload_n hx hb dR_threadAt_10 rfl (lv_at hl 1 rfl) ?_
    refine lv_icmp_le (tgt := 31) hx hb dR_threadAt_11 (by decide) (fun c1 => ?_) (fun c1 => ?_)
    · have h := mp_t c1 h
      refine lv_iload hx hb dR_threadAt_31 (lv_at hl 2 rfl) ?_
      refine lv_aload_n hx hb dR_threadAt_33 rfl (lv_at hl 0 rfl) ?_
      refine mp_gR cx hE hP iR 0 rfl 0 (by decide) wq_401 rfl (v := .ref (ad 1)) rfl dR_threadAt_34 ?_
      refine lv_iconst (v := 1) hx hb dR_threadAt_37 (by decide) ?_
      obtain ⟨hi, x2, ex2, h⟩ := mp_lds h
      refine va_iald hx hb hE.1 hP 1 0 (f := g.1) (n := 231) rfl rfl hi dR_threadAt_38 ?_
      refine mp_top ex2 ?_
      obtain ⟨d3, h⟩ := mp_nzs h
      refine lv_irem hx hb dR_threadAt_39 d3 ?_
      exact mp_ri cx h dR_threadAt_40
    · have h := mp_f c1 h
      refine lv_iload hx hb dR_threadAt_14 (lv_at hl 2 rfl) ?_
      refine lv_aload_n hx hb dR_threadAt_16 rfl (lv_at hl 0 rfl) ?_
      refine mp_gR cx hE hP iR 0 rfl 0 (by decide) wq_401 rfl (v := .ref (ad 1)) rfl dR_threadAt_17 ?_
      refine lv_iconst (v := 1) hx hb dR_threadAt_20 (by decide) ?_
      obtain ⟨hi, x4, ex4, h⟩ := mp_lds h
      refine va_iald hx hb hE.1 hP 1 0 (f := g.1) (n := 231) rfl rfl hi dR_threadAt_21 ?_
      refine mp_top ex4 ?_
      obtain ⟨d5, h⟩ := mp_nzs h
      refine lv_idiv hx hb dR_threadAt_22 d5 ?_
      refine lv_istore (lv' := [(4, .int (a4 / x4)), (0, .ref (ad 0)), (3, .int a3), (5, .int a5)]) hx hb dR_threadAt_23 hl (by decide) rfl (fun ls hl => ?_)
      refine lv_iinc (v := (a5 + (-1))) (lv' := [(5, .int (a5 + (-1))), (4, .int (a4 / x4)), (0, .ref (ad 0)), (3, .int a3)]) hx hb dR_threadAt_25 hl (k := 3) rfl rfl (by decide) rfl (fun ls hl => ?_)
      refine lv_goto (tgt := 8) hx hb dR_threadAt_28 (by decide) ?_
      exact ih (a4 / x4) (a5 + (-1)) h ls (lv_sub hl [2, 3, 1, 0] rfl)
def fR_threadAt (g : SR) (a1 : Int32) (a2 : Int32) (a3 : Int32) : Option Int32 := fR_threadAt_8 g a3 2000 a1 (a2 - 1)
set_option maxHeartbeats 4000000 in
set_option maxRecDepth 100000 in
theorem wR_threadAt {p : Program} {l : Launch} {e : Env} {s : State} {m : MethodId} {args : Array Value} {below : List Frame} {meth : Method} {c : Code} (cx : mp_C p s m args meth c bR_threadAt 6 (some .int) rR) (k : KK) (ad : Nat → Nat) (g : SR) (a1 : Int32) (a2 : Int32) (a3 : Int32) (z : Int32) (hE : mp_E k s) (hP : va_P (kD k) mp_cls (cR k ad g) s.heap) (hD : va_D (mp_N k) (cR k ad g)) (h : fR_threadAt g a1 a2 a3 = some z) (ls : Array Slot) (hl : lv_has ls 6 [(0, .ref (ad 0)), (1, .int a1), (2, .int a2), (3, .int a3)]) : W p l e rmR_threadAt s m args below meth c s.heap [] 0 0 (MQ below (mp_Qs (some (.int z))) args s 0 0 (fun _ => False)) (F0 m 0 ls []) := by
  obtain ⟨hx, hb, -, hml, hown, hts, -⟩ := id cx
  unfold fR_threadAt at h
  refine lv_iload_n hx hb dR_threadAt_0 rfl (lv_at hl 1 rfl) ?_
  refine lv_istore (lv' := [(4, .int a1), (0, .ref (ad 0)), (1, .int a1), (2, .int a2), (3, .int a3)]) hx hb dR_threadAt_1 hl (by decide) rfl (fun ls hl => ?_)
  refine lv_iload_n hx hb dR_threadAt_3 rfl (lv_at hl 3 rfl) ?_
  refine lv_iconst (v := 1) hx hb dR_threadAt_4 (by decide) ?_
  refine lv_isub hx hb dR_threadAt_5 ?_
  refine lv_istore (lv' := [(5, .int (a2 - 1)), (4, .int a1), (0, .ref (ad 0)), (1, .int a1), (2, .int a2), (3, .int a3)]) hx hb dR_threadAt_6 hl (by decide) rfl (fun ls hl => ?_)
  exact lR_threadAt_8 cx k ad g a3 z hE hP hD _ a1 (a2 - 1) h ls (lv_sub hl [2, 5, 1, 0] rfl)
theorem cR_threadAt (l : Launch) (k : KK) (ad : Nat → Nat) (g : SR) (a1 : Int32) (a2 : Int32) (a3 : Int32) (z : Int32) (h : fR_threadAt g a1 a2 a3 = some z) : mp_CS l k yR_threadAt bR_threadAt 6 (some .int) rmR_threadAt [.ref (ad 0), .int a1, .int a2, .int a3] (cR k ad g) (some (.int z)) := by
  refine Met.ofW (cc := bR_threadAt) (maxL := 6) (ret := (some .int)) (by decide) rfl ?_
  intro p e s m args below meth c s₁ B hml hv
  obtain ⟨rfl, hP, hD, hE⟩ := hv
  have hl := lv_entry ([.ref (ad 0), .int a1, .int a2, .int a3]) (n := 6) (Nat.le_of_ble_eq_true rfl)
  rw [lg_entry_eq]
  generalize (lg_sl ([.ref (ad 0), .int a1, .int a2, .int a3]) ++ List.replicate (6 - (lg_sl ([.ref (ad 0), .int a1, .int a2, .int a3])).length) Slot.unset).toArray = ls at hl ⊢
  exact wR_threadAt (mp_C.of B hml) k ad g a1 a2 a3 z hE hP hD h ls hl
