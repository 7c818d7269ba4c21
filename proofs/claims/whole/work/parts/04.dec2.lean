theorem dX9_init_0 : decode cX9_init 0 = .ok (.aload_n 0, 1) := by decide +kernel
theorem dX9_init_1 : decode cX9_init 1 = .ok (.invokespecial 1, 3) := by decide +kernel
theorem dX9_init_4 : decode cX9_init 4 = .ok (.aload_n 0, 1) := by decide +kernel
theorem dX9_init_5 : decode cX9_init 5 = .ok (.sipush 1401, 3) := by decide +kernel
theorem dX9_init_8 : decode cX9_init 8 = .ok (.newarray .int, 2) := by decide +kernel
theorem dX9_init_10 : decode cX9_init 10 = .ok (.putfield 7, 3) := by decide +kernel
theorem dX9_init_13 : decode cX9_init 13 = .ok (.aload_n 0, 1) := by decide +kernel
theorem dX9_init_14 : decode cX9_init 14 = .ok (.sipush 1401, 3) := by decide +kernel
theorem dX9_init_17 : decode cX9_init 17 = .ok (.newarray .int, 2) := by decide +kernel
theorem dX9_init_19 : decode cX9_init 19 = .ok (.putfield 13, 3) := by decide +kernel
theorem dX9_init_22 : decode cX9_init 22 = .ok (.aload_n 0, 1) := by decide +kernel
theorem dX9_init_23 : decode cX9_init 23 = .ok (.sipush 1401, 3) := by decide +kernel
theorem dX9_init_26 : decode cX9_init 26 = .ok (.newarray .int, 2) := by decide +kernel
theorem dX9_init_28 : decode cX9_init 28 = .ok (.putfield 16, 3) := by decide +kernel
theorem dX9_init_31 : decode cX9_init 31 = .ok (.aload_n 0, 1) := by decide +kernel
theorem dX9_init_32 : decode cX9_init 32 = .ok (.sipush 1401, 3) := by decide +kernel
theorem dX9_init_35 : decode cX9_init 35 = .ok (.newarray .int, 2) := by decide +kernel
theorem dX9_init_37 : decode cX9_init 37 = .ok (.putfield 19, 3) := by decide +kernel
theorem dX9_init_40 : decode cX9_init 40 = .ok (.aload_n 0, 1) := by decide +kernel
theorem dX9_init_41 : decode cX9_init 41 = .ok (.sipush 1401, 3) := by decide +kernel
theorem dX9_init_44 : decode cX9_init 44 = .ok (.newarray .int, 2) := by decide +kernel
theorem dX9_init_46 : decode cX9_init 46 = .ok (.putfield 22, 3) := by decide +kernel
theorem dX9_init_49 : decode cX9_init 49 = .ok (.aload_n 0, 1) := by decide +kernel
theorem dX9_init_50 : decode cX9_init 50 = .ok (.sipush 603, 3) := by decide +kernel
theorem dX9_init_53 : decode cX9_init 53 = .ok (.newarray .int, 2) := by decide +kernel
theorem dX9_init_55 : decode cX9_init 55 = .ok (.putfield 25, 3) := by decide +kernel
theorem dX9_init_58 : decode cX9_init 58 = .ok (.aload_n 0, 1) := by decide +kernel
theorem dX9_init_59 : decode cX9_init 59 = .ok (.sipush 603, 3) := by decide +kernel
theorem dX9_init_62 : decode cX9_init 62 = .ok (.newarray .int, 2) := by decide +kernel
theorem dX9_init_64 : decode cX9_init 64 = .ok (.putfield 28, 3) := by decide +kernel
theorem dX9_init_67 : decode cX9_init 67 = .ok (.aload_n 0, 1) := by decide +kernel
theorem dX9_init_68 : decode cX9_init 68 = .ok (.sipush 603, 3) := by decide +kernel
theorem dX9_init_71 : decode cX9_init 71 = .ok (.newarray .int, 2) := by decide +kernel
theorem dX9_init_73 : decode cX9_init 73 = .ok (.putfield 31, 3) := by decide +kernel
theorem dX9_init_76 : decode cX9_init 76 = .ok (.aload_n 0, 1) := by decide +kernel
theorem dX9_init_77 : decode cX9_init 77 = .ok (.iconst 3, 1) := by decide +kernel
theorem dX9_init_78 : decode cX9_init 78 = .ok (.newarray .int, 2) := by decide +kernel
theorem dX9_init_80 : decode cX9_init 80 = .ok (.putfield 34, 3) := by decide +kernel
theorem dX9_init_83 : decode cX9_init 83 = .ok (.aload_n 0, 1) := by decide +kernel
theorem dX9_init_84 : decode cX9_init 84 = .ok (.iconst 2, 1) := by decide +kernel
theorem dX9_init_85 : decode cX9_init 85 = .ok (.newarray .int, 2) := by decide +kernel
theorem dX9_init_87 : decode cX9_init 87 = .ok (.putfield 37, 3) := by decide +kernel
theorem dX9_init_90 : decode cX9_init 90 = .ok (.aload_n 0, 1) := by decide +kernel
theorem dX9_init_91 : decode cX9_init 91 = .ok (.iconst 2, 1) := by decide +kernel
theorem dX9_init_92 : decode cX9_init 92 = .ok (.newarray .int, 2) := by decide +kernel
theorem dX9_init_94 : decode cX9_init 94 = .ok (.putfield 40, 3) := by decide +kernel
theorem dX9_init_97 : decode cX9_init 97 = .ok (.aload_n 0, 1) := by decide +kernel
theorem dX9_init_98 : decode cX9_init 98 = .ok (.iconst 2, 1) := by decide +kernel
theorem dX9_init_99 : decode cX9_init 99 = .ok (.newarray .int, 2) := by decide +kernel
theorem dX9_init_101 : decode cX9_init 101 = .ok (.putfield 43, 3) := by decide +kernel
theorem dX9_init_104 : decode cX9_init 104 = .ok (.aload_n 0, 1) := by decide +kernel
theorem dX9_init_105 : decode cX9_init 105 = .ok (.iconst 2, 1) := by decide +kernel
theorem dX9_init_106 : decode cX9_init 106 = .ok (.newarray .int, 2) := by decide +kernel
theorem dX9_init_108 : decode cX9_init 108 = .ok (.putfield 46, 3) := by decide +kernel
theorem dX9_init_111 : decode cX9_init 111 = .ok (.aload_n 0, 1) := by decide +kernel
theorem dX9_init_112 : decode cX9_init 112 = .ok (.iconst 2, 1) := by decide +kernel
theorem dX9_init_113 : decode cX9_init 113 = .ok (.newarray .int, 2) := by decide +kernel
theorem dX9_init_115 : decode cX9_init 115 = .ok (.putfield 49, 3) := by decide +kernel
theorem dX9_init_118 : decode cX9_init 118 = .ok (.aload_n 0, 1) := by decide +kernel
theorem dX9_init_119 : decode cX9_init 119 = .ok (.iconst 2, 1) := by decide +kernel
theorem dX9_init_120 : decode cX9_init 120 = .ok (.newarray .int, 2) := by decide +kernel
theorem dX9_init_122 : decode cX9_init 122 = .ok (.putfield 52, 3) := by decide +kernel
theorem dX9_init_125 : decode cX9_init 125 = .ok (.aload_n 0, 1) := by decide +kernel
theorem dX9_init_126 : decode cX9_init 126 = .ok (.iconst 2, 1) := by decide +kernel
theorem dX9_init_127 : decode cX9_init 127 = .ok (.newarray .int, 2) := by decide +kernel
theorem dX9_init_129 : decode cX9_init 129 = .ok (.putfield 55, 3) := by decide +kernel
theorem dX9_init_132 : decode cX9_init 132 = .ok (.aload_n 0, 1) := by decide +kernel
theorem dX9_init_133 : decode cX9_init 133 = .ok (.iconst 2, 1) := by decide +kernel
theorem dX9_init_134 : decode cX9_init 134 = .ok (.newarray .boolean, 2) := by decide +kernel
theorem dX9_init_136 : decode cX9_init 136 = .ok (.putfield 58, 3) := by decide +kernel
theorem dX9_init_139 : decode cX9_init 139 = .ok (.aload_n 0, 1) := by decide +kernel
theorem dX9_init_140 : decode cX9_init 140 = .ok (.iconst 2, 1) := by decide +kernel
theorem dX9_init_141 : decode cX9_init 141 = .ok (.newarray .boolean, 2) := by decide +kernel
theorem dX9_init_143 : decode cX9_init 143 = .ok (.putfield 62, 3) := by decide +kernel
theorem dX9_init_146 : decode cX9_init 146 = .ok (.aload_n 0, 1) := by decide +kernel
theorem dX9_init_147 : decode cX9_init 147 = .ok (.sipush 400, 3) := by decide +kernel
theorem dX9_init_150 : decode cX9_init 150 = .ok (.newarray .int, 2) := by decide +kernel
theorem dX9_init_152 : decode cX9_init 152 = .ok (.putfield 65, 3) := by decide +kernel
theorem dX9_init_155 : decode cX9_init 155 = .ok (.aload_n 0, 1) := by decide +kernel
theorem dX9_init_156 : decode cX9_init 156 = .ok (.sipush 400, 3) := by decide +kernel
theorem dX9_init_159 : decode cX9_init 159 = .ok (.newarray .int, 2) := by decide +kernel
theorem dX9_init_161 : decode cX9_init 161 = .ok (.putfield 68, 3) := by decide +kernel
theorem dX9_init_164 : decode cX9_init 164 = .ok (.aload_n 0, 1) := by decide +kernel
theorem dX9_init_165 : decode cX9_init 165 = .ok (.sipush 400, 3) := by decide +kernel
theorem dX9_init_168 : decode cX9_init 168 = .ok (.newarray .int, 2) := by decide +kernel
theorem dX9_init_170 : decode cX9_init 170 = .ok (.putfield 71, 3) := by decide +kernel
theorem dX9_init_173 : decode cX9_init 173 = .ok (.aload_n 0, 1) := by decide +kernel
theorem dX9_init_174 : decode cX9_init 174 = .ok (.sipush 400, 3) := by decide +kernel
theorem dX9_init_177 : decode cX9_init 177 = .ok (.newarray .int, 2) := by decide +kernel
theorem dX9_init_179 : decode cX9_init 179 = .ok (.putfield 74, 3) := by decide +kernel
theorem dX9_init_182 : decode cX9_init 182 = .ok (.aload_n 0, 1) := by decide +kernel
theorem dX9_init_183 : decode cX9_init 183 = .ok (.iconst 2, 1) := by decide +kernel
theorem dX9_init_184 : decode cX9_init 184 = .ok (.newarray .int, 2) := by decide +kernel
theorem dX9_init_186 : decode cX9_init 186 = .ok (.putfield 77, 3) := by decide +kernel
theorem dX9_init_189 : decode cX9_init 189 = .ok (.aload_n 0, 1) := by decide +kernel
theorem dX9_init_190 : decode cX9_init 190 = .ok (.sipush 201, 3) := by decide +kernel
theorem dX9_init_193 : decode cX9_init 193 = .ok (.newarray .int, 2) := by decide +kernel
theorem dX9_init_195 : decode cX9_init 195 = .ok (.putfield 80, 3) := by decide +kernel
theorem dX9_init_198 : decode cX9_init 198 = .ok (.aload_n 0, 1) := by decide +kernel
theorem dX9_init_199 : decode cX9_init 199 = .ok (.sipush 200, 3) := by decide +kernel
theorem dX9_init_202 : decode cX9_init 202 = .ok (.newarray .int, 2) := by decide +kernel
theorem dX9_init_204 : decode cX9_init 204 = .ok (.putfield 83, 3) := by decide +kernel
theorem dX9_init_207 : decode cX9_init 207 = .ok (.aload_n 0, 1) := by decide +kernel
theorem dX9_init_208 : decode cX9_init 208 = .ok (.sipush 201, 3) := by decide +kernel
theorem dX9_init_211 : decode cX9_init 211 = .ok (.newarray .int, 2) := by decide +kernel
theorem dX9_init_213 : decode cX9_init 213 = .ok (.putfield 86, 3) := by decide +kernel
theorem dX9_init_216 : decode cX9_init 216 = .ok (.aload_n 0, 1) := by decide +kernel
theorem dX9_init_217 : decode cX9_init 217 = .ok (.sipush 201, 3) := by decide +kernel
theorem dX9_init_220 : decode cX9_init 220 = .ok (.newarray .int, 2) := by decide +kernel
theorem dX9_init_222 : decode cX9_init 222 = .ok (.putfield 89, 3) := by decide +kernel
theorem dX9_init_225 : decode cX9_init 225 = .ok (.return_, 1) := by decide +kernel
theorem dX9_thrown_0 : decode cX9_thrown 0 = .ok (.aload_n 0, 1) := by decide +kernel
theorem dX9_thrown_1 : decode cX9_thrown 1 = .ok (.getfield 92, 3) := by decide +kernel
theorem dX9_thrown_4 : decode cX9_thrown 4 = .ok (.ireturn, 1) := by decide +kernel
theorem dX9_fails_0 : decode cX9_fails 0 = .ok (.aload_n 0, 1) := by decide +kernel
theorem dX9_fails_1 : decode cX9_fails 1 = .ok (.iload_n 1, 1) := by decide +kernel
theorem dX9_fails_2 : decode cX9_fails 2 = .ok (.putfield 92, 3) := by decide +kernel
theorem dX9_fails_5 : decode cX9_fails 5 = .ok (.iconst 0, 1) := by decide +kernel
theorem dX9_fails_6 : decode cX9_fails 6 = .ok (.ireturn, 1) := by decide +kernel
theorem dX9_isBetween_0 : decode cX9_isBetween 0 = .ok (.iload_n 1, 1) := by decide +kernel
theorem dX9_isBetween_1 : decode cX9_isBetween 1 = .ok (.iload_n 0, 1) := by decide +kernel
theorem dX9_isBetween_2 : decode cX9_isBetween 2 = .ok (.if_icmp .gt 12, 3) := by decide +kernel
theorem dX9_isBetween_5 : decode cX9_isBetween 5 = .ok (.iload_n 0, 1) := by decide +kernel
theorem dX9_isBetween_6 : decode cX9_isBetween 6 = .ok (.iload_n 2, 1) := by decide +kernel
theorem dX9_isBetween_7 : decode cX9_isBetween 7 = .ok (.if_icmp .gt 7, 3) := by decide +kernel
theorem dX9_isBetween_10 : decode cX9_isBetween 10 = .ok (.iconst 1, 1) := by decide +kernel
theorem dX9_isBetween_11 : decode cX9_isBetween 11 = .ok (.goto 4, 3) := by decide +kernel
theorem dX9_isBetween_14 : decode cX9_isBetween 14 = .ok (.iconst 0, 1) := by decide +kernel
theorem dX9_isBetween_15 : decode cX9_isBetween 15 = .ok (.ireturn, 1) := by decide +kernel
theorem dX9_isEnd_0 : decode cX9_isEnd 0 = .ok (.iload_n 0, 1) := by decide +kernel
theorem dX9_isEnd_1 : decode cX9_isEnd 1 = .ok (.iconst 0, 1) := by decide +kernel
theorem dX9_isEnd_2 : decode cX9_isEnd 2 = .ok (.iconst 1, 1) := by decide +kernel
theorem dX9_isEnd_3 : decode cX9_isEnd 3 = .ok (.invokestatic 96, 3) := by decide +kernel
theorem dX9_isEnd_6 : decode cX9_isEnd 6 = .ok (.ireturn, 1) := by decide +kernel
theorem dX9_sentAt_0 : decode cX9_sentAt 0 = .ok (.iconst 0, 1) := by decide +kernel
theorem dX9_sentAt_1 : decode cX9_sentAt 1 = .ok (.sipush 200, 3) := by decide +kernel
theorem dX9_sentAt_4 : decode cX9_sentAt 4 = .ok (.iload_n 0, 1) := by decide +kernel
theorem dX9_sentAt_5 : decode cX9_sentAt 5 = .ok (.imul, 1) := by decide +kernel
theorem dX9_sentAt_6 : decode cX9_sentAt 6 = .ok (.iadd, 1) := by decide +kernel
theorem dX9_sentAt_7 : decode cX9_sentAt 7 = .ok (.ireturn, 1) := by decide +kernel
theorem dX9_waitingAt_0 : decode cX9_waitingAt 0 = .ok (.sipush 400, 3) := by decide +kernel
theorem dX9_waitingAt_3 : decode cX9_waitingAt 3 = .ok (.sipush 200, 3) := by decide +kernel
theorem dX9_waitingAt_6 : decode cX9_waitingAt 6 = .ok (.iload_n 0, 1) := by decide +kernel
theorem dX9_waitingAt_7 : decode cX9_waitingAt 7 = .ok (.imul, 1) := by decide +kernel
theorem dX9_waitingAt_8 : decode cX9_waitingAt 8 = .ok (.iadd, 1) := by decide +kernel
theorem dX9_waitingAt_9 : decode cX9_waitingAt 9 = .ok (.ireturn, 1) := by decide +kernel
theorem dX9_upAt_0 : decode cX9_upAt 0 = .ok (.sipush 800, 3) := by decide +kernel
theorem dX9_upAt_3 : decode cX9_upAt 3 = .ok (.sipush 200, 3) := by decide +kernel
theorem dX9_upAt_6 : decode cX9_upAt 6 = .ok (.iload_n 0, 1) := by decide +kernel
theorem dX9_upAt_7 : decode cX9_upAt 7 = .ok (.imul, 1) := by decide +kernel
theorem dX9_upAt_8 : decode cX9_upAt 8 = .ok (.iadd, 1) := by decide +kernel
theorem dX9_upAt_9 : decode cX9_upAt 9 = .ok (.ireturn, 1) := by decide +kernel
theorem dX9_copies_0 : decode cX9_copies 0 = .ok (.aload_n 0, 1) := by decide +kernel
theorem dX9_copies_1 : decode cX9_copies 1 = .ok (.getfield 7, 3) := by decide +kernel
theorem dX9_copies_4 : decode cX9_copies 4 = .ok (.iload_n 2, 1) := by decide +kernel
theorem dX9_copies_5 : decode cX9_copies 5 = .ok (.aload_n 0, 1) := by decide +kernel
theorem dX9_copies_6 : decode cX9_copies 6 = .ok (.getfield 7, 3) := by decide +kernel
theorem dX9_copies_9 : decode cX9_copies 9 = .ok (.iload_n 1, 1) := by decide +kernel
theorem dX9_copies_10 : decode cX9_copies 10 = .ok (.iaload, 1) := by decide +kernel
theorem dX9_copies_11 : decode cX9_copies 11 = .ok (.iastore, 1) := by decide +kernel
theorem dX9_copies_12 : decode cX9_copies 12 = .ok (.aload_n 0, 1) := by decide +kernel
theorem dX9_copies_13 : decode cX9_copies 13 = .ok (.getfield 13, 3) := by decide +kernel
theorem dX9_copies_16 : decode cX9_copies 16 = .ok (.iload_n 2, 1) := by decide +kernel
theorem dX9_copies_17 : decode cX9_copies 17 = .ok (.aload_n 0, 1) := by decide +kernel
theorem dX9_copies_18 : decode cX9_copies 18 = .ok (.getfield 13, 3) := by decide +kernel
theorem dX9_copies_21 : decode cX9_copies 21 = .ok (.iload_n 1, 1) := by decide +kernel
theorem dX9_copies_22 : decode cX9_copies 22 = .ok (.iaload, 1) := by decide +kernel
theorem dX9_copies_23 : decode cX9_copies 23 = .ok (.iastore, 1) := by decide +kernel
theorem dX9_copies_24 : decode cX9_copies 24 = .ok (.aload_n 0, 1) := by decide +kernel
theorem dX9_copies_25 : decode cX9_copies 25 = .ok (.getfield 16, 3) := by decide +kernel
theorem dX9_copies_28 : decode cX9_copies 28 = .ok (.iload_n 2, 1) := by decide +kernel
theorem dX9_copies_29 : decode cX9_copies 29 = .ok (.aload_n 0, 1) := by decide +kernel
theorem dX9_copies_30 : decode cX9_copies 30 = .ok (.getfield 16, 3) := by decide +kernel
theorem dX9_copies_33 : decode cX9_copies 33 = .ok (.iload_n 1, 1) := by decide +kernel
theorem dX9_copies_34 : decode cX9_copies 34 = .ok (.iaload, 1) := by decide +kernel
theorem dX9_copies_35 : decode cX9_copies 35 = .ok (.iastore, 1) := by decide +kernel
theorem dX9_copies_36 : decode cX9_copies 36 = .ok (.aload_n 0, 1) := by decide +kernel
theorem dX9_copies_37 : decode cX9_copies 37 = .ok (.getfield 19, 3) := by decide +kernel
theorem dX9_copies_40 : decode cX9_copies 40 = .ok (.iload_n 2, 1) := by decide +kernel
theorem dX9_copies_41 : decode cX9_copies 41 = .ok (.aload_n 0, 1) := by decide +kernel
theorem dX9_copies_42 : decode cX9_copies 42 = .ok (.getfield 19, 3) := by decide +kernel
theorem dX9_copies_45 : decode cX9_copies 45 = .ok (.iload_n 1, 1) := by decide +kernel
theorem dX9_copies_46 : decode cX9_copies 46 = .ok (.iaload, 1) := by decide +kernel
theorem dX9_copies_47 : decode cX9_copies 47 = .ok (.iastore, 1) := by decide +kernel
theorem dX9_copies_48 : decode cX9_copies 48 = .ok (.aload_n 0, 1) := by decide +kernel
theorem dX9_copies_49 : decode cX9_copies 49 = .ok (.getfield 22, 3) := by decide +kernel
theorem dX9_copies_52 : decode cX9_copies 52 = .ok (.iload_n 2, 1) := by decide +kernel
theorem dX9_copies_53 : decode cX9_copies 53 = .ok (.aload_n 0, 1) := by decide +kernel
theorem dX9_copies_54 : decode cX9_copies 54 = .ok (.getfield 22, 3) := by decide +kernel
theorem dX9_copies_57 : decode cX9_copies 57 = .ok (.iload_n 1, 1) := by decide +kernel
theorem dX9_copies_58 : decode cX9_copies 58 = .ok (.iaload, 1) := by decide +kernel
theorem dX9_copies_59 : decode cX9_copies 59 = .ok (.iastore, 1) := by decide +kernel
theorem dX9_copies_60 : decode cX9_copies 60 = .ok (.return_, 1) := by decide +kernel
theorem dX9_moved_0 : decode cX9_moved 0 = .ok (.iload_n 0, 1) := by decide +kernel
theorem dX9_moved_1 : decode cX9_moved 1 = .ok (.ifCond .eq 7, 3) := by decide +kernel
theorem dX9_moved_4 : decode cX9_moved 4 = .ok (.iload_n 2, 1) := by decide +kernel
theorem dX9_moved_5 : decode cX9_moved 5 = .ok (.ifCond .ne 5, 3) := by decide +kernel
theorem dX9_moved_8 : decode cX9_moved 8 = .ok (.iload_n 1, 1) := by decide +kernel
theorem dX9_moved_9 : decode cX9_moved 9 = .ok (.ireturn, 1) := by decide +kernel
theorem dX9_moved_10 : decode cX9_moved 10 = .ok (.iload_n 0, 1) := by decide +kernel
theorem dX9_moved_11 : decode cX9_moved 11 = .ok (.iconst 1, 1) := by decide +kernel
theorem dX9_moved_12 : decode cX9_moved 12 = .ok (.if_icmp .ne 31, 3) := by decide +kernel
theorem dX9_moved_15 : decode cX9_moved 15 = .ok (.iload_n 2, 1) := by decide +kernel
theorem dX9_moved_16 : decode cX9_moved 16 = .ok (.iconst 1, 1) := by decide +kernel
theorem dX9_moved_17 : decode cX9_moved 17 = .ok (.if_icmp .ne 26, 3) := by decide +kernel
theorem dX9_moved_20 : decode cX9_moved 20 = .ok (.iload_n 3, 1) := by decide +kernel
theorem dX9_moved_21 : decode cX9_moved 21 = .ok (.iload_n 1, 1) := by decide +kernel
theorem dX9_moved_22 : decode cX9_moved 22 = .ok (.if_icmp .lt 13, 3) := by decide +kernel
theorem dX9_moved_25 : decode cX9_moved 25 = .ok (.iload_n 3, 1) := by decide +kernel
theorem dX9_moved_26 : decode cX9_moved 26 = .ok (.iload_n 1, 1) := by decide +kernel
theorem dX9_moved_27 : decode cX9_moved 27 = .ok (.if_icmp .ne 14, 3) := by decide +kernel
theorem dX9_moved_30 : decode cX9_moved 30 = .ok (.iload 4, 2) := by decide +kernel
theorem dX9_moved_32 : decode cX9_moved 32 = .ok (.ifCond .eq 9, 3) := by decide +kernel
theorem dX9_moved_35 : decode cX9_moved 35 = .ok (.iload_n 1, 1) := by decide +kernel
theorem dX9_moved_36 : decode cX9_moved 36 = .ok (.iconst 1, 1) := by decide +kernel
theorem dX9_moved_37 : decode cX9_moved 37 = .ok (.iadd, 1) := by decide +kernel
theorem dX9_moved_38 : decode cX9_moved 38 = .ok (.goto 4, 3) := by decide +kernel
theorem dX9_moved_41 : decode cX9_moved 41 = .ok (.iload_n 1, 1) := by decide +kernel
theorem dX9_moved_42 : decode cX9_moved 42 = .ok (.ireturn, 1) := by decide +kernel
theorem dX9_moved_43 : decode cX9_moved 43 = .ok (.iload_n 0, 1) := by decide +kernel
theorem dX9_moved_44 : decode cX9_moved 44 = .ok (.iconst 1, 1) := by decide +kernel
theorem dX9_moved_45 : decode cX9_moved 45 = .ok (.if_icmp .ne 16, 3) := by decide +kernel
theorem dX9_moved_48 : decode cX9_moved 48 = .ok (.iload_n 3, 1) := by decide +kernel
theorem dX9_moved_49 : decode cX9_moved 49 = .ok (.iload_n 1, 1) := by decide +kernel
theorem dX9_moved_50 : decode cX9_moved 50 = .ok (.if_icmp .ge 9, 3) := by decide +kernel
theorem dX9_moved_53 : decode cX9_moved 53 = .ok (.iload_n 1, 1) := by decide +kernel
theorem dX9_moved_54 : decode cX9_moved 54 = .ok (.iconst 1, 1) := by decide +kernel
theorem dX9_moved_55 : decode cX9_moved 55 = .ok (.isub, 1) := by decide +kernel
theorem dX9_moved_56 : decode cX9_moved 56 = .ok (.goto 4, 3) := by decide +kernel
theorem dX9_moved_59 : decode cX9_moved 59 = .ok (.iload_n 1, 1) := by decide +kernel
theorem dX9_moved_60 : decode cX9_moved 60 = .ok (.ireturn, 1) := by decide +kernel
theorem dX9_moved_61 : decode cX9_moved 61 = .ok (.iload_n 2, 1) := by decide +kernel
theorem dX9_moved_62 : decode cX9_moved 62 = .ok (.iconst 1, 1) := by decide +kernel
theorem dX9_moved_63 : decode cX9_moved 63 = .ok (.if_icmp .ne 16, 3) := by decide +kernel
theorem dX9_moved_66 : decode cX9_moved 66 = .ok (.iload_n 3, 1) := by decide +kernel
theorem dX9_moved_67 : decode cX9_moved 67 = .ok (.iload_n 1, 1) := by decide +kernel
theorem dX9_moved_68 : decode cX9_moved 68 = .ok (.if_icmp .gt 9, 3) := by decide +kernel
theorem dX9_moved_71 : decode cX9_moved 71 = .ok (.iload_n 1, 1) := by decide +kernel
theorem dX9_moved_72 : decode cX9_moved 72 = .ok (.iconst 1, 1) := by decide +kernel
theorem dX9_moved_73 : decode cX9_moved 73 = .ok (.iadd, 1) := by decide +kernel
theorem dX9_moved_74 : decode cX9_moved 74 = .ok (.goto 4, 3) := by decide +kernel
theorem dX9_moved_77 : decode cX9_moved 77 = .ok (.iload_n 1, 1) := by decide +kernel
theorem dX9_moved_78 : decode cX9_moved 78 = .ok (.ireturn, 1) := by decide +kernel
theorem dX9_moved_79 : decode cX9_moved 79 = .ok (.iload_n 3, 1) := by decide +kernel
theorem dX9_moved_80 : decode cX9_moved 80 = .ok (.iload_n 1, 1) := by decide +kernel
theorem dX9_moved_81 : decode cX9_moved 81 = .ok (.if_icmp .ge 9, 3) := by decide +kernel
theorem dX9_moved_84 : decode cX9_moved 84 = .ok (.iload_n 1, 1) := by decide +kernel
theorem dX9_moved_85 : decode cX9_moved 85 = .ok (.iconst 1, 1) := by decide +kernel
theorem dX9_moved_86 : decode cX9_moved 86 = .ok (.isub, 1) := by decide +kernel
theorem dX9_moved_87 : decode cX9_moved 87 = .ok (.goto 13, 3) := by decide +kernel
theorem dX9_moved_90 : decode cX9_moved 90 = .ok (.iload_n 3, 1) := by decide +kernel
theorem dX9_moved_91 : decode cX9_moved 91 = .ok (.iload_n 1, 1) := by decide +kernel
theorem dX9_moved_92 : decode cX9_moved 92 = .ok (.if_icmp .ne 7, 3) := by decide +kernel
theorem dX9_moved_95 : decode cX9_moved 95 = .ok (.iconst (-1), 1) := by decide +kernel
theorem dX9_moved_96 : decode cX9_moved 96 = .ok (.goto 4, 3) := by decide +kernel
theorem dX9_moved_99 : decode cX9_moved 99 = .ok (.iload_n 1, 1) := by decide +kernel
theorem dX9_moved_100 : decode cX9_moved 100 = .ok (.ireturn, 1) := by decide +kernel
theorem dX9_crosses_0 : decode cX9_crosses 0 = .ok (.aload_n 0, 1) := by decide +kernel
theorem dX9_crosses_1 : decode cX9_crosses 1 = .ok (.getfield 7, 3) := by decide +kernel
theorem dX9_crosses_4 : decode cX9_crosses 4 = .ok (.iload_n 1, 1) := by decide +kernel
theorem dX9_crosses_5 : decode cX9_crosses 5 = .ok (.iaload, 1) := by decide +kernel
theorem dX9_crosses_6 : decode cX9_crosses 6 = .ok (.aload_n 0, 1) := by decide +kernel
theorem dX9_crosses_7 : decode cX9_crosses 7 = .ok (.getfield 13, 3) := by decide +kernel
theorem dX9_crosses_10 : decode cX9_crosses 10 = .ok (.iload_n 1, 1) := by decide +kernel
theorem dX9_crosses_11 : decode cX9_crosses 11 = .ok (.iaload, 1) := by decide +kernel
theorem dX9_crosses_12 : decode cX9_crosses 12 = .ok (.aload_n 0, 1) := by decide +kernel
theorem dX9_crosses_13 : decode cX9_crosses 13 = .ok (.getfield 7, 3) := by decide +kernel
theorem dX9_crosses_16 : decode cX9_crosses 16 = .ok (.iload_n 2, 1) := by decide +kernel
theorem dX9_crosses_17 : decode cX9_crosses 17 = .ok (.iaload, 1) := by decide +kernel
theorem dX9_crosses_18 : decode cX9_crosses 18 = .ok (.aload_n 0, 1) := by decide +kernel
theorem dX9_crosses_19 : decode cX9_crosses 19 = .ok (.getfield 13, 3) := by decide +kernel
theorem dX9_crosses_22 : decode cX9_crosses 22 = .ok (.iload_n 2, 1) := by decide +kernel
theorem dX9_crosses_23 : decode cX9_crosses 23 = .ok (.iaload, 1) := by decide +kernel
theorem dX9_crosses_24 : decode cX9_crosses 24 = .ok (.aload_n 0, 1) := by decide +kernel
theorem dX9_crosses_25 : decode cX9_crosses 25 = .ok (.getfield 22, 3) := by decide +kernel
theorem dX9_crosses_28 : decode cX9_crosses 28 = .ok (.iload_n 2, 1) := by decide +kernel
theorem dX9_crosses_29 : decode cX9_crosses 29 = .ok (.iaload, 1) := by decide +kernel
theorem dX9_crosses_30 : decode cX9_crosses 30 = .ok (.ifCond .ne 7, 3) := by decide +kernel
theorem dX9_crosses_33 : decode cX9_crosses 33 = .ok (.iconst 1, 1) := by decide +kernel
theorem dX9_crosses_34 : decode cX9_crosses 34 = .ok (.goto 4, 3) := by decide +kernel
theorem dX9_crosses_37 : decode cX9_crosses 37 = .ok (.iconst 0, 1) := by decide +kernel
theorem dX9_crosses_38 : decode cX9_crosses 38 = .ok (.invokestatic 100, 3) := by decide +kernel
theorem dX9_crosses_41 : decode cX9_crosses 41 = .ok (.istore_n 3, 1) := by decide +kernel
theorem dX9_crosses_42 : decode cX9_crosses 42 = .ok (.aload_n 0, 1) := by decide +kernel
theorem dX9_crosses_43 : decode cX9_crosses 43 = .ok (.getfield 7, 3) := by decide +kernel
theorem dX9_crosses_46 : decode cX9_crosses 46 = .ok (.iload_n 2, 1) := by decide +kernel
theorem dX9_crosses_47 : decode cX9_crosses 47 = .ok (.iaload, 1) := by decide +kernel
theorem dX9_crosses_48 : decode cX9_crosses 48 = .ok (.aload_n 0, 1) := by decide +kernel
theorem dX9_crosses_49 : decode cX9_crosses 49 = .ok (.getfield 13, 3) := by decide +kernel
theorem dX9_crosses_52 : decode cX9_crosses 52 = .ok (.iload_n 2, 1) := by decide +kernel
theorem dX9_crosses_53 : decode cX9_crosses 53 = .ok (.iaload, 1) := by decide +kernel
theorem dX9_crosses_54 : decode cX9_crosses 54 = .ok (.aload_n 0, 1) := by decide +kernel
theorem dX9_crosses_55 : decode cX9_crosses 55 = .ok (.getfield 7, 3) := by decide +kernel
theorem dX9_crosses_58 : decode cX9_crosses 58 = .ok (.iload_n 1, 1) := by decide +kernel
theorem dX9_crosses_59 : decode cX9_crosses 59 = .ok (.iaload, 1) := by decide +kernel
theorem dX9_crosses_60 : decode cX9_crosses 60 = .ok (.aload_n 0, 1) := by decide +kernel
theorem dX9_crosses_61 : decode cX9_crosses 61 = .ok (.getfield 13, 3) := by decide +kernel
theorem dX9_crosses_64 : decode cX9_crosses 64 = .ok (.iload_n 1, 1) := by decide +kernel
theorem dX9_crosses_65 : decode cX9_crosses 65 = .ok (.iaload, 1) := by decide +kernel
theorem dX9_crosses_66 : decode cX9_crosses 66 = .ok (.aload_n 0, 1) := by decide +kernel
theorem dX9_crosses_67 : decode cX9_crosses 67 = .ok (.getfield 22, 3) := by decide +kernel
theorem dX9_crosses_70 : decode cX9_crosses 70 = .ok (.iload_n 1, 1) := by decide +kernel
theorem dX9_crosses_71 : decode cX9_crosses 71 = .ok (.iaload, 1) := by decide +kernel
theorem dX9_crosses_72 : decode cX9_crosses 72 = .ok (.ifCond .ne 7, 3) := by decide +kernel
theorem dX9_crosses_75 : decode cX9_crosses 75 = .ok (.iconst 1, 1) := by decide +kernel
theorem dX9_crosses_76 : decode cX9_crosses 76 = .ok (.goto 4, 3) := by decide +kernel
theorem dX9_crosses_79 : decode cX9_crosses 79 = .ok (.iconst 0, 1) := by decide +kernel
theorem dX9_crosses_80 : decode cX9_crosses 80 = .ok (.invokestatic 100, 3) := by decide +kernel
theorem dX9_crosses_83 : decode cX9_crosses 83 = .ok (.istore 4, 2) := by decide +kernel
theorem dX9_crosses_85 : decode cX9_crosses 85 = .ok (.iload_n 3, 1) := by decide +kernel
theorem dX9_crosses_86 : decode cX9_crosses 86 = .ok (.ifCond .ge 10, 3) := by decide +kernel
theorem dX9_crosses_89 : decode cX9_crosses 89 = .ok (.aload_n 0, 1) := by decide +kernel
theorem dX9_crosses_90 : decode cX9_crosses 90 = .ok (.getfield 7, 3) := by decide +kernel
theorem dX9_crosses_93 : decode cX9_crosses 93 = .ok (.iload_n 1, 1) := by decide +kernel
theorem dX9_crosses_94 : decode cX9_crosses 94 = .ok (.iconst 0, 1) := by decide +kernel
theorem dX9_crosses_95 : decode cX9_crosses 95 = .ok (.iastore, 1) := by decide +kernel
theorem dX9_crosses_96 : decode cX9_crosses 96 = .ok (.iload 4, 2) := by decide +kernel
theorem dX9_crosses_98 : decode cX9_crosses 98 = .ok (.ifCond .ge 10, 3) := by decide +kernel
theorem dX9_crosses_101 : decode cX9_crosses 101 = .ok (.aload_n 0, 1) := by decide +kernel
theorem dX9_crosses_102 : decode cX9_crosses 102 = .ok (.getfield 7, 3) := by decide +kernel
theorem dX9_crosses_105 : decode cX9_crosses 105 = .ok (.iload_n 2, 1) := by decide +kernel
theorem dX9_crosses_106 : decode cX9_crosses 106 = .ok (.iconst 0, 1) := by decide +kernel
theorem dX9_crosses_107 : decode cX9_crosses 107 = .ok (.iastore, 1) := by decide +kernel
theorem dX9_crosses_108 : decode cX9_crosses 108 = .ok (.aload_n 0, 1) := by decide +kernel
theorem dX9_crosses_109 : decode cX9_crosses 109 = .ok (.getfield 13, 3) := by decide +kernel
theorem dX9_crosses_112 : decode cX9_crosses 112 = .ok (.iload_n 1, 1) := by decide +kernel
theorem dX9_crosses_113 : decode cX9_crosses 113 = .ok (.iload_n 3, 1) := by decide +kernel
theorem dX9_crosses_114 : decode cX9_crosses 114 = .ok (.iastore, 1) := by decide +kernel
theorem dX9_crosses_115 : decode cX9_crosses 115 = .ok (.aload_n 0, 1) := by decide +kernel
theorem dX9_crosses_116 : decode cX9_crosses 116 = .ok (.getfield 13, 3) := by decide +kernel
theorem dX9_crosses_119 : decode cX9_crosses 119 = .ok (.iload_n 2, 1) := by decide +kernel
theorem dX9_crosses_120 : decode cX9_crosses 120 = .ok (.iload 4, 2) := by decide +kernel
theorem dX9_crosses_122 : decode cX9_crosses 122 = .ok (.iastore, 1) := by decide +kernel
theorem dX9_crosses_123 : decode cX9_crosses 123 = .ok (.return_, 1) := by decide +kernel
theorem dX9_shifts_0 : decode cX9_shifts 0 = .ok (.aload_n 0, 1) := by decide +kernel
theorem dX9_shifts_1 : decode cX9_shifts 1 = .ok (.getfield 25, 3) := by decide +kernel
theorem dX9_shifts_4 : decode cX9_shifts 4 = .ok (.iload_n 1, 1) := by decide +kernel
theorem dX9_shifts_5 : decode cX9_shifts 5 = .ok (.aload_n 0, 1) := by decide +kernel
theorem dX9_shifts_6 : decode cX9_shifts 6 = .ok (.getfield 25, 3) := by decide +kernel
theorem dX9_shifts_9 : decode cX9_shifts 9 = .ok (.iload_n 2, 1) := by decide +kernel
theorem dX9_shifts_10 : decode cX9_shifts 10 = .ok (.iaload, 1) := by decide +kernel
theorem dX9_shifts_11 : decode cX9_shifts 11 = .ok (.iastore, 1) := by decide +kernel
theorem dX9_shifts_12 : decode cX9_shifts 12 = .ok (.aload_n 0, 1) := by decide +kernel
theorem dX9_shifts_13 : decode cX9_shifts 13 = .ok (.getfield 28, 3) := by decide +kernel
theorem dX9_shifts_16 : decode cX9_shifts 16 = .ok (.iload_n 1, 1) := by decide +kernel
theorem dX9_shifts_17 : decode cX9_shifts 17 = .ok (.aload_n 0, 1) := by decide +kernel
theorem dX9_shifts_18 : decode cX9_shifts 18 = .ok (.getfield 28, 3) := by decide +kernel
theorem dX9_shifts_21 : decode cX9_shifts 21 = .ok (.iload_n 2, 1) := by decide +kernel
theorem dX9_shifts_22 : decode cX9_shifts 22 = .ok (.iaload, 1) := by decide +kernel
theorem dX9_shifts_23 : decode cX9_shifts 23 = .ok (.iastore, 1) := by decide +kernel
theorem dX9_shifts_24 : decode cX9_shifts 24 = .ok (.aload_n 0, 1) := by decide +kernel
theorem dX9_shifts_25 : decode cX9_shifts 25 = .ok (.getfield 31, 3) := by decide +kernel
theorem dX9_shifts_28 : decode cX9_shifts 28 = .ok (.iload_n 1, 1) := by decide +kernel
theorem dX9_shifts_29 : decode cX9_shifts 29 = .ok (.aload_n 0, 1) := by decide +kernel
theorem dX9_shifts_30 : decode cX9_shifts 30 = .ok (.getfield 31, 3) := by decide +kernel
theorem dX9_shifts_33 : decode cX9_shifts 33 = .ok (.iload_n 2, 1) := by decide +kernel
theorem dX9_shifts_34 : decode cX9_shifts 34 = .ok (.iaload, 1) := by decide +kernel
theorem dX9_shifts_35 : decode cX9_shifts 35 = .ok (.iastore, 1) := by decide +kernel
theorem dX9_shifts_36 : decode cX9_shifts 36 = .ok (.return_, 1) := by decide +kernel
theorem dX9_carriesOut_0 : decode cX9_carriesOut 0 = .ok (.sipush 201, 3) := by decide +kernel
theorem dX9_carriesOut_3 : decode cX9_carriesOut 3 = .ok (.iload_n 1, 1) := by decide +kernel
theorem dX9_carriesOut_4 : decode cX9_carriesOut 4 = .ok (.imul, 1) := by decide +kernel
theorem dX9_carriesOut_5 : decode cX9_carriesOut 5 = .ok (.istore_n 3, 1) := by decide +kernel
theorem dX9_carriesOut_6 : decode cX9_carriesOut 6 = .ok (.iload_n 3, 1) := by decide +kernel
theorem dX9_carriesOut_7 : decode cX9_carriesOut 7 = .ok (.aload_n 0, 1) := by decide +kernel
theorem dX9_carriesOut_8 : decode cX9_carriesOut 8 = .ok (.getfield 13, 3) := by decide +kernel
theorem dX9_carriesOut_11 : decode cX9_carriesOut 11 = .ok (.iload_n 2, 1) := by decide +kernel
theorem dX9_carriesOut_12 : decode cX9_carriesOut 12 = .ok (.iaload, 1) := by decide +kernel
theorem dX9_carriesOut_13 : decode cX9_carriesOut 13 = .ok (.iadd, 1) := by decide +kernel
theorem dX9_carriesOut_14 : decode cX9_carriesOut 14 = .ok (.istore 4, 2) := by decide +kernel
theorem dX9_carriesOut_16 : decode cX9_carriesOut 16 = .ok (.aload_n 0, 1) := by decide +kernel
theorem dX9_carriesOut_17 : decode cX9_carriesOut 17 = .ok (.getfield 7, 3) := by decide +kernel
theorem dX9_carriesOut_20 : decode cX9_carriesOut 20 = .ok (.iload_n 2, 1) := by decide +kernel
theorem dX9_carriesOut_21 : decode cX9_carriesOut 21 = .ok (.iaload, 1) := by decide +kernel
theorem dX9_carriesOut_22 : decode cX9_carriesOut 22 = .ok (.iconst 1, 1) := by decide +kernel
theorem dX9_carriesOut_23 : decode cX9_carriesOut 23 = .ok (.if_icmp .ne 88, 3) := by decide +kernel
theorem dX9_carriesOut_26 : decode cX9_carriesOut 26 = .ok (.iload_n 3, 1) := by decide +kernel
theorem dX9_carriesOut_27 : decode cX9_carriesOut 27 = .ok (.aload_n 0, 1) := by decide +kernel
theorem dX9_carriesOut_28 : decode cX9_carriesOut 28 = .ok (.getfield 34, 3) := by decide +kernel
theorem dX9_carriesOut_31 : decode cX9_carriesOut 31 = .ok (.iload_n 1, 1) := by decide +kernel
theorem dX9_carriesOut_32 : decode cX9_carriesOut 32 = .ok (.iaload, 1) := by decide +kernel
theorem dX9_carriesOut_33 : decode cX9_carriesOut 33 = .ok (.iadd, 1) := by decide +kernel
theorem dX9_carriesOut_34 : decode cX9_carriesOut 34 = .ok (.istore 5, 2) := by decide +kernel
theorem dX9_carriesOut_36 : decode cX9_carriesOut 36 = .ok (.iload 5, 2) := by decide +kernel
theorem dX9_carriesOut_38 : decode cX9_carriesOut 38 = .ok (.iload 4, 2) := by decide +kernel
theorem dX9_carriesOut_40 : decode cX9_carriesOut 40 = .ok (.if_icmp .le 19, 3) := by decide +kernel
theorem dX9_carriesOut_43 : decode cX9_carriesOut 43 = .ok (.aload_n 0, 1) := by decide +kernel
theorem dX9_carriesOut_44 : decode cX9_carriesOut 44 = .ok (.iload 5, 2) := by decide +kernel
theorem dX9_carriesOut_46 : decode cX9_carriesOut 46 = .ok (.iload 5, 2) := by decide +kernel
theorem dX9_carriesOut_48 : decode cX9_carriesOut 48 = .ok (.iconst 1, 1) := by decide +kernel
theorem dX9_carriesOut_49 : decode cX9_carriesOut 49 = .ok (.isub, 1) := by decide +kernel
theorem dX9_carriesOut_50 : decode cX9_carriesOut 50 = .ok (.invokevirtual 104, 3) := by decide +kernel
theorem dX9_carriesOut_53 : decode cX9_carriesOut 53 = .ok (.iinc 5 (-1), 3) := by decide +kernel
theorem dX9_carriesOut_56 : decode cX9_carriesOut 56 = .ok (.goto (-20), 3) := by decide +kernel
theorem dX9_carriesOut_59 : decode cX9_carriesOut 59 = .ok (.aload_n 0, 1) := by decide +kernel
theorem dX9_carriesOut_60 : decode cX9_carriesOut 60 = .ok (.getfield 25, 3) := by decide +kernel
theorem dX9_carriesOut_63 : decode cX9_carriesOut 63 = .ok (.iload 4, 2) := by decide +kernel
theorem dX9_carriesOut_65 : decode cX9_carriesOut 65 = .ok (.aload_n 0, 1) := by decide +kernel
theorem dX9_carriesOut_66 : decode cX9_carriesOut 66 = .ok (.getfield 16, 3) := by decide +kernel
theorem dX9_carriesOut_69 : decode cX9_carriesOut 69 = .ok (.iload_n 2, 1) := by decide +kernel
theorem dX9_carriesOut_70 : decode cX9_carriesOut 70 = .ok (.iaload, 1) := by decide +kernel
theorem dX9_carriesOut_71 : decode cX9_carriesOut 71 = .ok (.iastore, 1) := by decide +kernel
theorem dX9_carriesOut_72 : decode cX9_carriesOut 72 = .ok (.aload_n 0, 1) := by decide +kernel
theorem dX9_carriesOut_73 : decode cX9_carriesOut 73 = .ok (.getfield 28, 3) := by decide +kernel
theorem dX9_carriesOut_76 : decode cX9_carriesOut 76 = .ok (.iload 4, 2) := by decide +kernel
theorem dX9_carriesOut_78 : decode cX9_carriesOut 78 = .ok (.aload_n 0, 1) := by decide +kernel
theorem dX9_carriesOut_79 : decode cX9_carriesOut 79 = .ok (.getfield 19, 3) := by decide +kernel
theorem dX9_carriesOut_82 : decode cX9_carriesOut 82 = .ok (.iload_n 2, 1) := by decide +kernel
theorem dX9_carriesOut_83 : decode cX9_carriesOut 83 = .ok (.iaload, 1) := by decide +kernel
theorem dX9_carriesOut_84 : decode cX9_carriesOut 84 = .ok (.iastore, 1) := by decide +kernel
theorem dX9_carriesOut_85 : decode cX9_carriesOut 85 = .ok (.aload_n 0, 1) := by decide +kernel
theorem dX9_carriesOut_86 : decode cX9_carriesOut 86 = .ok (.getfield 31, 3) := by decide +kernel
theorem dX9_carriesOut_89 : decode cX9_carriesOut 89 = .ok (.iload 4, 2) := by decide +kernel
theorem dX9_carriesOut_91 : decode cX9_carriesOut 91 = .ok (.aload_n 0, 1) := by decide +kernel
theorem dX9_carriesOut_92 : decode cX9_carriesOut 92 = .ok (.getfield 22, 3) := by decide +kernel
theorem dX9_carriesOut_95 : decode cX9_carriesOut 95 = .ok (.iload_n 2, 1) := by decide +kernel
theorem dX9_carriesOut_96 : decode cX9_carriesOut 96 = .ok (.iaload, 1) := by decide +kernel
theorem dX9_carriesOut_97 : decode cX9_carriesOut 97 = .ok (.iastore, 1) := by decide +kernel
theorem dX9_carriesOut_98 : decode cX9_carriesOut 98 = .ok (.aload_n 0, 1) := by decide +kernel
theorem dX9_carriesOut_99 : decode cX9_carriesOut 99 = .ok (.getfield 34, 3) := by decide +kernel
theorem dX9_carriesOut_102 : decode cX9_carriesOut 102 = .ok (.iload_n 1, 1) := by decide +kernel
theorem dX9_carriesOut_103 : decode cX9_carriesOut 103 = .ok (.dup2, 1) := by decide +kernel
theorem dX9_carriesOut_104 : decode cX9_carriesOut 104 = .ok (.iaload, 1) := by decide +kernel
theorem dX9_carriesOut_105 : decode cX9_carriesOut 105 = .ok (.iconst 1, 1) := by decide +kernel
theorem dX9_carriesOut_106 : decode cX9_carriesOut 106 = .ok (.iadd, 1) := by decide +kernel
theorem dX9_carriesOut_107 : decode cX9_carriesOut 107 = .ok (.iastore, 1) := by decide +kernel
theorem dX9_carriesOut_108 : decode cX9_carriesOut 108 = .ok (.goto 56, 3) := by decide +kernel
theorem dX9_carriesOut_111 : decode cX9_carriesOut 111 = .ok (.aload_n 0, 1) := by decide +kernel
theorem dX9_carriesOut_112 : decode cX9_carriesOut 112 = .ok (.getfield 7, 3) := by decide +kernel
theorem dX9_carriesOut_115 : decode cX9_carriesOut 115 = .ok (.iload_n 2, 1) := by decide +kernel
theorem dX9_carriesOut_116 : decode cX9_carriesOut 116 = .ok (.iaload, 1) := by decide +kernel
theorem dX9_carriesOut_117 : decode cX9_carriesOut 117 = .ok (.iconst 2, 1) := by decide +kernel
theorem dX9_carriesOut_118 : decode cX9_carriesOut 118 = .ok (.if_icmp .ne 46, 3) := by decide +kernel
theorem dX9_carriesOut_121 : decode cX9_carriesOut 121 = .ok (.aload_n 0, 1) := by decide +kernel
theorem dX9_carriesOut_122 : decode cX9_carriesOut 122 = .ok (.getfield 34, 3) := by decide +kernel
theorem dX9_carriesOut_125 : decode cX9_carriesOut 125 = .ok (.iload_n 1, 1) := by decide +kernel
theorem dX9_carriesOut_126 : decode cX9_carriesOut 126 = .ok (.dup2, 1) := by decide +kernel
theorem dX9_carriesOut_127 : decode cX9_carriesOut 127 = .ok (.iaload, 1) := by decide +kernel
theorem dX9_carriesOut_128 : decode cX9_carriesOut 128 = .ok (.iconst 1, 1) := by decide +kernel
theorem dX9_carriesOut_129 : decode cX9_carriesOut 129 = .ok (.isub, 1) := by decide +kernel
theorem dX9_carriesOut_130 : decode cX9_carriesOut 130 = .ok (.iastore, 1) := by decide +kernel
theorem dX9_carriesOut_131 : decode cX9_carriesOut 131 = .ok (.iload 4, 2) := by decide +kernel
theorem dX9_carriesOut_133 : decode cX9_carriesOut 133 = .ok (.istore 5, 2) := by decide +kernel
theorem dX9_carriesOut_135 : decode cX9_carriesOut 135 = .ok (.iload 5, 2) := by decide +kernel
theorem dX9_carriesOut_137 : decode cX9_carriesOut 137 = .ok (.iload_n 3, 1) := by decide +kernel
theorem dX9_carriesOut_138 : decode cX9_carriesOut 138 = .ok (.aload_n 0, 1) := by decide +kernel
theorem dX9_carriesOut_139 : decode cX9_carriesOut 139 = .ok (.getfield 34, 3) := by decide +kernel
theorem dX9_carriesOut_142 : decode cX9_carriesOut 142 = .ok (.iload_n 1, 1) := by decide +kernel
theorem dX9_carriesOut_143 : decode cX9_carriesOut 143 = .ok (.iaload, 1) := by decide +kernel
theorem dX9_carriesOut_144 : decode cX9_carriesOut 144 = .ok (.iadd, 1) := by decide +kernel
theorem dX9_carriesOut_145 : decode cX9_carriesOut 145 = .ok (.if_icmp .ge 19, 3) := by decide +kernel
theorem dX9_carriesOut_148 : decode cX9_carriesOut 148 = .ok (.aload_n 0, 1) := by decide +kernel
theorem dX9_carriesOut_149 : decode cX9_carriesOut 149 = .ok (.iload 5, 2) := by decide +kernel
theorem dX9_carriesOut_151 : decode cX9_carriesOut 151 = .ok (.iload 5, 2) := by decide +kernel
theorem dX9_carriesOut_153 : decode cX9_carriesOut 153 = .ok (.iconst 1, 1) := by decide +kernel
theorem dX9_carriesOut_154 : decode cX9_carriesOut 154 = .ok (.iadd, 1) := by decide +kernel
theorem dX9_carriesOut_155 : decode cX9_carriesOut 155 = .ok (.invokevirtual 104, 3) := by decide +kernel
theorem dX9_carriesOut_158 : decode cX9_carriesOut 158 = .ok (.iinc 5 1, 3) := by decide +kernel
theorem dX9_carriesOut_161 : decode cX9_carriesOut 161 = .ok (.goto (-26), 3) := by decide +kernel
theorem dX9_carriesOut_164 : decode cX9_carriesOut 164 = .ok (.return_, 1) := by decide +kernel
theorem dX9_follows_0 : decode cX9_follows 0 = .ok (.aload_n 0, 1) := by decide +kernel
theorem dX9_follows_1 : decode cX9_follows 1 = .ok (.getfield 7, 3) := by decide +kernel
theorem dX9_follows_4 : decode cX9_follows 4 = .ok (.iload_n 2, 1) := by decide +kernel
theorem dX9_follows_5 : decode cX9_follows 5 = .ok (.iaload, 1) := by decide +kernel
theorem dX9_follows_6 : decode cX9_follows 6 = .ok (.ifCond .eq 13, 3) := by decide +kernel
theorem dX9_follows_9 : decode cX9_follows 9 = .ok (.aload_n 0, 1) := by decide +kernel
theorem dX9_follows_10 : decode cX9_follows 10 = .ok (.getfield 13, 3) := by decide +kernel
theorem dX9_follows_13 : decode cX9_follows 13 = .ok (.iload_n 2, 1) := by decide +kernel
theorem dX9_follows_14 : decode cX9_follows 14 = .ok (.iaload, 1) := by decide +kernel
theorem dX9_follows_15 : decode cX9_follows 15 = .ok (.iload_n 1, 1) := by decide +kernel
theorem dX9_follows_16 : decode cX9_follows 16 = .ok (.if_icmp .lt 5, 3) := by decide +kernel
theorem dX9_follows_19 : decode cX9_follows 19 = .ok (.iload_n 1, 1) := by decide +kernel
theorem dX9_follows_20 : decode cX9_follows 20 = .ok (.ireturn, 1) := by decide +kernel
theorem dX9_follows_21 : decode cX9_follows 21 = .ok (.aload_n 0, 1) := by decide +kernel
theorem dX9_follows_22 : decode cX9_follows 22 = .ok (.getfield 7, 3) := by decide +kernel
theorem dX9_follows_25 : decode cX9_follows 25 = .ok (.iload_n 2, 1) := by decide +kernel
theorem dX9_follows_26 : decode cX9_follows 26 = .ok (.iaload, 1) := by decide +kernel
theorem dX9_follows_27 : decode cX9_follows 27 = .ok (.iconst 1, 1) := by decide +kernel
theorem dX9_follows_28 : decode cX9_follows 28 = .ok (.if_icmp .ne 9, 3) := by decide +kernel
theorem dX9_follows_31 : decode cX9_follows 31 = .ok (.iload_n 1, 1) := by decide +kernel
theorem dX9_follows_32 : decode cX9_follows 32 = .ok (.iconst 1, 1) := by decide +kernel
theorem dX9_follows_33 : decode cX9_follows 33 = .ok (.iadd, 1) := by decide +kernel
theorem dX9_follows_34 : decode cX9_follows 34 = .ok (.goto 6, 3) := by decide +kernel
theorem dX9_follows_37 : decode cX9_follows 37 = .ok (.iload_n 1, 1) := by decide +kernel
theorem dX9_follows_38 : decode cX9_follows 38 = .ok (.iconst 1, 1) := by decide +kernel
theorem dX9_follows_39 : decode cX9_follows 39 = .ok (.isub, 1) := by decide +kernel
theorem dX9_follows_40 : decode cX9_follows 40 = .ok (.ireturn, 1) := by decide +kernel
theorem dX9_behind_0 : decode cX9_behind 0 = .ok (.aload_n 0, 1) := by decide +kernel
theorem dX9_behind_1 : decode cX9_behind 1 = .ok (.getfield 7, 3) := by decide +kernel
theorem dX9_behind_4 : decode cX9_behind 4 = .ok (.iload_n 1, 1) := by decide +kernel
theorem dX9_behind_5 : decode cX9_behind 5 = .ok (.iaload, 1) := by decide +kernel
theorem dX9_behind_6 : decode cX9_behind 6 = .ok (.iconst 1, 1) := by decide +kernel
theorem dX9_behind_7 : decode cX9_behind 7 = .ok (.if_icmp .ne 14, 3) := by decide +kernel
theorem dX9_behind_10 : decode cX9_behind 10 = .ok (.aload_n 0, 1) := by decide +kernel
theorem dX9_behind_11 : decode cX9_behind 11 = .ok (.getfield 13, 3) := by decide +kernel
theorem dX9_behind_14 : decode cX9_behind 14 = .ok (.iload_n 1, 1) := by decide +kernel
theorem dX9_behind_15 : decode cX9_behind 15 = .ok (.iaload, 1) := by decide +kernel
theorem dX9_behind_16 : decode cX9_behind 16 = .ok (.iconst 1, 1) := by decide +kernel
theorem dX9_behind_17 : decode cX9_behind 17 = .ok (.iadd, 1) := by decide +kernel
theorem dX9_behind_18 : decode cX9_behind 18 = .ok (.goto 9, 3) := by decide +kernel
theorem dX9_behind_21 : decode cX9_behind 21 = .ok (.aload_n 0, 1) := by decide +kernel
theorem dX9_behind_22 : decode cX9_behind 22 = .ok (.getfield 13, 3) := by decide +kernel
theorem dX9_behind_25 : decode cX9_behind 25 = .ok (.iload_n 1, 1) := by decide +kernel
theorem dX9_behind_26 : decode cX9_behind 26 = .ok (.iaload, 1) := by decide +kernel
theorem dX9_behind_27 : decode cX9_behind 27 = .ok (.ireturn, 1) := by decide +kernel
theorem dX9_movesKept_0 : decode cX9_movesKept 0 = .ok (.iconst 0, 1) := by decide +kernel
theorem dX9_movesKept_1 : decode cX9_movesKept 1 = .ok (.istore_n 3, 1) := by decide +kernel
theorem dX9_movesKept_2 : decode cX9_movesKept 2 = .ok (.iload_n 3, 1) := by decide +kernel
theorem dX9_movesKept_3 : decode cX9_movesKept 3 = .ok (.aload_n 0, 1) := by decide +kernel
theorem dX9_movesKept_4 : decode cX9_movesKept 4 = .ok (.getfield 77, 3) := by decide +kernel
theorem dX9_movesKept_7 : decode cX9_movesKept 7 = .ok (.iload_n 1, 1) := by decide +kernel
theorem dX9_movesKept_8 : decode cX9_movesKept 8 = .ok (.iaload, 1) := by decide +kernel
theorem dX9_movesKept_9 : decode cX9_movesKept 9 = .ok (.if_icmp .ge 38, 3) := by decide +kernel
theorem dX9_movesKept_12 : decode cX9_movesKept 12 = .ok (.aload_n 0, 1) := by decide +kernel
theorem dX9_movesKept_13 : decode cX9_movesKept 13 = .ok (.getfield 68, 3) := by decide +kernel
theorem dX9_movesKept_16 : decode cX9_movesKept 16 = .ok (.sipush 200, 3) := by decide +kernel
theorem dX9_movesKept_19 : decode cX9_movesKept 19 = .ok (.iload_n 1, 1) := by decide +kernel
theorem dX9_movesKept_20 : decode cX9_movesKept 20 = .ok (.imul, 1) := by decide +kernel
theorem dX9_movesKept_21 : decode cX9_movesKept 21 = .ok (.iload_n 3, 1) := by decide +kernel
theorem dX9_movesKept_22 : decode cX9_movesKept 22 = .ok (.iadd, 1) := by decide +kernel
theorem dX9_movesKept_23 : decode cX9_movesKept 23 = .ok (.aload_n 0, 1) := by decide +kernel
theorem dX9_movesKept_24 : decode cX9_movesKept 24 = .ok (.aload_n 0, 1) := by decide +kernel
theorem dX9_movesKept_25 : decode cX9_movesKept 25 = .ok (.getfield 68, 3) := by decide +kernel
theorem dX9_movesKept_28 : decode cX9_movesKept 28 = .ok (.sipush 200, 3) := by decide +kernel
theorem dX9_movesKept_31 : decode cX9_movesKept 31 = .ok (.iload_n 1, 1) := by decide +kernel
theorem dX9_movesKept_32 : decode cX9_movesKept 32 = .ok (.imul, 1) := by decide +kernel
theorem dX9_movesKept_33 : decode cX9_movesKept 33 = .ok (.iload_n 3, 1) := by decide +kernel
theorem dX9_movesKept_34 : decode cX9_movesKept 34 = .ok (.iadd, 1) := by decide +kernel
theorem dX9_movesKept_35 : decode cX9_movesKept 35 = .ok (.iaload, 1) := by decide +kernel
theorem dX9_movesKept_36 : decode cX9_movesKept 36 = .ok (.iload_n 2, 1) := by decide +kernel
theorem dX9_movesKept_37 : decode cX9_movesKept 37 = .ok (.invokevirtual 108, 3) := by decide +kernel
theorem dX9_movesKept_40 : decode cX9_movesKept 40 = .ok (.iastore, 1) := by decide +kernel
theorem dX9_movesKept_41 : decode cX9_movesKept 41 = .ok (.iinc 3 1, 3) := by decide +kernel
theorem dX9_movesKept_44 : decode cX9_movesKept 44 = .ok (.goto (-42), 3) := by decide +kernel
theorem dX9_movesKept_47 : decode cX9_movesKept 47 = .ok (.return_, 1) := by decide +kernel
theorem dX9_sends_0 : decode cX9_sends 0 = .ok (.aload_n 0, 1) := by decide +kernel
theorem dX9_sends_1 : decode cX9_sends 1 = .ok (.getfield 37, 3) := by decide +kernel
theorem dX9_sends_4 : decode cX9_sends 4 = .ok (.iload_n 1, 1) := by decide +kernel
theorem dX9_sends_5 : decode cX9_sends 5 = .ok (.iload_n 2, 1) := by decide +kernel
theorem dX9_sends_6 : decode cX9_sends 6 = .ok (.iastore, 1) := by decide +kernel
theorem dX9_sends_7 : decode cX9_sends 7 = .ok (.aload_n 0, 1) := by decide +kernel
theorem dX9_sends_8 : decode cX9_sends 8 = .ok (.getfield 52, 3) := by decide +kernel
theorem dX9_sends_11 : decode cX9_sends 11 = .ok (.iload_n 1, 1) := by decide +kernel
theorem dX9_sends_12 : decode cX9_sends 12 = .ok (.iload_n 2, 1) := by decide +kernel
theorem dX9_sends_13 : decode cX9_sends 13 = .ok (.iastore, 1) := by decide +kernel
theorem dX9_sends_14 : decode cX9_sends 14 = .ok (.iconst 0, 1) := by decide +kernel
theorem dX9_sends_15 : decode cX9_sends 15 = .ok (.istore_n 3, 1) := by decide +kernel
theorem dX9_sends_16 : decode cX9_sends 16 = .ok (.iload_n 3, 1) := by decide +kernel
theorem dX9_sends_17 : decode cX9_sends 17 = .ok (.iload_n 2, 1) := by decide +kernel
theorem dX9_sends_18 : decode cX9_sends 18 = .ok (.if_icmp .ge 41, 3) := by decide +kernel
theorem dX9_sends_21 : decode cX9_sends 21 = .ok (.aload_n 0, 1) := by decide +kernel
theorem dX9_sends_22 : decode cX9_sends 22 = .ok (.iload_n 1, 1) := by decide +kernel
theorem dX9_sends_23 : decode cX9_sends 23 = .ok (.invokestatic 112, 3) := by decide +kernel
theorem dX9_sends_26 : decode cX9_sends 26 = .ok (.iload_n 3, 1) := by decide +kernel
theorem dX9_sends_27 : decode cX9_sends 27 = .ok (.iadd, 1) := by decide +kernel
theorem dX9_sends_28 : decode cX9_sends 28 = .ok (.iload_n 1, 1) := by decide +kernel
theorem dX9_sends_29 : decode cX9_sends 29 = .ok (.invokestatic 116, 3) := by decide +kernel
theorem dX9_sends_32 : decode cX9_sends 32 = .ok (.iload_n 3, 1) := by decide +kernel
theorem dX9_sends_33 : decode cX9_sends 33 = .ok (.iadd, 1) := by decide +kernel
theorem dX9_sends_34 : decode cX9_sends 34 = .ok (.invokevirtual 119, 3) := by decide +kernel
theorem dX9_sends_37 : decode cX9_sends 37 = .ok (.aload_n 0, 1) := by decide +kernel
theorem dX9_sends_38 : decode cX9_sends 38 = .ok (.iload_n 1, 1) := by decide +kernel
theorem dX9_sends_39 : decode cX9_sends 39 = .ok (.invokestatic 112, 3) := by decide +kernel
theorem dX9_sends_42 : decode cX9_sends 42 = .ok (.iload_n 3, 1) := by decide +kernel
theorem dX9_sends_43 : decode cX9_sends 43 = .ok (.iadd, 1) := by decide +kernel
theorem dX9_sends_44 : decode cX9_sends 44 = .ok (.iload_n 1, 1) := by decide +kernel
theorem dX9_sends_45 : decode cX9_sends 45 = .ok (.invokestatic 122, 3) := by decide +kernel
theorem dX9_sends_48 : decode cX9_sends 48 = .ok (.iload_n 3, 1) := by decide +kernel
theorem dX9_sends_49 : decode cX9_sends 49 = .ok (.iadd, 1) := by decide +kernel
theorem dX9_sends_50 : decode cX9_sends 50 = .ok (.invokevirtual 119, 3) := by decide +kernel
theorem dX9_sends_53 : decode cX9_sends 53 = .ok (.iinc 3 1, 3) := by decide +kernel
theorem dX9_sends_56 : decode cX9_sends 56 = .ok (.goto (-40), 3) := by decide +kernel
theorem dX9_sends_59 : decode cX9_sends 59 = .ok (.aload_n 0, 1) := by decide +kernel
theorem dX9_sends_60 : decode cX9_sends 60 = .ok (.getfield 40, 3) := by decide +kernel
theorem dX9_sends_63 : decode cX9_sends 63 = .ok (.iload_n 1, 1) := by decide +kernel
theorem dX9_sends_64 : decode cX9_sends 64 = .ok (.dup2, 1) := by decide +kernel
theorem dX9_sends_65 : decode cX9_sends 65 = .ok (.iaload, 1) := by decide +kernel
theorem dX9_sends_66 : decode cX9_sends 66 = .ok (.iload_n 2, 1) := by decide +kernel
theorem dX9_sends_67 : decode cX9_sends 67 = .ok (.isub, 1) := by decide +kernel
theorem dX9_sends_68 : decode cX9_sends 68 = .ok (.iastore, 1) := by decide +kernel
theorem dX9_sends_69 : decode cX9_sends 69 = .ok (.iconst 0, 1) := by decide +kernel
theorem dX9_sends_70 : decode cX9_sends 70 = .ok (.istore_n 3, 1) := by decide +kernel
theorem dX9_sends_71 : decode cX9_sends 71 = .ok (.iload_n 3, 1) := by decide +kernel
theorem dX9_sends_72 : decode cX9_sends 72 = .ok (.aload_n 0, 1) := by decide +kernel
theorem dX9_sends_73 : decode cX9_sends 73 = .ok (.getfield 40, 3) := by decide +kernel
theorem dX9_sends_76 : decode cX9_sends 76 = .ok (.iload_n 1, 1) := by decide +kernel
theorem dX9_sends_77 : decode cX9_sends 77 = .ok (.iaload, 1) := by decide +kernel
theorem dX9_sends_78 : decode cX9_sends 78 = .ok (.if_icmp .ge 27, 3) := by decide +kernel
theorem dX9_sends_81 : decode cX9_sends 81 = .ok (.aload_n 0, 1) := by decide +kernel
theorem dX9_sends_82 : decode cX9_sends 82 = .ok (.iload_n 1, 1) := by decide +kernel
theorem dX9_sends_83 : decode cX9_sends 83 = .ok (.invokestatic 112, 3) := by decide +kernel
theorem dX9_sends_86 : decode cX9_sends 86 = .ok (.iload_n 2, 1) := by decide +kernel
theorem dX9_sends_87 : decode cX9_sends 87 = .ok (.iadd, 1) := by decide +kernel
theorem dX9_sends_88 : decode cX9_sends 88 = .ok (.iload_n 3, 1) := by decide +kernel
theorem dX9_sends_89 : decode cX9_sends 89 = .ok (.iadd, 1) := by decide +kernel
theorem dX9_sends_90 : decode cX9_sends 90 = .ok (.iload_n 1, 1) := by decide +kernel
theorem dX9_sends_91 : decode cX9_sends 91 = .ok (.invokestatic 112, 3) := by decide +kernel
theorem dX9_sends_94 : decode cX9_sends 94 = .ok (.iload_n 3, 1) := by decide +kernel
theorem dX9_sends_95 : decode cX9_sends 95 = .ok (.iadd, 1) := by decide +kernel
theorem dX9_sends_96 : decode cX9_sends 96 = .ok (.invokevirtual 119, 3) := by decide +kernel
theorem dX9_sends_99 : decode cX9_sends 99 = .ok (.iinc 3 1, 3) := by decide +kernel
theorem dX9_sends_102 : decode cX9_sends 102 = .ok (.goto (-31), 3) := by decide +kernel
theorem dX9_sends_105 : decode cX9_sends 105 = .ok (.aload_n 0, 1) := by decide +kernel
theorem dX9_sends_106 : decode cX9_sends 106 = .ok (.getfield 58, 3) := by decide +kernel
theorem dX9_sends_109 : decode cX9_sends 109 = .ok (.iload_n 1, 1) := by decide +kernel
theorem dX9_sends_110 : decode cX9_sends 110 = .ok (.iconst 1, 1) := by decide +kernel
theorem dX9_sends_111 : decode cX9_sends 111 = .ok (.bastore, 1) := by decide +kernel
theorem dX9_sends_112 : decode cX9_sends 112 = .ok (.aload_n 0, 1) := by decide +kernel
theorem dX9_sends_113 : decode cX9_sends 113 = .ok (.getfield 62, 3) := by decide +kernel
theorem dX9_sends_116 : decode cX9_sends 116 = .ok (.iload_n 1, 1) := by decide +kernel
theorem dX9_sends_117 : decode cX9_sends 117 = .ok (.iconst 1, 1) := by decide +kernel
theorem dX9_sends_118 : decode cX9_sends 118 = .ok (.bastore, 1) := by decide +kernel
theorem dX9_sends_119 : decode cX9_sends 119 = .ok (.aload_n 0, 1) := by decide +kernel
theorem dX9_sends_120 : decode cX9_sends 120 = .ok (.getfield 55, 3) := by decide +kernel
theorem dX9_sends_123 : decode cX9_sends 123 = .ok (.iload_n 1, 1) := by decide +kernel
theorem dX9_sends_124 : decode cX9_sends 124 = .ok (.aload_n 0, 1) := by decide +kernel
theorem dX9_sends_125 : decode cX9_sends 125 = .ok (.getfield 43, 3) := by decide +kernel
theorem dX9_sends_128 : decode cX9_sends 128 = .ok (.iload_n 1, 1) := by decide +kernel
theorem dX9_sends_129 : decode cX9_sends 129 = .ok (.iaload, 1) := by decide +kernel
theorem dX9_sends_130 : decode cX9_sends 130 = .ok (.iastore, 1) := by decide +kernel
theorem dX9_sends_131 : decode cX9_sends 131 = .ok (.return_, 1) := by decide +kernel
theorem dX9_makes_0 : decode cX9_makes 0 = .ok (.iload_n 1, 1) := by decide +kernel
theorem dX9_makes_1 : decode cX9_makes 1 = .ok (.invokestatic 112, 3) := by decide +kernel
theorem dX9_makes_4 : decode cX9_makes 4 = .ok (.aload_n 0, 1) := by decide +kernel
theorem dX9_makes_5 : decode cX9_makes 5 = .ok (.getfield 40, 3) := by decide +kernel
theorem dX9_makes_8 : decode cX9_makes 8 = .ok (.iload_n 1, 1) := by decide +kernel
theorem dX9_makes_9 : decode cX9_makes 9 = .ok (.iaload, 1) := by decide +kernel
theorem dX9_makes_10 : decode cX9_makes 10 = .ok (.iadd, 1) := by decide +kernel
theorem dX9_makes_11 : decode cX9_makes 11 = .ok (.istore 6, 2) := by decide +kernel
theorem dX9_makes_13 : decode cX9_makes 13 = .ok (.aload_n 0, 1) := by decide +kernel
theorem dX9_makes_14 : decode cX9_makes 14 = .ok (.getfield 7, 3) := by decide +kernel
theorem dX9_makes_17 : decode cX9_makes 17 = .ok (.iload 6, 2) := by decide +kernel
theorem dX9_makes_19 : decode cX9_makes 19 = .ok (.iload_n 2, 1) := by decide +kernel
theorem dX9_makes_20 : decode cX9_makes 20 = .ok (.iastore, 1) := by decide +kernel
theorem dX9_makes_21 : decode cX9_makes 21 = .ok (.aload_n 0, 1) := by decide +kernel
theorem dX9_makes_22 : decode cX9_makes 22 = .ok (.getfield 13, 3) := by decide +kernel
theorem dX9_makes_25 : decode cX9_makes 25 = .ok (.iload 6, 2) := by decide +kernel
theorem dX9_makes_27 : decode cX9_makes 27 = .ok (.iload_n 3, 1) := by decide +kernel
theorem dX9_makes_28 : decode cX9_makes 28 = .ok (.iastore, 1) := by decide +kernel
theorem dX9_makes_29 : decode cX9_makes 29 = .ok (.aload_n 0, 1) := by decide +kernel
theorem dX9_makes_30 : decode cX9_makes 30 = .ok (.getfield 16, 3) := by decide +kernel
theorem dX9_makes_33 : decode cX9_makes 33 = .ok (.iload 6, 2) := by decide +kernel
theorem dX9_makes_35 : decode cX9_makes 35 = .ok (.iload 4, 2) := by decide +kernel
theorem dX9_makes_37 : decode cX9_makes 37 = .ok (.iastore, 1) := by decide +kernel
theorem dX9_makes_38 : decode cX9_makes 38 = .ok (.aload_n 0, 1) := by decide +kernel
theorem dX9_makes_39 : decode cX9_makes 39 = .ok (.getfield 19, 3) := by decide +kernel
theorem dX9_makes_42 : decode cX9_makes 42 = .ok (.iload 6, 2) := by decide +kernel
theorem dX9_makes_44 : decode cX9_makes 44 = .ok (.aload_n 0, 1) := by decide +kernel
theorem dX9_makes_45 : decode cX9_makes 45 = .ok (.getfield 125, 3) := by decide +kernel
theorem dX9_makes_48 : decode cX9_makes 48 = .ok (.iastore, 1) := by decide +kernel
theorem dX9_makes_49 : decode cX9_makes 49 = .ok (.aload_n 0, 1) := by decide +kernel
theorem dX9_makes_50 : decode cX9_makes 50 = .ok (.getfield 22, 3) := by decide +kernel
theorem dX9_makes_53 : decode cX9_makes 53 = .ok (.iload 6, 2) := by decide +kernel
theorem dX9_makes_55 : decode cX9_makes 55 = .ok (.iload_n 1, 1) := by decide +kernel
theorem dX9_makes_56 : decode cX9_makes 56 = .ok (.iastore, 1) := by decide +kernel
theorem dX9_makes_57 : decode cX9_makes 57 = .ok (.aload_n 0, 1) := by decide +kernel
theorem dX9_makes_58 : decode cX9_makes 58 = .ok (.getfield 40, 3) := by decide +kernel
theorem dX9_makes_61 : decode cX9_makes 61 = .ok (.iload_n 1, 1) := by decide +kernel
theorem dX9_makes_62 : decode cX9_makes 62 = .ok (.dup2, 1) := by decide +kernel
theorem dX9_makes_63 : decode cX9_makes 63 = .ok (.iaload, 1) := by decide +kernel
theorem dX9_makes_64 : decode cX9_makes 64 = .ok (.iconst 1, 1) := by decide +kernel
theorem dX9_makes_65 : decode cX9_makes 65 = .ok (.iadd, 1) := by decide +kernel
theorem dX9_makes_66 : decode cX9_makes 66 = .ok (.iastore, 1) := by decide +kernel
theorem dX9_makes_67 : decode cX9_makes 67 = .ok (.aload_n 0, 1) := by decide +kernel
theorem dX9_makes_68 : decode cX9_makes 68 = .ok (.dup, 1) := by decide +kernel
theorem dX9_makes_69 : decode cX9_makes 69 = .ok (.getfield 125, 3) := by decide +kernel
theorem dX9_makes_72 : decode cX9_makes 72 = .ok (.iconst 1, 1) := by decide +kernel
theorem dX9_makes_73 : decode cX9_makes 73 = .ok (.iadd, 1) := by decide +kernel
theorem dX9_makes_74 : decode cX9_makes 74 = .ok (.putfield 125, 3) := by decide +kernel
theorem dX9_makes_77 : decode cX9_makes 77 = .ok (.aload_n 0, 1) := by decide +kernel
theorem dX9_makes_78 : decode cX9_makes 78 = .ok (.iload_n 1, 1) := by decide +kernel
theorem dX9_makes_79 : decode cX9_makes 79 = .ok (.iload 6, 2) := by decide +kernel
theorem dX9_makes_81 : decode cX9_makes 81 = .ok (.invokevirtual 128, 3) := by decide +kernel
theorem dX9_makes_84 : decode cX9_makes 84 = .ok (.aload_n 0, 1) := by decide +kernel
theorem dX9_makes_85 : decode cX9_makes 85 = .ok (.getfield 46, 3) := by decide +kernel
theorem dX9_makes_88 : decode cX9_makes 88 = .ok (.iload_n 1, 1) := by decide +kernel
theorem dX9_makes_89 : decode cX9_makes 89 = .ok (.aload_n 0, 1) := by decide +kernel
theorem dX9_makes_90 : decode cX9_makes 90 = .ok (.iload 6, 2) := by decide +kernel
theorem dX9_makes_92 : decode cX9_makes 92 = .ok (.invokevirtual 131, 3) := by decide +kernel
theorem dX9_makes_95 : decode cX9_makes 95 = .ok (.iastore, 1) := by decide +kernel
theorem dX9_makes_96 : decode cX9_makes 96 = .ok (.aload_n 0, 1) := by decide +kernel
theorem dX9_makes_97 : decode cX9_makes 97 = .ok (.getfield 49, 3) := by decide +kernel
theorem dX9_makes_100 : decode cX9_makes 100 = .ok (.iload_n 1, 1) := by decide +kernel
theorem dX9_makes_101 : decode cX9_makes 101 = .ok (.aload_n 0, 1) := by decide +kernel
theorem dX9_makes_102 : decode cX9_makes 102 = .ok (.aload_n 0, 1) := by decide +kernel
theorem dX9_makes_103 : decode cX9_makes 103 = .ok (.getfield 49, 3) := by decide +kernel
theorem dX9_makes_106 : decode cX9_makes 106 = .ok (.iload_n 1, 1) := by decide +kernel
theorem dX9_makes_107 : decode cX9_makes 107 = .ok (.iaload, 1) := by decide +kernel
theorem dX9_makes_108 : decode cX9_makes 108 = .ok (.iload 6, 2) := by decide +kernel
theorem dX9_makes_110 : decode cX9_makes 110 = .ok (.invokevirtual 108, 3) := by decide +kernel
theorem dX9_makes_113 : decode cX9_makes 113 = .ok (.iastore, 1) := by decide +kernel
theorem dX9_makes_114 : decode cX9_makes 114 = .ok (.aload_n 0, 1) := by decide +kernel
theorem dX9_makes_115 : decode cX9_makes 115 = .ok (.iload_n 1, 1) := by decide +kernel
theorem dX9_makes_116 : decode cX9_makes 116 = .ok (.iload 6, 2) := by decide +kernel
theorem dX9_makes_118 : decode cX9_makes 118 = .ok (.invokevirtual 134, 3) := by decide +kernel
theorem dX9_makes_121 : decode cX9_makes 121 = .ok (.iload 5, 2) := by decide +kernel
theorem dX9_makes_123 : decode cX9_makes 123 = .ok (.ifCond .eq 66, 3) := by decide +kernel
theorem dX9_makes_126 : decode cX9_makes 126 = .ok (.sipush 200, 3) := by decide +kernel
theorem dX9_makes_129 : decode cX9_makes 129 = .ok (.iload_n 1, 1) := by decide +kernel
theorem dX9_makes_130 : decode cX9_makes 130 = .ok (.imul, 1) := by decide +kernel
theorem dX9_makes_131 : decode cX9_makes 131 = .ok (.aload_n 0, 1) := by decide +kernel
theorem dX9_makes_132 : decode cX9_makes 132 = .ok (.getfield 77, 3) := by decide +kernel
theorem dX9_makes_135 : decode cX9_makes 135 = .ok (.iload_n 1, 1) := by decide +kernel
theorem dX9_makes_136 : decode cX9_makes 136 = .ok (.iaload, 1) := by decide +kernel
theorem dX9_makes_137 : decode cX9_makes 137 = .ok (.iadd, 1) := by decide +kernel
theorem dX9_makes_138 : decode cX9_makes 138 = .ok (.istore 7, 2) := by decide +kernel
theorem dX9_makes_140 : decode cX9_makes 140 = .ok (.aload_n 0, 1) := by decide +kernel
theorem dX9_makes_141 : decode cX9_makes 141 = .ok (.getfield 65, 3) := by decide +kernel
theorem dX9_makes_144 : decode cX9_makes 144 = .ok (.iload 7, 2) := by decide +kernel
theorem dX9_makes_146 : decode cX9_makes 146 = .ok (.iload_n 2, 1) := by decide +kernel
theorem dX9_makes_147 : decode cX9_makes 147 = .ok (.iastore, 1) := by decide +kernel
theorem dX9_makes_148 : decode cX9_makes 148 = .ok (.aload_n 0, 1) := by decide +kernel
theorem dX9_makes_149 : decode cX9_makes 149 = .ok (.getfield 68, 3) := by decide +kernel
theorem dX9_makes_152 : decode cX9_makes 152 = .ok (.iload 7, 2) := by decide +kernel
theorem dX9_makes_154 : decode cX9_makes 154 = .ok (.iload_n 3, 1) := by decide +kernel
theorem dX9_makes_155 : decode cX9_makes 155 = .ok (.iastore, 1) := by decide +kernel
theorem dX9_makes_156 : decode cX9_makes 156 = .ok (.aload_n 0, 1) := by decide +kernel
theorem dX9_makes_157 : decode cX9_makes 157 = .ok (.getfield 71, 3) := by decide +kernel
theorem dX9_makes_160 : decode cX9_makes 160 = .ok (.iload 7, 2) := by decide +kernel
theorem dX9_makes_162 : decode cX9_makes 162 = .ok (.iload 4, 2) := by decide +kernel
theorem dX9_makes_164 : decode cX9_makes 164 = .ok (.iastore, 1) := by decide +kernel
theorem dX9_makes_165 : decode cX9_makes 165 = .ok (.aload_n 0, 1) := by decide +kernel
theorem dX9_makes_166 : decode cX9_makes 166 = .ok (.getfield 74, 3) := by decide +kernel
theorem dX9_makes_169 : decode cX9_makes 169 = .ok (.iload 7, 2) := by decide +kernel
theorem dX9_makes_171 : decode cX9_makes 171 = .ok (.aload_n 0, 1) := by decide +kernel
theorem dX9_makes_172 : decode cX9_makes 172 = .ok (.getfield 19, 3) := by decide +kernel
theorem dX9_makes_175 : decode cX9_makes 175 = .ok (.iload 6, 2) := by decide +kernel
theorem dX9_makes_177 : decode cX9_makes 177 = .ok (.iaload, 1) := by decide +kernel
theorem dX9_makes_178 : decode cX9_makes 178 = .ok (.iastore, 1) := by decide +kernel
theorem dX9_makes_179 : decode cX9_makes 179 = .ok (.aload_n 0, 1) := by decide +kernel
theorem dX9_makes_180 : decode cX9_makes 180 = .ok (.getfield 77, 3) := by decide +kernel
theorem dX9_makes_183 : decode cX9_makes 183 = .ok (.iload_n 1, 1) := by decide +kernel
theorem dX9_makes_184 : decode cX9_makes 184 = .ok (.dup2, 1) := by decide +kernel
theorem dX9_makes_185 : decode cX9_makes 185 = .ok (.iaload, 1) := by decide +kernel
theorem dX9_makes_186 : decode cX9_makes 186 = .ok (.iconst 1, 1) := by decide +kernel
theorem dX9_makes_187 : decode cX9_makes 187 = .ok (.iadd, 1) := by decide +kernel
theorem dX9_makes_188 : decode cX9_makes 188 = .ok (.iastore, 1) := by decide +kernel
theorem dX9_makes_189 : decode cX9_makes 189 = .ok (.aload_n 0, 1) := by decide +kernel
theorem dX9_makes_190 : decode cX9_makes 190 = .ok (.getfield 58, 3) := by decide +kernel
theorem dX9_makes_193 : decode cX9_makes 193 = .ok (.iload_n 1, 1) := by decide +kernel
theorem dX9_makes_194 : decode cX9_makes 194 = .ok (.baload, 1) := by decide +kernel
theorem dX9_makes_195 : decode cX9_makes 195 = .ok (.ifCond .ne 9, 3) := by decide +kernel
theorem dX9_makes_198 : decode cX9_makes 198 = .ok (.aload_n 0, 1) := by decide +kernel
theorem dX9_makes_199 : decode cX9_makes 199 = .ok (.iload_n 1, 1) := by decide +kernel
theorem dX9_makes_200 : decode cX9_makes 200 = .ok (.iconst 1, 1) := by decide +kernel
theorem dX9_makes_201 : decode cX9_makes 201 = .ok (.invokevirtual 137, 3) := by decide +kernel
theorem dX9_makes_204 : decode cX9_makes 204 = .ok (.return_, 1) := by decide +kernel
theorem dX9_isCharacter_0 : decode cX9_isCharacter 0 = .ok (.iload_n 0, 1) := by decide +kernel
theorem dX9_isCharacter_1 : decode cX9_isCharacter 1 = .ok (.bipush 32, 2) := by decide +kernel
theorem dX9_isCharacter_3 : decode cX9_isCharacter 3 = .ok (.bipush 126, 2) := by decide +kernel
theorem dX9_isCharacter_5 : decode cX9_isCharacter 5 = .ok (.invokestatic 96, 3) := by decide +kernel
theorem dX9_isCharacter_8 : decode cX9_isCharacter 8 = .ok (.ireturn, 1) := by decide +kernel
theorem dX9_isFull_0 : decode cX9_isFull 0 = .ok (.aload_n 0, 1) := by decide +kernel
theorem dX9_isFull_1 : decode cX9_isFull 1 = .ok (.getfield 34, 3) := by decide +kernel
theorem dX9_isFull_4 : decode cX9_isFull 4 = .ok (.iload_n 1, 1) := by decide +kernel
theorem dX9_isFull_5 : decode cX9_isFull 5 = .ok (.iaload, 1) := by decide +kernel
theorem dX9_isFull_6 : decode cX9_isFull 6 = .ok (.bipush 60, 2) := by decide +kernel
theorem dX9_isFull_8 : decode cX9_isFull 8 = .ok (.if_icmp .ge 13, 3) := by decide +kernel
theorem dX9_isFull_11 : decode cX9_isFull 11 = .ok (.aload_n 0, 1) := by decide +kernel
theorem dX9_isFull_12 : decode cX9_isFull 12 = .ok (.getfield 125, 3) := by decide +kernel
theorem dX9_isFull_15 : decode cX9_isFull 15 = .ok (.sipush 200, 3) := by decide +kernel
theorem dX9_isFull_18 : decode cX9_isFull 18 = .ok (.if_icmp .ne 7, 3) := by decide +kernel
theorem dX9_isFull_21 : decode cX9_isFull 21 = .ok (.iconst 1, 1) := by decide +kernel
theorem dX9_isFull_22 : decode cX9_isFull 22 = .ok (.goto 4, 3) := by decide +kernel
theorem dX9_isFull_25 : decode cX9_isFull 25 = .ok (.iconst 0, 1) := by decide +kernel
theorem dX9_isFull_26 : decode cX9_isFull 26 = .ok (.ireturn, 1) := by decide +kernel
theorem dX9_insert_0 : decode cX9_insert 0 = .ok (.aload_n 0, 1) := by decide +kernel
theorem dX9_insert_1 : decode cX9_insert 1 = .ok (.iconst 0, 1) := by decide +kernel
theorem dX9_insert_2 : decode cX9_insert 2 = .ok (.putfield 92, 3) := by decide +kernel
theorem dX9_insert_5 : decode cX9_insert 5 = .ok (.iload_n 1, 1) := by decide +kernel
theorem dX9_insert_6 : decode cX9_insert 6 = .ok (.invokestatic 140, 3) := by decide +kernel
theorem dX9_insert_9 : decode cX9_insert 9 = .ok (.ifCond .ne 9, 3) := by decide +kernel
theorem dX9_insert_12 : decode cX9_insert 12 = .ok (.aload_n 0, 1) := by decide +kernel
theorem dX9_insert_13 : decode cX9_insert 13 = .ok (.iconst 1, 1) := by decide +kernel
theorem dX9_insert_14 : decode cX9_insert 14 = .ok (.invokevirtual 144, 3) := by decide +kernel
theorem dX9_insert_17 : decode cX9_insert 17 = .ok (.ireturn, 1) := by decide +kernel
theorem dX9_insert_18 : decode cX9_insert 18 = .ok (.iload_n 2, 1) := by decide +kernel
theorem dX9_insert_19 : decode cX9_insert 19 = .ok (.iconst 0, 1) := by decide +kernel
theorem dX9_insert_20 : decode cX9_insert 20 = .ok (.aload_n 0, 1) := by decide +kernel
theorem dX9_insert_21 : decode cX9_insert 21 = .ok (.getfield 34, 3) := by decide +kernel
theorem dX9_insert_24 : decode cX9_insert 24 = .ok (.iload_n 1, 1) := by decide +kernel
theorem dX9_insert_25 : decode cX9_insert 25 = .ok (.iaload, 1) := by decide +kernel
theorem dX9_insert_26 : decode cX9_insert 26 = .ok (.invokestatic 96, 3) := by decide +kernel
theorem dX9_insert_29 : decode cX9_insert 29 = .ok (.ifCond .eq 10, 3) := by decide +kernel
theorem dX9_insert_32 : decode cX9_insert 32 = .ok (.iload_n 3, 1) := by decide +kernel
theorem dX9_insert_33 : decode cX9_insert 33 = .ok (.invokestatic 147, 3) := by decide +kernel
theorem dX9_insert_36 : decode cX9_insert 36 = .ok (.ifCond .ne 9, 3) := by decide +kernel
theorem dX9_insert_39 : decode cX9_insert 39 = .ok (.aload_n 0, 1) := by decide +kernel
theorem dX9_insert_40 : decode cX9_insert 40 = .ok (.iconst 2, 1) := by decide +kernel
theorem dX9_insert_41 : decode cX9_insert 41 = .ok (.invokevirtual 144, 3) := by decide +kernel
theorem dX9_insert_44 : decode cX9_insert 44 = .ok (.ireturn, 1) := by decide +kernel
theorem dX9_insert_45 : decode cX9_insert 45 = .ok (.aload_n 0, 1) := by decide +kernel
theorem dX9_insert_46 : decode cX9_insert 46 = .ok (.iload_n 1, 1) := by decide +kernel
theorem dX9_insert_47 : decode cX9_insert 47 = .ok (.invokevirtual 150, 3) := by decide +kernel
theorem dX9_insert_50 : decode cX9_insert 50 = .ok (.ifCond .eq 9, 3) := by decide +kernel
theorem dX9_insert_53 : decode cX9_insert 53 = .ok (.aload_n 0, 1) := by decide +kernel
theorem dX9_insert_54 : decode cX9_insert 54 = .ok (.iconst 3, 1) := by decide +kernel
theorem dX9_insert_55 : decode cX9_insert 55 = .ok (.invokevirtual 144, 3) := by decide +kernel
theorem dX9_insert_58 : decode cX9_insert 58 = .ok (.ireturn, 1) := by decide +kernel
theorem dX9_insert_59 : decode cX9_insert 59 = .ok (.aload_n 0, 1) := by decide +kernel
theorem dX9_insert_60 : decode cX9_insert 60 = .ok (.iload_n 1, 1) := by decide +kernel
theorem dX9_insert_61 : decode cX9_insert 61 = .ok (.iconst 1, 1) := by decide +kernel
theorem dX9_insert_62 : decode cX9_insert 62 = .ok (.iload_n 2, 1) := by decide +kernel
theorem dX9_insert_63 : decode cX9_insert 63 = .ok (.iload_n 3, 1) := by decide +kernel
theorem dX9_insert_64 : decode cX9_insert 64 = .ok (.iconst 1, 1) := by decide +kernel
theorem dX9_insert_65 : decode cX9_insert 65 = .ok (.invokevirtual 153, 3) := by decide +kernel
theorem dX9_insert_68 : decode cX9_insert 68 = .ok (.aload_n 0, 1) := by decide +kernel
theorem dX9_insert_69 : decode cX9_insert 69 = .ok (.getfield 34, 3) := by decide +kernel
theorem dX9_insert_72 : decode cX9_insert 72 = .ok (.iload_n 1, 1) := by decide +kernel
theorem dX9_insert_73 : decode cX9_insert 73 = .ok (.iaload, 1) := by decide +kernel
theorem dX9_insert_74 : decode cX9_insert 74 = .ok (.ireturn, 1) := by decide +kernel
theorem dX9_codeAt_0 : decode cX9_codeAt 0 = .ok (.aload_n 0, 1) := by decide +kernel
theorem dX9_codeAt_1 : decode cX9_codeAt 1 = .ok (.getfield 25, 3) := by decide +kernel
theorem dX9_codeAt_4 : decode cX9_codeAt 4 = .ok (.sipush 201, 3) := by decide +kernel
theorem dX9_codeAt_7 : decode cX9_codeAt 7 = .ok (.iload_n 1, 1) := by decide +kernel
theorem dX9_codeAt_8 : decode cX9_codeAt 8 = .ok (.imul, 1) := by decide +kernel
theorem dX9_codeAt_9 : decode cX9_codeAt 9 = .ok (.iload_n 2, 1) := by decide +kernel
theorem dX9_codeAt_10 : decode cX9_codeAt 10 = .ok (.iadd, 1) := by decide +kernel
theorem dX9_codeAt_11 : decode cX9_codeAt 11 = .ok (.iaload, 1) := by decide +kernel
theorem dX9_codeAt_12 : decode cX9_codeAt 12 = .ok (.ireturn, 1) := by decide +kernel
theorem dX9_delete_0 : decode cX9_delete 0 = .ok (.aload_n 0, 1) := by decide +kernel
theorem dX9_delete_1 : decode cX9_delete 1 = .ok (.iconst 0, 1) := by decide +kernel
theorem dX9_delete_2 : decode cX9_delete 2 = .ok (.putfield 92, 3) := by decide +kernel
theorem dX9_delete_5 : decode cX9_delete 5 = .ok (.iload_n 1, 1) := by decide +kernel
theorem dX9_delete_6 : decode cX9_delete 6 = .ok (.invokestatic 140, 3) := by decide +kernel
theorem dX9_delete_9 : decode cX9_delete 9 = .ok (.ifCond .ne 10, 3) := by decide +kernel
theorem dX9_delete_12 : decode cX9_delete 12 = .ok (.aload_n 0, 1) := by decide +kernel
theorem dX9_delete_13 : decode cX9_delete 13 = .ok (.iconst 1, 1) := by decide +kernel
theorem dX9_delete_14 : decode cX9_delete 14 = .ok (.invokevirtual 144, 3) := by decide +kernel
theorem dX9_delete_17 : decode cX9_delete 17 = .ok (.i2c, 1) := by decide +kernel
theorem dX9_delete_18 : decode cX9_delete 18 = .ok (.ireturn, 1) := by decide +kernel
theorem dX9_delete_19 : decode cX9_delete 19 = .ok (.iload_n 2, 1) := by decide +kernel
theorem dX9_delete_20 : decode cX9_delete 20 = .ok (.iconst 0, 1) := by decide +kernel
theorem dX9_delete_21 : decode cX9_delete 21 = .ok (.aload_n 0, 1) := by decide +kernel
theorem dX9_delete_22 : decode cX9_delete 22 = .ok (.getfield 34, 3) := by decide +kernel
theorem dX9_delete_25 : decode cX9_delete 25 = .ok (.iload_n 1, 1) := by decide +kernel
theorem dX9_delete_26 : decode cX9_delete 26 = .ok (.iaload, 1) := by decide +kernel
theorem dX9_delete_27 : decode cX9_delete 27 = .ok (.iconst 1, 1) := by decide +kernel
theorem dX9_delete_28 : decode cX9_delete 28 = .ok (.isub, 1) := by decide +kernel
theorem dX9_delete_29 : decode cX9_delete 29 = .ok (.invokestatic 96, 3) := by decide +kernel
theorem dX9_delete_32 : decode cX9_delete 32 = .ok (.ifCond .ne 10, 3) := by decide +kernel
theorem dX9_delete_35 : decode cX9_delete 35 = .ok (.aload_n 0, 1) := by decide +kernel
theorem dX9_delete_36 : decode cX9_delete 36 = .ok (.iconst 2, 1) := by decide +kernel
theorem dX9_delete_37 : decode cX9_delete 37 = .ok (.invokevirtual 144, 3) := by decide +kernel
theorem dX9_delete_40 : decode cX9_delete 40 = .ok (.i2c, 1) := by decide +kernel
theorem dX9_delete_41 : decode cX9_delete 41 = .ok (.ireturn, 1) := by decide +kernel
theorem dX9_delete_42 : decode cX9_delete 42 = .ok (.aload_n 0, 1) := by decide +kernel
theorem dX9_delete_43 : decode cX9_delete 43 = .ok (.getfield 125, 3) := by decide +kernel
theorem dX9_delete_46 : decode cX9_delete 46 = .ok (.sipush 200, 3) := by decide +kernel
theorem dX9_delete_49 : decode cX9_delete 49 = .ok (.if_icmp .ne 10, 3) := by decide +kernel
theorem dX9_delete_52 : decode cX9_delete 52 = .ok (.aload_n 0, 1) := by decide +kernel
theorem dX9_delete_53 : decode cX9_delete 53 = .ok (.iconst 3, 1) := by decide +kernel
theorem dX9_delete_54 : decode cX9_delete 54 = .ok (.invokevirtual 144, 3) := by decide +kernel
theorem dX9_delete_57 : decode cX9_delete 57 = .ok (.i2c, 1) := by decide +kernel
theorem dX9_delete_58 : decode cX9_delete 58 = .ok (.ireturn, 1) := by decide +kernel
theorem dX9_delete_59 : decode cX9_delete 59 = .ok (.aload_n 0, 1) := by decide +kernel
theorem dX9_delete_60 : decode cX9_delete 60 = .ok (.iload_n 1, 1) := by decide +kernel
theorem dX9_delete_61 : decode cX9_delete 61 = .ok (.iload_n 2, 1) := by decide +kernel
theorem dX9_delete_62 : decode cX9_delete 62 = .ok (.invokevirtual 157, 3) := by decide +kernel
theorem dX9_delete_65 : decode cX9_delete 65 = .ok (.istore_n 3, 1) := by decide +kernel
theorem dX9_delete_66 : decode cX9_delete 66 = .ok (.aload_n 0, 1) := by decide +kernel
theorem dX9_delete_67 : decode cX9_delete 67 = .ok (.iload_n 1, 1) := by decide +kernel
theorem dX9_delete_68 : decode cX9_delete 68 = .ok (.iconst 2, 1) := by decide +kernel
theorem dX9_delete_69 : decode cX9_delete 69 = .ok (.iload_n 2, 1) := by decide +kernel
theorem dX9_delete_70 : decode cX9_delete 70 = .ok (.iload_n 3, 1) := by decide +kernel
theorem dX9_delete_71 : decode cX9_delete 71 = .ok (.iconst 1, 1) := by decide +kernel
theorem dX9_delete_72 : decode cX9_delete 72 = .ok (.invokevirtual 153, 3) := by decide +kernel
theorem dX9_delete_75 : decode cX9_delete 75 = .ok (.iload_n 3, 1) := by decide +kernel
theorem dX9_delete_76 : decode cX9_delete 76 = .ok (.i2c, 1) := by decide +kernel
theorem dX9_delete_77 : decode cX9_delete 77 = .ok (.ireturn, 1) := by decide +kernel
theorem dX9_type_0 : decode cX9_type 0 = .ok (.aload_n 0, 1) := by decide +kernel
theorem dX9_type_1 : decode cX9_type 1 = .ok (.iconst 0, 1) := by decide +kernel
theorem dX9_type_2 : decode cX9_type 2 = .ok (.putfield 92, 3) := by decide +kernel
theorem dX9_type_5 : decode cX9_type 5 = .ok (.iload_n 1, 1) := by decide +kernel
theorem dX9_type_6 : decode cX9_type 6 = .ok (.invokestatic 140, 3) := by decide +kernel
theorem dX9_type_9 : decode cX9_type 9 = .ok (.ifCond .ne 9, 3) := by decide +kernel
theorem dX9_type_12 : decode cX9_type 12 = .ok (.aload_n 0, 1) := by decide +kernel
theorem dX9_type_13 : decode cX9_type 13 = .ok (.iconst 1, 1) := by decide +kernel
theorem dX9_type_14 : decode cX9_type 14 = .ok (.invokevirtual 144, 3) := by decide +kernel
theorem dX9_type_17 : decode cX9_type 17 = .ok (.ireturn, 1) := by decide +kernel
theorem dX9_type_18 : decode cX9_type 18 = .ok (.iload_n 2, 1) := by decide +kernel
theorem dX9_type_19 : decode cX9_type 19 = .ok (.invokestatic 147, 3) := by decide +kernel
theorem dX9_type_22 : decode cX9_type 22 = .ok (.ifCond .ne 9, 3) := by decide +kernel
theorem dX9_type_25 : decode cX9_type 25 = .ok (.aload_n 0, 1) := by decide +kernel
theorem dX9_type_26 : decode cX9_type 26 = .ok (.iconst 2, 1) := by decide +kernel
theorem dX9_type_27 : decode cX9_type 27 = .ok (.invokevirtual 144, 3) := by decide +kernel
theorem dX9_type_30 : decode cX9_type 30 = .ok (.ireturn, 1) := by decide +kernel
theorem dX9_type_31 : decode cX9_type 31 = .ok (.aload_n 0, 1) := by decide +kernel
theorem dX9_type_32 : decode cX9_type 32 = .ok (.iload_n 1, 1) := by decide +kernel
theorem dX9_type_33 : decode cX9_type 33 = .ok (.invokevirtual 150, 3) := by decide +kernel
theorem dX9_type_36 : decode cX9_type 36 = .ok (.ifCond .eq 9, 3) := by decide +kernel
theorem dX9_type_39 : decode cX9_type 39 = .ok (.aload_n 0, 1) := by decide +kernel
theorem dX9_type_40 : decode cX9_type 40 = .ok (.iconst 3, 1) := by decide +kernel
theorem dX9_type_41 : decode cX9_type 41 = .ok (.invokevirtual 144, 3) := by decide +kernel
theorem dX9_type_44 : decode cX9_type 44 = .ok (.ireturn, 1) := by decide +kernel
theorem dX9_type_45 : decode cX9_type 45 = .ok (.aload_n 0, 1) := by decide +kernel
theorem dX9_type_46 : decode cX9_type 46 = .ok (.iload_n 1, 1) := by decide +kernel
theorem dX9_type_47 : decode cX9_type 47 = .ok (.iconst 1, 1) := by decide +kernel
theorem dX9_type_48 : decode cX9_type 48 = .ok (.aload_n 0, 1) := by decide +kernel
theorem dX9_type_49 : decode cX9_type 49 = .ok (.getfield 46, 3) := by decide +kernel
theorem dX9_type_52 : decode cX9_type 52 = .ok (.iload_n 1, 1) := by decide +kernel
theorem dX9_type_53 : decode cX9_type 53 = .ok (.iaload, 1) := by decide +kernel
theorem dX9_type_54 : decode cX9_type 54 = .ok (.iload_n 2, 1) := by decide +kernel
theorem dX9_type_55 : decode cX9_type 55 = .ok (.iconst 1, 1) := by decide +kernel
theorem dX9_type_56 : decode cX9_type 56 = .ok (.invokevirtual 153, 3) := by decide +kernel
theorem dX9_type_59 : decode cX9_type 59 = .ok (.aload_n 0, 1) := by decide +kernel
theorem dX9_type_60 : decode cX9_type 60 = .ok (.getfield 46, 3) := by decide +kernel
theorem dX9_type_63 : decode cX9_type 63 = .ok (.iload_n 1, 1) := by decide +kernel
theorem dX9_type_64 : decode cX9_type 64 = .ok (.iaload, 1) := by decide +kernel
theorem dX9_type_65 : decode cX9_type 65 = .ok (.ireturn, 1) := by decide +kernel
theorem dX9_erase_0 : decode cX9_erase 0 = .ok (.aload_n 0, 1) := by decide +kernel
theorem dX9_erase_1 : decode cX9_erase 1 = .ok (.iconst 0, 1) := by decide +kernel
theorem dX9_erase_2 : decode cX9_erase 2 = .ok (.putfield 92, 3) := by decide +kernel
theorem dX9_erase_5 : decode cX9_erase 5 = .ok (.iload_n 1, 1) := by decide +kernel
theorem dX9_erase_6 : decode cX9_erase 6 = .ok (.invokestatic 140, 3) := by decide +kernel
theorem dX9_erase_9 : decode cX9_erase 9 = .ok (.ifCond .ne 10, 3) := by decide +kernel
theorem dX9_erase_12 : decode cX9_erase 12 = .ok (.aload_n 0, 1) := by decide +kernel
theorem dX9_erase_13 : decode cX9_erase 13 = .ok (.iconst 1, 1) := by decide +kernel
theorem dX9_erase_14 : decode cX9_erase 14 = .ok (.invokevirtual 144, 3) := by decide +kernel
theorem dX9_erase_17 : decode cX9_erase 17 = .ok (.i2c, 1) := by decide +kernel
theorem dX9_erase_18 : decode cX9_erase 18 = .ok (.ireturn, 1) := by decide +kernel
theorem dX9_erase_19 : decode cX9_erase 19 = .ok (.aload_n 0, 1) := by decide +kernel
theorem dX9_erase_20 : decode cX9_erase 20 = .ok (.getfield 46, 3) := by decide +kernel
theorem dX9_erase_23 : decode cX9_erase 23 = .ok (.iload_n 1, 1) := by decide +kernel
theorem dX9_erase_24 : decode cX9_erase 24 = .ok (.iaload, 1) := by decide +kernel
theorem dX9_erase_25 : decode cX9_erase 25 = .ok (.ifCond .ne 10, 3) := by decide +kernel
theorem dX9_erase_28 : decode cX9_erase 28 = .ok (.aload_n 0, 1) := by decide +kernel
theorem dX9_erase_29 : decode cX9_erase 29 = .ok (.iconst 2, 1) := by decide +kernel
theorem dX9_erase_30 : decode cX9_erase 30 = .ok (.invokevirtual 144, 3) := by decide +kernel
theorem dX9_erase_33 : decode cX9_erase 33 = .ok (.i2c, 1) := by decide +kernel
theorem dX9_erase_34 : decode cX9_erase 34 = .ok (.ireturn, 1) := by decide +kernel
theorem dX9_erase_35 : decode cX9_erase 35 = .ok (.aload_n 0, 1) := by decide +kernel
theorem dX9_erase_36 : decode cX9_erase 36 = .ok (.getfield 125, 3) := by decide +kernel
theorem dX9_erase_39 : decode cX9_erase 39 = .ok (.sipush 200, 3) := by decide +kernel
theorem dX9_erase_42 : decode cX9_erase 42 = .ok (.if_icmp .ne 10, 3) := by decide +kernel
theorem dX9_erase_45 : decode cX9_erase 45 = .ok (.aload_n 0, 1) := by decide +kernel
theorem dX9_erase_46 : decode cX9_erase 46 = .ok (.iconst 3, 1) := by decide +kernel
theorem dX9_erase_47 : decode cX9_erase 47 = .ok (.invokevirtual 144, 3) := by decide +kernel
theorem dX9_erase_50 : decode cX9_erase 50 = .ok (.i2c, 1) := by decide +kernel
theorem dX9_erase_51 : decode cX9_erase 51 = .ok (.ireturn, 1) := by decide +kernel
theorem dX9_erase_52 : decode cX9_erase 52 = .ok (.aload_n 0, 1) := by decide +kernel
theorem dX9_erase_53 : decode cX9_erase 53 = .ok (.iload_n 1, 1) := by decide +kernel
theorem dX9_erase_54 : decode cX9_erase 54 = .ok (.aload_n 0, 1) := by decide +kernel
theorem dX9_erase_55 : decode cX9_erase 55 = .ok (.getfield 46, 3) := by decide +kernel
theorem dX9_erase_58 : decode cX9_erase 58 = .ok (.iload_n 1, 1) := by decide +kernel
theorem dX9_erase_59 : decode cX9_erase 59 = .ok (.iaload, 1) := by decide +kernel
theorem dX9_erase_60 : decode cX9_erase 60 = .ok (.iconst 1, 1) := by decide +kernel
theorem dX9_erase_61 : decode cX9_erase 61 = .ok (.isub, 1) := by decide +kernel
theorem dX9_erase_62 : decode cX9_erase 62 = .ok (.invokevirtual 157, 3) := by decide +kernel
theorem dX9_erase_65 : decode cX9_erase 65 = .ok (.istore_n 2, 1) := by decide +kernel
theorem dX9_erase_66 : decode cX9_erase 66 = .ok (.aload_n 0, 1) := by decide +kernel
theorem dX9_erase_67 : decode cX9_erase 67 = .ok (.iload_n 1, 1) := by decide +kernel
theorem dX9_erase_68 : decode cX9_erase 68 = .ok (.iconst 2, 1) := by decide +kernel
theorem dX9_erase_69 : decode cX9_erase 69 = .ok (.aload_n 0, 1) := by decide +kernel
theorem dX9_erase_70 : decode cX9_erase 70 = .ok (.getfield 46, 3) := by decide +kernel
theorem dX9_erase_73 : decode cX9_erase 73 = .ok (.iload_n 1, 1) := by decide +kernel
theorem dX9_erase_74 : decode cX9_erase 74 = .ok (.iaload, 1) := by decide +kernel
theorem dX9_erase_75 : decode cX9_erase 75 = .ok (.iconst 1, 1) := by decide +kernel
theorem dX9_erase_76 : decode cX9_erase 76 = .ok (.isub, 1) := by decide +kernel
theorem dX9_erase_77 : decode cX9_erase 77 = .ok (.iload_n 2, 1) := by decide +kernel
theorem dX9_erase_78 : decode cX9_erase 78 = .ok (.iconst 1, 1) := by decide +kernel
theorem dX9_erase_79 : decode cX9_erase 79 = .ok (.invokevirtual 153, 3) := by decide +kernel
theorem dX9_erase_82 : decode cX9_erase 82 = .ok (.iload_n 2, 1) := by decide +kernel
theorem dX9_erase_83 : decode cX9_erase 83 = .ok (.i2c, 1) := by decide +kernel
theorem dX9_erase_84 : decode cX9_erase 84 = .ok (.ireturn, 1) := by decide +kernel
theorem dX9_moveCursor_0 : decode cX9_moveCursor 0 = .ok (.aload_n 0, 1) := by decide +kernel
theorem dX9_moveCursor_1 : decode cX9_moveCursor 1 = .ok (.iconst 0, 1) := by decide +kernel
theorem dX9_moveCursor_2 : decode cX9_moveCursor 2 = .ok (.putfield 92, 3) := by decide +kernel
theorem dX9_moveCursor_5 : decode cX9_moveCursor 5 = .ok (.iload_n 1, 1) := by decide +kernel
theorem dX9_moveCursor_6 : decode cX9_moveCursor 6 = .ok (.invokestatic 140, 3) := by decide +kernel
theorem dX9_moveCursor_9 : decode cX9_moveCursor 9 = .ok (.ifCond .ne 9, 3) := by decide +kernel
theorem dX9_moveCursor_12 : decode cX9_moveCursor 12 = .ok (.aload_n 0, 1) := by decide +kernel
theorem dX9_moveCursor_13 : decode cX9_moveCursor 13 = .ok (.iconst 1, 1) := by decide +kernel
theorem dX9_moveCursor_14 : decode cX9_moveCursor 14 = .ok (.invokevirtual 144, 3) := by decide +kernel
theorem dX9_moveCursor_17 : decode cX9_moveCursor 17 = .ok (.ireturn, 1) := by decide +kernel
theorem dX9_moveCursor_18 : decode cX9_moveCursor 18 = .ok (.iload_n 2, 1) := by decide +kernel
theorem dX9_moveCursor_19 : decode cX9_moveCursor 19 = .ok (.iconst 0, 1) := by decide +kernel
theorem dX9_moveCursor_20 : decode cX9_moveCursor 20 = .ok (.aload_n 0, 1) := by decide +kernel
theorem dX9_moveCursor_21 : decode cX9_moveCursor 21 = .ok (.getfield 34, 3) := by decide +kernel
theorem dX9_moveCursor_24 : decode cX9_moveCursor 24 = .ok (.iload_n 1, 1) := by decide +kernel
theorem dX9_moveCursor_25 : decode cX9_moveCursor 25 = .ok (.iaload, 1) := by decide +kernel
theorem dX9_moveCursor_26 : decode cX9_moveCursor 26 = .ok (.invokestatic 96, 3) := by decide +kernel
theorem dX9_moveCursor_29 : decode cX9_moveCursor 29 = .ok (.ifCond .ne 9, 3) := by decide +kernel
theorem dX9_moveCursor_32 : decode cX9_moveCursor 32 = .ok (.aload_n 0, 1) := by decide +kernel
theorem dX9_moveCursor_33 : decode cX9_moveCursor 33 = .ok (.iconst 2, 1) := by decide +kernel
theorem dX9_moveCursor_34 : decode cX9_moveCursor 34 = .ok (.invokevirtual 144, 3) := by decide +kernel
theorem dX9_moveCursor_37 : decode cX9_moveCursor 37 = .ok (.ireturn, 1) := by decide +kernel
theorem dX9_moveCursor_38 : decode cX9_moveCursor 38 = .ok (.aload_n 0, 1) := by decide +kernel
theorem dX9_moveCursor_39 : decode cX9_moveCursor 39 = .ok (.getfield 46, 3) := by decide +kernel
theorem dX9_moveCursor_42 : decode cX9_moveCursor 42 = .ok (.iload_n 1, 1) := by decide +kernel
theorem dX9_moveCursor_43 : decode cX9_moveCursor 43 = .ok (.iaload, 1) := by decide +kernel
theorem dX9_moveCursor_44 : decode cX9_moveCursor 44 = .ok (.istore_n 3, 1) := by decide +kernel
theorem dX9_moveCursor_45 : decode cX9_moveCursor 45 = .ok (.aload_n 0, 1) := by decide +kernel
theorem dX9_moveCursor_46 : decode cX9_moveCursor 46 = .ok (.getfield 46, 3) := by decide +kernel
theorem dX9_moveCursor_49 : decode cX9_moveCursor 49 = .ok (.iload_n 1, 1) := by decide +kernel
theorem dX9_moveCursor_50 : decode cX9_moveCursor 50 = .ok (.iload_n 2, 1) := by decide +kernel
theorem dX9_moveCursor_51 : decode cX9_moveCursor 51 = .ok (.iastore, 1) := by decide +kernel
theorem dX9_moveCursor_52 : decode cX9_moveCursor 52 = .ok (.iload_n 3, 1) := by decide +kernel
theorem dX9_moveCursor_53 : decode cX9_moveCursor 53 = .ok (.ireturn, 1) := by decide +kernel
theorem dX9_find_0 : decode cX9_find 0 = .ok (.iconst 0, 1) := by decide +kernel
theorem dX9_find_1 : decode cX9_find 1 = .ok (.istore_n 3, 1) := by decide +kernel
theorem dX9_find_2 : decode cX9_find 2 = .ok (.iload_n 3, 1) := by decide +kernel
theorem dX9_find_3 : decode cX9_find 3 = .ok (.aload_n 0, 1) := by decide +kernel
theorem dX9_find_4 : decode cX9_find 4 = .ok (.getfield 34, 3) := by decide +kernel
theorem dX9_find_7 : decode cX9_find 7 = .ok (.iload_n 1, 1) := by decide +kernel
theorem dX9_find_8 : decode cX9_find 8 = .ok (.iaload, 1) := by decide +kernel
theorem dX9_find_9 : decode cX9_find 9 = .ok (.if_icmp .ge 27, 3) := by decide +kernel
theorem dX9_find_12 : decode cX9_find 12 = .ok (.aload_n 0, 1) := by decide +kernel
theorem dX9_find_13 : decode cX9_find 13 = .ok (.getfield 28, 3) := by decide +kernel
theorem dX9_find_16 : decode cX9_find 16 = .ok (.sipush 201, 3) := by decide +kernel
theorem dX9_find_19 : decode cX9_find 19 = .ok (.iload_n 1, 1) := by decide +kernel
theorem dX9_find_20 : decode cX9_find 20 = .ok (.imul, 1) := by decide +kernel
theorem dX9_find_21 : decode cX9_find 21 = .ok (.iload_n 3, 1) := by decide +kernel
theorem dX9_find_22 : decode cX9_find 22 = .ok (.iadd, 1) := by decide +kernel
theorem dX9_find_23 : decode cX9_find 23 = .ok (.iaload, 1) := by decide +kernel
theorem dX9_find_24 : decode cX9_find 24 = .ok (.iload_n 2, 1) := by decide +kernel
theorem dX9_find_25 : decode cX9_find 25 = .ok (.if_icmp .ne 5, 3) := by decide +kernel
theorem dX9_find_28 : decode cX9_find 28 = .ok (.iload_n 3, 1) := by decide +kernel
theorem dX9_find_29 : decode cX9_find 29 = .ok (.ireturn, 1) := by decide +kernel
theorem dX9_find_30 : decode cX9_find 30 = .ok (.iinc 3 1, 3) := by decide +kernel
theorem dX9_find_33 : decode cX9_find 33 = .ok (.goto (-31), 3) := by decide +kernel
theorem dX9_find_36 : decode cX9_find 36 = .ok (.iconst (-1), 1) := by decide +kernel
theorem dX9_find_37 : decode cX9_find 37 = .ok (.ireturn, 1) := by decide +kernel
theorem dX9_undo_0 : decode cX9_undo 0 = .ok (.aload_n 0, 1) := by decide +kernel
theorem dX9_undo_1 : decode cX9_undo 1 = .ok (.iconst 0, 1) := by decide +kernel
theorem dX9_undo_2 : decode cX9_undo 2 = .ok (.putfield 92, 3) := by decide +kernel
theorem dX9_undo_5 : decode cX9_undo 5 = .ok (.iload_n 1, 1) := by decide +kernel
theorem dX9_undo_6 : decode cX9_undo 6 = .ok (.invokestatic 140, 3) := by decide +kernel
theorem dX9_undo_9 : decode cX9_undo 9 = .ok (.ifCond .ne 17, 3) := by decide +kernel
theorem dX9_undo_12 : decode cX9_undo 12 = .ok (.aload_n 0, 1) := by decide +kernel
theorem dX9_undo_13 : decode cX9_undo 13 = .ok (.iconst 1, 1) := by decide +kernel
theorem dX9_undo_14 : decode cX9_undo 14 = .ok (.invokevirtual 144, 3) := by decide +kernel
theorem dX9_undo_17 : decode cX9_undo 17 = .ok (.ifCond .le 7, 3) := by decide +kernel
theorem dX9_undo_20 : decode cX9_undo 20 = .ok (.iconst 1, 1) := by decide +kernel
theorem dX9_undo_21 : decode cX9_undo 21 = .ok (.goto 4, 3) := by decide +kernel
theorem dX9_undo_24 : decode cX9_undo 24 = .ok (.iconst 0, 1) := by decide +kernel
theorem dX9_undo_25 : decode cX9_undo 25 = .ok (.ireturn, 1) := by decide +kernel
theorem dX9_undo_26 : decode cX9_undo 26 = .ok (.aload_n 0, 1) := by decide +kernel
theorem dX9_undo_27 : decode cX9_undo 27 = .ok (.getfield 77, 3) := by decide +kernel
theorem dX9_undo_30 : decode cX9_undo 30 = .ok (.iload_n 1, 1) := by decide +kernel
theorem dX9_undo_31 : decode cX9_undo 31 = .ok (.iaload, 1) := by decide +kernel
theorem dX9_undo_32 : decode cX9_undo 32 = .ok (.ifCond .ne 17, 3) := by decide +kernel
theorem dX9_undo_35 : decode cX9_undo 35 = .ok (.aload_n 0, 1) := by decide +kernel
theorem dX9_undo_36 : decode cX9_undo 36 = .ok (.iconst 2, 1) := by decide +kernel
theorem dX9_undo_37 : decode cX9_undo 37 = .ok (.invokevirtual 144, 3) := by decide +kernel
theorem dX9_undo_40 : decode cX9_undo 40 = .ok (.ifCond .le 7, 3) := by decide +kernel
theorem dX9_undo_43 : decode cX9_undo 43 = .ok (.iconst 1, 1) := by decide +kernel
theorem dX9_undo_44 : decode cX9_undo 44 = .ok (.goto 4, 3) := by decide +kernel
theorem dX9_undo_47 : decode cX9_undo 47 = .ok (.iconst 0, 1) := by decide +kernel
theorem dX9_undo_48 : decode cX9_undo 48 = .ok (.ireturn, 1) := by decide +kernel
theorem dX9_undo_49 : decode cX9_undo 49 = .ok (.sipush 200, 3) := by decide +kernel
theorem dX9_undo_52 : decode cX9_undo 52 = .ok (.iload_n 1, 1) := by decide +kernel
theorem dX9_undo_53 : decode cX9_undo 53 = .ok (.imul, 1) := by decide +kernel
theorem dX9_undo_54 : decode cX9_undo 54 = .ok (.aload_n 0, 1) := by decide +kernel
theorem dX9_undo_55 : decode cX9_undo 55 = .ok (.getfield 77, 3) := by decide +kernel
theorem dX9_undo_58 : decode cX9_undo 58 = .ok (.iload_n 1, 1) := by decide +kernel
theorem dX9_undo_59 : decode cX9_undo 59 = .ok (.iaload, 1) := by decide +kernel
theorem dX9_undo_60 : decode cX9_undo 60 = .ok (.iadd, 1) := by decide +kernel
theorem dX9_undo_61 : decode cX9_undo 61 = .ok (.iconst 1, 1) := by decide +kernel
theorem dX9_undo_62 : decode cX9_undo 62 = .ok (.isub, 1) := by decide +kernel
theorem dX9_undo_63 : decode cX9_undo 63 = .ok (.istore_n 2, 1) := by decide +kernel
theorem dX9_undo_64 : decode cX9_undo 64 = .ok (.aload_n 0, 1) := by decide +kernel
theorem dX9_undo_65 : decode cX9_undo 65 = .ok (.getfield 65, 3) := by decide +kernel
theorem dX9_undo_68 : decode cX9_undo 68 = .ok (.iload_n 2, 1) := by decide +kernel
theorem dX9_undo_69 : decode cX9_undo 69 = .ok (.iaload, 1) := by decide +kernel
theorem dX9_undo_70 : decode cX9_undo 70 = .ok (.iconst 1, 1) := by decide +kernel
theorem dX9_undo_71 : decode cX9_undo 71 = .ok (.if_icmp .ne 7, 3) := by decide +kernel
theorem dX9_undo_74 : decode cX9_undo 74 = .ok (.iconst 1, 1) := by decide +kernel
theorem dX9_undo_75 : decode cX9_undo 75 = .ok (.goto 4, 3) := by decide +kernel
theorem dX9_undo_78 : decode cX9_undo 78 = .ok (.iconst 0, 1) := by decide +kernel
theorem dX9_undo_79 : decode cX9_undo 79 = .ok (.istore_n 3, 1) := by decide +kernel
theorem dX9_undo_80 : decode cX9_undo 80 = .ok (.iload_n 3, 1) := by decide +kernel
theorem dX9_undo_81 : decode cX9_undo 81 = .ok (.ifCond .eq 17, 3) := by decide +kernel
theorem dX9_undo_84 : decode cX9_undo 84 = .ok (.aload_n 0, 1) := by decide +kernel
theorem dX9_undo_85 : decode cX9_undo 85 = .ok (.iload_n 1, 1) := by decide +kernel
theorem dX9_undo_86 : decode cX9_undo 86 = .ok (.aload_n 0, 1) := by decide +kernel
theorem dX9_undo_87 : decode cX9_undo 87 = .ok (.getfield 74, 3) := by decide +kernel
theorem dX9_undo_90 : decode cX9_undo 90 = .ok (.iload_n 2, 1) := by decide +kernel
theorem dX9_undo_91 : decode cX9_undo 91 = .ok (.iaload, 1) := by decide +kernel
theorem dX9_undo_92 : decode cX9_undo 92 = .ok (.invokevirtual 160, 3) := by decide +kernel
theorem dX9_undo_95 : decode cX9_undo 95 = .ok (.goto 9, 3) := by decide +kernel
theorem dX9_undo_98 : decode cX9_undo 98 = .ok (.aload_n 0, 1) := by decide +kernel
theorem dX9_undo_99 : decode cX9_undo 99 = .ok (.getfield 68, 3) := by decide +kernel
theorem dX9_undo_102 : decode cX9_undo 102 = .ok (.iload_n 2, 1) := by decide +kernel
theorem dX9_undo_103 : decode cX9_undo 103 = .ok (.iaload, 1) := by decide +kernel
theorem dX9_undo_104 : decode cX9_undo 104 = .ok (.istore 4, 2) := by decide +kernel
theorem dX9_undo_106 : decode cX9_undo 106 = .ok (.iload 4, 2) := by decide +kernel
theorem dX9_undo_108 : decode cX9_undo 108 = .ok (.ifCond .lt 42, 3) := by decide +kernel
theorem dX9_undo_111 : decode cX9_undo 111 = .ok (.iload_n 3, 1) := by decide +kernel
theorem dX9_undo_112 : decode cX9_undo 112 = .ok (.ifCond .eq 16, 3) := by decide +kernel
theorem dX9_undo_115 : decode cX9_undo 115 = .ok (.aload_n 0, 1) := by decide +kernel
theorem dX9_undo_116 : decode cX9_undo 116 = .ok (.getfield 125, 3) := by decide +kernel
theorem dX9_undo_119 : decode cX9_undo 119 = .ok (.sipush 200, 3) := by decide +kernel
theorem dX9_undo_122 : decode cX9_undo 122 = .ok (.if_icmp .ne 28, 3) := by decide +kernel
theorem dX9_undo_125 : decode cX9_undo 125 = .ok (.goto 11, 3) := by decide +kernel
theorem dX9_undo_128 : decode cX9_undo 128 = .ok (.aload_n 0, 1) := by decide +kernel
theorem dX9_undo_129 : decode cX9_undo 129 = .ok (.iload_n 1, 1) := by decide +kernel
theorem dX9_undo_130 : decode cX9_undo 130 = .ok (.invokevirtual 150, 3) := by decide +kernel
theorem dX9_undo_133 : decode cX9_undo 133 = .ok (.ifCond .eq 17, 3) := by decide +kernel
theorem dX9_undo_136 : decode cX9_undo 136 = .ok (.aload_n 0, 1) := by decide +kernel
theorem dX9_undo_137 : decode cX9_undo 137 = .ok (.iconst 3, 1) := by decide +kernel
theorem dX9_undo_138 : decode cX9_undo 138 = .ok (.invokevirtual 144, 3) := by decide +kernel
theorem dX9_undo_141 : decode cX9_undo 141 = .ok (.ifCond .le 7, 3) := by decide +kernel
theorem dX9_undo_144 : decode cX9_undo 144 = .ok (.iconst 1, 1) := by decide +kernel
theorem dX9_undo_145 : decode cX9_undo 145 = .ok (.goto 4, 3) := by decide +kernel
theorem dX9_undo_148 : decode cX9_undo 148 = .ok (.iconst 0, 1) := by decide +kernel
theorem dX9_undo_149 : decode cX9_undo 149 = .ok (.ireturn, 1) := by decide +kernel
theorem dX9_undo_150 : decode cX9_undo 150 = .ok (.aload_n 0, 1) := by decide +kernel
theorem dX9_undo_151 : decode cX9_undo 151 = .ok (.getfield 77, 3) := by decide +kernel
theorem dX9_undo_154 : decode cX9_undo 154 = .ok (.iload_n 1, 1) := by decide +kernel
theorem dX9_undo_155 : decode cX9_undo 155 = .ok (.dup2, 1) := by decide +kernel
theorem dX9_undo_156 : decode cX9_undo 156 = .ok (.iaload, 1) := by decide +kernel
theorem dX9_undo_157 : decode cX9_undo 157 = .ok (.iconst 1, 1) := by decide +kernel
theorem dX9_undo_158 : decode cX9_undo 158 = .ok (.isub, 1) := by decide +kernel
theorem dX9_undo_159 : decode cX9_undo 159 = .ok (.iastore, 1) := by decide +kernel
theorem dX9_undo_160 : decode cX9_undo 160 = .ok (.iload 4, 2) := by decide +kernel
theorem dX9_undo_162 : decode cX9_undo 162 = .ok (.ifCond .lt 26, 3) := by decide +kernel
theorem dX9_undo_165 : decode cX9_undo 165 = .ok (.aload_n 0, 1) := by decide +kernel
theorem dX9_undo_166 : decode cX9_undo 166 = .ok (.iload_n 1, 1) := by decide +kernel
theorem dX9_undo_167 : decode cX9_undo 167 = .ok (.iload_n 3, 1) := by decide +kernel
theorem dX9_undo_168 : decode cX9_undo 168 = .ok (.ifCond .eq 7, 3) := by decide +kernel
theorem dX9_undo_171 : decode cX9_undo 171 = .ok (.iconst 2, 1) := by decide +kernel
theorem dX9_undo_172 : decode cX9_undo 172 = .ok (.goto 4, 3) := by decide +kernel
theorem dX9_undo_175 : decode cX9_undo 175 = .ok (.iconst 1, 1) := by decide +kernel
theorem dX9_undo_176 : decode cX9_undo 176 = .ok (.iload 4, 2) := by decide +kernel
theorem dX9_undo_178 : decode cX9_undo 178 = .ok (.aload_n 0, 1) := by decide +kernel
theorem dX9_undo_179 : decode cX9_undo 179 = .ok (.getfield 71, 3) := by decide +kernel
theorem dX9_undo_182 : decode cX9_undo 182 = .ok (.iload_n 2, 1) := by decide +kernel
theorem dX9_undo_183 : decode cX9_undo 183 = .ok (.iaload, 1) := by decide +kernel
theorem dX9_undo_184 : decode cX9_undo 184 = .ok (.iconst 0, 1) := by decide +kernel
theorem dX9_undo_185 : decode cX9_undo 185 = .ok (.invokevirtual 153, 3) := by decide +kernel
theorem dX9_undo_188 : decode cX9_undo 188 = .ok (.iload 4, 2) := by decide +kernel
theorem dX9_undo_190 : decode cX9_undo 190 = .ok (.ifCond .lt 7, 3) := by decide +kernel
theorem dX9_undo_193 : decode cX9_undo 193 = .ok (.iconst 1, 1) := by decide +kernel
theorem dX9_undo_194 : decode cX9_undo 194 = .ok (.goto 4, 3) := by decide +kernel
theorem dX9_undo_197 : decode cX9_undo 197 = .ok (.iconst 0, 1) := by decide +kernel
theorem dX9_undo_198 : decode cX9_undo 198 = .ok (.ireturn, 1) := by decide +kernel
theorem dX9_enters_0 : decode cX9_enters 0 = .ok (.aload_n 0, 1) := by decide +kernel
theorem dX9_enters_1 : decode cX9_enters 1 = .ok (.getfield 80, 3) := by decide +kernel
theorem dX9_enters_4 : decode cX9_enters 4 = .ok (.aload_n 0, 1) := by decide +kernel
theorem dX9_enters_5 : decode cX9_enters 5 = .ok (.getfield 55, 3) := by decide +kernel
theorem dX9_enters_8 : decode cX9_enters 8 = .ok (.iload_n 1, 1) := by decide +kernel
theorem dX9_enters_9 : decode cX9_enters 9 = .ok (.iaload, 1) := by decide +kernel
theorem dX9_enters_10 : decode cX9_enters 10 = .ok (.iaload, 1) := by decide +kernel
theorem dX9_enters_11 : decode cX9_enters 11 = .ok (.istore_n 2, 1) := by decide +kernel
theorem dX9_enters_12 : decode cX9_enters 12 = .ok (.iload_n 2, 1) := by decide +kernel
theorem dX9_enters_13 : decode cX9_enters 13 = .ok (.aload_n 0, 1) := by decide +kernel
theorem dX9_enters_14 : decode cX9_enters 14 = .ok (.getfield 163, 3) := by decide +kernel
theorem dX9_enters_17 : decode cX9_enters 17 = .ok (.if_icmp .ge 52, 3) := by decide +kernel
theorem dX9_enters_20 : decode cX9_enters 20 = .ok (.aload_n 0, 1) := by decide +kernel
theorem dX9_enters_21 : decode cX9_enters 21 = .ok (.sipush 1200, 3) := by decide +kernel
theorem dX9_enters_24 : decode cX9_enters 24 = .ok (.iload_n 2, 1) := by decide +kernel
theorem dX9_enters_25 : decode cX9_enters 25 = .ok (.iadd, 1) := by decide +kernel
theorem dX9_enters_26 : decode cX9_enters 26 = .ok (.sipush 1400, 3) := by decide +kernel
theorem dX9_enters_29 : decode cX9_enters 29 = .ok (.invokevirtual 119, 3) := by decide +kernel
theorem dX9_enters_32 : decode cX9_enters 32 = .ok (.iconst 0, 1) := by decide +kernel
theorem dX9_enters_33 : decode cX9_enters 33 = .ok (.istore_n 3, 1) := by decide +kernel
theorem dX9_enters_34 : decode cX9_enters 34 = .ok (.iload_n 3, 1) := by decide +kernel
theorem dX9_enters_35 : decode cX9_enters 35 = .ok (.aload_n 0, 1) := by decide +kernel
theorem dX9_enters_36 : decode cX9_enters 36 = .ok (.getfield 52, 3) := by decide +kernel
theorem dX9_enters_39 : decode cX9_enters 39 = .ok (.iload_n 1, 1) := by decide +kernel
theorem dX9_enters_40 : decode cX9_enters 40 = .ok (.iaload, 1) := by decide +kernel
theorem dX9_enters_41 : decode cX9_enters 41 = .ok (.if_icmp .ge 22, 3) := by decide +kernel
theorem dX9_enters_44 : decode cX9_enters 44 = .ok (.aload_n 0, 1) := by decide +kernel
theorem dX9_enters_45 : decode cX9_enters 45 = .ok (.iload_n 1, 1) := by decide +kernel
theorem dX9_enters_46 : decode cX9_enters 46 = .ok (.invokestatic 122, 3) := by decide +kernel
theorem dX9_enters_49 : decode cX9_enters 49 = .ok (.iload_n 3, 1) := by decide +kernel
theorem dX9_enters_50 : decode cX9_enters 50 = .ok (.iadd, 1) := by decide +kernel
theorem dX9_enters_51 : decode cX9_enters 51 = .ok (.sipush 1400, 3) := by decide +kernel
theorem dX9_enters_54 : decode cX9_enters 54 = .ok (.invokevirtual 166, 3) := by decide +kernel
theorem dX9_enters_57 : decode cX9_enters 57 = .ok (.iinc 3 1, 3) := by decide +kernel
theorem dX9_enters_60 : decode cX9_enters 60 = .ok (.goto (-26), 3) := by decide +kernel
theorem dX9_enters_63 : decode cX9_enters 63 = .ok (.iinc 2 1, 3) := by decide +kernel
theorem dX9_enters_66 : decode cX9_enters 66 = .ok (.goto (-54), 3) := by decide +kernel
theorem dX9_enters_69 : decode cX9_enters 69 = .ok (.iconst 0, 1) := by decide +kernel
theorem dX9_enters_70 : decode cX9_enters 70 = .ok (.istore_n 2, 1) := by decide +kernel
theorem dX9_enters_71 : decode cX9_enters 71 = .ok (.iload_n 2, 1) := by decide +kernel
theorem dX9_enters_72 : decode cX9_enters 72 = .ok (.aload_n 0, 1) := by decide +kernel
theorem dX9_enters_73 : decode cX9_enters 73 = .ok (.getfield 52, 3) := by decide +kernel
theorem dX9_enters_76 : decode cX9_enters 76 = .ok (.iload_n 1, 1) := by decide +kernel
theorem dX9_enters_77 : decode cX9_enters 77 = .ok (.iaload, 1) := by decide +kernel
theorem dX9_enters_78 : decode cX9_enters 78 = .ok (.if_icmp .ge 50, 3) := by decide +kernel
theorem dX9_enters_81 : decode cX9_enters 81 = .ok (.aload_n 0, 1) := by decide +kernel
theorem dX9_enters_82 : decode cX9_enters 82 = .ok (.iload_n 1, 1) := by decide +kernel
theorem dX9_enters_83 : decode cX9_enters 83 = .ok (.invokestatic 122, 3) := by decide +kernel
theorem dX9_enters_86 : decode cX9_enters 86 = .ok (.iload_n 2, 1) := by decide +kernel
theorem dX9_enters_87 : decode cX9_enters 87 = .ok (.iadd, 1) := by decide +kernel
theorem dX9_enters_88 : decode cX9_enters 88 = .ok (.sipush 1200, 3) := by decide +kernel
theorem dX9_enters_91 : decode cX9_enters 91 = .ok (.aload_n 0, 1) := by decide +kernel
theorem dX9_enters_92 : decode cX9_enters 92 = .ok (.getfield 163, 3) := by decide +kernel
theorem dX9_enters_95 : decode cX9_enters 95 = .ok (.iadd, 1) := by decide +kernel
theorem dX9_enters_96 : decode cX9_enters 96 = .ok (.invokevirtual 119, 3) := by decide +kernel
theorem dX9_enters_99 : decode cX9_enters 99 = .ok (.aload_n 0, 1) := by decide +kernel
theorem dX9_enters_100 : decode cX9_enters 100 = .ok (.iconst 2, 1) := by decide +kernel
theorem dX9_enters_101 : decode cX9_enters 101 = .ok (.sipush 1200, 3) := by decide +kernel
theorem dX9_enters_104 : decode cX9_enters 104 = .ok (.aload_n 0, 1) := by decide +kernel
theorem dX9_enters_105 : decode cX9_enters 105 = .ok (.getfield 163, 3) := by decide +kernel
theorem dX9_enters_108 : decode cX9_enters 108 = .ok (.iadd, 1) := by decide +kernel
theorem dX9_enters_109 : decode cX9_enters 109 = .ok (.invokevirtual 128, 3) := by decide +kernel
theorem dX9_enters_112 : decode cX9_enters 112 = .ok (.aload_n 0, 1) := by decide +kernel
theorem dX9_enters_113 : decode cX9_enters 113 = .ok (.dup, 1) := by decide +kernel
theorem dX9_enters_114 : decode cX9_enters 114 = .ok (.getfield 163, 3) := by decide +kernel
theorem dX9_enters_117 : decode cX9_enters 117 = .ok (.iconst 1, 1) := by decide +kernel
theorem dX9_enters_118 : decode cX9_enters 118 = .ok (.iadd, 1) := by decide +kernel
theorem dX9_enters_119 : decode cX9_enters 119 = .ok (.putfield 163, 3) := by decide +kernel
theorem dX9_enters_122 : decode cX9_enters 122 = .ok (.iinc 2 1, 3) := by decide +kernel
theorem dX9_enters_125 : decode cX9_enters 125 = .ok (.goto (-54), 3) := by decide +kernel
theorem dX9_enters_128 : decode cX9_enters 128 = .ok (.aload_n 0, 1) := by decide +kernel
theorem dX9_enters_129 : decode cX9_enters 129 = .ok (.getfield 83, 3) := by decide +kernel
theorem dX9_enters_132 : decode cX9_enters 132 = .ok (.aload_n 0, 1) := by decide +kernel
theorem dX9_enters_133 : decode cX9_enters 133 = .ok (.getfield 169, 3) := by decide +kernel
theorem dX9_enters_136 : decode cX9_enters 136 = .ok (.iload_n 1, 1) := by decide +kernel
theorem dX9_enters_137 : decode cX9_enters 137 = .ok (.iastore, 1) := by decide +kernel
theorem dX9_enters_138 : decode cX9_enters 138 = .ok (.aload_n 0, 1) := by decide +kernel
theorem dX9_enters_139 : decode cX9_enters 139 = .ok (.dup, 1) := by decide +kernel
theorem dX9_enters_140 : decode cX9_enters 140 = .ok (.getfield 169, 3) := by decide +kernel
theorem dX9_enters_143 : decode cX9_enters 143 = .ok (.iconst 1, 1) := by decide +kernel
theorem dX9_enters_144 : decode cX9_enters 144 = .ok (.iadd, 1) := by decide +kernel
theorem dX9_enters_145 : decode cX9_enters 145 = .ok (.putfield 169, 3) := by decide +kernel
theorem dX9_enters_148 : decode cX9_enters 148 = .ok (.aload_n 0, 1) := by decide +kernel
theorem dX9_enters_149 : decode cX9_enters 149 = .ok (.getfield 80, 3) := by decide +kernel
theorem dX9_enters_152 : decode cX9_enters 152 = .ok (.aload_n 0, 1) := by decide +kernel
theorem dX9_enters_153 : decode cX9_enters 153 = .ok (.getfield 169, 3) := by decide +kernel
theorem dX9_enters_156 : decode cX9_enters 156 = .ok (.aload_n 0, 1) := by decide +kernel
theorem dX9_enters_157 : decode cX9_enters 157 = .ok (.getfield 163, 3) := by decide +kernel
theorem dX9_enters_160 : decode cX9_enters 160 = .ok (.iastore, 1) := by decide +kernel
theorem dX9_enters_161 : decode cX9_enters 161 = .ok (.aload_n 0, 1) := by decide +kernel
theorem dX9_enters_162 : decode cX9_enters 162 = .ok (.getfield 62, 3) := by decide +kernel
theorem dX9_enters_165 : decode cX9_enters 165 = .ok (.iload_n 1, 1) := by decide +kernel
theorem dX9_enters_166 : decode cX9_enters 166 = .ok (.iconst 0, 1) := by decide +kernel
theorem dX9_enters_167 : decode cX9_enters 167 = .ok (.bastore, 1) := by decide +kernel
theorem dX9_enters_168 : decode cX9_enters 168 = .ok (.return_, 1) := by decide +kernel
theorem dX9_deliverUp_0 : decode cX9_deliverUp 0 = .ok (.aload_n 0, 1) := by decide +kernel
theorem dX9_deliverUp_1 : decode cX9_deliverUp 1 = .ok (.iconst 0, 1) := by decide +kernel
theorem dX9_deliverUp_2 : decode cX9_deliverUp 2 = .ok (.putfield 92, 3) := by decide +kernel
theorem dX9_deliverUp_5 : decode cX9_deliverUp 5 = .ok (.iload_n 1, 1) := by decide +kernel
theorem dX9_deliverUp_6 : decode cX9_deliverUp 6 = .ok (.invokestatic 140, 3) := by decide +kernel
theorem dX9_deliverUp_9 : decode cX9_deliverUp 9 = .ok (.ifCond .ne 9, 3) := by decide +kernel
theorem dX9_deliverUp_12 : decode cX9_deliverUp 12 = .ok (.aload_n 0, 1) := by decide +kernel
theorem dX9_deliverUp_13 : decode cX9_deliverUp 13 = .ok (.iconst 1, 1) := by decide +kernel
theorem dX9_deliverUp_14 : decode cX9_deliverUp 14 = .ok (.invokevirtual 144, 3) := by decide +kernel
theorem dX9_deliverUp_17 : decode cX9_deliverUp 17 = .ok (.ireturn, 1) := by decide +kernel
theorem dX9_deliverUp_18 : decode cX9_deliverUp 18 = .ok (.aload_n 0, 1) := by decide +kernel
theorem dX9_deliverUp_19 : decode cX9_deliverUp 19 = .ok (.getfield 62, 3) := by decide +kernel
theorem dX9_deliverUp_22 : decode cX9_deliverUp 22 = .ok (.iload_n 1, 1) := by decide +kernel
theorem dX9_deliverUp_23 : decode cX9_deliverUp 23 = .ok (.baload, 1) := by decide +kernel
theorem dX9_deliverUp_24 : decode cX9_deliverUp 24 = .ok (.ifCond .ne 9, 3) := by decide +kernel
theorem dX9_deliverUp_27 : decode cX9_deliverUp 27 = .ok (.aload_n 0, 1) := by decide +kernel
theorem dX9_deliverUp_28 : decode cX9_deliverUp 28 = .ok (.iconst 2, 1) := by decide +kernel
theorem dX9_deliverUp_29 : decode cX9_deliverUp 29 = .ok (.invokevirtual 144, 3) := by decide +kernel
theorem dX9_deliverUp_32 : decode cX9_deliverUp 32 = .ok (.ireturn, 1) := by decide +kernel
theorem dX9_deliverUp_33 : decode cX9_deliverUp 33 = .ok (.aload_n 0, 1) := by decide +kernel
theorem dX9_deliverUp_34 : decode cX9_deliverUp 34 = .ok (.iload_n 1, 1) := by decide +kernel
theorem dX9_deliverUp_35 : decode cX9_deliverUp 35 = .ok (.invokevirtual 172, 3) := by decide +kernel
theorem dX9_deliverUp_38 : decode cX9_deliverUp 38 = .ok (.aload_n 0, 1) := by decide +kernel
theorem dX9_deliverUp_39 : decode cX9_deliverUp 39 = .ok (.getfield 52, 3) := by decide +kernel
theorem dX9_deliverUp_42 : decode cX9_deliverUp 42 = .ok (.iload_n 1, 1) := by decide +kernel
theorem dX9_deliverUp_43 : decode cX9_deliverUp 43 = .ok (.iaload, 1) := by decide +kernel
theorem dX9_deliverUp_44 : decode cX9_deliverUp 44 = .ok (.ireturn, 1) := by decide +kernel
theorem dX9_goesOn_0 : decode cX9_goesOn 0 = .ok (.aload_n 0, 1) := by decide +kernel
theorem dX9_goesOn_1 : decode cX9_goesOn 1 = .ok (.getfield 7, 3) := by decide +kernel
theorem dX9_goesOn_4 : decode cX9_goesOn 4 = .ok (.iload_n 1, 1) := by decide +kernel
theorem dX9_goesOn_5 : decode cX9_goesOn 5 = .ok (.iaload, 1) := by decide +kernel
theorem dX9_goesOn_6 : decode cX9_goesOn 6 = .ok (.aload_n 0, 1) := by decide +kernel
theorem dX9_goesOn_7 : decode cX9_goesOn 7 = .ok (.getfield 7, 3) := by decide +kernel
theorem dX9_goesOn_10 : decode cX9_goesOn 10 = .ok (.iload_n 2, 1) := by decide +kernel
theorem dX9_goesOn_11 : decode cX9_goesOn 11 = .ok (.iaload, 1) := by decide +kernel
theorem dX9_goesOn_12 : decode cX9_goesOn 12 = .ok (.if_icmp .eq 5, 3) := by decide +kernel
theorem dX9_goesOn_15 : decode cX9_goesOn 15 = .ok (.iconst 0, 1) := by decide +kernel
theorem dX9_goesOn_16 : decode cX9_goesOn 16 = .ok (.ireturn, 1) := by decide +kernel
theorem dX9_goesOn_17 : decode cX9_goesOn 17 = .ok (.aload_n 0, 1) := by decide +kernel
theorem dX9_goesOn_18 : decode cX9_goesOn 18 = .ok (.getfield 7, 3) := by decide +kernel
theorem dX9_goesOn_21 : decode cX9_goesOn 21 = .ok (.iload_n 2, 1) := by decide +kernel
theorem dX9_goesOn_22 : decode cX9_goesOn 22 = .ok (.iaload, 1) := by decide +kernel
theorem dX9_goesOn_23 : decode cX9_goesOn 23 = .ok (.iconst 1, 1) := by decide +kernel
theorem dX9_goesOn_24 : decode cX9_goesOn 24 = .ok (.if_icmp .ne 28, 3) := by decide +kernel
theorem dX9_goesOn_27 : decode cX9_goesOn 27 = .ok (.aload_n 0, 1) := by decide +kernel
theorem dX9_goesOn_28 : decode cX9_goesOn 28 = .ok (.getfield 13, 3) := by decide +kernel
theorem dX9_goesOn_31 : decode cX9_goesOn 31 = .ok (.iload_n 2, 1) := by decide +kernel
theorem dX9_goesOn_32 : decode cX9_goesOn 32 = .ok (.iaload, 1) := by decide +kernel
theorem dX9_goesOn_33 : decode cX9_goesOn 33 = .ok (.aload_n 0, 1) := by decide +kernel
theorem dX9_goesOn_34 : decode cX9_goesOn 34 = .ok (.getfield 13, 3) := by decide +kernel
theorem dX9_goesOn_37 : decode cX9_goesOn 37 = .ok (.iload_n 1, 1) := by decide +kernel
theorem dX9_goesOn_38 : decode cX9_goesOn 38 = .ok (.iaload, 1) := by decide +kernel
theorem dX9_goesOn_39 : decode cX9_goesOn 39 = .ok (.iconst 1, 1) := by decide +kernel
theorem dX9_goesOn_40 : decode cX9_goesOn 40 = .ok (.iadd, 1) := by decide +kernel
theorem dX9_goesOn_41 : decode cX9_goesOn 41 = .ok (.if_icmp .ne 7, 3) := by decide +kernel
theorem dX9_goesOn_44 : decode cX9_goesOn 44 = .ok (.iconst 1, 1) := by decide +kernel
theorem dX9_goesOn_45 : decode cX9_goesOn 45 = .ok (.goto 44, 3) := by decide +kernel
theorem dX9_goesOn_48 : decode cX9_goesOn 48 = .ok (.iconst 0, 1) := by decide +kernel
theorem dX9_goesOn_49 : decode cX9_goesOn 49 = .ok (.goto 40, 3) := by decide +kernel
theorem dX9_goesOn_52 : decode cX9_goesOn 52 = .ok (.aload_n 0, 1) := by decide +kernel
theorem dX9_goesOn_53 : decode cX9_goesOn 53 = .ok (.getfield 13, 3) := by decide +kernel
theorem dX9_goesOn_56 : decode cX9_goesOn 56 = .ok (.iload_n 2, 1) := by decide +kernel
theorem dX9_goesOn_57 : decode cX9_goesOn 57 = .ok (.iaload, 1) := by decide +kernel
theorem dX9_goesOn_58 : decode cX9_goesOn 58 = .ok (.aload_n 0, 1) := by decide +kernel
theorem dX9_goesOn_59 : decode cX9_goesOn 59 = .ok (.getfield 13, 3) := by decide +kernel
theorem dX9_goesOn_62 : decode cX9_goesOn 62 = .ok (.iload_n 1, 1) := by decide +kernel
theorem dX9_goesOn_63 : decode cX9_goesOn 63 = .ok (.iaload, 1) := by decide +kernel
theorem dX9_goesOn_64 : decode cX9_goesOn 64 = .ok (.if_icmp .eq 20, 3) := by decide +kernel
theorem dX9_goesOn_67 : decode cX9_goesOn 67 = .ok (.aload_n 0, 1) := by decide +kernel
theorem dX9_goesOn_68 : decode cX9_goesOn 68 = .ok (.getfield 13, 3) := by decide +kernel
theorem dX9_goesOn_71 : decode cX9_goesOn 71 = .ok (.iload_n 2, 1) := by decide +kernel
theorem dX9_goesOn_72 : decode cX9_goesOn 72 = .ok (.iaload, 1) := by decide +kernel
theorem dX9_goesOn_73 : decode cX9_goesOn 73 = .ok (.aload_n 0, 1) := by decide +kernel
theorem dX9_goesOn_74 : decode cX9_goesOn 74 = .ok (.getfield 13, 3) := by decide +kernel
theorem dX9_goesOn_77 : decode cX9_goesOn 77 = .ok (.iload_n 1, 1) := by decide +kernel
theorem dX9_goesOn_78 : decode cX9_goesOn 78 = .ok (.iaload, 1) := by decide +kernel
theorem dX9_goesOn_79 : decode cX9_goesOn 79 = .ok (.iconst 1, 1) := by decide +kernel
theorem dX9_goesOn_80 : decode cX9_goesOn 80 = .ok (.isub, 1) := by decide +kernel
theorem dX9_goesOn_81 : decode cX9_goesOn 81 = .ok (.if_icmp .ne 7, 3) := by decide +kernel
theorem dX9_goesOn_84 : decode cX9_goesOn 84 = .ok (.iconst 1, 1) := by decide +kernel
theorem dX9_goesOn_85 : decode cX9_goesOn 85 = .ok (.goto 4, 3) := by decide +kernel
theorem dX9_goesOn_88 : decode cX9_goesOn 88 = .ok (.iconst 0, 1) := by decide +kernel
theorem dX9_goesOn_89 : decode cX9_goesOn 89 = .ok (.ireturn, 1) := by decide +kernel
theorem dX9_run_0 : decode cX9_run 0 = .ok (.iconst 1, 1) := by decide +kernel
theorem dX9_run_1 : decode cX9_run 1 = .ok (.istore_n 3, 1) := by decide +kernel
theorem dX9_run_2 : decode cX9_run 2 = .ok (.iload_n 2, 1) := by decide +kernel
theorem dX9_run_3 : decode cX9_run 3 = .ok (.iload_n 3, 1) := by decide +kernel
theorem dX9_run_4 : decode cX9_run 4 = .ok (.iadd, 1) := by decide +kernel
theorem dX9_run_5 : decode cX9_run 5 = .ok (.aload_n 0, 1) := by decide +kernel
theorem dX9_run_6 : decode cX9_run 6 = .ok (.getfield 40, 3) := by decide +kernel
theorem dX9_run_9 : decode cX9_run 9 = .ok (.iload_n 1, 1) := by decide +kernel
theorem dX9_run_10 : decode cX9_run 10 = .ok (.iaload, 1) := by decide +kernel
theorem dX9_run_11 : decode cX9_run 11 = .ok (.if_icmp .ge 34, 3) := by decide +kernel
theorem dX9_run_14 : decode cX9_run 14 = .ok (.aload_n 0, 1) := by decide +kernel
theorem dX9_run_15 : decode cX9_run 15 = .ok (.iload_n 1, 1) := by decide +kernel
theorem dX9_run_16 : decode cX9_run 16 = .ok (.invokestatic 112, 3) := by decide +kernel
theorem dX9_run_19 : decode cX9_run 19 = .ok (.iload_n 2, 1) := by decide +kernel
theorem dX9_run_20 : decode cX9_run 20 = .ok (.iadd, 1) := by decide +kernel
theorem dX9_run_21 : decode cX9_run 21 = .ok (.iload_n 3, 1) := by decide +kernel
theorem dX9_run_22 : decode cX9_run 22 = .ok (.iadd, 1) := by decide +kernel
theorem dX9_run_23 : decode cX9_run 23 = .ok (.iconst 1, 1) := by decide +kernel
theorem dX9_run_24 : decode cX9_run 24 = .ok (.isub, 1) := by decide +kernel
theorem dX9_run_25 : decode cX9_run 25 = .ok (.iload_n 1, 1) := by decide +kernel
theorem dX9_run_26 : decode cX9_run 26 = .ok (.invokestatic 112, 3) := by decide +kernel
theorem dX9_run_29 : decode cX9_run 29 = .ok (.iload_n 2, 1) := by decide +kernel
theorem dX9_run_30 : decode cX9_run 30 = .ok (.iadd, 1) := by decide +kernel
theorem dX9_run_31 : decode cX9_run 31 = .ok (.iload_n 3, 1) := by decide +kernel
theorem dX9_run_32 : decode cX9_run 32 = .ok (.iadd, 1) := by decide +kernel
theorem dX9_run_33 : decode cX9_run 33 = .ok (.invokevirtual 176, 3) := by decide +kernel
theorem dX9_run_36 : decode cX9_run 36 = .ok (.ifCond .eq 9, 3) := by decide +kernel
theorem dX9_run_39 : decode cX9_run 39 = .ok (.iinc 3 1, 3) := by decide +kernel
theorem dX9_run_42 : decode cX9_run 42 = .ok (.goto (-40), 3) := by decide +kernel
theorem dX9_run_45 : decode cX9_run 45 = .ok (.iload_n 3, 1) := by decide +kernel
theorem dX9_run_46 : decode cX9_run 46 = .ok (.ireturn, 1) := by decide +kernel
theorem dX9_forgetsNothings_0 : decode cX9_forgetsNothings 0 = .ok (.iconst 0, 1) := by decide +kernel
theorem dX9_forgetsNothings_1 : decode cX9_forgetsNothings 1 = .ok (.istore_n 2, 1) := by decide +kernel
theorem dX9_forgetsNothings_2 : decode cX9_forgetsNothings 2 = .ok (.iconst 0, 1) := by decide +kernel
theorem dX9_forgetsNothings_3 : decode cX9_forgetsNothings 3 = .ok (.istore_n 3, 1) := by decide +kernel
theorem dX9_forgetsNothings_4 : decode cX9_forgetsNothings 4 = .ok (.iload_n 3, 1) := by decide +kernel
theorem dX9_forgetsNothings_5 : decode cX9_forgetsNothings 5 = .ok (.aload_n 0, 1) := by decide +kernel
theorem dX9_forgetsNothings_6 : decode cX9_forgetsNothings 6 = .ok (.getfield 40, 3) := by decide +kernel
theorem dX9_forgetsNothings_9 : decode cX9_forgetsNothings 9 = .ok (.iload_n 1, 1) := by decide +kernel
theorem dX9_forgetsNothings_10 : decode cX9_forgetsNothings 10 = .ok (.iaload, 1) := by decide +kernel
theorem dX9_forgetsNothings_11 : decode cX9_forgetsNothings 11 = .ok (.if_icmp .ge 45, 3) := by decide +kernel
theorem dX9_forgetsNothings_14 : decode cX9_forgetsNothings 14 = .ok (.aload_n 0, 1) := by decide +kernel
theorem dX9_forgetsNothings_15 : decode cX9_forgetsNothings 15 = .ok (.getfield 7, 3) := by decide +kernel
theorem dX9_forgetsNothings_18 : decode cX9_forgetsNothings 18 = .ok (.iload_n 1, 1) := by decide +kernel
theorem dX9_forgetsNothings_19 : decode cX9_forgetsNothings 19 = .ok (.invokestatic 112, 3) := by decide +kernel
theorem dX9_forgetsNothings_22 : decode cX9_forgetsNothings 22 = .ok (.iload_n 3, 1) := by decide +kernel
theorem dX9_forgetsNothings_23 : decode cX9_forgetsNothings 23 = .ok (.iadd, 1) := by decide +kernel
theorem dX9_forgetsNothings_24 : decode cX9_forgetsNothings 24 = .ok (.iaload, 1) := by decide +kernel
theorem dX9_forgetsNothings_25 : decode cX9_forgetsNothings 25 = .ok (.ifCond .ne 6, 3) := by decide +kernel
theorem dX9_forgetsNothings_28 : decode cX9_forgetsNothings 28 = .ok (.goto 22, 3) := by decide +kernel
theorem dX9_forgetsNothings_31 : decode cX9_forgetsNothings 31 = .ok (.aload_n 0, 1) := by decide +kernel
theorem dX9_forgetsNothings_32 : decode cX9_forgetsNothings 32 = .ok (.iload_n 1, 1) := by decide +kernel
theorem dX9_forgetsNothings_33 : decode cX9_forgetsNothings 33 = .ok (.invokestatic 112, 3) := by decide +kernel
theorem dX9_forgetsNothings_36 : decode cX9_forgetsNothings 36 = .ok (.iload_n 3, 1) := by decide +kernel
theorem dX9_forgetsNothings_37 : decode cX9_forgetsNothings 37 = .ok (.iadd, 1) := by decide +kernel
theorem dX9_forgetsNothings_38 : decode cX9_forgetsNothings 38 = .ok (.iload_n 1, 1) := by decide +kernel
theorem dX9_forgetsNothings_39 : decode cX9_forgetsNothings 39 = .ok (.invokestatic 112, 3) := by decide +kernel
theorem dX9_forgetsNothings_42 : decode cX9_forgetsNothings 42 = .ok (.iload_n 2, 1) := by decide +kernel
theorem dX9_forgetsNothings_43 : decode cX9_forgetsNothings 43 = .ok (.iadd, 1) := by decide +kernel
theorem dX9_forgetsNothings_44 : decode cX9_forgetsNothings 44 = .ok (.invokevirtual 119, 3) := by decide +kernel
theorem dX9_forgetsNothings_47 : decode cX9_forgetsNothings 47 = .ok (.iinc 2 1, 3) := by decide +kernel
theorem dX9_forgetsNothings_50 : decode cX9_forgetsNothings 50 = .ok (.iinc 3 1, 3) := by decide +kernel
theorem dX9_forgetsNothings_53 : decode cX9_forgetsNothings 53 = .ok (.goto (-49), 3) := by decide +kernel
theorem dX9_forgetsNothings_56 : decode cX9_forgetsNothings 56 = .ok (.aload_n 0, 1) := by decide +kernel
theorem dX9_forgetsNothings_57 : decode cX9_forgetsNothings 57 = .ok (.getfield 40, 3) := by decide +kernel
theorem dX9_forgetsNothings_60 : decode cX9_forgetsNothings 60 = .ok (.iload_n 1, 1) := by decide +kernel
theorem dX9_forgetsNothings_61 : decode cX9_forgetsNothings 61 = .ok (.iload_n 2, 1) := by decide +kernel
theorem dX9_forgetsNothings_62 : decode cX9_forgetsNothings 62 = .ok (.iastore, 1) := by decide +kernel
theorem dX9_forgetsNothings_63 : decode cX9_forgetsNothings 63 = .ok (.return_, 1) := by decide +kernel
theorem dX9_gets_0 : decode cX9_gets 0 = .ok (.aload_n 0, 1) := by decide +kernel
theorem dX9_gets_1 : decode cX9_gets 1 = .ok (.iload_n 2, 1) := by decide +kernel
theorem dX9_gets_2 : decode cX9_gets 2 = .ok (.sipush 1400, 3) := by decide +kernel
theorem dX9_gets_5 : decode cX9_gets 5 = .ok (.invokevirtual 119, 3) := by decide +kernel
theorem dX9_gets_8 : decode cX9_gets 8 = .ok (.iconst 0, 1) := by decide +kernel
theorem dX9_gets_9 : decode cX9_gets 9 = .ok (.istore_n 3, 1) := by decide +kernel
theorem dX9_gets_10 : decode cX9_gets 10 = .ok (.iload_n 3, 1) := by decide +kernel
theorem dX9_gets_11 : decode cX9_gets 11 = .ok (.aload_n 0, 1) := by decide +kernel
theorem dX9_gets_12 : decode cX9_gets 12 = .ok (.getfield 37, 3) := by decide +kernel
theorem dX9_gets_15 : decode cX9_gets 15 = .ok (.iload_n 1, 1) := by decide +kernel
theorem dX9_gets_16 : decode cX9_gets 16 = .ok (.iaload, 1) := by decide +kernel
theorem dX9_gets_17 : decode cX9_gets 17 = .ok (.if_icmp .ge 22, 3) := by decide +kernel
theorem dX9_gets_20 : decode cX9_gets 20 = .ok (.aload_n 0, 1) := by decide +kernel
theorem dX9_gets_21 : decode cX9_gets 21 = .ok (.iload_n 1, 1) := by decide +kernel
theorem dX9_gets_22 : decode cX9_gets 22 = .ok (.invokestatic 116, 3) := by decide +kernel
theorem dX9_gets_25 : decode cX9_gets 25 = .ok (.iload_n 3, 1) := by decide +kernel
theorem dX9_gets_26 : decode cX9_gets 26 = .ok (.iadd, 1) := by decide +kernel
theorem dX9_gets_27 : decode cX9_gets 27 = .ok (.sipush 1400, 3) := by decide +kernel
theorem dX9_gets_30 : decode cX9_gets 30 = .ok (.invokevirtual 166, 3) := by decide +kernel
theorem dX9_gets_33 : decode cX9_gets 33 = .ok (.iinc 3 1, 3) := by decide +kernel
theorem dX9_gets_36 : decode cX9_gets 36 = .ok (.goto (-26), 3) := by decide +kernel
theorem dX9_gets_39 : decode cX9_gets 39 = .ok (.iconst 0, 1) := by decide +kernel
theorem dX9_gets_40 : decode cX9_gets 40 = .ok (.istore_n 3, 1) := by decide +kernel
theorem dX9_gets_41 : decode cX9_gets 41 = .ok (.iload_n 3, 1) := by decide +kernel
theorem dX9_gets_42 : decode cX9_gets 42 = .ok (.aload_n 0, 1) := by decide +kernel
theorem dX9_gets_43 : decode cX9_gets 43 = .ok (.getfield 40, 3) := by decide +kernel
theorem dX9_gets_46 : decode cX9_gets 46 = .ok (.iload_n 1, 1) := by decide +kernel
theorem dX9_gets_47 : decode cX9_gets 47 = .ok (.iaload, 1) := by decide +kernel
theorem dX9_gets_48 : decode cX9_gets 48 = .ok (.if_icmp .ge 22, 3) := by decide +kernel
theorem dX9_gets_51 : decode cX9_gets 51 = .ok (.aload_n 0, 1) := by decide +kernel
theorem dX9_gets_52 : decode cX9_gets 52 = .ok (.iload_n 1, 1) := by decide +kernel
theorem dX9_gets_53 : decode cX9_gets 53 = .ok (.invokestatic 112, 3) := by decide +kernel
theorem dX9_gets_56 : decode cX9_gets 56 = .ok (.iload_n 3, 1) := by decide +kernel
theorem dX9_gets_57 : decode cX9_gets 57 = .ok (.iadd, 1) := by decide +kernel
theorem dX9_gets_58 : decode cX9_gets 58 = .ok (.sipush 1400, 3) := by decide +kernel
theorem dX9_gets_61 : decode cX9_gets 61 = .ok (.invokevirtual 166, 3) := by decide +kernel
theorem dX9_gets_64 : decode cX9_gets 64 = .ok (.iinc 3 1, 3) := by decide +kernel
theorem dX9_gets_67 : decode cX9_gets 67 = .ok (.goto (-26), 3) := by decide +kernel
theorem dX9_gets_70 : decode cX9_gets 70 = .ok (.aload_n 0, 1) := by decide +kernel
theorem dX9_gets_71 : decode cX9_gets 71 = .ok (.getfield 7, 3) := by decide +kernel
theorem dX9_gets_74 : decode cX9_gets 74 = .ok (.sipush 1400, 3) := by decide +kernel
theorem dX9_gets_77 : decode cX9_gets 77 = .ok (.iaload, 1) := by decide +kernel
theorem dX9_gets_78 : decode cX9_gets 78 = .ok (.ifCond .ne 4, 3) := by decide +kernel
theorem dX9_gets_81 : decode cX9_gets 81 = .ok (.return_, 1) := by decide +kernel
theorem dX9_gets_82 : decode cX9_gets 82 = .ok (.aload_n 0, 1) := by decide +kernel
theorem dX9_gets_83 : decode cX9_gets 83 = .ok (.iload_n 1, 1) := by decide +kernel
theorem dX9_gets_84 : decode cX9_gets 84 = .ok (.sipush 1400, 3) := by decide +kernel
theorem dX9_gets_87 : decode cX9_gets 87 = .ok (.invokevirtual 128, 3) := by decide +kernel
theorem dX9_gets_90 : decode cX9_gets 90 = .ok (.aload_n 0, 1) := by decide +kernel
theorem dX9_gets_91 : decode cX9_gets 91 = .ok (.getfield 46, 3) := by decide +kernel
theorem dX9_gets_94 : decode cX9_gets 94 = .ok (.iload_n 1, 1) := by decide +kernel
theorem dX9_gets_95 : decode cX9_gets 95 = .ok (.aload_n 0, 1) := by decide +kernel
theorem dX9_gets_96 : decode cX9_gets 96 = .ok (.aload_n 0, 1) := by decide +kernel
theorem dX9_gets_97 : decode cX9_gets 97 = .ok (.getfield 46, 3) := by decide +kernel
theorem dX9_gets_100 : decode cX9_gets 100 = .ok (.iload_n 1, 1) := by decide +kernel
theorem dX9_gets_101 : decode cX9_gets 101 = .ok (.iaload, 1) := by decide +kernel
theorem dX9_gets_102 : decode cX9_gets 102 = .ok (.sipush 1400, 3) := by decide +kernel
theorem dX9_gets_105 : decode cX9_gets 105 = .ok (.invokevirtual 108, 3) := by decide +kernel
theorem dX9_gets_108 : decode cX9_gets 108 = .ok (.iastore, 1) := by decide +kernel
theorem dX9_gets_109 : decode cX9_gets 109 = .ok (.aload_n 0, 1) := by decide +kernel
theorem dX9_gets_110 : decode cX9_gets 110 = .ok (.getfield 49, 3) := by decide +kernel
theorem dX9_gets_113 : decode cX9_gets 113 = .ok (.iload_n 1, 1) := by decide +kernel
theorem dX9_gets_114 : decode cX9_gets 114 = .ok (.aload_n 0, 1) := by decide +kernel
theorem dX9_gets_115 : decode cX9_gets 115 = .ok (.sipush 1400, 3) := by decide +kernel
theorem dX9_gets_118 : decode cX9_gets 118 = .ok (.invokevirtual 131, 3) := by decide +kernel
theorem dX9_gets_121 : decode cX9_gets 121 = .ok (.iastore, 1) := by decide +kernel
theorem dX9_gets_122 : decode cX9_gets 122 = .ok (.aload_n 0, 1) := by decide +kernel
theorem dX9_gets_123 : decode cX9_gets 123 = .ok (.iload_n 1, 1) := by decide +kernel
theorem dX9_gets_124 : decode cX9_gets 124 = .ok (.sipush 1400, 3) := by decide +kernel
theorem dX9_gets_127 : decode cX9_gets 127 = .ok (.invokevirtual 134, 3) := by decide +kernel
theorem dX9_gets_130 : decode cX9_gets 130 = .ok (.return_, 1) := by decide +kernel
theorem dX9_delivers_0 : decode cX9_delivers 0 = .ok (.aload_n 0, 1) := by decide +kernel
theorem dX9_delivers_1 : decode cX9_delivers 1 = .ok (.getfield 43, 3) := by decide +kernel
theorem dX9_delivers_4 : decode cX9_delivers 4 = .ok (.iload_n 1, 1) := by decide +kernel
theorem dX9_delivers_5 : decode cX9_delivers 5 = .ok (.iaload, 1) := by decide +kernel
theorem dX9_delivers_6 : decode cX9_delivers 6 = .ok (.istore_n 2, 1) := by decide +kernel
theorem dX9_delivers_7 : decode cX9_delivers 7 = .ok (.aload_n 0, 1) := by decide +kernel
theorem dX9_delivers_8 : decode cX9_delivers 8 = .ok (.getfield 43, 3) := by decide +kernel
theorem dX9_delivers_11 : decode cX9_delivers 11 = .ok (.iload_n 1, 1) := by decide +kernel
theorem dX9_delivers_12 : decode cX9_delivers 12 = .ok (.dup2, 1) := by decide +kernel
theorem dX9_delivers_13 : decode cX9_delivers 13 = .ok (.iaload, 1) := by decide +kernel
theorem dX9_delivers_14 : decode cX9_delivers 14 = .ok (.iconst 1, 1) := by decide +kernel
theorem dX9_delivers_15 : decode cX9_delivers 15 = .ok (.iadd, 1) := by decide +kernel
theorem dX9_delivers_16 : decode cX9_delivers 16 = .ok (.iastore, 1) := by decide +kernel
theorem dX9_delivers_17 : decode cX9_delivers 17 = .ok (.aload_n 0, 1) := by decide +kernel
theorem dX9_delivers_18 : decode cX9_delivers 18 = .ok (.getfield 83, 3) := by decide +kernel
theorem dX9_delivers_21 : decode cX9_delivers 21 = .ok (.iload_n 2, 1) := by decide +kernel
theorem dX9_delivers_22 : decode cX9_delivers 22 = .ok (.iaload, 1) := by decide +kernel
theorem dX9_delivers_23 : decode cX9_delivers 23 = .ok (.iload_n 1, 1) := by decide +kernel
theorem dX9_delivers_24 : decode cX9_delivers 24 = .ok (.if_icmp .ne 40, 3) := by decide +kernel
theorem dX9_delivers_27 : decode cX9_delivers 27 = .ok (.aload_n 0, 1) := by decide +kernel
theorem dX9_delivers_28 : decode cX9_delivers 28 = .ok (.getfield 37, 3) := by decide +kernel
theorem dX9_delivers_31 : decode cX9_delivers 31 = .ok (.iload_n 1, 1) := by decide +kernel
theorem dX9_delivers_32 : decode cX9_delivers 32 = .ok (.iconst 0, 1) := by decide +kernel
theorem dX9_delivers_33 : decode cX9_delivers 33 = .ok (.iastore, 1) := by decide +kernel
theorem dX9_delivers_34 : decode cX9_delivers 34 = .ok (.aload_n 0, 1) := by decide +kernel
theorem dX9_delivers_35 : decode cX9_delivers 35 = .ok (.getfield 58, 3) := by decide +kernel
theorem dX9_delivers_38 : decode cX9_delivers 38 = .ok (.iload_n 1, 1) := by decide +kernel
theorem dX9_delivers_39 : decode cX9_delivers 39 = .ok (.iconst 0, 1) := by decide +kernel
theorem dX9_delivers_40 : decode cX9_delivers 40 = .ok (.bastore, 1) := by decide +kernel
theorem dX9_delivers_41 : decode cX9_delivers 41 = .ok (.aload_n 0, 1) := by decide +kernel
theorem dX9_delivers_42 : decode cX9_delivers 42 = .ok (.getfield 40, 3) := by decide +kernel
theorem dX9_delivers_45 : decode cX9_delivers 45 = .ok (.iload_n 1, 1) := by decide +kernel
theorem dX9_delivers_46 : decode cX9_delivers 46 = .ok (.iaload, 1) := by decide +kernel
theorem dX9_delivers_47 : decode cX9_delivers 47 = .ok (.ifCond .le 14, 3) := by decide +kernel
theorem dX9_delivers_50 : decode cX9_delivers 50 = .ok (.aload_n 0, 1) := by decide +kernel
theorem dX9_delivers_51 : decode cX9_delivers 51 = .ok (.iload_n 1, 1) := by decide +kernel
theorem dX9_delivers_52 : decode cX9_delivers 52 = .ok (.aload_n 0, 1) := by decide +kernel
theorem dX9_delivers_53 : decode cX9_delivers 53 = .ok (.iload_n 1, 1) := by decide +kernel
theorem dX9_delivers_54 : decode cX9_delivers 54 = .ok (.iconst 0, 1) := by decide +kernel
theorem dX9_delivers_55 : decode cX9_delivers 55 = .ok (.invokevirtual 180, 3) := by decide +kernel
theorem dX9_delivers_58 : decode cX9_delivers 58 = .ok (.invokevirtual 137, 3) := by decide +kernel
theorem dX9_delivers_61 : decode cX9_delivers 61 = .ok (.bipush 97, 2) := by decide +kernel
theorem dX9_delivers_63 : decode cX9_delivers 63 = .ok (.ireturn, 1) := by decide +kernel
theorem dX9_delivers_64 : decode cX9_delivers 64 = .ok (.aload_n 0, 1) := by decide +kernel
theorem dX9_delivers_65 : decode cX9_delivers 65 = .ok (.getfield 80, 3) := by decide +kernel
theorem dX9_delivers_68 : decode cX9_delivers 68 = .ok (.iload_n 2, 1) := by decide +kernel
theorem dX9_delivers_69 : decode cX9_delivers 69 = .ok (.iaload, 1) := by decide +kernel
theorem dX9_delivers_70 : decode cX9_delivers 70 = .ok (.istore_n 3, 1) := by decide +kernel
theorem dX9_delivers_71 : decode cX9_delivers 71 = .ok (.iload_n 3, 1) := by decide +kernel
theorem dX9_delivers_72 : decode cX9_delivers 72 = .ok (.aload_n 0, 1) := by decide +kernel
theorem dX9_delivers_73 : decode cX9_delivers 73 = .ok (.getfield 80, 3) := by decide +kernel
theorem dX9_delivers_76 : decode cX9_delivers 76 = .ok (.iload_n 2, 1) := by decide +kernel
theorem dX9_delivers_77 : decode cX9_delivers 77 = .ok (.iconst 1, 1) := by decide +kernel
theorem dX9_delivers_78 : decode cX9_delivers 78 = .ok (.iadd, 1) := by decide +kernel
theorem dX9_delivers_79 : decode cX9_delivers 79 = .ok (.iaload, 1) := by decide +kernel
theorem dX9_delivers_80 : decode cX9_delivers 80 = .ok (.if_icmp .ge 19, 3) := by decide +kernel
theorem dX9_delivers_83 : decode cX9_delivers 83 = .ok (.aload_n 0, 1) := by decide +kernel
theorem dX9_delivers_84 : decode cX9_delivers 84 = .ok (.iload_n 1, 1) := by decide +kernel
theorem dX9_delivers_85 : decode cX9_delivers 85 = .ok (.sipush 1200, 3) := by decide +kernel
theorem dX9_delivers_88 : decode cX9_delivers 88 = .ok (.iload_n 3, 1) := by decide +kernel
theorem dX9_delivers_89 : decode cX9_delivers 89 = .ok (.iadd, 1) := by decide +kernel
theorem dX9_delivers_90 : decode cX9_delivers 90 = .ok (.invokevirtual 183, 3) := by decide +kernel
theorem dX9_delivers_93 : decode cX9_delivers 93 = .ok (.iinc 3 1, 3) := by decide +kernel
theorem dX9_delivers_96 : decode cX9_delivers 96 = .ok (.goto (-25), 3) := by decide +kernel
theorem dX9_delivers_99 : decode cX9_delivers 99 = .ok (.aload_n 0, 1) := by decide +kernel
theorem dX9_delivers_100 : decode cX9_delivers 100 = .ok (.iload_n 1, 1) := by decide +kernel
theorem dX9_delivers_101 : decode cX9_delivers 101 = .ok (.invokevirtual 186, 3) := by decide +kernel
theorem dX9_delivers_104 : decode cX9_delivers 104 = .ok (.bipush 111, 2) := by decide +kernel
theorem dX9_delivers_106 : decode cX9_delivers 106 = .ok (.ireturn, 1) := by decide +kernel
theorem dX9_deliverDown_0 : decode cX9_deliverDown 0 = .ok (.aload_n 0, 1) := by decide +kernel
theorem dX9_deliverDown_1 : decode cX9_deliverDown 1 = .ok (.iconst 0, 1) := by decide +kernel
theorem dX9_deliverDown_2 : decode cX9_deliverDown 2 = .ok (.putfield 92, 3) := by decide +kernel
theorem dX9_deliverDown_5 : decode cX9_deliverDown 5 = .ok (.iload_n 1, 1) := by decide +kernel
theorem dX9_deliverDown_6 : decode cX9_deliverDown 6 = .ok (.invokestatic 140, 3) := by decide +kernel
theorem dX9_deliverDown_9 : decode cX9_deliverDown 9 = .ok (.ifCond .ne 10, 3) := by decide +kernel
theorem dX9_deliverDown_12 : decode cX9_deliverDown 12 = .ok (.aload_n 0, 1) := by decide +kernel
theorem dX9_deliverDown_13 : decode cX9_deliverDown 13 = .ok (.iconst 1, 1) := by decide +kernel
theorem dX9_deliverDown_14 : decode cX9_deliverDown 14 = .ok (.invokevirtual 144, 3) := by decide +kernel
theorem dX9_deliverDown_17 : decode cX9_deliverDown 17 = .ok (.i2c, 1) := by decide +kernel
theorem dX9_deliverDown_18 : decode cX9_deliverDown 18 = .ok (.ireturn, 1) := by decide +kernel
theorem dX9_deliverDown_19 : decode cX9_deliverDown 19 = .ok (.aload_n 0, 1) := by decide +kernel
theorem dX9_deliverDown_20 : decode cX9_deliverDown 20 = .ok (.getfield 43, 3) := by decide +kernel
theorem dX9_deliverDown_23 : decode cX9_deliverDown 23 = .ok (.iload_n 1, 1) := by decide +kernel
theorem dX9_deliverDown_24 : decode cX9_deliverDown 24 = .ok (.iaload, 1) := by decide +kernel
theorem dX9_deliverDown_25 : decode cX9_deliverDown 25 = .ok (.aload_n 0, 1) := by decide +kernel
theorem dX9_deliverDown_26 : decode cX9_deliverDown 26 = .ok (.getfield 169, 3) := by decide +kernel
theorem dX9_deliverDown_29 : decode cX9_deliverDown 29 = .ok (.if_icmp .ne 11, 3) := by decide +kernel
theorem dX9_deliverDown_32 : decode cX9_deliverDown 32 = .ok (.aload_n 0, 1) := by decide +kernel
theorem dX9_deliverDown_33 : decode cX9_deliverDown 33 = .ok (.iconst 2, 1) := by decide +kernel
theorem dX9_deliverDown_34 : decode cX9_deliverDown 34 = .ok (.invokevirtual 144, 3) := by decide +kernel
theorem dX9_deliverDown_37 : decode cX9_deliverDown 37 = .ok (.goto 8, 3) := by decide +kernel
theorem dX9_deliverDown_40 : decode cX9_deliverDown 40 = .ok (.aload_n 0, 1) := by decide +kernel
theorem dX9_deliverDown_41 : decode cX9_deliverDown 41 = .ok (.iload_n 1, 1) := by decide +kernel
theorem dX9_deliverDown_42 : decode cX9_deliverDown 42 = .ok (.invokevirtual 189, 3) := by decide +kernel
theorem dX9_deliverDown_45 : decode cX9_deliverDown 45 = .ok (.i2c, 1) := by decide +kernel
theorem dX9_deliverDown_46 : decode cX9_deliverDown 46 = .ok (.ireturn, 1) := by decide +kernel
theorem dX9_deliversOne_0 : decode cX9_deliversOne 0 = .ok (.iconst 0, 1) := by decide +kernel
theorem dX9_deliversOne_1 : decode cX9_deliversOne 1 = .ok (.istore_n 1, 1) := by decide +kernel
theorem dX9_deliversOne_2 : decode cX9_deliversOne 2 = .ok (.iload_n 1, 1) := by decide +kernel
theorem dX9_deliversOne_3 : decode cX9_deliversOne 3 = .ok (.iconst 2, 1) := by decide +kernel
theorem dX9_deliversOne_4 : decode cX9_deliversOne 4 = .ok (.if_icmp .ge 28, 3) := by decide +kernel
theorem dX9_deliversOne_7 : decode cX9_deliversOne 7 = .ok (.aload_n 0, 1) := by decide +kernel
theorem dX9_deliversOne_8 : decode cX9_deliversOne 8 = .ok (.getfield 62, 3) := by decide +kernel
theorem dX9_deliversOne_11 : decode cX9_deliversOne 11 = .ok (.iload_n 1, 1) := by decide +kernel
theorem dX9_deliversOne_12 : decode cX9_deliversOne 12 = .ok (.baload, 1) := by decide +kernel
theorem dX9_deliversOne_13 : decode cX9_deliversOne 13 = .ok (.ifCond .ne 6, 3) := by decide +kernel
theorem dX9_deliversOne_16 : decode cX9_deliversOne 16 = .ok (.goto 10, 3) := by decide +kernel
theorem dX9_deliversOne_19 : decode cX9_deliversOne 19 = .ok (.aload_n 0, 1) := by decide +kernel
theorem dX9_deliversOne_20 : decode cX9_deliversOne 20 = .ok (.iload_n 1, 1) := by decide +kernel
theorem dX9_deliversOne_21 : decode cX9_deliversOne 21 = .ok (.invokevirtual 172, 3) := by decide +kernel
theorem dX9_deliversOne_24 : decode cX9_deliversOne 24 = .ok (.iconst 1, 1) := by decide +kernel
theorem dX9_deliversOne_25 : decode cX9_deliversOne 25 = .ok (.ireturn, 1) := by decide +kernel
theorem dX9_deliversOne_26 : decode cX9_deliversOne 26 = .ok (.iinc 1 1, 3) := by decide +kernel
theorem dX9_deliversOne_29 : decode cX9_deliversOne 29 = .ok (.goto (-27), 3) := by decide +kernel
theorem dX9_deliversOne_32 : decode cX9_deliversOne 32 = .ok (.iconst 0, 1) := by decide +kernel
theorem dX9_deliversOne_33 : decode cX9_deliversOne 33 = .ok (.istore_n 1, 1) := by decide +kernel
theorem dX9_deliversOne_34 : decode cX9_deliversOne 34 = .ok (.iload_n 1, 1) := by decide +kernel
theorem dX9_deliversOne_35 : decode cX9_deliversOne 35 = .ok (.iconst 2, 1) := by decide +kernel
theorem dX9_deliversOne_36 : decode cX9_deliversOne 36 = .ok (.if_icmp .ge 33, 3) := by decide +kernel
theorem dX9_deliversOne_39 : decode cX9_deliversOne 39 = .ok (.aload_n 0, 1) := by decide +kernel
theorem dX9_deliversOne_40 : decode cX9_deliversOne 40 = .ok (.getfield 43, 3) := by decide +kernel
theorem dX9_deliversOne_43 : decode cX9_deliversOne 43 = .ok (.iload_n 1, 1) := by decide +kernel
theorem dX9_deliversOne_44 : decode cX9_deliversOne 44 = .ok (.iaload, 1) := by decide +kernel
theorem dX9_deliversOne_45 : decode cX9_deliversOne 45 = .ok (.aload_n 0, 1) := by decide +kernel
theorem dX9_deliversOne_46 : decode cX9_deliversOne 46 = .ok (.getfield 169, 3) := by decide +kernel
theorem dX9_deliversOne_49 : decode cX9_deliversOne 49 = .ok (.if_icmp .ne 6, 3) := by decide +kernel
theorem dX9_deliversOne_52 : decode cX9_deliversOne 52 = .ok (.goto 11, 3) := by decide +kernel
theorem dX9_deliversOne_55 : decode cX9_deliversOne 55 = .ok (.aload_n 0, 1) := by decide +kernel
theorem dX9_deliversOne_56 : decode cX9_deliversOne 56 = .ok (.iload_n 1, 1) := by decide +kernel
theorem dX9_deliversOne_57 : decode cX9_deliversOne 57 = .ok (.invokevirtual 189, 3) := by decide +kernel
theorem dX9_deliversOne_60 : decode cX9_deliversOne 60 = .ok (.pop, 1) := by decide +kernel
theorem dX9_deliversOne_61 : decode cX9_deliversOne 61 = .ok (.iconst 1, 1) := by decide +kernel
theorem dX9_deliversOne_62 : decode cX9_deliversOne 62 = .ok (.ireturn, 1) := by decide +kernel
theorem dX9_deliversOne_63 : decode cX9_deliversOne 63 = .ok (.iinc 1 1, 3) := by decide +kernel
theorem dX9_deliversOne_66 : decode cX9_deliversOne 66 = .ok (.goto (-32), 3) := by decide +kernel
theorem dX9_deliversOne_69 : decode cX9_deliversOne 69 = .ok (.iconst 0, 1) := by decide +kernel
theorem dX9_deliversOne_70 : decode cX9_deliversOne 70 = .ok (.ireturn, 1) := by decide +kernel
theorem dX9_deliverAll_0 : decode cX9_deliverAll 0 = .ok (.aload_n 0, 1) := by decide +kernel
theorem dX9_deliverAll_1 : decode cX9_deliverAll 1 = .ok (.iconst 0, 1) := by decide +kernel
theorem dX9_deliverAll_2 : decode cX9_deliverAll 2 = .ok (.putfield 92, 3) := by decide +kernel
theorem dX9_deliverAll_5 : decode cX9_deliverAll 5 = .ok (.iconst 0, 1) := by decide +kernel
theorem dX9_deliverAll_6 : decode cX9_deliverAll 6 = .ok (.istore_n 1, 1) := by decide +kernel
theorem dX9_deliverAll_7 : decode cX9_deliverAll 7 = .ok (.aload_n 0, 1) := by decide +kernel
theorem dX9_deliverAll_8 : decode cX9_deliverAll 8 = .ok (.invokevirtual 192, 3) := by decide +kernel
theorem dX9_deliverAll_11 : decode cX9_deliverAll 11 = .ok (.ifCond .eq 9, 3) := by decide +kernel
theorem dX9_deliverAll_14 : decode cX9_deliverAll 14 = .ok (.iinc 1 1, 3) := by decide +kernel
theorem dX9_deliverAll_17 : decode cX9_deliverAll 17 = .ok (.goto (-10), 3) := by decide +kernel
theorem dX9_deliverAll_20 : decode cX9_deliverAll 20 = .ok (.iload_n 1, 1) := by decide +kernel
theorem dX9_deliverAll_21 : decode cX9_deliverAll 21 = .ok (.ireturn, 1) := by decide +kernel
theorem dX9_length_0 : decode cX9_length 0 = .ok (.aload_n 0, 1) := by decide +kernel
theorem dX9_length_1 : decode cX9_length 1 = .ok (.iconst 0, 1) := by decide +kernel
theorem dX9_length_2 : decode cX9_length 2 = .ok (.putfield 92, 3) := by decide +kernel
theorem dX9_length_5 : decode cX9_length 5 = .ok (.iload_n 1, 1) := by decide +kernel
theorem dX9_length_6 : decode cX9_length 6 = .ok (.invokestatic 140, 3) := by decide +kernel
theorem dX9_length_9 : decode cX9_length 9 = .ok (.ifCond .eq 12, 3) := by decide +kernel
theorem dX9_length_12 : decode cX9_length 12 = .ok (.aload_n 0, 1) := by decide +kernel
theorem dX9_length_13 : decode cX9_length 13 = .ok (.getfield 34, 3) := by decide +kernel
theorem dX9_length_16 : decode cX9_length 16 = .ok (.iload_n 1, 1) := by decide +kernel
theorem dX9_length_17 : decode cX9_length 17 = .ok (.iaload, 1) := by decide +kernel
theorem dX9_length_18 : decode cX9_length 18 = .ok (.goto 8, 3) := by decide +kernel
theorem dX9_length_21 : decode cX9_length 21 = .ok (.aload_n 0, 1) := by decide +kernel
theorem dX9_length_22 : decode cX9_length 22 = .ok (.iconst 1, 1) := by decide +kernel
theorem dX9_length_23 : decode cX9_length 23 = .ok (.invokevirtual 144, 3) := by decide +kernel
theorem dX9_length_26 : decode cX9_length 26 = .ok (.ireturn, 1) := by decide +kernel
theorem dX9_notAt_0 : decode cX9_notAt 0 = .ok (.iload_n 1, 1) := by decide +kernel
theorem dX9_notAt_1 : decode cX9_notAt 1 = .ok (.invokestatic 140, 3) := by decide +kernel
theorem dX9_notAt_4 : decode cX9_notAt 4 = .ok (.ifCond .ne 5, 3) := by decide +kernel
theorem dX9_notAt_7 : decode cX9_notAt 7 = .ok (.iconst 1, 1) := by decide +kernel
theorem dX9_notAt_8 : decode cX9_notAt 8 = .ok (.ireturn, 1) := by decide +kernel
theorem dX9_notAt_9 : decode cX9_notAt 9 = .ok (.iload_n 2, 1) := by decide +kernel
theorem dX9_notAt_10 : decode cX9_notAt 10 = .ok (.iconst 0, 1) := by decide +kernel
theorem dX9_notAt_11 : decode cX9_notAt 11 = .ok (.aload_n 0, 1) := by decide +kernel
theorem dX9_notAt_12 : decode cX9_notAt 12 = .ok (.getfield 34, 3) := by decide +kernel
theorem dX9_notAt_15 : decode cX9_notAt 15 = .ok (.iload_n 1, 1) := by decide +kernel
theorem dX9_notAt_16 : decode cX9_notAt 16 = .ok (.iaload, 1) := by decide +kernel
theorem dX9_notAt_17 : decode cX9_notAt 17 = .ok (.iconst 1, 1) := by decide +kernel
theorem dX9_notAt_18 : decode cX9_notAt 18 = .ok (.isub, 1) := by decide +kernel
theorem dX9_notAt_19 : decode cX9_notAt 19 = .ok (.invokestatic 96, 3) := by decide +kernel
theorem dX9_notAt_22 : decode cX9_notAt 22 = .ok (.ifCond .eq 7, 3) := by decide +kernel
theorem dX9_notAt_25 : decode cX9_notAt 25 = .ok (.iconst 0, 1) := by decide +kernel
theorem dX9_notAt_26 : decode cX9_notAt 26 = .ok (.goto 4, 3) := by decide +kernel
theorem dX9_notAt_29 : decode cX9_notAt 29 = .ok (.iconst 2, 1) := by decide +kernel
theorem dX9_notAt_30 : decode cX9_notAt 30 = .ok (.ireturn, 1) := by decide +kernel
theorem dX9_charAt_0 : decode cX9_charAt 0 = .ok (.aload_n 0, 1) := by decide +kernel
theorem dX9_charAt_1 : decode cX9_charAt 1 = .ok (.iconst 0, 1) := by decide +kernel
theorem dX9_charAt_2 : decode cX9_charAt 2 = .ok (.putfield 92, 3) := by decide +kernel
theorem dX9_charAt_5 : decode cX9_charAt 5 = .ok (.aload_n 0, 1) := by decide +kernel
theorem dX9_charAt_6 : decode cX9_charAt 6 = .ok (.iload_n 1, 1) := by decide +kernel
theorem dX9_charAt_7 : decode cX9_charAt 7 = .ok (.iload_n 2, 1) := by decide +kernel
theorem dX9_charAt_8 : decode cX9_charAt 8 = .ok (.invokevirtual 196, 3) := by decide +kernel
theorem dX9_charAt_11 : decode cX9_charAt 11 = .ok (.istore_n 3, 1) := by decide +kernel
theorem dX9_charAt_12 : decode cX9_charAt 12 = .ok (.iload_n 3, 1) := by decide +kernel
theorem dX9_charAt_13 : decode cX9_charAt 13 = .ok (.ifCond .eq 11, 3) := by decide +kernel
theorem dX9_charAt_16 : decode cX9_charAt 16 = .ok (.aload_n 0, 1) := by decide +kernel
theorem dX9_charAt_17 : decode cX9_charAt 17 = .ok (.iload_n 3, 1) := by decide +kernel
theorem dX9_charAt_18 : decode cX9_charAt 18 = .ok (.invokevirtual 144, 3) := by decide +kernel
theorem dX9_charAt_21 : decode cX9_charAt 21 = .ok (.goto 9, 3) := by decide +kernel
theorem dX9_charAt_24 : decode cX9_charAt 24 = .ok (.aload_n 0, 1) := by decide +kernel
theorem dX9_charAt_25 : decode cX9_charAt 25 = .ok (.iload_n 1, 1) := by decide +kernel
theorem dX9_charAt_26 : decode cX9_charAt 26 = .ok (.iload_n 2, 1) := by decide +kernel
theorem dX9_charAt_27 : decode cX9_charAt 27 = .ok (.invokevirtual 157, 3) := by decide +kernel
theorem dX9_charAt_30 : decode cX9_charAt 30 = .ok (.i2c, 1) := by decide +kernel
theorem dX9_charAt_31 : decode cX9_charAt 31 = .ok (.ireturn, 1) := by decide +kernel
theorem dX9_ownerAt_0 : decode cX9_ownerAt 0 = .ok (.aload_n 0, 1) := by decide +kernel
theorem dX9_ownerAt_1 : decode cX9_ownerAt 1 = .ok (.iconst 0, 1) := by decide +kernel
theorem dX9_ownerAt_2 : decode cX9_ownerAt 2 = .ok (.putfield 92, 3) := by decide +kernel
theorem dX9_ownerAt_5 : decode cX9_ownerAt 5 = .ok (.aload_n 0, 1) := by decide +kernel
theorem dX9_ownerAt_6 : decode cX9_ownerAt 6 = .ok (.iload_n 1, 1) := by decide +kernel
theorem dX9_ownerAt_7 : decode cX9_ownerAt 7 = .ok (.iload_n 2, 1) := by decide +kernel
theorem dX9_ownerAt_8 : decode cX9_ownerAt 8 = .ok (.invokevirtual 196, 3) := by decide +kernel
theorem dX9_ownerAt_11 : decode cX9_ownerAt 11 = .ok (.istore_n 3, 1) := by decide +kernel
theorem dX9_ownerAt_12 : decode cX9_ownerAt 12 = .ok (.iload_n 3, 1) := by decide +kernel
theorem dX9_ownerAt_13 : decode cX9_ownerAt 13 = .ok (.ifCond .eq 11, 3) := by decide +kernel
theorem dX9_ownerAt_16 : decode cX9_ownerAt 16 = .ok (.aload_n 0, 1) := by decide +kernel
theorem dX9_ownerAt_17 : decode cX9_ownerAt 17 = .ok (.iload_n 3, 1) := by decide +kernel
theorem dX9_ownerAt_18 : decode cX9_ownerAt 18 = .ok (.invokevirtual 144, 3) := by decide +kernel
theorem dX9_ownerAt_21 : decode cX9_ownerAt 21 = .ok (.goto 15, 3) := by decide +kernel
theorem dX9_ownerAt_24 : decode cX9_ownerAt 24 = .ok (.aload_n 0, 1) := by decide +kernel
theorem dX9_ownerAt_25 : decode cX9_ownerAt 25 = .ok (.getfield 31, 3) := by decide +kernel
theorem dX9_ownerAt_28 : decode cX9_ownerAt 28 = .ok (.sipush 201, 3) := by decide +kernel
theorem dX9_ownerAt_31 : decode cX9_ownerAt 31 = .ok (.iload_n 1, 1) := by decide +kernel
theorem dX9_ownerAt_32 : decode cX9_ownerAt 32 = .ok (.imul, 1) := by decide +kernel
theorem dX9_ownerAt_33 : decode cX9_ownerAt 33 = .ok (.iload_n 2, 1) := by decide +kernel
theorem dX9_ownerAt_34 : decode cX9_ownerAt 34 = .ok (.iadd, 1) := by decide +kernel
theorem dX9_ownerAt_35 : decode cX9_ownerAt 35 = .ok (.iaload, 1) := by decide +kernel
theorem dX9_ownerAt_36 : decode cX9_ownerAt 36 = .ok (.ireturn, 1) := by decide +kernel
theorem dX9_lengthByHistory_0 : decode cX9_lengthByHistory 0 = .ok (.aload_n 0, 1) := by decide +kernel
theorem dX9_lengthByHistory_1 : decode cX9_lengthByHistory 1 = .ok (.iload_n 1, 1) := by decide +kernel
theorem dX9_lengthByHistory_2 : decode cX9_lengthByHistory 2 = .ok (.invokevirtual 199, 3) := by decide +kernel
theorem dX9_lengthByHistory_5 : decode cX9_lengthByHistory 5 = .ok (.ireturn, 1) := by decide +kernel
theorem dX9_charByHistory_0 : decode cX9_charByHistory 0 = .ok (.aload_n 0, 1) := by decide +kernel
theorem dX9_charByHistory_1 : decode cX9_charByHistory 1 = .ok (.iload_n 1, 1) := by decide +kernel
theorem dX9_charByHistory_2 : decode cX9_charByHistory 2 = .ok (.iload_n 2, 1) := by decide +kernel
theorem dX9_charByHistory_3 : decode cX9_charByHistory 3 = .ok (.invokevirtual 202, 3) := by decide +kernel
theorem dX9_charByHistory_6 : decode cX9_charByHistory 6 = .ok (.ireturn, 1) := by decide +kernel
theorem dX9_centreLength_0 : decode cX9_centreLength 0 = .ok (.aload_n 0, 1) := by decide +kernel
theorem dX9_centreLength_1 : decode cX9_centreLength 1 = .ok (.iconst 0, 1) := by decide +kernel
theorem dX9_centreLength_2 : decode cX9_centreLength 2 = .ok (.putfield 92, 3) := by decide +kernel
theorem dX9_centreLength_5 : decode cX9_centreLength 5 = .ok (.aload_n 0, 1) := by decide +kernel
theorem dX9_centreLength_6 : decode cX9_centreLength 6 = .ok (.getfield 34, 3) := by decide +kernel
theorem dX9_centreLength_9 : decode cX9_centreLength 9 = .ok (.iconst 2, 1) := by decide +kernel
theorem dX9_centreLength_10 : decode cX9_centreLength 10 = .ok (.iaload, 1) := by decide +kernel
theorem dX9_centreLength_11 : decode cX9_centreLength 11 = .ok (.ireturn, 1) := by decide +kernel
theorem dX9_centreChar_0 : decode cX9_centreChar 0 = .ok (.aload_n 0, 1) := by decide +kernel
theorem dX9_centreChar_1 : decode cX9_centreChar 1 = .ok (.iconst 0, 1) := by decide +kernel
theorem dX9_centreChar_2 : decode cX9_centreChar 2 = .ok (.putfield 92, 3) := by decide +kernel
theorem dX9_centreChar_5 : decode cX9_centreChar 5 = .ok (.iload_n 1, 1) := by decide +kernel
theorem dX9_centreChar_6 : decode cX9_centreChar 6 = .ok (.iconst 0, 1) := by decide +kernel
theorem dX9_centreChar_7 : decode cX9_centreChar 7 = .ok (.aload_n 0, 1) := by decide +kernel
theorem dX9_centreChar_8 : decode cX9_centreChar 8 = .ok (.getfield 34, 3) := by decide +kernel
theorem dX9_centreChar_11 : decode cX9_centreChar 11 = .ok (.iconst 2, 1) := by decide +kernel
theorem dX9_centreChar_12 : decode cX9_centreChar 12 = .ok (.iaload, 1) := by decide +kernel
theorem dX9_centreChar_13 : decode cX9_centreChar 13 = .ok (.iconst 1, 1) := by decide +kernel
theorem dX9_centreChar_14 : decode cX9_centreChar 14 = .ok (.isub, 1) := by decide +kernel
theorem dX9_centreChar_15 : decode cX9_centreChar 15 = .ok (.invokestatic 96, 3) := by decide +kernel
theorem dX9_centreChar_18 : decode cX9_centreChar 18 = .ok (.ifCond .eq 12, 3) := by decide +kernel
theorem dX9_centreChar_21 : decode cX9_centreChar 21 = .ok (.aload_n 0, 1) := by decide +kernel
theorem dX9_centreChar_22 : decode cX9_centreChar 22 = .ok (.iconst 2, 1) := by decide +kernel
theorem dX9_centreChar_23 : decode cX9_centreChar 23 = .ok (.iload_n 1, 1) := by decide +kernel
theorem dX9_centreChar_24 : decode cX9_centreChar 24 = .ok (.invokevirtual 157, 3) := by decide +kernel
theorem dX9_centreChar_27 : decode cX9_centreChar 27 = .ok (.goto 8, 3) := by decide +kernel
theorem dX9_centreChar_30 : decode cX9_centreChar 30 = .ok (.aload_n 0, 1) := by decide +kernel
theorem dX9_centreChar_31 : decode cX9_centreChar 31 = .ok (.iconst 1, 1) := by decide +kernel
theorem dX9_centreChar_32 : decode cX9_centreChar 32 = .ok (.invokevirtual 144, 3) := by decide +kernel
theorem dX9_centreChar_35 : decode cX9_centreChar 35 = .ok (.i2c, 1) := by decide +kernel
theorem dX9_centreChar_36 : decode cX9_centreChar 36 = .ok (.ireturn, 1) := by decide +kernel
theorem dX9_cursor_0 : decode cX9_cursor 0 = .ok (.aload_n 0, 1) := by decide +kernel
theorem dX9_cursor_1 : decode cX9_cursor 1 = .ok (.iconst 0, 1) := by decide +kernel
theorem dX9_cursor_2 : decode cX9_cursor 2 = .ok (.putfield 92, 3) := by decide +kernel
theorem dX9_cursor_5 : decode cX9_cursor 5 = .ok (.iload_n 1, 1) := by decide +kernel
theorem dX9_cursor_6 : decode cX9_cursor 6 = .ok (.invokestatic 140, 3) := by decide +kernel
theorem dX9_cursor_9 : decode cX9_cursor 9 = .ok (.ifCond .eq 12, 3) := by decide +kernel
theorem dX9_cursor_12 : decode cX9_cursor 12 = .ok (.aload_n 0, 1) := by decide +kernel
theorem dX9_cursor_13 : decode cX9_cursor 13 = .ok (.getfield 46, 3) := by decide +kernel
theorem dX9_cursor_16 : decode cX9_cursor 16 = .ok (.iload_n 1, 1) := by decide +kernel
theorem dX9_cursor_17 : decode cX9_cursor 17 = .ok (.iaload, 1) := by decide +kernel
theorem dX9_cursor_18 : decode cX9_cursor 18 = .ok (.goto 8, 3) := by decide +kernel
theorem dX9_cursor_21 : decode cX9_cursor 21 = .ok (.aload_n 0, 1) := by decide +kernel
theorem dX9_cursor_22 : decode cX9_cursor 22 = .ok (.iconst 1, 1) := by decide +kernel
theorem dX9_cursor_23 : decode cX9_cursor 23 = .ok (.invokevirtual 144, 3) := by decide +kernel
theorem dX9_cursor_26 : decode cX9_cursor 26 = .ok (.ireturn, 1) := by decide +kernel
theorem dX9_mark_0 : decode cX9_mark 0 = .ok (.aload_n 0, 1) := by decide +kernel
theorem dX9_mark_1 : decode cX9_mark 1 = .ok (.iconst 0, 1) := by decide +kernel
theorem dX9_mark_2 : decode cX9_mark 2 = .ok (.putfield 92, 3) := by decide +kernel
theorem dX9_mark_5 : decode cX9_mark 5 = .ok (.iload_n 1, 1) := by decide +kernel
theorem dX9_mark_6 : decode cX9_mark 6 = .ok (.invokestatic 140, 3) := by decide +kernel
theorem dX9_mark_9 : decode cX9_mark 9 = .ok (.ifCond .eq 12, 3) := by decide +kernel
theorem dX9_mark_12 : decode cX9_mark 12 = .ok (.aload_n 0, 1) := by decide +kernel
theorem dX9_mark_13 : decode cX9_mark 13 = .ok (.getfield 49, 3) := by decide +kernel
theorem dX9_mark_16 : decode cX9_mark 16 = .ok (.iload_n 1, 1) := by decide +kernel
theorem dX9_mark_17 : decode cX9_mark 17 = .ok (.iaload, 1) := by decide +kernel
theorem dX9_mark_18 : decode cX9_mark 18 = .ok (.goto 8, 3) := by decide +kernel
theorem dX9_mark_21 : decode cX9_mark 21 = .ok (.aload_n 0, 1) := by decide +kernel
theorem dX9_mark_22 : decode cX9_mark 22 = .ok (.iconst 1, 1) := by decide +kernel
theorem dX9_mark_23 : decode cX9_mark 23 = .ok (.invokevirtual 144, 3) := by decide +kernel
theorem dX9_mark_26 : decode cX9_mark 26 = .ok (.ireturn, 1) := by decide +kernel
theorem dX9_revision_0 : decode cX9_revision 0 = .ok (.aload_n 0, 1) := by decide +kernel
theorem dX9_revision_1 : decode cX9_revision 1 = .ok (.iconst 0, 1) := by decide +kernel
theorem dX9_revision_2 : decode cX9_revision 2 = .ok (.putfield 92, 3) := by decide +kernel
theorem dX9_revision_5 : decode cX9_revision 5 = .ok (.iload_n 1, 1) := by decide +kernel
theorem dX9_revision_6 : decode cX9_revision 6 = .ok (.invokestatic 140, 3) := by decide +kernel
theorem dX9_revision_9 : decode cX9_revision 9 = .ok (.ifCond .eq 12, 3) := by decide +kernel
theorem dX9_revision_12 : decode cX9_revision 12 = .ok (.aload_n 0, 1) := by decide +kernel
theorem dX9_revision_13 : decode cX9_revision 13 = .ok (.getfield 43, 3) := by decide +kernel
theorem dX9_revision_16 : decode cX9_revision 16 = .ok (.iload_n 1, 1) := by decide +kernel
theorem dX9_revision_17 : decode cX9_revision 17 = .ok (.iaload, 1) := by decide +kernel
theorem dX9_revision_18 : decode cX9_revision 18 = .ok (.goto 8, 3) := by decide +kernel
theorem dX9_revision_21 : decode cX9_revision 21 = .ok (.aload_n 0, 1) := by decide +kernel
theorem dX9_revision_22 : decode cX9_revision 22 = .ok (.iconst 1, 1) := by decide +kernel
theorem dX9_revision_23 : decode cX9_revision 23 = .ok (.invokevirtual 144, 3) := by decide +kernel
theorem dX9_revision_26 : decode cX9_revision 26 = .ok (.ireturn, 1) := by decide +kernel
theorem dX9_sent_0 : decode cX9_sent 0 = .ok (.aload_n 0, 1) := by decide +kernel
theorem dX9_sent_1 : decode cX9_sent 1 = .ok (.iconst 0, 1) := by decide +kernel
theorem dX9_sent_2 : decode cX9_sent 2 = .ok (.putfield 92, 3) := by decide +kernel
theorem dX9_sent_5 : decode cX9_sent 5 = .ok (.iload_n 1, 1) := by decide +kernel
theorem dX9_sent_6 : decode cX9_sent 6 = .ok (.invokestatic 140, 3) := by decide +kernel
theorem dX9_sent_9 : decode cX9_sent 9 = .ok (.ifCond .eq 12, 3) := by decide +kernel
theorem dX9_sent_12 : decode cX9_sent 12 = .ok (.aload_n 0, 1) := by decide +kernel
theorem dX9_sent_13 : decode cX9_sent 13 = .ok (.getfield 37, 3) := by decide +kernel
theorem dX9_sent_16 : decode cX9_sent 16 = .ok (.iload_n 1, 1) := by decide +kernel
theorem dX9_sent_17 : decode cX9_sent 17 = .ok (.iaload, 1) := by decide +kernel
theorem dX9_sent_18 : decode cX9_sent 18 = .ok (.goto 8, 3) := by decide +kernel
theorem dX9_sent_21 : decode cX9_sent 21 = .ok (.aload_n 0, 1) := by decide +kernel
theorem dX9_sent_22 : decode cX9_sent 22 = .ok (.iconst 1, 1) := by decide +kernel
theorem dX9_sent_23 : decode cX9_sent 23 = .ok (.invokevirtual 144, 3) := by decide +kernel
theorem dX9_sent_26 : decode cX9_sent 26 = .ok (.ireturn, 1) := by decide +kernel
theorem dX9_waiting_0 : decode cX9_waiting 0 = .ok (.aload_n 0, 1) := by decide +kernel
theorem dX9_waiting_1 : decode cX9_waiting 1 = .ok (.iconst 0, 1) := by decide +kernel
theorem dX9_waiting_2 : decode cX9_waiting 2 = .ok (.putfield 92, 3) := by decide +kernel
theorem dX9_waiting_5 : decode cX9_waiting 5 = .ok (.iload_n 1, 1) := by decide +kernel
theorem dX9_waiting_6 : decode cX9_waiting 6 = .ok (.invokestatic 140, 3) := by decide +kernel
theorem dX9_waiting_9 : decode cX9_waiting 9 = .ok (.ifCond .eq 12, 3) := by decide +kernel
theorem dX9_waiting_12 : decode cX9_waiting 12 = .ok (.aload_n 0, 1) := by decide +kernel
theorem dX9_waiting_13 : decode cX9_waiting 13 = .ok (.getfield 40, 3) := by decide +kernel
theorem dX9_waiting_16 : decode cX9_waiting 16 = .ok (.iload_n 1, 1) := by decide +kernel
theorem dX9_waiting_17 : decode cX9_waiting 17 = .ok (.iaload, 1) := by decide +kernel
theorem dX9_waiting_18 : decode cX9_waiting 18 = .ok (.goto 8, 3) := by decide +kernel
theorem dX9_waiting_21 : decode cX9_waiting 21 = .ok (.aload_n 0, 1) := by decide +kernel
theorem dX9_waiting_22 : decode cX9_waiting 22 = .ok (.iconst 1, 1) := by decide +kernel
theorem dX9_waiting_23 : decode cX9_waiting 23 = .ok (.invokevirtual 144, 3) := by decide +kernel
theorem dX9_waiting_26 : decode cX9_waiting 26 = .ok (.ireturn, 1) := by decide +kernel
theorem dX9_runs_0 : decode cX9_runs 0 = .ok (.aload_n 0, 1) := by decide +kernel
theorem dX9_runs_1 : decode cX9_runs 1 = .ok (.iconst 0, 1) := by decide +kernel
theorem dX9_runs_2 : decode cX9_runs 2 = .ok (.putfield 92, 3) := by decide +kernel
theorem dX9_runs_5 : decode cX9_runs 5 = .ok (.iload_n 1, 1) := by decide +kernel
theorem dX9_runs_6 : decode cX9_runs 6 = .ok (.invokestatic 140, 3) := by decide +kernel
theorem dX9_runs_9 : decode cX9_runs 9 = .ok (.ifCond .ne 9, 3) := by decide +kernel
theorem dX9_runs_12 : decode cX9_runs 12 = .ok (.aload_n 0, 1) := by decide +kernel
theorem dX9_runs_13 : decode cX9_runs 13 = .ok (.iconst 1, 1) := by decide +kernel
theorem dX9_runs_14 : decode cX9_runs 14 = .ok (.invokevirtual 144, 3) := by decide +kernel
theorem dX9_runs_17 : decode cX9_runs 17 = .ok (.ireturn, 1) := by decide +kernel
theorem dX9_runs_18 : decode cX9_runs 18 = .ok (.iconst 0, 1) := by decide +kernel
theorem dX9_runs_19 : decode cX9_runs 19 = .ok (.istore_n 2, 1) := by decide +kernel
theorem dX9_runs_20 : decode cX9_runs 20 = .ok (.iconst 0, 1) := by decide +kernel
theorem dX9_runs_21 : decode cX9_runs 21 = .ok (.istore_n 3, 1) := by decide +kernel
theorem dX9_runs_22 : decode cX9_runs 22 = .ok (.iload_n 3, 1) := by decide +kernel
theorem dX9_runs_23 : decode cX9_runs 23 = .ok (.aload_n 0, 1) := by decide +kernel
theorem dX9_runs_24 : decode cX9_runs 24 = .ok (.getfield 40, 3) := by decide +kernel
theorem dX9_runs_27 : decode cX9_runs 27 = .ok (.iload_n 1, 1) := by decide +kernel
theorem dX9_runs_28 : decode cX9_runs 28 = .ok (.iaload, 1) := by decide +kernel
theorem dX9_runs_29 : decode cX9_runs 29 = .ok (.if_icmp .ge 18, 3) := by decide +kernel
theorem dX9_runs_32 : decode cX9_runs 32 = .ok (.iinc 2 1, 3) := by decide +kernel
theorem dX9_runs_35 : decode cX9_runs 35 = .ok (.iload_n 3, 1) := by decide +kernel
theorem dX9_runs_36 : decode cX9_runs 36 = .ok (.aload_n 0, 1) := by decide +kernel
theorem dX9_runs_37 : decode cX9_runs 37 = .ok (.iload_n 1, 1) := by decide +kernel
theorem dX9_runs_38 : decode cX9_runs 38 = .ok (.iload_n 3, 1) := by decide +kernel
theorem dX9_runs_39 : decode cX9_runs 39 = .ok (.invokevirtual 180, 3) := by decide +kernel
theorem dX9_runs_42 : decode cX9_runs 42 = .ok (.iadd, 1) := by decide +kernel
theorem dX9_runs_43 : decode cX9_runs 43 = .ok (.istore_n 3, 1) := by decide +kernel
theorem dX9_runs_44 : decode cX9_runs 44 = .ok (.goto (-22), 3) := by decide +kernel
theorem dX9_runs_47 : decode cX9_runs 47 = .ok (.iload_n 2, 1) := by decide +kernel
theorem dX9_runs_48 : decode cX9_runs 48 = .ok (.ireturn, 1) := by decide +kernel
theorem dX9_up_0 : decode cX9_up 0 = .ok (.aload_n 0, 1) := by decide +kernel
theorem dX9_up_1 : decode cX9_up 1 = .ok (.iconst 0, 1) := by decide +kernel
theorem dX9_up_2 : decode cX9_up 2 = .ok (.putfield 92, 3) := by decide +kernel
theorem dX9_up_5 : decode cX9_up 5 = .ok (.iload_n 1, 1) := by decide +kernel
theorem dX9_up_6 : decode cX9_up 6 = .ok (.invokestatic 140, 3) := by decide +kernel
theorem dX9_up_9 : decode cX9_up 9 = .ok (.ifCond .ne 9, 3) := by decide +kernel
theorem dX9_up_12 : decode cX9_up 12 = .ok (.aload_n 0, 1) := by decide +kernel
theorem dX9_up_13 : decode cX9_up 13 = .ok (.iconst 1, 1) := by decide +kernel
theorem dX9_up_14 : decode cX9_up 14 = .ok (.invokevirtual 144, 3) := by decide +kernel
theorem dX9_up_17 : decode cX9_up 17 = .ok (.ireturn, 1) := by decide +kernel
theorem dX9_up_18 : decode cX9_up 18 = .ok (.aload_n 0, 1) := by decide +kernel
theorem dX9_up_19 : decode cX9_up 19 = .ok (.getfield 62, 3) := by decide +kernel
theorem dX9_up_22 : decode cX9_up 22 = .ok (.iload_n 1, 1) := by decide +kernel
theorem dX9_up_23 : decode cX9_up 23 = .ok (.baload, 1) := by decide +kernel
theorem dX9_up_24 : decode cX9_up 24 = .ok (.ifCond .eq 7, 3) := by decide +kernel
theorem dX9_up_27 : decode cX9_up 27 = .ok (.iconst 1, 1) := by decide +kernel
theorem dX9_up_28 : decode cX9_up 28 = .ok (.goto 4, 3) := by decide +kernel
theorem dX9_up_31 : decode cX9_up 31 = .ok (.iconst 0, 1) := by decide +kernel
theorem dX9_up_32 : decode cX9_up 32 = .ok (.ireturn, 1) := by decide +kernel
theorem dX9_down_0 : decode cX9_down 0 = .ok (.aload_n 0, 1) := by decide +kernel
theorem dX9_down_1 : decode cX9_down 1 = .ok (.iconst 0, 1) := by decide +kernel
theorem dX9_down_2 : decode cX9_down 2 = .ok (.putfield 92, 3) := by decide +kernel
theorem dX9_down_5 : decode cX9_down 5 = .ok (.iload_n 1, 1) := by decide +kernel
theorem dX9_down_6 : decode cX9_down 6 = .ok (.invokestatic 140, 3) := by decide +kernel
theorem dX9_down_9 : decode cX9_down 9 = .ok (.ifCond .eq 17, 3) := by decide +kernel
theorem dX9_down_12 : decode cX9_down 12 = .ok (.aload_n 0, 1) := by decide +kernel
theorem dX9_down_13 : decode cX9_down 13 = .ok (.getfield 169, 3) := by decide +kernel
theorem dX9_down_16 : decode cX9_down 16 = .ok (.aload_n 0, 1) := by decide +kernel
theorem dX9_down_17 : decode cX9_down 17 = .ok (.getfield 43, 3) := by decide +kernel
theorem dX9_down_20 : decode cX9_down 20 = .ok (.iload_n 1, 1) := by decide +kernel
theorem dX9_down_21 : decode cX9_down 21 = .ok (.iaload, 1) := by decide +kernel
theorem dX9_down_22 : decode cX9_down 22 = .ok (.isub, 1) := by decide +kernel
theorem dX9_down_23 : decode cX9_down 23 = .ok (.goto 8, 3) := by decide +kernel
theorem dX9_down_26 : decode cX9_down 26 = .ok (.aload_n 0, 1) := by decide +kernel
theorem dX9_down_27 : decode cX9_down 27 = .ok (.iconst 1, 1) := by decide +kernel
theorem dX9_down_28 : decode cX9_down 28 = .ok (.invokevirtual 144, 3) := by decide +kernel
theorem dX9_down_31 : decode cX9_down 31 = .ok (.ireturn, 1) := by decide +kernel
theorem dX9_kept_0 : decode cX9_kept 0 = .ok (.aload_n 0, 1) := by decide +kernel
theorem dX9_kept_1 : decode cX9_kept 1 = .ok (.iconst 0, 1) := by decide +kernel
theorem dX9_kept_2 : decode cX9_kept 2 = .ok (.putfield 92, 3) := by decide +kernel
theorem dX9_kept_5 : decode cX9_kept 5 = .ok (.iload_n 1, 1) := by decide +kernel
theorem dX9_kept_6 : decode cX9_kept 6 = .ok (.invokestatic 140, 3) := by decide +kernel
theorem dX9_kept_9 : decode cX9_kept 9 = .ok (.ifCond .eq 12, 3) := by decide +kernel
theorem dX9_kept_12 : decode cX9_kept 12 = .ok (.aload_n 0, 1) := by decide +kernel
theorem dX9_kept_13 : decode cX9_kept 13 = .ok (.getfield 77, 3) := by decide +kernel
theorem dX9_kept_16 : decode cX9_kept 16 = .ok (.iload_n 1, 1) := by decide +kernel
theorem dX9_kept_17 : decode cX9_kept 17 = .ok (.iaload, 1) := by decide +kernel
theorem dX9_kept_18 : decode cX9_kept 18 = .ok (.goto 8, 3) := by decide +kernel
theorem dX9_kept_21 : decode cX9_kept 21 = .ok (.aload_n 0, 1) := by decide +kernel
theorem dX9_kept_22 : decode cX9_kept 22 = .ok (.iconst 1, 1) := by decide +kernel
theorem dX9_kept_23 : decode cX9_kept 23 = .ok (.invokevirtual 144, 3) := by decide +kernel
theorem dX9_kept_26 : decode cX9_kept 26 = .ok (.ireturn, 1) := by decide +kernel
theorem dX9_centreRevision_0 : decode cX9_centreRevision 0 = .ok (.aload_n 0, 1) := by decide +kernel
theorem dX9_centreRevision_1 : decode cX9_centreRevision 1 = .ok (.iconst 0, 1) := by decide +kernel
theorem dX9_centreRevision_2 : decode cX9_centreRevision 2 = .ok (.putfield 92, 3) := by decide +kernel
theorem dX9_centreRevision_5 : decode cX9_centreRevision 5 = .ok (.aload_n 0, 1) := by decide +kernel
theorem dX9_centreRevision_6 : decode cX9_centreRevision 6 = .ok (.getfield 169, 3) := by decide +kernel
theorem dX9_centreRevision_9 : decode cX9_centreRevision 9 = .ok (.ireturn, 1) := by decide +kernel
theorem dX9_isMessage_0 : decode cX9_isMessage 0 = .ok (.iload_n 1, 1) := by decide +kernel
theorem dX9_isMessage_1 : decode cX9_isMessage 1 = .ok (.iconst 0, 1) := by decide +kernel
theorem dX9_isMessage_2 : decode cX9_isMessage 2 = .ok (.aload_n 0, 1) := by decide +kernel
theorem dX9_isMessage_3 : decode cX9_isMessage 3 = .ok (.getfield 169, 3) := by decide +kernel
theorem dX9_isMessage_6 : decode cX9_isMessage 6 = .ok (.iconst 1, 1) := by decide +kernel
theorem dX9_isMessage_7 : decode cX9_isMessage 7 = .ok (.isub, 1) := by decide +kernel
theorem dX9_isMessage_8 : decode cX9_isMessage 8 = .ok (.invokestatic 96, 3) := by decide +kernel
theorem dX9_isMessage_11 : decode cX9_isMessage 11 = .ok (.ireturn, 1) := by decide +kernel
theorem dX9_historyEnd_0 : decode cX9_historyEnd 0 = .ok (.aload_n 0, 1) := by decide +kernel
theorem dX9_historyEnd_1 : decode cX9_historyEnd 1 = .ok (.iconst 0, 1) := by decide +kernel
theorem dX9_historyEnd_2 : decode cX9_historyEnd 2 = .ok (.putfield 92, 3) := by decide +kernel
theorem dX9_historyEnd_5 : decode cX9_historyEnd 5 = .ok (.aload_n 0, 1) := by decide +kernel
theorem dX9_historyEnd_6 : decode cX9_historyEnd 6 = .ok (.iload_n 1, 1) := by decide +kernel
theorem dX9_historyEnd_7 : decode cX9_historyEnd 7 = .ok (.invokevirtual 206, 3) := by decide +kernel
theorem dX9_historyEnd_10 : decode cX9_historyEnd 10 = .ok (.ifCond .eq 12, 3) := by decide +kernel
theorem dX9_historyEnd_13 : decode cX9_historyEnd 13 = .ok (.aload_n 0, 1) := by decide +kernel
theorem dX9_historyEnd_14 : decode cX9_historyEnd 14 = .ok (.getfield 83, 3) := by decide +kernel
theorem dX9_historyEnd_17 : decode cX9_historyEnd 17 = .ok (.iload_n 1, 1) := by decide +kernel
theorem dX9_historyEnd_18 : decode cX9_historyEnd 18 = .ok (.iaload, 1) := by decide +kernel
theorem dX9_historyEnd_19 : decode cX9_historyEnd 19 = .ok (.goto 8, 3) := by decide +kernel
theorem dX9_historyEnd_22 : decode cX9_historyEnd 22 = .ok (.aload_n 0, 1) := by decide +kernel
theorem dX9_historyEnd_23 : decode cX9_historyEnd 23 = .ok (.iconst 1, 1) := by decide +kernel
theorem dX9_historyEnd_24 : decode cX9_historyEnd 24 = .ok (.invokevirtual 144, 3) := by decide +kernel
theorem dX9_historyEnd_27 : decode cX9_historyEnd 27 = .ok (.ireturn, 1) := by decide +kernel
theorem dX9_historySize_0 : decode cX9_historySize 0 = .ok (.aload_n 0, 1) := by decide +kernel
theorem dX9_historySize_1 : decode cX9_historySize 1 = .ok (.iconst 0, 1) := by decide +kernel
theorem dX9_historySize_2 : decode cX9_historySize 2 = .ok (.putfield 92, 3) := by decide +kernel
theorem dX9_historySize_5 : decode cX9_historySize 5 = .ok (.aload_n 0, 1) := by decide +kernel
theorem dX9_historySize_6 : decode cX9_historySize 6 = .ok (.iload_n 1, 1) := by decide +kernel
theorem dX9_historySize_7 : decode cX9_historySize 7 = .ok (.invokevirtual 206, 3) := by decide +kernel
theorem dX9_historySize_10 : decode cX9_historySize 10 = .ok (.ifCond .eq 21, 3) := by decide +kernel
theorem dX9_historySize_13 : decode cX9_historySize 13 = .ok (.aload_n 0, 1) := by decide +kernel
theorem dX9_historySize_14 : decode cX9_historySize 14 = .ok (.getfield 80, 3) := by decide +kernel
theorem dX9_historySize_17 : decode cX9_historySize 17 = .ok (.iload_n 1, 1) := by decide +kernel
theorem dX9_historySize_18 : decode cX9_historySize 18 = .ok (.iconst 1, 1) := by decide +kernel
theorem dX9_historySize_19 : decode cX9_historySize 19 = .ok (.iadd, 1) := by decide +kernel
theorem dX9_historySize_20 : decode cX9_historySize 20 = .ok (.iaload, 1) := by decide +kernel
theorem dX9_historySize_21 : decode cX9_historySize 21 = .ok (.aload_n 0, 1) := by decide +kernel
theorem dX9_historySize_22 : decode cX9_historySize 22 = .ok (.getfield 80, 3) := by decide +kernel
theorem dX9_historySize_25 : decode cX9_historySize 25 = .ok (.iload_n 1, 1) := by decide +kernel
theorem dX9_historySize_26 : decode cX9_historySize 26 = .ok (.iaload, 1) := by decide +kernel
theorem dX9_historySize_27 : decode cX9_historySize 27 = .ok (.isub, 1) := by decide +kernel
theorem dX9_historySize_28 : decode cX9_historySize 28 = .ok (.goto 8, 3) := by decide +kernel
theorem dX9_historySize_31 : decode cX9_historySize 31 = .ok (.aload_n 0, 1) := by decide +kernel
theorem dX9_historySize_32 : decode cX9_historySize 32 = .ok (.iconst 1, 1) := by decide +kernel
theorem dX9_historySize_33 : decode cX9_historySize 33 = .ok (.invokevirtual 144, 3) := by decide +kernel
theorem dX9_historySize_36 : decode cX9_historySize 36 = .ok (.ireturn, 1) := by decide +kernel
theorem dX9_notOf_0 : decode cX9_notOf 0 = .ok (.aload_n 0, 1) := by decide +kernel
theorem dX9_notOf_1 : decode cX9_notOf 1 = .ok (.iload_n 1, 1) := by decide +kernel
theorem dX9_notOf_2 : decode cX9_notOf 2 = .ok (.invokevirtual 206, 3) := by decide +kernel
theorem dX9_notOf_5 : decode cX9_notOf 5 = .ok (.ifCond .ne 5, 3) := by decide +kernel
theorem dX9_notOf_8 : decode cX9_notOf 8 = .ok (.iconst 1, 1) := by decide +kernel
theorem dX9_notOf_9 : decode cX9_notOf 9 = .ok (.ireturn, 1) := by decide +kernel
theorem dX9_notOf_10 : decode cX9_notOf 10 = .ok (.iload_n 2, 1) := by decide +kernel
theorem dX9_notOf_11 : decode cX9_notOf 11 = .ok (.iconst 0, 1) := by decide +kernel
theorem dX9_notOf_12 : decode cX9_notOf 12 = .ok (.aload_n 0, 1) := by decide +kernel
theorem dX9_notOf_13 : decode cX9_notOf 13 = .ok (.getfield 80, 3) := by decide +kernel
theorem dX9_notOf_16 : decode cX9_notOf 16 = .ok (.iload_n 1, 1) := by decide +kernel
theorem dX9_notOf_17 : decode cX9_notOf 17 = .ok (.iconst 1, 1) := by decide +kernel
theorem dX9_notOf_18 : decode cX9_notOf 18 = .ok (.iadd, 1) := by decide +kernel
theorem dX9_notOf_19 : decode cX9_notOf 19 = .ok (.iaload, 1) := by decide +kernel
theorem dX9_notOf_20 : decode cX9_notOf 20 = .ok (.aload_n 0, 1) := by decide +kernel
theorem dX9_notOf_21 : decode cX9_notOf 21 = .ok (.getfield 80, 3) := by decide +kernel
theorem dX9_notOf_24 : decode cX9_notOf 24 = .ok (.iload_n 1, 1) := by decide +kernel
theorem dX9_notOf_25 : decode cX9_notOf 25 = .ok (.iaload, 1) := by decide +kernel
theorem dX9_notOf_26 : decode cX9_notOf 26 = .ok (.isub, 1) := by decide +kernel
theorem dX9_notOf_27 : decode cX9_notOf 27 = .ok (.iconst 1, 1) := by decide +kernel
theorem dX9_notOf_28 : decode cX9_notOf 28 = .ok (.isub, 1) := by decide +kernel
theorem dX9_notOf_29 : decode cX9_notOf 29 = .ok (.invokestatic 96, 3) := by decide +kernel
theorem dX9_notOf_32 : decode cX9_notOf 32 = .ok (.ifCond .eq 7, 3) := by decide +kernel
theorem dX9_notOf_35 : decode cX9_notOf 35 = .ok (.iconst 0, 1) := by decide +kernel
theorem dX9_notOf_36 : decode cX9_notOf 36 = .ok (.goto 4, 3) := by decide +kernel
theorem dX9_notOf_39 : decode cX9_notOf 39 = .ok (.iconst 2, 1) := by decide +kernel
theorem dX9_notOf_40 : decode cX9_notOf 40 = .ok (.ireturn, 1) := by decide +kernel
theorem dX9_historyKind_0 : decode cX9_historyKind 0 = .ok (.aload_n 0, 1) := by decide +kernel
theorem dX9_historyKind_1 : decode cX9_historyKind 1 = .ok (.iconst 0, 1) := by decide +kernel
theorem dX9_historyKind_2 : decode cX9_historyKind 2 = .ok (.putfield 92, 3) := by decide +kernel
theorem dX9_historyKind_5 : decode cX9_historyKind 5 = .ok (.aload_n 0, 1) := by decide +kernel
theorem dX9_historyKind_6 : decode cX9_historyKind 6 = .ok (.iload_n 1, 1) := by decide +kernel
theorem dX9_historyKind_7 : decode cX9_historyKind 7 = .ok (.iload_n 2, 1) := by decide +kernel
theorem dX9_historyKind_8 : decode cX9_historyKind 8 = .ok (.invokevirtual 209, 3) := by decide +kernel
theorem dX9_historyKind_11 : decode cX9_historyKind 11 = .ok (.istore_n 3, 1) := by decide +kernel
theorem dX9_historyKind_12 : decode cX9_historyKind 12 = .ok (.iload_n 3, 1) := by decide +kernel
theorem dX9_historyKind_13 : decode cX9_historyKind 13 = .ok (.ifCond .eq 10, 3) := by decide +kernel
theorem dX9_historyKind_16 : decode cX9_historyKind 16 = .ok (.aload_n 0, 1) := by decide +kernel
theorem dX9_historyKind_17 : decode cX9_historyKind 17 = .ok (.iload_n 3, 1) := by decide +kernel
theorem dX9_historyKind_18 : decode cX9_historyKind 18 = .ok (.invokevirtual 144, 3) := by decide +kernel
theorem dX9_historyKind_21 : decode cX9_historyKind 21 = .ok (.i2c, 1) := by decide +kernel
theorem dX9_historyKind_22 : decode cX9_historyKind 22 = .ok (.ireturn, 1) := by decide +kernel
theorem dX9_historyKind_23 : decode cX9_historyKind 23 = .ok (.aload_n 0, 1) := by decide +kernel
theorem dX9_historyKind_24 : decode cX9_historyKind 24 = .ok (.getfield 7, 3) := by decide +kernel
theorem dX9_historyKind_27 : decode cX9_historyKind 27 = .ok (.sipush 1200, 3) := by decide +kernel
theorem dX9_historyKind_30 : decode cX9_historyKind 30 = .ok (.aload_n 0, 1) := by decide +kernel
theorem dX9_historyKind_31 : decode cX9_historyKind 31 = .ok (.getfield 80, 3) := by decide +kernel
theorem dX9_historyKind_34 : decode cX9_historyKind 34 = .ok (.iload_n 1, 1) := by decide +kernel
theorem dX9_historyKind_35 : decode cX9_historyKind 35 = .ok (.iaload, 1) := by decide +kernel
theorem dX9_historyKind_36 : decode cX9_historyKind 36 = .ok (.iadd, 1) := by decide +kernel
theorem dX9_historyKind_37 : decode cX9_historyKind 37 = .ok (.iload_n 2, 1) := by decide +kernel
theorem dX9_historyKind_38 : decode cX9_historyKind 38 = .ok (.iadd, 1) := by decide +kernel
theorem dX9_historyKind_39 : decode cX9_historyKind 39 = .ok (.iaload, 1) := by decide +kernel
theorem dX9_historyKind_40 : decode cX9_historyKind 40 = .ok (.istore 4, 2) := by decide +kernel
theorem dX9_historyKind_42 : decode cX9_historyKind 42 = .ok (.iload 4, 2) := by decide +kernel
theorem dX9_historyKind_44 : decode cX9_historyKind 44 = .ok (.iconst 1, 1) := by decide +kernel
theorem dX9_historyKind_45 : decode cX9_historyKind 45 = .ok (.if_icmp .ne 8, 3) := by decide +kernel
theorem dX9_historyKind_48 : decode cX9_historyKind 48 = .ok (.bipush 105, 2) := by decide +kernel
theorem dX9_historyKind_50 : decode cX9_historyKind 50 = .ok (.goto 16, 3) := by decide +kernel
theorem dX9_historyKind_53 : decode cX9_historyKind 53 = .ok (.iload 4, 2) := by decide +kernel
theorem dX9_historyKind_55 : decode cX9_historyKind 55 = .ok (.iconst 2, 1) := by decide +kernel
theorem dX9_historyKind_56 : decode cX9_historyKind 56 = .ok (.if_icmp .ne 8, 3) := by decide +kernel
theorem dX9_historyKind_59 : decode cX9_historyKind 59 = .ok (.bipush 100, 2) := by decide +kernel
theorem dX9_historyKind_61 : decode cX9_historyKind 61 = .ok (.goto 5, 3) := by decide +kernel
theorem dX9_historyKind_64 : decode cX9_historyKind 64 = .ok (.bipush 110, 2) := by decide +kernel
theorem dX9_historyKind_66 : decode cX9_historyKind 66 = .ok (.ireturn, 1) := by decide +kernel
theorem dX9_historyPosition_0 : decode cX9_historyPosition 0 = .ok (.aload_n 0, 1) := by decide +kernel
theorem dX9_historyPosition_1 : decode cX9_historyPosition 1 = .ok (.iconst 0, 1) := by decide +kernel
theorem dX9_historyPosition_2 : decode cX9_historyPosition 2 = .ok (.putfield 92, 3) := by decide +kernel
theorem dX9_historyPosition_5 : decode cX9_historyPosition 5 = .ok (.aload_n 0, 1) := by decide +kernel
theorem dX9_historyPosition_6 : decode cX9_historyPosition 6 = .ok (.iload_n 1, 1) := by decide +kernel
theorem dX9_historyPosition_7 : decode cX9_historyPosition 7 = .ok (.iload_n 2, 1) := by decide +kernel
theorem dX9_historyPosition_8 : decode cX9_historyPosition 8 = .ok (.invokevirtual 209, 3) := by decide +kernel
theorem dX9_historyPosition_11 : decode cX9_historyPosition 11 = .ok (.istore_n 3, 1) := by decide +kernel
theorem dX9_historyPosition_12 : decode cX9_historyPosition 12 = .ok (.iload_n 3, 1) := by decide +kernel
theorem dX9_historyPosition_13 : decode cX9_historyPosition 13 = .ok (.ifCond .eq 9, 3) := by decide +kernel
theorem dX9_historyPosition_16 : decode cX9_historyPosition 16 = .ok (.aload_n 0, 1) := by decide +kernel
theorem dX9_historyPosition_17 : decode cX9_historyPosition 17 = .ok (.iload_n 3, 1) := by decide +kernel
theorem dX9_historyPosition_18 : decode cX9_historyPosition 18 = .ok (.invokevirtual 144, 3) := by decide +kernel
theorem dX9_historyPosition_21 : decode cX9_historyPosition 21 = .ok (.ireturn, 1) := by decide +kernel
theorem dX9_historyPosition_22 : decode cX9_historyPosition 22 = .ok (.sipush 1200, 3) := by decide +kernel
theorem dX9_historyPosition_25 : decode cX9_historyPosition 25 = .ok (.aload_n 0, 1) := by decide +kernel
theorem dX9_historyPosition_26 : decode cX9_historyPosition 26 = .ok (.getfield 80, 3) := by decide +kernel
theorem dX9_historyPosition_29 : decode cX9_historyPosition 29 = .ok (.iload_n 1, 1) := by decide +kernel
theorem dX9_historyPosition_30 : decode cX9_historyPosition 30 = .ok (.iaload, 1) := by decide +kernel
theorem dX9_historyPosition_31 : decode cX9_historyPosition 31 = .ok (.iadd, 1) := by decide +kernel
theorem dX9_historyPosition_32 : decode cX9_historyPosition 32 = .ok (.iload_n 2, 1) := by decide +kernel
theorem dX9_historyPosition_33 : decode cX9_historyPosition 33 = .ok (.iadd, 1) := by decide +kernel
theorem dX9_historyPosition_34 : decode cX9_historyPosition 34 = .ok (.istore 4, 2) := by decide +kernel
theorem dX9_historyPosition_36 : decode cX9_historyPosition 36 = .ok (.aload_n 0, 1) := by decide +kernel
theorem dX9_historyPosition_37 : decode cX9_historyPosition 37 = .ok (.getfield 7, 3) := by decide +kernel
theorem dX9_historyPosition_40 : decode cX9_historyPosition 40 = .ok (.iload 4, 2) := by decide +kernel
theorem dX9_historyPosition_42 : decode cX9_historyPosition 42 = .ok (.iaload, 1) := by decide +kernel
theorem dX9_historyPosition_43 : decode cX9_historyPosition 43 = .ok (.ifCond .ne 7, 3) := by decide +kernel
theorem dX9_historyPosition_46 : decode cX9_historyPosition 46 = .ok (.iconst (-1), 1) := by decide +kernel
theorem dX9_historyPosition_47 : decode cX9_historyPosition 47 = .ok (.goto 10, 3) := by decide +kernel
theorem dX9_historyPosition_50 : decode cX9_historyPosition 50 = .ok (.aload_n 0, 1) := by decide +kernel
theorem dX9_historyPosition_51 : decode cX9_historyPosition 51 = .ok (.getfield 13, 3) := by decide +kernel
theorem dX9_historyPosition_54 : decode cX9_historyPosition 54 = .ok (.iload 4, 2) := by decide +kernel
theorem dX9_historyPosition_56 : decode cX9_historyPosition 56 = .ok (.iaload, 1) := by decide +kernel
theorem dX9_historyPosition_57 : decode cX9_historyPosition 57 = .ok (.ireturn, 1) := by decide +kernel
theorem dX9_areSame_0 : decode cX9_areSame 0 = .ok (.aload_n 0, 1) := by decide +kernel
theorem dX9_areSame_1 : decode cX9_areSame 1 = .ok (.getfield 34, 3) := by decide +kernel
theorem dX9_areSame_4 : decode cX9_areSame 4 = .ok (.iload_n 1, 1) := by decide +kernel
theorem dX9_areSame_5 : decode cX9_areSame 5 = .ok (.iaload, 1) := by decide +kernel
theorem dX9_areSame_6 : decode cX9_areSame 6 = .ok (.aload_n 0, 1) := by decide +kernel
theorem dX9_areSame_7 : decode cX9_areSame 7 = .ok (.getfield 34, 3) := by decide +kernel
theorem dX9_areSame_10 : decode cX9_areSame 10 = .ok (.iload_n 2, 1) := by decide +kernel
theorem dX9_areSame_11 : decode cX9_areSame 11 = .ok (.iaload, 1) := by decide +kernel
theorem dX9_areSame_12 : decode cX9_areSame 12 = .ok (.if_icmp .eq 5, 3) := by decide +kernel
theorem dX9_areSame_15 : decode cX9_areSame 15 = .ok (.iconst 0, 1) := by decide +kernel
theorem dX9_areSame_16 : decode cX9_areSame 16 = .ok (.ireturn, 1) := by decide +kernel
theorem dX9_areSame_17 : decode cX9_areSame 17 = .ok (.iconst 0, 1) := by decide +kernel
theorem dX9_areSame_18 : decode cX9_areSame 18 = .ok (.istore_n 3, 1) := by decide +kernel
theorem dX9_areSame_19 : decode cX9_areSame 19 = .ok (.iload_n 3, 1) := by decide +kernel
theorem dX9_areSame_20 : decode cX9_areSame 20 = .ok (.aload_n 0, 1) := by decide +kernel
theorem dX9_areSame_21 : decode cX9_areSame 21 = .ok (.getfield 34, 3) := by decide +kernel
theorem dX9_areSame_24 : decode cX9_areSame 24 = .ok (.iload_n 1, 1) := by decide +kernel
theorem dX9_areSame_25 : decode cX9_areSame 25 = .ok (.iaload, 1) := by decide +kernel
theorem dX9_areSame_26 : decode cX9_areSame 26 = .ok (.if_icmp .ge 26, 3) := by decide +kernel
theorem dX9_areSame_29 : decode cX9_areSame 29 = .ok (.aload_n 0, 1) := by decide +kernel
theorem dX9_areSame_30 : decode cX9_areSame 30 = .ok (.iload_n 1, 1) := by decide +kernel
theorem dX9_areSame_31 : decode cX9_areSame 31 = .ok (.iload_n 3, 1) := by decide +kernel
theorem dX9_areSame_32 : decode cX9_areSame 32 = .ok (.invokevirtual 157, 3) := by decide +kernel
theorem dX9_areSame_35 : decode cX9_areSame 35 = .ok (.aload_n 0, 1) := by decide +kernel
theorem dX9_areSame_36 : decode cX9_areSame 36 = .ok (.iload_n 2, 1) := by decide +kernel
theorem dX9_areSame_37 : decode cX9_areSame 37 = .ok (.iload_n 3, 1) := by decide +kernel
theorem dX9_areSame_38 : decode cX9_areSame 38 = .ok (.invokevirtual 157, 3) := by decide +kernel
theorem dX9_areSame_41 : decode cX9_areSame 41 = .ok (.if_icmp .eq 5, 3) := by decide +kernel
theorem dX9_areSame_44 : decode cX9_areSame 44 = .ok (.iconst 0, 1) := by decide +kernel
theorem dX9_areSame_45 : decode cX9_areSame 45 = .ok (.ireturn, 1) := by decide +kernel
theorem dX9_areSame_46 : decode cX9_areSame 46 = .ok (.iinc 3 1, 3) := by decide +kernel
theorem dX9_areSame_49 : decode cX9_areSame 49 = .ok (.goto (-30), 3) := by decide +kernel
theorem dX9_areSame_52 : decode cX9_areSame 52 = .ok (.iconst 1, 1) := by decide +kernel
theorem dX9_areSame_53 : decode cX9_areSame 53 = .ok (.ireturn, 1) := by decide +kernel
theorem dX9_agree_0 : decode cX9_agree 0 = .ok (.aload_n 0, 1) := by decide +kernel
theorem dX9_agree_1 : decode cX9_agree 1 = .ok (.iconst 0, 1) := by decide +kernel
theorem dX9_agree_2 : decode cX9_agree 2 = .ok (.putfield 92, 3) := by decide +kernel
theorem dX9_agree_5 : decode cX9_agree 5 = .ok (.aload_n 0, 1) := by decide +kernel
theorem dX9_agree_6 : decode cX9_agree 6 = .ok (.iconst 0, 1) := by decide +kernel
theorem dX9_agree_7 : decode cX9_agree 7 = .ok (.iconst 1, 1) := by decide +kernel
theorem dX9_agree_8 : decode cX9_agree 8 = .ok (.invokevirtual 212, 3) := by decide +kernel
theorem dX9_agree_11 : decode cX9_agree 11 = .ok (.ifCond .eq 16, 3) := by decide +kernel
theorem dX9_agree_14 : decode cX9_agree 14 = .ok (.aload_n 0, 1) := by decide +kernel
theorem dX9_agree_15 : decode cX9_agree 15 = .ok (.iconst 0, 1) := by decide +kernel
theorem dX9_agree_16 : decode cX9_agree 16 = .ok (.iconst 2, 1) := by decide +kernel
theorem dX9_agree_17 : decode cX9_agree 17 = .ok (.invokevirtual 212, 3) := by decide +kernel
theorem dX9_agree_20 : decode cX9_agree 20 = .ok (.ifCond .eq 7, 3) := by decide +kernel
theorem dX9_agree_23 : decode cX9_agree 23 = .ok (.iconst 1, 1) := by decide +kernel
theorem dX9_agree_24 : decode cX9_agree 24 = .ok (.goto 4, 3) := by decide +kernel
theorem dX9_agree_27 : decode cX9_agree 27 = .ok (.iconst 0, 1) := by decide +kernel
theorem dX9_agree_28 : decode cX9_agree 28 = .ok (.ireturn, 1) := by decide +kernel
theorem dX9_distance_0 : decode cX9_distance 0 = .ok (.aload_n 0, 1) := by decide +kernel
theorem dX9_distance_1 : decode cX9_distance 1 = .ok (.iconst 0, 1) := by decide +kernel
theorem dX9_distance_2 : decode cX9_distance 2 = .ok (.putfield 92, 3) := by decide +kernel
theorem dX9_distance_5 : decode cX9_distance 5 = .ok (.iconst 0, 1) := by decide +kernel
theorem dX9_distance_6 : decode cX9_distance 6 = .ok (.istore_n 1, 1) := by decide +kernel
theorem dX9_distance_7 : decode cX9_distance 7 = .ok (.iload_n 1, 1) := by decide +kernel
theorem dX9_distance_8 : decode cX9_distance 8 = .ok (.aload_n 0, 1) := by decide +kernel
theorem dX9_distance_9 : decode cX9_distance 9 = .ok (.getfield 34, 3) := by decide +kernel
theorem dX9_distance_12 : decode cX9_distance 12 = .ok (.iconst 1, 1) := by decide +kernel
theorem dX9_distance_13 : decode cX9_distance 13 = .ok (.iaload, 1) := by decide +kernel
theorem dX9_distance_14 : decode cX9_distance 14 = .ok (.if_icmp .gt 16, 3) := by decide +kernel
theorem dX9_distance_17 : decode cX9_distance 17 = .ok (.aload_n 0, 1) := by decide +kernel
theorem dX9_distance_18 : decode cX9_distance 18 = .ok (.getfield 86, 3) := by decide +kernel
theorem dX9_distance_21 : decode cX9_distance 21 = .ok (.iload_n 1, 1) := by decide +kernel
theorem dX9_distance_22 : decode cX9_distance 22 = .ok (.iload_n 1, 1) := by decide +kernel
theorem dX9_distance_23 : decode cX9_distance 23 = .ok (.iastore, 1) := by decide +kernel
theorem dX9_distance_24 : decode cX9_distance 24 = .ok (.iinc 1 1, 3) := by decide +kernel
theorem dX9_distance_27 : decode cX9_distance 27 = .ok (.goto (-20), 3) := by decide +kernel
theorem dX9_distance_30 : decode cX9_distance 30 = .ok (.iconst 1, 1) := by decide +kernel
theorem dX9_distance_31 : decode cX9_distance 31 = .ok (.istore_n 1, 1) := by decide +kernel
theorem dX9_distance_32 : decode cX9_distance 32 = .ok (.iload_n 1, 1) := by decide +kernel
theorem dX9_distance_33 : decode cX9_distance 33 = .ok (.aload_n 0, 1) := by decide +kernel
theorem dX9_distance_34 : decode cX9_distance 34 = .ok (.getfield 34, 3) := by decide +kernel
theorem dX9_distance_37 : decode cX9_distance 37 = .ok (.iconst 0, 1) := by decide +kernel
theorem dX9_distance_38 : decode cX9_distance 38 = .ok (.iaload, 1) := by decide +kernel
theorem dX9_distance_39 : decode cX9_distance 39 = .ok (.if_icmp .gt 138, 3) := by decide +kernel
theorem dX9_distance_42 : decode cX9_distance 42 = .ok (.iconst 0, 1) := by decide +kernel
theorem dX9_distance_43 : decode cX9_distance 43 = .ok (.istore_n 2, 1) := by decide +kernel
theorem dX9_distance_44 : decode cX9_distance 44 = .ok (.iload_n 2, 1) := by decide +kernel
theorem dX9_distance_45 : decode cX9_distance 45 = .ok (.aload_n 0, 1) := by decide +kernel
theorem dX9_distance_46 : decode cX9_distance 46 = .ok (.getfield 34, 3) := by decide +kernel
theorem dX9_distance_49 : decode cX9_distance 49 = .ok (.iconst 1, 1) := by decide +kernel
theorem dX9_distance_50 : decode cX9_distance 50 = .ok (.iaload, 1) := by decide +kernel
theorem dX9_distance_51 : decode cX9_distance 51 = .ok (.if_icmp .gt 21, 3) := by decide +kernel
theorem dX9_distance_54 : decode cX9_distance 54 = .ok (.aload_n 0, 1) := by decide +kernel
theorem dX9_distance_55 : decode cX9_distance 55 = .ok (.getfield 89, 3) := by decide +kernel
theorem dX9_distance_58 : decode cX9_distance 58 = .ok (.iload_n 2, 1) := by decide +kernel
theorem dX9_distance_59 : decode cX9_distance 59 = .ok (.aload_n 0, 1) := by decide +kernel
theorem dX9_distance_60 : decode cX9_distance 60 = .ok (.getfield 86, 3) := by decide +kernel
theorem dX9_distance_63 : decode cX9_distance 63 = .ok (.iload_n 2, 1) := by decide +kernel
theorem dX9_distance_64 : decode cX9_distance 64 = .ok (.iaload, 1) := by decide +kernel
theorem dX9_distance_65 : decode cX9_distance 65 = .ok (.iastore, 1) := by decide +kernel
theorem dX9_distance_66 : decode cX9_distance 66 = .ok (.iinc 2 1, 3) := by decide +kernel
theorem dX9_distance_69 : decode cX9_distance 69 = .ok (.goto (-25), 3) := by decide +kernel
theorem dX9_distance_72 : decode cX9_distance 72 = .ok (.aload_n 0, 1) := by decide +kernel
theorem dX9_distance_73 : decode cX9_distance 73 = .ok (.getfield 86, 3) := by decide +kernel
theorem dX9_distance_76 : decode cX9_distance 76 = .ok (.iconst 0, 1) := by decide +kernel
theorem dX9_distance_77 : decode cX9_distance 77 = .ok (.iload_n 1, 1) := by decide +kernel
theorem dX9_distance_78 : decode cX9_distance 78 = .ok (.iastore, 1) := by decide +kernel
theorem dX9_distance_79 : decode cX9_distance 79 = .ok (.iconst 1, 1) := by decide +kernel
theorem dX9_distance_80 : decode cX9_distance 80 = .ok (.istore_n 2, 1) := by decide +kernel
theorem dX9_distance_81 : decode cX9_distance 81 = .ok (.iload_n 2, 1) := by decide +kernel
theorem dX9_distance_82 : decode cX9_distance 82 = .ok (.aload_n 0, 1) := by decide +kernel
theorem dX9_distance_83 : decode cX9_distance 83 = .ok (.getfield 34, 3) := by decide +kernel
theorem dX9_distance_86 : decode cX9_distance 86 = .ok (.iconst 1, 1) := by decide +kernel
theorem dX9_distance_87 : decode cX9_distance 87 = .ok (.iaload, 1) := by decide +kernel
theorem dX9_distance_88 : decode cX9_distance 88 = .ok (.if_icmp .gt 83, 3) := by decide +kernel
theorem dX9_distance_91 : decode cX9_distance 91 = .ok (.aload_n 0, 1) := by decide +kernel
theorem dX9_distance_92 : decode cX9_distance 92 = .ok (.getfield 86, 3) := by decide +kernel
theorem dX9_distance_95 : decode cX9_distance 95 = .ok (.iload_n 2, 1) := by decide +kernel
theorem dX9_distance_96 : decode cX9_distance 96 = .ok (.iconst 1, 1) := by decide +kernel
theorem dX9_distance_97 : decode cX9_distance 97 = .ok (.isub, 1) := by decide +kernel
theorem dX9_distance_98 : decode cX9_distance 98 = .ok (.iaload, 1) := by decide +kernel
theorem dX9_distance_99 : decode cX9_distance 99 = .ok (.aload_n 0, 1) := by decide +kernel
theorem dX9_distance_100 : decode cX9_distance 100 = .ok (.getfield 89, 3) := by decide +kernel
theorem dX9_distance_103 : decode cX9_distance 103 = .ok (.iload_n 2, 1) := by decide +kernel
theorem dX9_distance_104 : decode cX9_distance 104 = .ok (.iaload, 1) := by decide +kernel
theorem dX9_distance_105 : decode cX9_distance 105 = .ok (.if_icmp .ge 14, 3) := by decide +kernel
theorem dX9_distance_108 : decode cX9_distance 108 = .ok (.aload_n 0, 1) := by decide +kernel
theorem dX9_distance_109 : decode cX9_distance 109 = .ok (.getfield 86, 3) := by decide +kernel
theorem dX9_distance_112 : decode cX9_distance 112 = .ok (.iload_n 2, 1) := by decide +kernel
theorem dX9_distance_113 : decode cX9_distance 113 = .ok (.iconst 1, 1) := by decide +kernel
theorem dX9_distance_114 : decode cX9_distance 114 = .ok (.isub, 1) := by decide +kernel
theorem dX9_distance_115 : decode cX9_distance 115 = .ok (.iaload, 1) := by decide +kernel
theorem dX9_distance_116 : decode cX9_distance 116 = .ok (.goto 9, 3) := by decide +kernel
theorem dX9_distance_119 : decode cX9_distance 119 = .ok (.aload_n 0, 1) := by decide +kernel
theorem dX9_distance_120 : decode cX9_distance 120 = .ok (.getfield 89, 3) := by decide +kernel
theorem dX9_distance_123 : decode cX9_distance 123 = .ok (.iload_n 2, 1) := by decide +kernel
theorem dX9_distance_124 : decode cX9_distance 124 = .ok (.iaload, 1) := by decide +kernel
theorem dX9_distance_125 : decode cX9_distance 125 = .ok (.istore_n 3, 1) := by decide +kernel
theorem dX9_distance_126 : decode cX9_distance 126 = .ok (.aload_n 0, 1) := by decide +kernel
theorem dX9_distance_127 : decode cX9_distance 127 = .ok (.getfield 86, 3) := by decide +kernel
theorem dX9_distance_130 : decode cX9_distance 130 = .ok (.iload_n 2, 1) := by decide +kernel
theorem dX9_distance_131 : decode cX9_distance 131 = .ok (.aload_n 0, 1) := by decide +kernel
theorem dX9_distance_132 : decode cX9_distance 132 = .ok (.iconst 0, 1) := by decide +kernel
theorem dX9_distance_133 : decode cX9_distance 133 = .ok (.iload_n 1, 1) := by decide +kernel
theorem dX9_distance_134 : decode cX9_distance 134 = .ok (.iconst 1, 1) := by decide +kernel
theorem dX9_distance_135 : decode cX9_distance 135 = .ok (.isub, 1) := by decide +kernel
theorem dX9_distance_136 : decode cX9_distance 136 = .ok (.invokevirtual 157, 3) := by decide +kernel
theorem dX9_distance_139 : decode cX9_distance 139 = .ok (.aload_n 0, 1) := by decide +kernel
theorem dX9_distance_140 : decode cX9_distance 140 = .ok (.iconst 1, 1) := by decide +kernel
theorem dX9_distance_141 : decode cX9_distance 141 = .ok (.iload_n 2, 1) := by decide +kernel
theorem dX9_distance_142 : decode cX9_distance 142 = .ok (.iconst 1, 1) := by decide +kernel
theorem dX9_distance_143 : decode cX9_distance 143 = .ok (.isub, 1) := by decide +kernel
theorem dX9_distance_144 : decode cX9_distance 144 = .ok (.invokevirtual 157, 3) := by decide +kernel
theorem dX9_distance_147 : decode cX9_distance 147 = .ok (.if_icmp .ne 14, 3) := by decide +kernel
theorem dX9_distance_150 : decode cX9_distance 150 = .ok (.aload_n 0, 1) := by decide +kernel
theorem dX9_distance_151 : decode cX9_distance 151 = .ok (.getfield 89, 3) := by decide +kernel
theorem dX9_distance_154 : decode cX9_distance 154 = .ok (.iload_n 2, 1) := by decide +kernel
theorem dX9_distance_155 : decode cX9_distance 155 = .ok (.iconst 1, 1) := by decide +kernel
theorem dX9_distance_156 : decode cX9_distance 156 = .ok (.isub, 1) := by decide +kernel
theorem dX9_distance_157 : decode cX9_distance 157 = .ok (.iaload, 1) := by decide +kernel
theorem dX9_distance_158 : decode cX9_distance 158 = .ok (.goto 6, 3) := by decide +kernel
theorem dX9_distance_161 : decode cX9_distance 161 = .ok (.iload_n 3, 1) := by decide +kernel
theorem dX9_distance_162 : decode cX9_distance 162 = .ok (.iconst 1, 1) := by decide +kernel
theorem dX9_distance_163 : decode cX9_distance 163 = .ok (.iadd, 1) := by decide +kernel
theorem dX9_distance_164 : decode cX9_distance 164 = .ok (.iastore, 1) := by decide +kernel
theorem dX9_distance_165 : decode cX9_distance 165 = .ok (.iinc 2 1, 3) := by decide +kernel
theorem dX9_distance_168 : decode cX9_distance 168 = .ok (.goto (-87), 3) := by decide +kernel
theorem dX9_distance_171 : decode cX9_distance 171 = .ok (.iinc 1 1, 3) := by decide +kernel
theorem dX9_distance_174 : decode cX9_distance 174 = .ok (.goto (-142), 3) := by decide +kernel
theorem dX9_distance_177 : decode cX9_distance 177 = .ok (.aload_n 0, 1) := by decide +kernel
theorem dX9_distance_178 : decode cX9_distance 178 = .ok (.getfield 86, 3) := by decide +kernel
theorem dX9_distance_181 : decode cX9_distance 181 = .ok (.aload_n 0, 1) := by decide +kernel
theorem dX9_distance_182 : decode cX9_distance 182 = .ok (.getfield 34, 3) := by decide +kernel
theorem dX9_distance_185 : decode cX9_distance 185 = .ok (.iconst 1, 1) := by decide +kernel
theorem dX9_distance_186 : decode cX9_distance 186 = .ok (.iaload, 1) := by decide +kernel
theorem dX9_distance_187 : decode cX9_distance 187 = .ok (.iaload, 1) := by decide +kernel
theorem dX9_distance_188 : decode cX9_distance 188 = .ok (.ireturn, 1) := by decide +kernel
theorem dX9_distanceByWays_0 : decode cX9_distanceByWays 0 = .ok (.aload_n 0, 1) := by decide +kernel
theorem dX9_distanceByWays_1 : decode cX9_distanceByWays 1 = .ok (.invokevirtual 215, 3) := by decide +kernel
theorem dX9_distanceByWays_4 : decode cX9_distanceByWays 4 = .ok (.ireturn, 1) := by decide +kernel
theorem dX9_ownShare_0 : decode cX9_ownShare 0 = .ok (.aload_n 0, 1) := by decide +kernel
theorem dX9_ownShare_1 : decode cX9_ownShare 1 = .ok (.iconst 0, 1) := by decide +kernel
theorem dX9_ownShare_2 : decode cX9_ownShare 2 = .ok (.putfield 92, 3) := by decide +kernel
theorem dX9_ownShare_5 : decode cX9_ownShare 5 = .ok (.iload_n 1, 1) := by decide +kernel
theorem dX9_ownShare_6 : decode cX9_ownShare 6 = .ok (.invokestatic 140, 3) := by decide +kernel
theorem dX9_ownShare_9 : decode cX9_ownShare 9 = .ok (.ifCond .ne 10, 3) := by decide +kernel
theorem dX9_ownShare_12 : decode cX9_ownShare 12 = .ok (.aload_n 0, 1) := by decide +kernel
theorem dX9_ownShare_13 : decode cX9_ownShare 13 = .ok (.iconst 1, 1) := by decide +kernel
theorem dX9_ownShare_14 : decode cX9_ownShare 14 = .ok (.invokevirtual 144, 3) := by decide +kernel
theorem dX9_ownShare_17 : decode cX9_ownShare 17 = .ok (.i2f, 1) := by decide +kernel
theorem dX9_ownShare_18 : decode cX9_ownShare 18 = .ok (.freturn, 1) := by decide +kernel
theorem dX9_ownShare_19 : decode cX9_ownShare 19 = .ok (.iconst 0, 1) := by decide +kernel
theorem dX9_ownShare_20 : decode cX9_ownShare 20 = .ok (.istore_n 2, 1) := by decide +kernel
theorem dX9_ownShare_21 : decode cX9_ownShare 21 = .ok (.iconst 0, 1) := by decide +kernel
theorem dX9_ownShare_22 : decode cX9_ownShare 22 = .ok (.istore_n 3, 1) := by decide +kernel
theorem dX9_ownShare_23 : decode cX9_ownShare 23 = .ok (.iload_n 3, 1) := by decide +kernel
theorem dX9_ownShare_24 : decode cX9_ownShare 24 = .ok (.aload_n 0, 1) := by decide +kernel
theorem dX9_ownShare_25 : decode cX9_ownShare 25 = .ok (.getfield 34, 3) := by decide +kernel
theorem dX9_ownShare_28 : decode cX9_ownShare 28 = .ok (.iload_n 1, 1) := by decide +kernel
theorem dX9_ownShare_29 : decode cX9_ownShare 29 = .ok (.iaload, 1) := by decide +kernel
theorem dX9_ownShare_30 : decode cX9_ownShare 30 = .ok (.if_icmp .ge 33, 3) := by decide +kernel
theorem dX9_ownShare_33 : decode cX9_ownShare 33 = .ok (.iload_n 2, 1) := by decide +kernel
theorem dX9_ownShare_34 : decode cX9_ownShare 34 = .ok (.aload_n 0, 1) := by decide +kernel
theorem dX9_ownShare_35 : decode cX9_ownShare 35 = .ok (.getfield 31, 3) := by decide +kernel
theorem dX9_ownShare_38 : decode cX9_ownShare 38 = .ok (.sipush 201, 3) := by decide +kernel
theorem dX9_ownShare_41 : decode cX9_ownShare 41 = .ok (.iload_n 1, 1) := by decide +kernel
theorem dX9_ownShare_42 : decode cX9_ownShare 42 = .ok (.imul, 1) := by decide +kernel
theorem dX9_ownShare_43 : decode cX9_ownShare 43 = .ok (.iload_n 3, 1) := by decide +kernel
theorem dX9_ownShare_44 : decode cX9_ownShare 44 = .ok (.iadd, 1) := by decide +kernel
theorem dX9_ownShare_45 : decode cX9_ownShare 45 = .ok (.iaload, 1) := by decide +kernel
theorem dX9_ownShare_46 : decode cX9_ownShare 46 = .ok (.iload_n 1, 1) := by decide +kernel
theorem dX9_ownShare_47 : decode cX9_ownShare 47 = .ok (.if_icmp .ne 7, 3) := by decide +kernel
theorem dX9_ownShare_50 : decode cX9_ownShare 50 = .ok (.iconst 1, 1) := by decide +kernel
theorem dX9_ownShare_51 : decode cX9_ownShare 51 = .ok (.goto 4, 3) := by decide +kernel
theorem dX9_ownShare_54 : decode cX9_ownShare 54 = .ok (.iconst 0, 1) := by decide +kernel
theorem dX9_ownShare_55 : decode cX9_ownShare 55 = .ok (.iadd, 1) := by decide +kernel
theorem dX9_ownShare_56 : decode cX9_ownShare 56 = .ok (.istore_n 2, 1) := by decide +kernel
theorem dX9_ownShare_57 : decode cX9_ownShare 57 = .ok (.iinc 3 1, 3) := by decide +kernel
theorem dX9_ownShare_60 : decode cX9_ownShare 60 = .ok (.goto (-37), 3) := by decide +kernel
theorem dX9_ownShare_63 : decode cX9_ownShare 63 = .ok (.aload_n 0, 1) := by decide +kernel
theorem dX9_ownShare_64 : decode cX9_ownShare 64 = .ok (.getfield 34, 3) := by decide +kernel
theorem dX9_ownShare_67 : decode cX9_ownShare 67 = .ok (.iload_n 1, 1) := by decide +kernel
theorem dX9_ownShare_68 : decode cX9_ownShare 68 = .ok (.iaload, 1) := by decide +kernel
theorem dX9_ownShare_69 : decode cX9_ownShare 69 = .ok (.ifCond .ne 12, 3) := by decide +kernel
theorem dX9_ownShare_72 : decode cX9_ownShare 72 = .ok (.aload_n 0, 1) := by decide +kernel
theorem dX9_ownShare_73 : decode cX9_ownShare 73 = .ok (.iconst 2, 1) := by decide +kernel
theorem dX9_ownShare_74 : decode cX9_ownShare 74 = .ok (.invokevirtual 144, 3) := by decide +kernel
theorem dX9_ownShare_77 : decode cX9_ownShare 77 = .ok (.i2f, 1) := by decide +kernel
theorem dX9_ownShare_78 : decode cX9_ownShare 78 = .ok (.goto 13, 3) := by decide +kernel
theorem dX9_ownShare_81 : decode cX9_ownShare 81 = .ok (.iload_n 2, 1) := by decide +kernel
theorem dX9_ownShare_82 : decode cX9_ownShare 82 = .ok (.i2f, 1) := by decide +kernel
theorem dX9_ownShare_83 : decode cX9_ownShare 83 = .ok (.aload_n 0, 1) := by decide +kernel
theorem dX9_ownShare_84 : decode cX9_ownShare 84 = .ok (.getfield 34, 3) := by decide +kernel
theorem dX9_ownShare_87 : decode cX9_ownShare 87 = .ok (.iload_n 1, 1) := by decide +kernel
theorem dX9_ownShare_88 : decode cX9_ownShare 88 = .ok (.iaload, 1) := by decide +kernel
theorem dX9_ownShare_89 : decode cX9_ownShare 89 = .ok (.i2f, 1) := by decide +kernel
theorem dX9_ownShare_90 : decode cX9_ownShare 90 = .ok (.fdiv, 1) := by decide +kernel
theorem dX9_ownShare_91 : decode cX9_ownShare 91 = .ok (.freturn, 1) := by decide +kernel
theorem dX9_meanRun_0 : decode cX9_meanRun 0 = .ok (.aload_n 0, 1) := by decide +kernel
theorem dX9_meanRun_1 : decode cX9_meanRun 1 = .ok (.iconst 0, 1) := by decide +kernel
theorem dX9_meanRun_2 : decode cX9_meanRun 2 = .ok (.putfield 92, 3) := by decide +kernel
theorem dX9_meanRun_5 : decode cX9_meanRun 5 = .ok (.aload_n 0, 1) := by decide +kernel
theorem dX9_meanRun_6 : decode cX9_meanRun 6 = .ok (.getfield 169, 3) := by decide +kernel
theorem dX9_meanRun_9 : decode cX9_meanRun 9 = .ok (.ifCond .ne 12, 3) := by decide +kernel
theorem dX9_meanRun_12 : decode cX9_meanRun 12 = .ok (.aload_n 0, 1) := by decide +kernel
theorem dX9_meanRun_13 : decode cX9_meanRun 13 = .ok (.iconst 1, 1) := by decide +kernel
theorem dX9_meanRun_14 : decode cX9_meanRun 14 = .ok (.invokevirtual 144, 3) := by decide +kernel
theorem dX9_meanRun_17 : decode cX9_meanRun 17 = .ok (.i2d, 1) := by decide +kernel
theorem dX9_meanRun_18 : decode cX9_meanRun 18 = .ok (.goto 14, 3) := by decide +kernel
theorem dX9_meanRun_21 : decode cX9_meanRun 21 = .ok (.aload_n 0, 1) := by decide +kernel
theorem dX9_meanRun_22 : decode cX9_meanRun 22 = .ok (.getfield 163, 3) := by decide +kernel
theorem dX9_meanRun_25 : decode cX9_meanRun 25 = .ok (.i2d, 1) := by decide +kernel
theorem dX9_meanRun_26 : decode cX9_meanRun 26 = .ok (.aload_n 0, 1) := by decide +kernel
theorem dX9_meanRun_27 : decode cX9_meanRun 27 = .ok (.getfield 169, 3) := by decide +kernel
theorem dX9_meanRun_30 : decode cX9_meanRun 30 = .ok (.i2d, 1) := by decide +kernel
theorem dX9_meanRun_31 : decode cX9_meanRun 31 = .ok (.ddiv, 1) := by decide +kernel
theorem dX9_meanRun_32 : decode cX9_meanRun 32 = .ok (.dreturn, 1) := by decide +kernel
theorem dX9_textNumber_0 : decode cX9_textNumber 0 = .ok (.aload_n 0, 1) := by decide +kernel
theorem dX9_textNumber_1 : decode cX9_textNumber 1 = .ok (.iconst 0, 1) := by decide +kernel
theorem dX9_textNumber_2 : decode cX9_textNumber 2 = .ok (.putfield 92, 3) := by decide +kernel
theorem dX9_textNumber_5 : decode cX9_textNumber 5 = .ok (.iload_n 1, 1) := by decide +kernel
theorem dX9_textNumber_6 : decode cX9_textNumber 6 = .ok (.invokestatic 140, 3) := by decide +kernel
theorem dX9_textNumber_9 : decode cX9_textNumber 9 = .ok (.ifCond .ne 10, 3) := by decide +kernel
theorem dX9_textNumber_12 : decode cX9_textNumber 12 = .ok (.aload_n 0, 1) := by decide +kernel
theorem dX9_textNumber_13 : decode cX9_textNumber 13 = .ok (.iconst 1, 1) := by decide +kernel
theorem dX9_textNumber_14 : decode cX9_textNumber 14 = .ok (.invokevirtual 144, 3) := by decide +kernel
theorem dX9_textNumber_17 : decode cX9_textNumber 17 = .ok (.i2l, 1) := by decide +kernel
theorem dX9_textNumber_18 : decode cX9_textNumber 18 = .ok (.lreturn, 1) := by decide +kernel
theorem dX9_textNumber_19 : decode cX9_textNumber 19 = .ok (.ldc2_w 219, 3) := by decide +kernel
theorem dX9_textNumber_22 : decode cX9_textNumber 22 = .ok (.lstore_n 2, 1) := by decide +kernel
theorem dX9_textNumber_23 : decode cX9_textNumber 23 = .ok (.iconst 0, 1) := by decide +kernel
theorem dX9_textNumber_24 : decode cX9_textNumber 24 = .ok (.istore 4, 2) := by decide +kernel
theorem dX9_textNumber_26 : decode cX9_textNumber 26 = .ok (.iload 4, 2) := by decide +kernel
theorem dX9_textNumber_28 : decode cX9_textNumber 28 = .ok (.aload_n 0, 1) := by decide +kernel
theorem dX9_textNumber_29 : decode cX9_textNumber 29 = .ok (.getfield 34, 3) := by decide +kernel
theorem dX9_textNumber_32 : decode cX9_textNumber 32 = .ok (.iload_n 1, 1) := by decide +kernel
theorem dX9_textNumber_33 : decode cX9_textNumber 33 = .ok (.iaload, 1) := by decide +kernel
theorem dX9_textNumber_34 : decode cX9_textNumber 34 = .ok (.if_icmp .ge 24, 3) := by decide +kernel
theorem dX9_textNumber_37 : decode cX9_textNumber 37 = .ok (.ldc2_w 221, 3) := by decide +kernel
theorem dX9_textNumber_40 : decode cX9_textNumber 40 = .ok (.lload_n 2, 1) := by decide +kernel
theorem dX9_textNumber_41 : decode cX9_textNumber 41 = .ok (.lmul, 1) := by decide +kernel
theorem dX9_textNumber_42 : decode cX9_textNumber 42 = .ok (.aload_n 0, 1) := by decide +kernel
theorem dX9_textNumber_43 : decode cX9_textNumber 43 = .ok (.iload_n 1, 1) := by decide +kernel
theorem dX9_textNumber_44 : decode cX9_textNumber 44 = .ok (.iload 4, 2) := by decide +kernel
theorem dX9_textNumber_46 : decode cX9_textNumber 46 = .ok (.invokevirtual 157, 3) := by decide +kernel
theorem dX9_textNumber_49 : decode cX9_textNumber 49 = .ok (.i2l, 1) := by decide +kernel
theorem dX9_textNumber_50 : decode cX9_textNumber 50 = .ok (.ladd, 1) := by decide +kernel
theorem dX9_textNumber_51 : decode cX9_textNumber 51 = .ok (.lstore_n 2, 1) := by decide +kernel
theorem dX9_textNumber_52 : decode cX9_textNumber 52 = .ok (.iinc 4 1, 3) := by decide +kernel
theorem dX9_textNumber_55 : decode cX9_textNumber 55 = .ok (.goto (-29), 3) := by decide +kernel
theorem dX9_textNumber_58 : decode cX9_textNumber 58 = .ok (.lload_n 2, 1) := by decide +kernel
theorem dX9_textNumber_59 : decode cX9_textNumber 59 = .ok (.lreturn, 1) := by decide +kernel
