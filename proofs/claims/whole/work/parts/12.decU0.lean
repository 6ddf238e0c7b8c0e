theorem d_U_init_0 : decode M_U_init.2.1 0 = .ok (.aload_n 0, 1) := by decide +kernel
theorem d_U_init_1 : decode M_U_init.2.1 1 = .ok (.invokespecial 3, 3) := by decide +kernel
theorem d_U_init_4 : decode M_U_init.2.1 4 = .ok (.aload_n 0, 1) := by decide +kernel
theorem d_U_init_5 : decode M_U_init.2.1 5 = .ok (.bipush 64, 2) := by decide +kernel
theorem d_U_init_7 : decode M_U_init.2.1 7 = .ok (.newarray .int, 2) := by decide +kernel
theorem d_U_init_9 : decode M_U_init.2.1 9 = .ok (.putfield 9, 3) := by decide +kernel
theorem d_U_init_12 : decode M_U_init.2.1 12 = .ok (.aload_n 0, 1) := by decide +kernel
theorem d_U_init_13 : decode M_U_init.2.1 13 = .ok (.bipush 64, 2) := by decide +kernel
theorem d_U_init_15 : decode M_U_init.2.1 15 = .ok (.newarray .int, 2) := by decide +kernel
theorem d_U_init_17 : decode M_U_init.2.1 17 = .ok (.putfield 15, 3) := by decide +kernel
theorem d_U_init_20 : decode M_U_init.2.1 20 = .ok (.aload_n 0, 1) := by decide +kernel
theorem d_U_init_21 : decode M_U_init.2.1 21 = .ok (.bipush 64, 2) := by decide +kernel
theorem d_U_init_23 : decode M_U_init.2.1 23 = .ok (.newarray .int, 2) := by decide +kernel
theorem d_U_init_25 : decode M_U_init.2.1 25 = .ok (.putfield 18, 3) := by decide +kernel
theorem d_U_init_28 : decode M_U_init.2.1 28 = .ok (.aload_n 0, 1) := by decide +kernel
theorem d_U_init_29 : decode M_U_init.2.1 29 = .ok (.sipush 256, 3) := by decide +kernel
theorem d_U_init_32 : decode M_U_init.2.1 32 = .ok (.newarray .int, 2) := by decide +kernel
theorem d_U_init_34 : decode M_U_init.2.1 34 = .ok (.putfield 21, 3) := by decide +kernel
theorem d_U_init_37 : decode M_U_init.2.1 37 = .ok (.aload_n 0, 1) := by decide +kernel
theorem d_U_init_38 : decode M_U_init.2.1 38 = .ok (.iconst 4, 1) := by decide +kernel
theorem d_U_init_39 : decode M_U_init.2.1 39 = .ok (.newarray .int, 2) := by decide +kernel
theorem d_U_init_41 : decode M_U_init.2.1 41 = .ok (.putfield 24, 3) := by decide +kernel
theorem d_U_init_44 : decode M_U_init.2.1 44 = .ok (.aload_n 0, 1) := by decide +kernel
theorem d_U_init_45 : decode M_U_init.2.1 45 = .ok (.aload_n 1, 1) := by decide +kernel
theorem d_U_init_46 : decode M_U_init.2.1 46 = .ok (.putfield 27, 3) := by decide +kernel
theorem d_U_init_49 : decode M_U_init.2.1 49 = .ok (.aload_n 0, 1) := by decide +kernel
theorem d_U_init_50 : decode M_U_init.2.1 50 = .ok (.aload_n 2, 1) := by decide +kernel
theorem d_U_init_51 : decode M_U_init.2.1 51 = .ok (.putfield 31, 3) := by decide +kernel
theorem d_U_init_54 : decode M_U_init.2.1 54 = .ok (.return_, 1) := by decide +kernel
theorem d_U_startAt_0 : decode M_U_startAt.2.1 0 = .ok (.aload_n 0, 1) := by decide +kernel
theorem d_U_startAt_1 : decode M_U_startAt.2.1 1 = .ok (.iconst 0, 1) := by decide +kernel
theorem d_U_startAt_2 : decode M_U_startAt.2.1 2 = .ok (.putfield 35, 3) := by decide +kernel
theorem d_U_startAt_5 : decode M_U_startAt.2.1 5 = .ok (.aload_n 0, 1) := by decide +kernel
theorem d_U_startAt_6 : decode M_U_startAt.2.1 6 = .ok (.getfield 9, 3) := by decide +kernel
theorem d_U_startAt_9 : decode M_U_startAt.2.1 9 = .ok (.iconst 0, 1) := by decide +kernel
theorem d_U_startAt_10 : decode M_U_startAt.2.1 10 = .ok (.iload_n 1, 1) := by decide +kernel
theorem d_U_startAt_11 : decode M_U_startAt.2.1 11 = .ok (.invokestatic 39, 3) := by decide +kernel
theorem d_U_startAt_14 : decode M_U_startAt.2.1 14 = .ok (.aload_n 0, 1) := by decide +kernel
theorem d_U_startAt_15 : decode M_U_startAt.2.1 15 = .ok (.getfield 15, 3) := by decide +kernel
theorem d_U_startAt_18 : decode M_U_startAt.2.1 18 = .ok (.iconst 0, 1) := by decide +kernel
theorem d_U_startAt_19 : decode M_U_startAt.2.1 19 = .ok (.iload_n 2, 1) := by decide +kernel
theorem d_U_startAt_20 : decode M_U_startAt.2.1 20 = .ok (.invokestatic 39, 3) := by decide +kernel
theorem d_U_startAt_23 : decode M_U_startAt.2.1 23 = .ok (.aload_n 0, 1) := by decide +kernel
theorem d_U_startAt_24 : decode M_U_startAt.2.1 24 = .ok (.getfield 18, 3) := by decide +kernel
theorem d_U_startAt_27 : decode M_U_startAt.2.1 27 = .ok (.iconst 0, 1) := by decide +kernel
theorem d_U_startAt_28 : decode M_U_startAt.2.1 28 = .ok (.iconst 0, 1) := by decide +kernel
theorem d_U_startAt_29 : decode M_U_startAt.2.1 29 = .ok (.invokestatic 39, 3) := by decide +kernel
theorem d_U_startAt_32 : decode M_U_startAt.2.1 32 = .ok (.return_, 1) := by decide +kernel
theorem d_U_advance_0 : decode M_U_advance.2.1 0 = .ok (.iconst 0, 1) := by decide +kernel
theorem d_U_advance_1 : decode M_U_advance.2.1 1 = .ok (.istore_n 1, 1) := by decide +kernel
theorem d_U_advance_2 : decode M_U_advance.2.1 2 = .ok (.iload_n 1, 1) := by decide +kernel
theorem d_U_advance_3 : decode M_U_advance.2.1 3 = .ok (.ldc 59, 2) := by decide +kernel
theorem d_U_advance_5 : decode M_U_advance.2.1 5 = .ok (.if_icmp .ge 249, 3) := by decide +kernel
theorem d_U_advance_8 : decode M_U_advance.2.1 8 = .ok (.aload_n 0, 1) := by decide +kernel
theorem d_U_advance_9 : decode M_U_advance.2.1 9 = .ok (.invokevirtual 60, 3) := by decide +kernel
theorem d_U_advance_12 : decode M_U_advance.2.1 12 = .ok (.aload_n 0, 1) := by decide +kernel
theorem d_U_advance_13 : decode M_U_advance.2.1 13 = .ok (.getfield 9, 3) := by decide +kernel
theorem d_U_advance_16 : decode M_U_advance.2.1 16 = .ok (.aload_n 0, 1) := by decide +kernel
theorem d_U_advance_17 : decode M_U_advance.2.1 17 = .ok (.getfield 35, 3) := by decide +kernel
theorem d_U_advance_20 : decode M_U_advance.2.1 20 = .ok (.invokestatic 43, 3) := by decide +kernel
theorem d_U_advance_23 : decode M_U_advance.2.1 23 = .ok (.istore_n 2, 1) := by decide +kernel
theorem d_U_advance_24 : decode M_U_advance.2.1 24 = .ok (.iload_n 2, 1) := by decide +kernel
theorem d_U_advance_25 : decode M_U_advance.2.1 25 = .ok (.aload_n 0, 1) := by decide +kernel
theorem d_U_advance_26 : decode M_U_advance.2.1 26 = .ok (.getfield 15, 3) := by decide +kernel
theorem d_U_advance_29 : decode M_U_advance.2.1 29 = .ok (.aload_n 0, 1) := by decide +kernel
theorem d_U_advance_30 : decode M_U_advance.2.1 30 = .ok (.getfield 35, 3) := by decide +kernel
theorem d_U_advance_33 : decode M_U_advance.2.1 33 = .ok (.invokestatic 43, 3) := by decide +kernel
theorem d_U_advance_36 : decode M_U_advance.2.1 36 = .ok (.if_icmp .lt 5, 3) := by decide +kernel
theorem d_U_advance_39 : decode M_U_advance.2.1 39 = .ok (.iconst 0, 1) := by decide +kernel
theorem d_U_advance_40 : decode M_U_advance.2.1 40 = .ok (.ireturn, 1) := by decide +kernel
theorem d_U_advance_41 : decode M_U_advance.2.1 41 = .ok (.aload_n 0, 1) := by decide +kernel
theorem d_U_advance_42 : decode M_U_advance.2.1 42 = .ok (.getfield 27, 3) := by decide +kernel
theorem d_U_advance_45 : decode M_U_advance.2.1 45 = .ok (.iload_n 2, 1) := by decide +kernel
theorem d_U_advance_46 : decode M_U_advance.2.1 46 = .ok (.invokevirtual 63, 3) := by decide +kernel
theorem d_U_advance_49 : decode M_U_advance.2.1 49 = .ok (.istore_n 3, 1) := by decide +kernel
theorem d_U_advance_50 : decode M_U_advance.2.1 50 = .ok (.aload_n 0, 1) := by decide +kernel
theorem d_U_advance_51 : decode M_U_advance.2.1 51 = .ok (.aload_n 0, 1) := by decide +kernel
theorem d_U_advance_52 : decode M_U_advance.2.1 52 = .ok (.getfield 27, 3) := by decide +kernel
theorem d_U_advance_55 : decode M_U_advance.2.1 55 = .ok (.iload_n 2, 1) := by decide +kernel
theorem d_U_advance_56 : decode M_U_advance.2.1 56 = .ok (.invokevirtual 69, 3) := by decide +kernel
theorem d_U_advance_59 : decode M_U_advance.2.1 59 = .ok (.invokestatic 72, 3) := by decide +kernel
theorem d_U_advance_62 : decode M_U_advance.2.1 62 = .ok (.putfield 47, 3) := by decide +kernel
theorem d_U_advance_65 : decode M_U_advance.2.1 65 = .ok (.aload_n 0, 1) := by decide +kernel
theorem d_U_advance_66 : decode M_U_advance.2.1 66 = .ok (.aload_n 0, 1) := by decide +kernel
theorem d_U_advance_67 : decode M_U_advance.2.1 67 = .ok (.getfield 27, 3) := by decide +kernel
theorem d_U_advance_70 : decode M_U_advance.2.1 70 = .ok (.iload_n 2, 1) := by decide +kernel
theorem d_U_advance_71 : decode M_U_advance.2.1 71 = .ok (.invokevirtual 69, 3) := by decide +kernel
theorem d_U_advance_74 : decode M_U_advance.2.1 74 = .ok (.invokestatic 75, 3) := by decide +kernel
theorem d_U_advance_77 : decode M_U_advance.2.1 77 = .ok (.putfield 50, 3) := by decide +kernel
theorem d_U_advance_80 : decode M_U_advance.2.1 80 = .ok (.aload_n 0, 1) := by decide +kernel
theorem d_U_advance_81 : decode M_U_advance.2.1 81 = .ok (.aload_n 0, 1) := by decide +kernel
theorem d_U_advance_82 : decode M_U_advance.2.1 82 = .ok (.getfield 18, 3) := by decide +kernel
theorem d_U_advance_85 : decode M_U_advance.2.1 85 = .ok (.aload_n 0, 1) := by decide +kernel
theorem d_U_advance_86 : decode M_U_advance.2.1 86 = .ok (.getfield 35, 3) := by decide +kernel
theorem d_U_advance_89 : decode M_U_advance.2.1 89 = .ok (.invokestatic 43, 3) := by decide +kernel
theorem d_U_advance_92 : decode M_U_advance.2.1 92 = .ok (.iload_n 3, 1) := by decide +kernel
theorem d_U_advance_93 : decode M_U_advance.2.1 93 = .ok (.iadd, 1) := by decide +kernel
theorem d_U_advance_94 : decode M_U_advance.2.1 94 = .ok (.putfield 53, 3) := by decide +kernel
theorem d_U_advance_97 : decode M_U_advance.2.1 97 = .ok (.aload_n 0, 1) := by decide +kernel
theorem d_U_advance_98 : decode M_U_advance.2.1 98 = .ok (.aload_n 0, 1) := by decide +kernel
theorem d_U_advance_99 : decode M_U_advance.2.1 99 = .ok (.getfield 47, 3) := by decide +kernel
theorem d_U_advance_102 : decode M_U_advance.2.1 102 = .ok (.iconst 2, 1) := by decide +kernel
theorem d_U_advance_103 : decode M_U_advance.2.1 103 = .ok (.if_icmp .ne 17, 3) := by decide +kernel
theorem d_U_advance_106 : decode M_U_advance.2.1 106 = .ok (.aload_n 0, 1) := by decide +kernel
theorem d_U_advance_107 : decode M_U_advance.2.1 107 = .ok (.getfield 31, 3) := by decide +kernel
theorem d_U_advance_110 : decode M_U_advance.2.1 110 = .ok (.aload_n 0, 1) := by decide +kernel
theorem d_U_advance_111 : decode M_U_advance.2.1 111 = .ok (.getfield 50, 3) := by decide +kernel
theorem d_U_advance_114 : decode M_U_advance.2.1 114 = .ok (.invokevirtual 78, 3) := by decide +kernel
theorem d_U_advance_117 : decode M_U_advance.2.1 117 = .ok (.goto 4, 3) := by decide +kernel
theorem d_U_advance_120 : decode M_U_advance.2.1 120 = .ok (.iconst 0, 1) := by decide +kernel
theorem d_U_advance_121 : decode M_U_advance.2.1 121 = .ok (.putfield 56, 3) := by decide +kernel
theorem d_U_advance_124 : decode M_U_advance.2.1 124 = .ok (.aload_n 0, 1) := by decide +kernel
theorem d_U_advance_125 : decode M_U_advance.2.1 125 = .ok (.getfield 9, 3) := by decide +kernel
theorem d_U_advance_128 : decode M_U_advance.2.1 128 = .ok (.aload_n 0, 1) := by decide +kernel
theorem d_U_advance_129 : decode M_U_advance.2.1 129 = .ok (.getfield 35, 3) := by decide +kernel
theorem d_U_advance_132 : decode M_U_advance.2.1 132 = .ok (.iload_n 2, 1) := by decide +kernel
theorem d_U_advance_133 : decode M_U_advance.2.1 133 = .ok (.iconst 1, 1) := by decide +kernel
theorem d_U_advance_134 : decode M_U_advance.2.1 134 = .ok (.iadd, 1) := by decide +kernel
theorem d_U_advance_135 : decode M_U_advance.2.1 135 = .ok (.aload_n 0, 1) := by decide +kernel
theorem d_U_advance_136 : decode M_U_advance.2.1 136 = .ok (.getfield 56, 3) := by decide +kernel
theorem d_U_advance_139 : decode M_U_advance.2.1 139 = .ok (.iadd, 1) := by decide +kernel
theorem d_U_advance_140 : decode M_U_advance.2.1 140 = .ok (.invokestatic 39, 3) := by decide +kernel
theorem d_U_advance_143 : decode M_U_advance.2.1 143 = .ok (.aload_n 0, 1) := by decide +kernel
theorem d_U_advance_144 : decode M_U_advance.2.1 144 = .ok (.getfield 47, 3) := by decide +kernel
theorem d_U_advance_147 : decode M_U_advance.2.1 147 = .ok (.ifCond .ne 16, 3) := by decide +kernel
theorem d_U_advance_150 : decode M_U_advance.2.1 150 = .ok (.aload_n 0, 1) := by decide +kernel
theorem d_U_advance_151 : decode M_U_advance.2.1 151 = .ok (.aload_n 0, 1) := by decide +kernel
theorem d_U_advance_152 : decode M_U_advance.2.1 152 = .ok (.aload_n 0, 1) := by decide +kernel
theorem d_U_advance_153 : decode M_U_advance.2.1 153 = .ok (.getfield 50, 3) := by decide +kernel
theorem d_U_advance_156 : decode M_U_advance.2.1 156 = .ok (.iload_n 3, 1) := by decide +kernel
theorem d_U_advance_157 : decode M_U_advance.2.1 157 = .ok (.invokevirtual 83, 3) := by decide +kernel
theorem d_U_advance_160 : decode M_U_advance.2.1 160 = .ok (.putfield 50, 3) := by decide +kernel
theorem d_U_advance_163 : decode M_U_advance.2.1 163 = .ok (.iconst 0, 1) := by decide +kernel
theorem d_U_advance_164 : decode M_U_advance.2.1 164 = .ok (.istore 4, 2) := by decide +kernel
theorem d_U_advance_166 : decode M_U_advance.2.1 166 = .ok (.iload 4, 2) := by decide +kernel
theorem d_U_advance_168 : decode M_U_advance.2.1 168 = .ok (.aload_n 0, 1) := by decide +kernel
theorem d_U_advance_169 : decode M_U_advance.2.1 169 = .ok (.getfield 56, 3) := by decide +kernel
theorem d_U_advance_172 : decode M_U_advance.2.1 172 = .ok (.if_icmp .ge 43, 3) := by decide +kernel
theorem d_U_advance_175 : decode M_U_advance.2.1 175 = .ok (.aload_n 0, 1) := by decide +kernel
theorem d_U_advance_176 : decode M_U_advance.2.1 176 = .ok (.getfield 27, 3) := by decide +kernel
theorem d_U_advance_179 : decode M_U_advance.2.1 179 = .ok (.iload_n 2, 1) := by decide +kernel
theorem d_U_advance_180 : decode M_U_advance.2.1 180 = .ok (.iconst 1, 1) := by decide +kernel
theorem d_U_advance_181 : decode M_U_advance.2.1 181 = .ok (.iadd, 1) := by decide +kernel
theorem d_U_advance_182 : decode M_U_advance.2.1 182 = .ok (.iload 4, 2) := by decide +kernel
theorem d_U_advance_184 : decode M_U_advance.2.1 184 = .ok (.iadd, 1) := by decide +kernel
theorem d_U_advance_185 : decode M_U_advance.2.1 185 = .ok (.invokevirtual 69, 3) := by decide +kernel
theorem d_U_advance_188 : decode M_U_advance.2.1 188 = .ok (.invokestatic 75, 3) := by decide +kernel
theorem d_U_advance_191 : decode M_U_advance.2.1 191 = .ok (.istore 5, 2) := by decide +kernel
theorem d_U_advance_193 : decode M_U_advance.2.1 193 = .ok (.aload_n 0, 1) := by decide +kernel
theorem d_U_advance_194 : decode M_U_advance.2.1 194 = .ok (.getfield 24, 3) := by decide +kernel
theorem d_U_advance_197 : decode M_U_advance.2.1 197 = .ok (.iload 4, 2) := by decide +kernel
theorem d_U_advance_199 : decode M_U_advance.2.1 199 = .ok (.aload_n 0, 1) := by decide +kernel
theorem d_U_advance_200 : decode M_U_advance.2.1 200 = .ok (.iload 5, 2) := by decide +kernel
theorem d_U_advance_202 : decode M_U_advance.2.1 202 = .ok (.iload_n 3, 1) := by decide +kernel
theorem d_U_advance_203 : decode M_U_advance.2.1 203 = .ok (.invokevirtual 83, 3) := by decide +kernel
theorem d_U_advance_206 : decode M_U_advance.2.1 206 = .ok (.invokestatic 39, 3) := by decide +kernel
theorem d_U_advance_209 : decode M_U_advance.2.1 209 = .ok (.iinc 4 1, 3) := by decide +kernel
theorem d_U_advance_212 : decode M_U_advance.2.1 212 = .ok (.goto (-46), 3) := by decide +kernel
theorem d_U_advance_215 : decode M_U_advance.2.1 215 = .ok (.aload_n 0, 1) := by decide +kernel
theorem d_U_advance_216 : decode M_U_advance.2.1 216 = .ok (.getfield 47, 3) := by decide +kernel
theorem d_U_advance_219 : decode M_U_advance.2.1 219 = .ok (.iconst 2, 1) := by decide +kernel
theorem d_U_advance_220 : decode M_U_advance.2.1 220 = .ok (.if_icmp .ne 17, 3) := by decide +kernel
theorem d_U_advance_223 : decode M_U_advance.2.1 223 = .ok (.aload_n 0, 1) := by decide +kernel
theorem d_U_advance_224 : decode M_U_advance.2.1 224 = .ok (.getfield 31, 3) := by decide +kernel
theorem d_U_advance_227 : decode M_U_advance.2.1 227 = .ok (.aload_n 0, 1) := by decide +kernel
theorem d_U_advance_228 : decode M_U_advance.2.1 228 = .ok (.getfield 50, 3) := by decide +kernel
theorem d_U_advance_231 : decode M_U_advance.2.1 231 = .ok (.invokevirtual 87, 3) := by decide +kernel
theorem d_U_advance_234 : decode M_U_advance.2.1 234 = .ok (.ifCond .eq 5, 3) := by decide +kernel
theorem d_U_advance_237 : decode M_U_advance.2.1 237 = .ok (.iconst 1, 1) := by decide +kernel
theorem d_U_advance_238 : decode M_U_advance.2.1 238 = .ok (.ireturn, 1) := by decide +kernel
theorem d_U_advance_239 : decode M_U_advance.2.1 239 = .ok (.aload_n 0, 1) := by decide +kernel
theorem d_U_advance_240 : decode M_U_advance.2.1 240 = .ok (.invokevirtual 91, 3) := by decide +kernel
theorem d_U_advance_243 : decode M_U_advance.2.1 243 = .ok (.ifCond .ne 5, 3) := by decide +kernel
theorem d_U_advance_246 : decode M_U_advance.2.1 246 = .ok (.iconst 0, 1) := by decide +kernel
theorem d_U_advance_247 : decode M_U_advance.2.1 247 = .ok (.ireturn, 1) := by decide +kernel
theorem d_U_advance_248 : decode M_U_advance.2.1 248 = .ok (.iinc 1 1, 3) := by decide +kernel
theorem d_U_advance_251 : decode M_U_advance.2.1 251 = .ok (.goto (-249), 3) := by decide +kernel
theorem d_U_advance_254 : decode M_U_advance.2.1 254 = .ok (.iconst 0, 1) := by decide +kernel
theorem d_U_advance_255 : decode M_U_advance.2.1 255 = .ok (.ireturn, 1) := by decide +kernel
theorem d_U_leaveEnded_0 : decode M_U_leaveEnded.2.1 0 = .ok (.aload_n 0, 1) := by decide +kernel
theorem d_U_leaveEnded_1 : decode M_U_leaveEnded.2.1 1 = .ok (.getfield 35, 3) := by decide +kernel
theorem d_U_leaveEnded_4 : decode M_U_leaveEnded.2.1 4 = .ok (.ifCond .le 41, 3) := by decide +kernel
theorem d_U_leaveEnded_7 : decode M_U_leaveEnded.2.1 7 = .ok (.aload_n 0, 1) := by decide +kernel
theorem d_U_leaveEnded_8 : decode M_U_leaveEnded.2.1 8 = .ok (.getfield 9, 3) := by decide +kernel
theorem d_U_leaveEnded_11 : decode M_U_leaveEnded.2.1 11 = .ok (.aload_n 0, 1) := by decide +kernel
theorem d_U_leaveEnded_12 : decode M_U_leaveEnded.2.1 12 = .ok (.getfield 35, 3) := by decide +kernel
theorem d_U_leaveEnded_15 : decode M_U_leaveEnded.2.1 15 = .ok (.invokestatic 43, 3) := by decide +kernel
theorem d_U_leaveEnded_18 : decode M_U_leaveEnded.2.1 18 = .ok (.aload_n 0, 1) := by decide +kernel
theorem d_U_leaveEnded_19 : decode M_U_leaveEnded.2.1 19 = .ok (.getfield 15, 3) := by decide +kernel
theorem d_U_leaveEnded_22 : decode M_U_leaveEnded.2.1 22 = .ok (.aload_n 0, 1) := by decide +kernel
theorem d_U_leaveEnded_23 : decode M_U_leaveEnded.2.1 23 = .ok (.getfield 35, 3) := by decide +kernel
theorem d_U_leaveEnded_26 : decode M_U_leaveEnded.2.1 26 = .ok (.invokestatic 43, 3) := by decide +kernel
theorem d_U_leaveEnded_29 : decode M_U_leaveEnded.2.1 29 = .ok (.if_icmp .lt 16, 3) := by decide +kernel
theorem d_U_leaveEnded_32 : decode M_U_leaveEnded.2.1 32 = .ok (.aload_n 0, 1) := by decide +kernel
theorem d_U_leaveEnded_33 : decode M_U_leaveEnded.2.1 33 = .ok (.dup, 1) := by decide +kernel
theorem d_U_leaveEnded_34 : decode M_U_leaveEnded.2.1 34 = .ok (.getfield 35, 3) := by decide +kernel
theorem d_U_leaveEnded_37 : decode M_U_leaveEnded.2.1 37 = .ok (.iconst 1, 1) := by decide +kernel
theorem d_U_leaveEnded_38 : decode M_U_leaveEnded.2.1 38 = .ok (.isub, 1) := by decide +kernel
theorem d_U_leaveEnded_39 : decode M_U_leaveEnded.2.1 39 = .ok (.putfield 35, 3) := by decide +kernel
theorem d_U_leaveEnded_42 : decode M_U_leaveEnded.2.1 42 = .ok (.goto (-42), 3) := by decide +kernel
theorem d_U_leaveEnded_45 : decode M_U_leaveEnded.2.1 45 = .ok (.return_, 1) := by decide +kernel
theorem d_U_outside_0 : decode M_U_outside.2.1 0 = .ok (.aload_n 0, 1) := by decide +kernel
theorem d_U_outside_1 : decode M_U_outside.2.1 1 = .ok (.getfield 35, 3) := by decide +kernel
theorem d_U_outside_4 : decode M_U_outside.2.1 4 = .ok (.ifCond .eq 8, 3) := by decide +kernel
theorem d_U_outside_7 : decode M_U_outside.2.1 7 = .ok (.iload_n 1, 1) := by decide +kernel
theorem d_U_outside_8 : decode M_U_outside.2.1 8 = .ok (.iload_n 2, 1) := by decide +kernel
theorem d_U_outside_9 : decode M_U_outside.2.1 9 = .ok (.if_icmp .ge 5, 3) := by decide +kernel
theorem d_U_outside_12 : decode M_U_outside.2.1 12 = .ok (.iload_n 1, 1) := by decide +kernel
theorem d_U_outside_13 : decode M_U_outside.2.1 13 = .ok (.ireturn, 1) := by decide +kernel
theorem d_U_outside_14 : decode M_U_outside.2.1 14 = .ok (.iload_n 1, 1) := by decide +kernel
theorem d_U_outside_15 : decode M_U_outside.2.1 15 = .ok (.iload_n 2, 1) := by decide +kernel
theorem d_U_outside_16 : decode M_U_outside.2.1 16 = .ok (.isub, 1) := by decide +kernel
theorem d_U_outside_17 : decode M_U_outside.2.1 17 = .ok (.istore_n 3, 1) := by decide +kernel
theorem d_U_outside_18 : decode M_U_outside.2.1 18 = .ok (.aload_n 0, 1) := by decide +kernel
theorem d_U_outside_19 : decode M_U_outside.2.1 19 = .ok (.getfield 21, 3) := by decide +kernel
theorem d_U_outside_22 : decode M_U_outside.2.1 22 = .ok (.aload_n 0, 1) := by decide +kernel
theorem d_U_outside_23 : decode M_U_outside.2.1 23 = .ok (.getfield 35, 3) := by decide +kernel
theorem d_U_outside_26 : decode M_U_outside.2.1 26 = .ok (.iconst 4, 1) := by decide +kernel
theorem d_U_outside_27 : decode M_U_outside.2.1 27 = .ok (.imul, 1) := by decide +kernel
theorem d_U_outside_28 : decode M_U_outside.2.1 28 = .ok (.iload_n 3, 1) := by decide +kernel
theorem d_U_outside_29 : decode M_U_outside.2.1 29 = .ok (.iadd, 1) := by decide +kernel
theorem d_U_outside_30 : decode M_U_outside.2.1 30 = .ok (.invokestatic 43, 3) := by decide +kernel
theorem d_U_outside_33 : decode M_U_outside.2.1 33 = .ok (.iload_n 2, 1) := by decide +kernel
theorem d_U_outside_34 : decode M_U_outside.2.1 34 = .ok (.iadd, 1) := by decide +kernel
theorem d_U_outside_35 : decode M_U_outside.2.1 35 = .ok (.ireturn, 1) := by decide +kernel
theorem d_U_enterFilling_0 : decode M_U_enterFilling.2.1 0 = .ok (.aload_n 0, 1) := by decide +kernel
theorem d_U_enterFilling_1 : decode M_U_enterFilling.2.1 1 = .ok (.invokevirtual 60, 3) := by decide +kernel
theorem d_U_enterFilling_4 : decode M_U_enterFilling.2.1 4 = .ok (.aload_n 0, 1) := by decide +kernel
theorem d_U_enterFilling_5 : decode M_U_enterFilling.2.1 5 = .ok (.getfield 35, 3) := by decide +kernel
theorem d_U_enterFilling_8 : decode M_U_enterFilling.2.1 8 = .ok (.iconst 1, 1) := by decide +kernel
theorem d_U_enterFilling_9 : decode M_U_enterFilling.2.1 9 = .ok (.iadd, 1) := by decide +kernel
theorem d_U_enterFilling_10 : decode M_U_enterFilling.2.1 10 = .ok (.bipush 64, 2) := by decide +kernel
theorem d_U_enterFilling_12 : decode M_U_enterFilling.2.1 12 = .ok (.if_icmp .lt 5, 3) := by decide +kernel
theorem d_U_enterFilling_15 : decode M_U_enterFilling.2.1 15 = .ok (.iconst 0, 1) := by decide +kernel
theorem d_U_enterFilling_16 : decode M_U_enterFilling.2.1 16 = .ok (.ireturn, 1) := by decide +kernel
theorem d_U_enterFilling_17 : decode M_U_enterFilling.2.1 17 = .ok (.aload_n 0, 1) := by decide +kernel
theorem d_U_enterFilling_18 : decode M_U_enterFilling.2.1 18 = .ok (.dup, 1) := by decide +kernel
theorem d_U_enterFilling_19 : decode M_U_enterFilling.2.1 19 = .ok (.getfield 35, 3) := by decide +kernel
theorem d_U_enterFilling_22 : decode M_U_enterFilling.2.1 22 = .ok (.iconst 1, 1) := by decide +kernel
theorem d_U_enterFilling_23 : decode M_U_enterFilling.2.1 23 = .ok (.iadd, 1) := by decide +kernel
theorem d_U_enterFilling_24 : decode M_U_enterFilling.2.1 24 = .ok (.putfield 35, 3) := by decide +kernel
theorem d_U_enterFilling_27 : decode M_U_enterFilling.2.1 27 = .ok (.aload_n 0, 1) := by decide +kernel
theorem d_U_enterFilling_28 : decode M_U_enterFilling.2.1 28 = .ok (.getfield 9, 3) := by decide +kernel
theorem d_U_enterFilling_31 : decode M_U_enterFilling.2.1 31 = .ok (.aload_n 0, 1) := by decide +kernel
theorem d_U_enterFilling_32 : decode M_U_enterFilling.2.1 32 = .ok (.getfield 35, 3) := by decide +kernel
theorem d_U_enterFilling_35 : decode M_U_enterFilling.2.1 35 = .ok (.aload_n 0, 1) := by decide +kernel
theorem d_U_enterFilling_36 : decode M_U_enterFilling.2.1 36 = .ok (.getfield 31, 3) := by decide +kernel
theorem d_U_enterFilling_39 : decode M_U_enterFilling.2.1 39 = .ok (.getfield 95, 3) := by decide +kernel
theorem d_U_enterFilling_42 : decode M_U_enterFilling.2.1 42 = .ok (.aload_n 0, 1) := by decide +kernel
theorem d_U_enterFilling_43 : decode M_U_enterFilling.2.1 43 = .ok (.getfield 50, 3) := by decide +kernel
theorem d_U_enterFilling_46 : decode M_U_enterFilling.2.1 46 = .ok (.invokestatic 43, 3) := by decide +kernel
theorem d_U_enterFilling_49 : decode M_U_enterFilling.2.1 49 = .ok (.invokestatic 39, 3) := by decide +kernel
theorem d_U_enterFilling_52 : decode M_U_enterFilling.2.1 52 = .ok (.aload_n 0, 1) := by decide +kernel
theorem d_U_enterFilling_53 : decode M_U_enterFilling.2.1 53 = .ok (.getfield 15, 3) := by decide +kernel
theorem d_U_enterFilling_56 : decode M_U_enterFilling.2.1 56 = .ok (.aload_n 0, 1) := by decide +kernel
theorem d_U_enterFilling_57 : decode M_U_enterFilling.2.1 57 = .ok (.getfield 35, 3) := by decide +kernel
theorem d_U_enterFilling_60 : decode M_U_enterFilling.2.1 60 = .ok (.aload_n 0, 1) := by decide +kernel
theorem d_U_enterFilling_61 : decode M_U_enterFilling.2.1 61 = .ok (.getfield 31, 3) := by decide +kernel
theorem d_U_enterFilling_64 : decode M_U_enterFilling.2.1 64 = .ok (.getfield 98, 3) := by decide +kernel
theorem d_U_enterFilling_67 : decode M_U_enterFilling.2.1 67 = .ok (.aload_n 0, 1) := by decide +kernel
theorem d_U_enterFilling_68 : decode M_U_enterFilling.2.1 68 = .ok (.getfield 50, 3) := by decide +kernel
theorem d_U_enterFilling_71 : decode M_U_enterFilling.2.1 71 = .ok (.invokestatic 43, 3) := by decide +kernel
theorem d_U_enterFilling_74 : decode M_U_enterFilling.2.1 74 = .ok (.invokestatic 39, 3) := by decide +kernel
theorem d_U_enterFilling_77 : decode M_U_enterFilling.2.1 77 = .ok (.aload_n 0, 1) := by decide +kernel
theorem d_U_enterFilling_78 : decode M_U_enterFilling.2.1 78 = .ok (.getfield 18, 3) := by decide +kernel
theorem d_U_enterFilling_81 : decode M_U_enterFilling.2.1 81 = .ok (.aload_n 0, 1) := by decide +kernel
theorem d_U_enterFilling_82 : decode M_U_enterFilling.2.1 82 = .ok (.getfield 35, 3) := by decide +kernel
theorem d_U_enterFilling_85 : decode M_U_enterFilling.2.1 85 = .ok (.aload_n 0, 1) := by decide +kernel
theorem d_U_enterFilling_86 : decode M_U_enterFilling.2.1 86 = .ok (.getfield 53, 3) := by decide +kernel
theorem d_U_enterFilling_89 : decode M_U_enterFilling.2.1 89 = .ok (.invokestatic 39, 3) := by decide +kernel
theorem d_U_enterFilling_92 : decode M_U_enterFilling.2.1 92 = .ok (.iconst 0, 1) := by decide +kernel
theorem d_U_enterFilling_93 : decode M_U_enterFilling.2.1 93 = .ok (.istore_n 1, 1) := by decide +kernel
theorem d_U_enterFilling_94 : decode M_U_enterFilling.2.1 94 = .ok (.iload_n 1, 1) := by decide +kernel
theorem d_U_enterFilling_95 : decode M_U_enterFilling.2.1 95 = .ok (.aload_n 0, 1) := by decide +kernel
theorem d_U_enterFilling_96 : decode M_U_enterFilling.2.1 96 = .ok (.getfield 56, 3) := by decide +kernel
theorem d_U_enterFilling_99 : decode M_U_enterFilling.2.1 99 = .ok (.if_icmp .ge 32, 3) := by decide +kernel
theorem d_U_enterFilling_102 : decode M_U_enterFilling.2.1 102 = .ok (.aload_n 0, 1) := by decide +kernel
theorem d_U_enterFilling_103 : decode M_U_enterFilling.2.1 103 = .ok (.getfield 21, 3) := by decide +kernel
theorem d_U_enterFilling_106 : decode M_U_enterFilling.2.1 106 = .ok (.aload_n 0, 1) := by decide +kernel
theorem d_U_enterFilling_107 : decode M_U_enterFilling.2.1 107 = .ok (.getfield 35, 3) := by decide +kernel
theorem d_U_enterFilling_110 : decode M_U_enterFilling.2.1 110 = .ok (.iconst 4, 1) := by decide +kernel
theorem d_U_enterFilling_111 : decode M_U_enterFilling.2.1 111 = .ok (.imul, 1) := by decide +kernel
theorem d_U_enterFilling_112 : decode M_U_enterFilling.2.1 112 = .ok (.iload_n 1, 1) := by decide +kernel
theorem d_U_enterFilling_113 : decode M_U_enterFilling.2.1 113 = .ok (.iadd, 1) := by decide +kernel
theorem d_U_enterFilling_114 : decode M_U_enterFilling.2.1 114 = .ok (.aload_n 0, 1) := by decide +kernel
theorem d_U_enterFilling_115 : decode M_U_enterFilling.2.1 115 = .ok (.getfield 24, 3) := by decide +kernel
theorem d_U_enterFilling_118 : decode M_U_enterFilling.2.1 118 = .ok (.iload_n 1, 1) := by decide +kernel
theorem d_U_enterFilling_119 : decode M_U_enterFilling.2.1 119 = .ok (.invokestatic 43, 3) := by decide +kernel
theorem d_U_enterFilling_122 : decode M_U_enterFilling.2.1 122 = .ok (.invokestatic 39, 3) := by decide +kernel
theorem d_U_enterFilling_125 : decode M_U_enterFilling.2.1 125 = .ok (.iinc 1 1, 3) := by decide +kernel
theorem d_U_enterFilling_128 : decode M_U_enterFilling.2.1 128 = .ok (.goto (-34), 3) := by decide +kernel
theorem d_U_enterFilling_131 : decode M_U_enterFilling.2.1 131 = .ok (.iconst 1, 1) := by decide +kernel
theorem d_U_enterFilling_132 : decode M_U_enterFilling.2.1 132 = .ok (.ireturn, 1) := by decide +kernel
theorem d_U_parameterFor_0 : decode M_U_parameterFor.2.1 0 = .ok (.iconst 0, 1) := by decide +kernel
theorem d_U_parameterFor_1 : decode M_U_parameterFor.2.1 1 = .ok (.istore_n 2, 1) := by decide +kernel
theorem d_U_parameterFor_2 : decode M_U_parameterFor.2.1 2 = .ok (.iload_n 2, 1) := by decide +kernel
theorem d_U_parameterFor_3 : decode M_U_parameterFor.2.1 3 = .ok (.aload_n 0, 1) := by decide +kernel
theorem d_U_parameterFor_4 : decode M_U_parameterFor.2.1 4 = .ok (.getfield 56, 3) := by decide +kernel
theorem d_U_parameterFor_7 : decode M_U_parameterFor.2.1 7 = .ok (.if_icmp .ge 23, 3) := by decide +kernel
theorem d_U_parameterFor_10 : decode M_U_parameterFor.2.1 10 = .ok (.aload_n 0, 1) := by decide +kernel
theorem d_U_parameterFor_11 : decode M_U_parameterFor.2.1 11 = .ok (.getfield 24, 3) := by decide +kernel
theorem d_U_parameterFor_14 : decode M_U_parameterFor.2.1 14 = .ok (.iload_n 2, 1) := by decide +kernel
theorem d_U_parameterFor_15 : decode M_U_parameterFor.2.1 15 = .ok (.invokestatic 43, 3) := by decide +kernel
theorem d_U_parameterFor_18 : decode M_U_parameterFor.2.1 18 = .ok (.iload_n 1, 1) := by decide +kernel
theorem d_U_parameterFor_19 : decode M_U_parameterFor.2.1 19 = .ok (.if_icmp .ne 5, 3) := by decide +kernel
theorem d_U_parameterFor_22 : decode M_U_parameterFor.2.1 22 = .ok (.iload_n 2, 1) := by decide +kernel
theorem d_U_parameterFor_23 : decode M_U_parameterFor.2.1 23 = .ok (.ireturn, 1) := by decide +kernel
theorem d_U_parameterFor_24 : decode M_U_parameterFor.2.1 24 = .ok (.iinc 2 1, 3) := by decide +kernel
theorem d_U_parameterFor_27 : decode M_U_parameterFor.2.1 27 = .ok (.goto (-25), 3) := by decide +kernel
theorem d_U_parameterFor_30 : decode M_U_parameterFor.2.1 30 = .ok (.iconst (-1), 1) := by decide +kernel
theorem d_U_parameterFor_31 : decode M_U_parameterFor.2.1 31 = .ok (.ireturn, 1) := by decide +kernel
theorem d_U_copyFrom_0 : decode M_U_copyFrom.2.1 0 = .ok (.aload_n 0, 1) := by decide +kernel
theorem d_U_copyFrom_1 : decode M_U_copyFrom.2.1 1 = .ok (.aload_n 1, 1) := by decide +kernel
theorem d_U_copyFrom_2 : decode M_U_copyFrom.2.1 2 = .ok (.getfield 35, 3) := by decide +kernel
theorem d_U_copyFrom_5 : decode M_U_copyFrom.2.1 5 = .ok (.putfield 35, 3) := by decide +kernel
theorem d_U_copyFrom_8 : decode M_U_copyFrom.2.1 8 = .ok (.iconst 0, 1) := by decide +kernel
theorem d_U_copyFrom_9 : decode M_U_copyFrom.2.1 9 = .ok (.istore_n 2, 1) := by decide +kernel
theorem d_U_copyFrom_10 : decode M_U_copyFrom.2.1 10 = .ok (.iload_n 2, 1) := by decide +kernel
theorem d_U_copyFrom_11 : decode M_U_copyFrom.2.1 11 = .ok (.aload_n 0, 1) := by decide +kernel
theorem d_U_copyFrom_12 : decode M_U_copyFrom.2.1 12 = .ok (.getfield 35, 3) := by decide +kernel
theorem d_U_copyFrom_15 : decode M_U_copyFrom.2.1 15 = .ok (.if_icmp .gt 57, 3) := by decide +kernel
theorem d_U_copyFrom_18 : decode M_U_copyFrom.2.1 18 = .ok (.aload_n 0, 1) := by decide +kernel
theorem d_U_copyFrom_19 : decode M_U_copyFrom.2.1 19 = .ok (.getfield 9, 3) := by decide +kernel
theorem d_U_copyFrom_22 : decode M_U_copyFrom.2.1 22 = .ok (.iload_n 2, 1) := by decide +kernel
theorem d_U_copyFrom_23 : decode M_U_copyFrom.2.1 23 = .ok (.aload_n 1, 1) := by decide +kernel
theorem d_U_copyFrom_24 : decode M_U_copyFrom.2.1 24 = .ok (.getfield 9, 3) := by decide +kernel
theorem d_U_copyFrom_27 : decode M_U_copyFrom.2.1 27 = .ok (.iload_n 2, 1) := by decide +kernel
theorem d_U_copyFrom_28 : decode M_U_copyFrom.2.1 28 = .ok (.invokestatic 43, 3) := by decide +kernel
theorem d_U_copyFrom_31 : decode M_U_copyFrom.2.1 31 = .ok (.invokestatic 39, 3) := by decide +kernel
theorem d_U_copyFrom_34 : decode M_U_copyFrom.2.1 34 = .ok (.aload_n 0, 1) := by decide +kernel
theorem d_U_copyFrom_35 : decode M_U_copyFrom.2.1 35 = .ok (.getfield 15, 3) := by decide +kernel
theorem d_U_copyFrom_38 : decode M_U_copyFrom.2.1 38 = .ok (.iload_n 2, 1) := by decide +kernel
theorem d_U_copyFrom_39 : decode M_U_copyFrom.2.1 39 = .ok (.aload_n 1, 1) := by decide +kernel
theorem d_U_copyFrom_40 : decode M_U_copyFrom.2.1 40 = .ok (.getfield 15, 3) := by decide +kernel
theorem d_U_copyFrom_43 : decode M_U_copyFrom.2.1 43 = .ok (.iload_n 2, 1) := by decide +kernel
theorem d_U_copyFrom_44 : decode M_U_copyFrom.2.1 44 = .ok (.invokestatic 43, 3) := by decide +kernel
theorem d_U_copyFrom_47 : decode M_U_copyFrom.2.1 47 = .ok (.invokestatic 39, 3) := by decide +kernel
theorem d_U_copyFrom_50 : decode M_U_copyFrom.2.1 50 = .ok (.aload_n 0, 1) := by decide +kernel
theorem d_U_copyFrom_51 : decode M_U_copyFrom.2.1 51 = .ok (.getfield 18, 3) := by decide +kernel
theorem d_U_copyFrom_54 : decode M_U_copyFrom.2.1 54 = .ok (.iload_n 2, 1) := by decide +kernel
theorem d_U_copyFrom_55 : decode M_U_copyFrom.2.1 55 = .ok (.aload_n 1, 1) := by decide +kernel
theorem d_U_copyFrom_56 : decode M_U_copyFrom.2.1 56 = .ok (.getfield 18, 3) := by decide +kernel
theorem d_U_copyFrom_59 : decode M_U_copyFrom.2.1 59 = .ok (.iload_n 2, 1) := by decide +kernel
theorem d_U_copyFrom_60 : decode M_U_copyFrom.2.1 60 = .ok (.invokestatic 43, 3) := by decide +kernel
theorem d_U_copyFrom_63 : decode M_U_copyFrom.2.1 63 = .ok (.invokestatic 39, 3) := by decide +kernel
theorem d_U_copyFrom_66 : decode M_U_copyFrom.2.1 66 = .ok (.iinc 2 1, 3) := by decide +kernel
theorem d_U_copyFrom_69 : decode M_U_copyFrom.2.1 69 = .ok (.goto (-59), 3) := by decide +kernel
theorem d_U_copyFrom_72 : decode M_U_copyFrom.2.1 72 = .ok (.iconst 0, 1) := by decide +kernel
theorem d_U_copyFrom_73 : decode M_U_copyFrom.2.1 73 = .ok (.istore_n 2, 1) := by decide +kernel
theorem d_U_copyFrom_74 : decode M_U_copyFrom.2.1 74 = .ok (.iload_n 2, 1) := by decide +kernel
theorem d_U_copyFrom_75 : decode M_U_copyFrom.2.1 75 = .ok (.aload_n 0, 1) := by decide +kernel
theorem d_U_copyFrom_76 : decode M_U_copyFrom.2.1 76 = .ok (.getfield 35, 3) := by decide +kernel
theorem d_U_copyFrom_79 : decode M_U_copyFrom.2.1 79 = .ok (.iconst 1, 1) := by decide +kernel
theorem d_U_copyFrom_80 : decode M_U_copyFrom.2.1 80 = .ok (.iadd, 1) := by decide +kernel
theorem d_U_copyFrom_81 : decode M_U_copyFrom.2.1 81 = .ok (.iconst 4, 1) := by decide +kernel
theorem d_U_copyFrom_82 : decode M_U_copyFrom.2.1 82 = .ok (.imul, 1) := by decide +kernel
theorem d_U_copyFrom_83 : decode M_U_copyFrom.2.1 83 = .ok (.if_icmp .ge 25, 3) := by decide +kernel
theorem d_U_copyFrom_86 : decode M_U_copyFrom.2.1 86 = .ok (.aload_n 0, 1) := by decide +kernel
theorem d_U_copyFrom_87 : decode M_U_copyFrom.2.1 87 = .ok (.getfield 21, 3) := by decide +kernel
theorem d_U_copyFrom_90 : decode M_U_copyFrom.2.1 90 = .ok (.iload_n 2, 1) := by decide +kernel
theorem d_U_copyFrom_91 : decode M_U_copyFrom.2.1 91 = .ok (.aload_n 1, 1) := by decide +kernel
theorem d_U_copyFrom_92 : decode M_U_copyFrom.2.1 92 = .ok (.getfield 21, 3) := by decide +kernel
theorem d_U_copyFrom_95 : decode M_U_copyFrom.2.1 95 = .ok (.iload_n 2, 1) := by decide +kernel
theorem d_U_copyFrom_96 : decode M_U_copyFrom.2.1 96 = .ok (.invokestatic 43, 3) := by decide +kernel
theorem d_U_copyFrom_99 : decode M_U_copyFrom.2.1 99 = .ok (.invokestatic 39, 3) := by decide +kernel
theorem d_U_copyFrom_102 : decode M_U_copyFrom.2.1 102 = .ok (.iinc 2 1, 3) := by decide +kernel
theorem d_U_copyFrom_105 : decode M_U_copyFrom.2.1 105 = .ok (.goto (-31), 3) := by decide +kernel
theorem d_U_copyFrom_108 : decode M_U_copyFrom.2.1 108 = .ok (.aload_n 0, 1) := by decide +kernel
theorem d_U_copyFrom_109 : decode M_U_copyFrom.2.1 109 = .ok (.aload_n 1, 1) := by decide +kernel
theorem d_U_copyFrom_110 : decode M_U_copyFrom.2.1 110 = .ok (.getfield 47, 3) := by decide +kernel
theorem d_U_copyFrom_113 : decode M_U_copyFrom.2.1 113 = .ok (.putfield 47, 3) := by decide +kernel
theorem d_U_copyFrom_116 : decode M_U_copyFrom.2.1 116 = .ok (.aload_n 0, 1) := by decide +kernel
theorem d_U_copyFrom_117 : decode M_U_copyFrom.2.1 117 = .ok (.aload_n 1, 1) := by decide +kernel
theorem d_U_copyFrom_118 : decode M_U_copyFrom.2.1 118 = .ok (.getfield 50, 3) := by decide +kernel
theorem d_U_copyFrom_121 : decode M_U_copyFrom.2.1 121 = .ok (.putfield 50, 3) := by decide +kernel
theorem d_U_copyFrom_124 : decode M_U_copyFrom.2.1 124 = .ok (.aload_n 0, 1) := by decide +kernel
theorem d_U_copyFrom_125 : decode M_U_copyFrom.2.1 125 = .ok (.aload_n 1, 1) := by decide +kernel
theorem d_U_copyFrom_126 : decode M_U_copyFrom.2.1 126 = .ok (.getfield 53, 3) := by decide +kernel
theorem d_U_copyFrom_129 : decode M_U_copyFrom.2.1 129 = .ok (.putfield 53, 3) := by decide +kernel
theorem d_U_copyFrom_132 : decode M_U_copyFrom.2.1 132 = .ok (.aload_n 0, 1) := by decide +kernel
theorem d_U_copyFrom_133 : decode M_U_copyFrom.2.1 133 = .ok (.aload_n 1, 1) := by decide +kernel
theorem d_U_copyFrom_134 : decode M_U_copyFrom.2.1 134 = .ok (.getfield 56, 3) := by decide +kernel
theorem d_U_copyFrom_137 : decode M_U_copyFrom.2.1 137 = .ok (.putfield 56, 3) := by decide +kernel
theorem d_U_copyFrom_140 : decode M_U_copyFrom.2.1 140 = .ok (.iconst 0, 1) := by decide +kernel
theorem d_U_copyFrom_141 : decode M_U_copyFrom.2.1 141 = .ok (.istore_n 2, 1) := by decide +kernel
theorem d_U_copyFrom_142 : decode M_U_copyFrom.2.1 142 = .ok (.iload_n 2, 1) := by decide +kernel
theorem d_U_copyFrom_143 : decode M_U_copyFrom.2.1 143 = .ok (.aload_n 0, 1) := by decide +kernel
theorem d_U_copyFrom_144 : decode M_U_copyFrom.2.1 144 = .ok (.getfield 56, 3) := by decide +kernel
theorem d_U_copyFrom_147 : decode M_U_copyFrom.2.1 147 = .ok (.if_icmp .ge 25, 3) := by decide +kernel
theorem d_U_copyFrom_150 : decode M_U_copyFrom.2.1 150 = .ok (.aload_n 0, 1) := by decide +kernel
theorem d_U_copyFrom_151 : decode M_U_copyFrom.2.1 151 = .ok (.getfield 24, 3) := by decide +kernel
theorem d_U_copyFrom_154 : decode M_U_copyFrom.2.1 154 = .ok (.iload_n 2, 1) := by decide +kernel
theorem d_U_copyFrom_155 : decode M_U_copyFrom.2.1 155 = .ok (.aload_n 1, 1) := by decide +kernel
theorem d_U_copyFrom_156 : decode M_U_copyFrom.2.1 156 = .ok (.getfield 24, 3) := by decide +kernel
theorem d_U_copyFrom_159 : decode M_U_copyFrom.2.1 159 = .ok (.iload_n 2, 1) := by decide +kernel
theorem d_U_copyFrom_160 : decode M_U_copyFrom.2.1 160 = .ok (.invokestatic 43, 3) := by decide +kernel
theorem d_U_copyFrom_163 : decode M_U_copyFrom.2.1 163 = .ok (.invokestatic 39, 3) := by decide +kernel
theorem d_U_copyFrom_166 : decode M_U_copyFrom.2.1 166 = .ok (.iinc 2 1, 3) := by decide +kernel
theorem d_U_copyFrom_169 : decode M_U_copyFrom.2.1 169 = .ok (.goto (-27), 3) := by decide +kernel
theorem d_U_copyFrom_172 : decode M_U_copyFrom.2.1 172 = .ok (.return_, 1) := by decide +kernel
theorem d_U_standsAs_0 : decode M_U_standsAs.2.1 0 = .ok (.aload_n 0, 1) := by decide +kernel
theorem d_U_standsAs_1 : decode M_U_standsAs.2.1 1 = .ok (.getfield 47, 3) := by decide +kernel
theorem d_U_standsAs_4 : decode M_U_standsAs.2.1 4 = .ok (.aload_n 1, 1) := by decide +kernel
theorem d_U_standsAs_5 : decode M_U_standsAs.2.1 5 = .ok (.getfield 47, 3) := by decide +kernel
theorem d_U_standsAs_8 : decode M_U_standsAs.2.1 8 = .ok (.if_icmp .ne 14, 3) := by decide +kernel
theorem d_U_standsAs_11 : decode M_U_standsAs.2.1 11 = .ok (.aload_n 0, 1) := by decide +kernel
theorem d_U_standsAs_12 : decode M_U_standsAs.2.1 12 = .ok (.getfield 50, 3) := by decide +kernel
theorem d_U_standsAs_15 : decode M_U_standsAs.2.1 15 = .ok (.aload_n 1, 1) := by decide +kernel
theorem d_U_standsAs_16 : decode M_U_standsAs.2.1 16 = .ok (.getfield 50, 3) := by decide +kernel
theorem d_U_standsAs_19 : decode M_U_standsAs.2.1 19 = .ok (.if_icmp .eq 5, 3) := by decide +kernel
theorem d_U_standsAs_22 : decode M_U_standsAs.2.1 22 = .ok (.iconst 0, 1) := by decide +kernel
theorem d_U_standsAs_23 : decode M_U_standsAs.2.1 23 = .ok (.ireturn, 1) := by decide +kernel
theorem d_U_standsAs_24 : decode M_U_standsAs.2.1 24 = .ok (.iconst 0, 1) := by decide +kernel
theorem d_U_standsAs_25 : decode M_U_standsAs.2.1 25 = .ok (.istore_n 2, 1) := by decide +kernel
theorem d_U_standsAs_26 : decode M_U_standsAs.2.1 26 = .ok (.iload_n 2, 1) := by decide +kernel
theorem d_U_standsAs_27 : decode M_U_standsAs.2.1 27 = .ok (.aload_n 0, 1) := by decide +kernel
theorem d_U_standsAs_28 : decode M_U_standsAs.2.1 28 = .ok (.getfield 56, 3) := by decide +kernel
theorem d_U_standsAs_31 : decode M_U_standsAs.2.1 31 = .ok (.if_icmp .ge 30, 3) := by decide +kernel
theorem d_U_standsAs_34 : decode M_U_standsAs.2.1 34 = .ok (.aload_n 0, 1) := by decide +kernel
theorem d_U_standsAs_35 : decode M_U_standsAs.2.1 35 = .ok (.getfield 24, 3) := by decide +kernel
theorem d_U_standsAs_38 : decode M_U_standsAs.2.1 38 = .ok (.iload_n 2, 1) := by decide +kernel
theorem d_U_standsAs_39 : decode M_U_standsAs.2.1 39 = .ok (.invokestatic 43, 3) := by decide +kernel
theorem d_U_standsAs_42 : decode M_U_standsAs.2.1 42 = .ok (.aload_n 1, 1) := by decide +kernel
theorem d_U_standsAs_43 : decode M_U_standsAs.2.1 43 = .ok (.getfield 24, 3) := by decide +kernel
theorem d_U_standsAs_46 : decode M_U_standsAs.2.1 46 = .ok (.iload_n 2, 1) := by decide +kernel
theorem d_U_standsAs_47 : decode M_U_standsAs.2.1 47 = .ok (.invokestatic 43, 3) := by decide +kernel
theorem d_U_standsAs_50 : decode M_U_standsAs.2.1 50 = .ok (.if_icmp .eq 5, 3) := by decide +kernel
theorem d_U_standsAs_53 : decode M_U_standsAs.2.1 53 = .ok (.iconst 0, 1) := by decide +kernel
theorem d_U_standsAs_54 : decode M_U_standsAs.2.1 54 = .ok (.ireturn, 1) := by decide +kernel
theorem d_U_standsAs_55 : decode M_U_standsAs.2.1 55 = .ok (.iinc 2 1, 3) := by decide +kernel
theorem d_U_standsAs_58 : decode M_U_standsAs.2.1 58 = .ok (.goto (-32), 3) := by decide +kernel
theorem d_U_standsAs_61 : decode M_U_standsAs.2.1 61 = .ok (.iconst 1, 1) := by decide +kernel
theorem d_U_standsAs_62 : decode M_U_standsAs.2.1 62 = .ok (.ireturn, 1) := by decide +kernel
theorem d_U_freeBits_0 : decode M_U_freeBits.2.1 0 = .ok (.aload_n 0, 1) := by decide +kernel
theorem d_U_freeBits_1 : decode M_U_freeBits.2.1 1 = .ok (.getfield 47, 3) := by decide +kernel
theorem d_U_freeBits_4 : decode M_U_freeBits.2.1 4 = .ok (.ifCond .ne 14, 3) := by decide +kernel
theorem d_U_freeBits_7 : decode M_U_freeBits.2.1 7 = .ok (.aload_n 0, 1) := by decide +kernel
theorem d_U_freeBits_8 : decode M_U_freeBits.2.1 8 = .ok (.aload_n 0, 1) := by decide +kernel
theorem d_U_freeBits_9 : decode M_U_freeBits.2.1 9 = .ok (.getfield 50, 3) := by decide +kernel
theorem d_U_freeBits_12 : decode M_U_freeBits.2.1 12 = .ok (.invokevirtual 101, 3) := by decide +kernel
theorem d_U_freeBits_15 : decode M_U_freeBits.2.1 15 = .ok (.goto 4, 3) := by decide +kernel
theorem d_U_freeBits_18 : decode M_U_freeBits.2.1 18 = .ok (.iconst 0, 1) := by decide +kernel
theorem d_U_freeBits_19 : decode M_U_freeBits.2.1 19 = .ok (.istore_n 1, 1) := by decide +kernel
theorem d_U_freeBits_20 : decode M_U_freeBits.2.1 20 = .ok (.iconst 0, 1) := by decide +kernel
theorem d_U_freeBits_21 : decode M_U_freeBits.2.1 21 = .ok (.istore_n 2, 1) := by decide +kernel
theorem d_U_freeBits_22 : decode M_U_freeBits.2.1 22 = .ok (.iload_n 2, 1) := by decide +kernel
theorem d_U_freeBits_23 : decode M_U_freeBits.2.1 23 = .ok (.aload_n 0, 1) := by decide +kernel
theorem d_U_freeBits_24 : decode M_U_freeBits.2.1 24 = .ok (.getfield 56, 3) := by decide +kernel
theorem d_U_freeBits_27 : decode M_U_freeBits.2.1 27 = .ok (.if_icmp .ge 24, 3) := by decide +kernel
theorem d_U_freeBits_30 : decode M_U_freeBits.2.1 30 = .ok (.iload_n 1, 1) := by decide +kernel
theorem d_U_freeBits_31 : decode M_U_freeBits.2.1 31 = .ok (.aload_n 0, 1) := by decide +kernel
theorem d_U_freeBits_32 : decode M_U_freeBits.2.1 32 = .ok (.aload_n 0, 1) := by decide +kernel
theorem d_U_freeBits_33 : decode M_U_freeBits.2.1 33 = .ok (.getfield 24, 3) := by decide +kernel
theorem d_U_freeBits_36 : decode M_U_freeBits.2.1 36 = .ok (.iload_n 2, 1) := by decide +kernel
theorem d_U_freeBits_37 : decode M_U_freeBits.2.1 37 = .ok (.invokestatic 43, 3) := by decide +kernel
theorem d_U_freeBits_40 : decode M_U_freeBits.2.1 40 = .ok (.invokevirtual 101, 3) := by decide +kernel
theorem d_U_freeBits_43 : decode M_U_freeBits.2.1 43 = .ok (.ior, 1) := by decide +kernel
theorem d_U_freeBits_44 : decode M_U_freeBits.2.1 44 = .ok (.istore_n 1, 1) := by decide +kernel
theorem d_U_freeBits_45 : decode M_U_freeBits.2.1 45 = .ok (.iinc 2 1, 3) := by decide +kernel
theorem d_U_freeBits_48 : decode M_U_freeBits.2.1 48 = .ok (.goto (-26), 3) := by decide +kernel
theorem d_U_freeBits_51 : decode M_U_freeBits.2.1 51 = .ok (.iload_n 1, 1) := by decide +kernel
theorem d_U_freeBits_52 : decode M_U_freeBits.2.1 52 = .ok (.ireturn, 1) := by decide +kernel
theorem d_U_bitOf_0 : decode M_U_bitOf.2.1 0 = .ok (.iload_n 1, 1) := by decide +kernel
theorem d_U_bitOf_1 : decode M_U_bitOf.2.1 1 = .ok (.aload_n 0, 1) := by decide +kernel
theorem d_U_bitOf_2 : decode M_U_bitOf.2.1 2 = .ok (.getfield 53, 3) := by decide +kernel
theorem d_U_bitOf_5 : decode M_U_bitOf.2.1 5 = .ok (.if_icmp .ge 7, 3) := by decide +kernel
theorem d_U_bitOf_8 : decode M_U_bitOf.2.1 8 = .ok (.iconst 0, 1) := by decide +kernel
theorem d_U_bitOf_9 : decode M_U_bitOf.2.1 9 = .ok (.goto 11, 3) := by decide +kernel
theorem d_U_bitOf_12 : decode M_U_bitOf.2.1 12 = .ok (.iconst 1, 1) := by decide +kernel
theorem d_U_bitOf_13 : decode M_U_bitOf.2.1 13 = .ok (.iload_n 1, 1) := by decide +kernel
theorem d_U_bitOf_14 : decode M_U_bitOf.2.1 14 = .ok (.aload_n 0, 1) := by decide +kernel
theorem d_U_bitOf_15 : decode M_U_bitOf.2.1 15 = .ok (.getfield 53, 3) := by decide +kernel
theorem d_U_bitOf_18 : decode M_U_bitOf.2.1 18 = .ok (.isub, 1) := by decide +kernel
theorem d_U_bitOf_19 : decode M_U_bitOf.2.1 19 = .ok (.ishl, 1) := by decide +kernel
theorem d_U_bitOf_20 : decode M_U_bitOf.2.1 20 = .ok (.ireturn, 1) := by decide +kernel
