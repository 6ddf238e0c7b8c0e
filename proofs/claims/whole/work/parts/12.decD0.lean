theorem d_D_init_0 : decode M_D_init.2.1 0 = .ok (.aload_n 0, 1) := by decide +kernel
theorem d_D_init_1 : decode M_D_init.2.1 1 = .ok (.invokespecial 1, 3) := by decide +kernel
theorem d_D_init_4 : decode M_D_init.2.1 4 = .ok (.aload_n 0, 1) := by decide +kernel
theorem d_D_init_5 : decode M_D_init.2.1 5 = .ok (.bipush 16, 2) := by decide +kernel
theorem d_D_init_7 : decode M_D_init.2.1 7 = .ok (.newarray .int, 2) := by decide +kernel
theorem d_D_init_9 : decode M_D_init.2.1 9 = .ok (.putfield 7, 3) := by decide +kernel
theorem d_D_init_12 : decode M_D_init.2.1 12 = .ok (.aload_n 0, 1) := by decide +kernel
theorem d_D_init_13 : decode M_D_init.2.1 13 = .ok (.bipush 48, 2) := by decide +kernel
theorem d_D_init_15 : decode M_D_init.2.1 15 = .ok (.newarray .int, 2) := by decide +kernel
theorem d_D_init_17 : decode M_D_init.2.1 17 = .ok (.putfield 13, 3) := by decide +kernel
theorem d_D_init_20 : decode M_D_init.2.1 20 = .ok (.aload_n 0, 1) := by decide +kernel
theorem d_D_init_21 : decode M_D_init.2.1 21 = .ok (.sipush 324, 3) := by decide +kernel
theorem d_D_init_24 : decode M_D_init.2.1 24 = .ok (.newarray .int, 2) := by decide +kernel
theorem d_D_init_26 : decode M_D_init.2.1 26 = .ok (.putfield 16, 3) := by decide +kernel
theorem d_D_init_29 : decode M_D_init.2.1 29 = .ok (.aload_n 0, 1) := by decide +kernel
theorem d_D_init_30 : decode M_D_init.2.1 30 = .ok (.sipush 324, 3) := by decide +kernel
theorem d_D_init_33 : decode M_D_init.2.1 33 = .ok (.newarray .int, 2) := by decide +kernel
theorem d_D_init_35 : decode M_D_init.2.1 35 = .ok (.putfield 19, 3) := by decide +kernel
theorem d_D_init_38 : decode M_D_init.2.1 38 = .ok (.aload_n 0, 1) := by decide +kernel
theorem d_D_init_39 : decode M_D_init.2.1 39 = .ok (.ldc 22, 2) := by decide +kernel
theorem d_D_init_41 : decode M_D_init.2.1 41 = .ok (.newarray .int, 2) := by decide +kernel
theorem d_D_init_43 : decode M_D_init.2.1 43 = .ok (.putfield 23, 3) := by decide +kernel
theorem d_D_init_46 : decode M_D_init.2.1 46 = .ok (.aload_n 0, 1) := by decide +kernel
theorem d_D_init_47 : decode M_D_init.2.1 47 = .ok (.sipush 324, 3) := by decide +kernel
theorem d_D_init_50 : decode M_D_init.2.1 50 = .ok (.newarray .boolean, 2) := by decide +kernel
theorem d_D_init_52 : decode M_D_init.2.1 52 = .ok (.putfield 26, 3) := by decide +kernel
theorem d_D_init_55 : decode M_D_init.2.1 55 = .ok (.aload_n 0, 1) := by decide +kernel
theorem d_D_init_56 : decode M_D_init.2.1 56 = .ok (.sipush 324, 3) := by decide +kernel
theorem d_D_init_59 : decode M_D_init.2.1 59 = .ok (.newarray .boolean, 2) := by decide +kernel
theorem d_D_init_61 : decode M_D_init.2.1 61 = .ok (.putfield 30, 3) := by decide +kernel
theorem d_D_init_64 : decode M_D_init.2.1 64 = .ok (.aload_n 0, 1) := by decide +kernel
theorem d_D_init_65 : decode M_D_init.2.1 65 = .ok (.sipush 1280, 3) := by decide +kernel
theorem d_D_init_68 : decode M_D_init.2.1 68 = .ok (.newarray .int, 2) := by decide +kernel
theorem d_D_init_70 : decode M_D_init.2.1 70 = .ok (.putfield 33, 3) := by decide +kernel
theorem d_D_init_73 : decode M_D_init.2.1 73 = .ok (.aload_n 0, 1) := by decide +kernel
theorem d_D_init_74 : decode M_D_init.2.1 74 = .ok (.bipush 8, 2) := by decide +kernel
theorem d_D_init_76 : decode M_D_init.2.1 76 = .ok (.newarray .int, 2) := by decide +kernel
theorem d_D_init_78 : decode M_D_init.2.1 78 = .ok (.putfield 36, 3) := by decide +kernel
theorem d_D_init_81 : decode M_D_init.2.1 81 = .ok (.aload_n 0, 1) := by decide +kernel
theorem d_D_init_82 : decode M_D_init.2.1 82 = .ok (.bipush 8, 2) := by decide +kernel
theorem d_D_init_84 : decode M_D_init.2.1 84 = .ok (.newarray .int, 2) := by decide +kernel
theorem d_D_init_86 : decode M_D_init.2.1 86 = .ok (.putfield 39, 3) := by decide +kernel
theorem d_D_init_89 : decode M_D_init.2.1 89 = .ok (.aload_n 0, 1) := by decide +kernel
theorem d_D_init_90 : decode M_D_init.2.1 90 = .ok (.bipush 8, 2) := by decide +kernel
theorem d_D_init_92 : decode M_D_init.2.1 92 = .ok (.newarray .int, 2) := by decide +kernel
theorem d_D_init_94 : decode M_D_init.2.1 94 = .ok (.putfield 42, 3) := by decide +kernel
theorem d_D_init_97 : decode M_D_init.2.1 97 = .ok (.aload_n 0, 1) := by decide +kernel
theorem d_D_init_98 : decode M_D_init.2.1 98 = .ok (.bipush 8, 2) := by decide +kernel
theorem d_D_init_100 : decode M_D_init.2.1 100 = .ok (.newarray .int, 2) := by decide +kernel
theorem d_D_init_102 : decode M_D_init.2.1 102 = .ok (.putfield 45, 3) := by decide +kernel
theorem d_D_init_105 : decode M_D_init.2.1 105 = .ok (.aload_n 0, 1) := by decide +kernel
theorem d_D_init_106 : decode M_D_init.2.1 106 = .ok (.sipush 1280, 3) := by decide +kernel
theorem d_D_init_109 : decode M_D_init.2.1 109 = .ok (.newarray .int, 2) := by decide +kernel
theorem d_D_init_111 : decode M_D_init.2.1 111 = .ok (.putfield 48, 3) := by decide +kernel
theorem d_D_init_114 : decode M_D_init.2.1 114 = .ok (.aload_n 0, 1) := by decide +kernel
theorem d_D_init_115 : decode M_D_init.2.1 115 = .ok (.sipush 1280, 3) := by decide +kernel
theorem d_D_init_118 : decode M_D_init.2.1 118 = .ok (.newarray .int, 2) := by decide +kernel
theorem d_D_init_120 : decode M_D_init.2.1 120 = .ok (.putfield 51, 3) := by decide +kernel
theorem d_D_init_123 : decode M_D_init.2.1 123 = .ok (.aload_n 0, 1) := by decide +kernel
theorem d_D_init_124 : decode M_D_init.2.1 124 = .ok (.bipush 8, 2) := by decide +kernel
theorem d_D_init_126 : decode M_D_init.2.1 126 = .ok (.newarray .boolean, 2) := by decide +kernel
theorem d_D_init_128 : decode M_D_init.2.1 128 = .ok (.putfield 54, 3) := by decide +kernel
theorem d_D_init_131 : decode M_D_init.2.1 131 = .ok (.aload_n 0, 1) := by decide +kernel
theorem d_D_init_132 : decode M_D_init.2.1 132 = .ok (.sipush 16384, 3) := by decide +kernel
theorem d_D_init_135 : decode M_D_init.2.1 135 = .ok (.newarray .int, 2) := by decide +kernel
theorem d_D_init_137 : decode M_D_init.2.1 137 = .ok (.putfield 57, 3) := by decide +kernel
theorem d_D_init_140 : decode M_D_init.2.1 140 = .ok (.aload_n 0, 1) := by decide +kernel
theorem d_D_init_141 : decode M_D_init.2.1 141 = .ok (.sipush 16384, 3) := by decide +kernel
theorem d_D_init_144 : decode M_D_init.2.1 144 = .ok (.newarray .int, 2) := by decide +kernel
theorem d_D_init_146 : decode M_D_init.2.1 146 = .ok (.putfield 60, 3) := by decide +kernel
theorem d_D_init_149 : decode M_D_init.2.1 149 = .ok (.aload_n 0, 1) := by decide +kernel
theorem d_D_init_150 : decode M_D_init.2.1 150 = .ok (.sipush 16384, 3) := by decide +kernel
theorem d_D_init_153 : decode M_D_init.2.1 153 = .ok (.newarray .int, 2) := by decide +kernel
theorem d_D_init_155 : decode M_D_init.2.1 155 = .ok (.putfield 63, 3) := by decide +kernel
theorem d_D_init_158 : decode M_D_init.2.1 158 = .ok (.aload_n 0, 1) := by decide +kernel
theorem d_D_init_159 : decode M_D_init.2.1 159 = .ok (.sipush 16384, 3) := by decide +kernel
theorem d_D_init_162 : decode M_D_init.2.1 162 = .ok (.newarray .int, 2) := by decide +kernel
theorem d_D_init_164 : decode M_D_init.2.1 164 = .ok (.putfield 66, 3) := by decide +kernel
theorem d_D_init_167 : decode M_D_init.2.1 167 = .ok (.aload_n 0, 1) := by decide +kernel
theorem d_D_init_168 : decode M_D_init.2.1 168 = .ok (.sipush 4096, 3) := by decide +kernel
theorem d_D_init_171 : decode M_D_init.2.1 171 = .ok (.newarray .int, 2) := by decide +kernel
theorem d_D_init_173 : decode M_D_init.2.1 173 = .ok (.putfield 69, 3) := by decide +kernel
theorem d_D_init_176 : decode M_D_init.2.1 176 = .ok (.aload_n 0, 1) := by decide +kernel
theorem d_D_init_177 : decode M_D_init.2.1 177 = .ok (.sipush 4096, 3) := by decide +kernel
theorem d_D_init_180 : decode M_D_init.2.1 180 = .ok (.newarray .int, 2) := by decide +kernel
theorem d_D_init_182 : decode M_D_init.2.1 182 = .ok (.putfield 72, 3) := by decide +kernel
theorem d_D_init_185 : decode M_D_init.2.1 185 = .ok (.aload_n 0, 1) := by decide +kernel
theorem d_D_init_186 : decode M_D_init.2.1 186 = .ok (.ldc 75, 2) := by decide +kernel
theorem d_D_init_188 : decode M_D_init.2.1 188 = .ok (.newarray .int, 2) := by decide +kernel
theorem d_D_init_190 : decode M_D_init.2.1 190 = .ok (.putfield 76, 3) := by decide +kernel
theorem d_D_init_193 : decode M_D_init.2.1 193 = .ok (.aload_n 0, 1) := by decide +kernel
theorem d_D_init_194 : decode M_D_init.2.1 194 = .ok (.sipush 4096, 3) := by decide +kernel
theorem d_D_init_197 : decode M_D_init.2.1 197 = .ok (.newarray .int, 2) := by decide +kernel
theorem d_D_init_199 : decode M_D_init.2.1 199 = .ok (.putfield 79, 3) := by decide +kernel
theorem d_D_init_202 : decode M_D_init.2.1 202 = .ok (.aload_n 0, 1) := by decide +kernel
theorem d_D_init_203 : decode M_D_init.2.1 203 = .ok (.sipush 4096, 3) := by decide +kernel
theorem d_D_init_206 : decode M_D_init.2.1 206 = .ok (.newarray .int, 2) := by decide +kernel
theorem d_D_init_208 : decode M_D_init.2.1 208 = .ok (.putfield 82, 3) := by decide +kernel
theorem d_D_init_211 : decode M_D_init.2.1 211 = .ok (.aload_n 0, 1) := by decide +kernel
theorem d_D_init_212 : decode M_D_init.2.1 212 = .ok (.sipush 4096, 3) := by decide +kernel
theorem d_D_init_215 : decode M_D_init.2.1 215 = .ok (.newarray .int, 2) := by decide +kernel
theorem d_D_init_217 : decode M_D_init.2.1 217 = .ok (.putfield 85, 3) := by decide +kernel
theorem d_D_init_220 : decode M_D_init.2.1 220 = .ok (.aload_n 0, 1) := by decide +kernel
theorem d_D_init_221 : decode M_D_init.2.1 221 = .ok (.sipush 16384, 3) := by decide +kernel
theorem d_D_init_224 : decode M_D_init.2.1 224 = .ok (.newarray .int, 2) := by decide +kernel
theorem d_D_init_226 : decode M_D_init.2.1 226 = .ok (.putfield 88, 3) := by decide +kernel
theorem d_D_init_229 : decode M_D_init.2.1 229 = .ok (.aload_n 0, 1) := by decide +kernel
theorem d_D_init_230 : decode M_D_init.2.1 230 = .ok (.sipush 16384, 3) := by decide +kernel
theorem d_D_init_233 : decode M_D_init.2.1 233 = .ok (.newarray .int, 2) := by decide +kernel
theorem d_D_init_235 : decode M_D_init.2.1 235 = .ok (.putfield 91, 3) := by decide +kernel
theorem d_D_init_238 : decode M_D_init.2.1 238 = .ok (.aload_n 0, 1) := by decide +kernel
theorem d_D_init_239 : decode M_D_init.2.1 239 = .ok (.sipush 324, 3) := by decide +kernel
theorem d_D_init_242 : decode M_D_init.2.1 242 = .ok (.newarray .int, 2) := by decide +kernel
theorem d_D_init_244 : decode M_D_init.2.1 244 = .ok (.putfield 94, 3) := by decide +kernel
theorem d_D_init_247 : decode M_D_init.2.1 247 = .ok (.aload_n 0, 1) := by decide +kernel
theorem d_D_init_248 : decode M_D_init.2.1 248 = .ok (.sipush 1296, 3) := by decide +kernel
theorem d_D_init_251 : decode M_D_init.2.1 251 = .ok (.newarray .int, 2) := by decide +kernel
theorem d_D_init_253 : decode M_D_init.2.1 253 = .ok (.putfield 97, 3) := by decide +kernel
theorem d_D_init_256 : decode M_D_init.2.1 256 = .ok (.return_, 1) := by decide +kernel
theorem d_D_thrown_0 : decode M_D_thrown.2.1 0 = .ok (.aload_n 0, 1) := by decide +kernel
theorem d_D_thrown_1 : decode M_D_thrown.2.1 1 = .ok (.getfield 100, 3) := by decide +kernel
theorem d_D_thrown_4 : decode M_D_thrown.2.1 4 = .ok (.ireturn, 1) := by decide +kernel
theorem d_D_operation_0 : decode M_D_operation.2.1 0 = .ok (.iload_n 1, 1) := by decide +kernel
theorem d_D_operation_1 : decode M_D_operation.2.1 1 = .ok (.iconst (-1), 1) := by decide +kernel
theorem d_D_operation_2 : decode M_D_operation.2.1 2 = .ok (.if_icmp .lt 48, 3) := by decide +kernel
theorem d_D_operation_5 : decode M_D_operation.2.1 5 = .ok (.iload_n 1, 1) := by decide +kernel
theorem d_D_operation_6 : decode M_D_operation.2.1 6 = .ok (.iconst 3, 1) := by decide +kernel
theorem d_D_operation_7 : decode M_D_operation.2.1 7 = .ok (.if_icmp .ge 43, 3) := by decide +kernel
theorem d_D_operation_10 : decode M_D_operation.2.1 10 = .ok (.iload_n 2, 1) := by decide +kernel
theorem d_D_operation_11 : decode M_D_operation.2.1 11 = .ok (.iconst (-1), 1) := by decide +kernel
theorem d_D_operation_12 : decode M_D_operation.2.1 12 = .ok (.if_icmp .lt 38, 3) := by decide +kernel
theorem d_D_operation_15 : decode M_D_operation.2.1 15 = .ok (.iload_n 2, 1) := by decide +kernel
theorem d_D_operation_16 : decode M_D_operation.2.1 16 = .ok (.iconst 3, 1) := by decide +kernel
theorem d_D_operation_17 : decode M_D_operation.2.1 17 = .ok (.if_icmp .ge 33, 3) := by decide +kernel
theorem d_D_operation_20 : decode M_D_operation.2.1 20 = .ok (.iload_n 3, 1) := by decide +kernel
theorem d_D_operation_21 : decode M_D_operation.2.1 21 = .ok (.iconst (-1), 1) := by decide +kernel
theorem d_D_operation_22 : decode M_D_operation.2.1 22 = .ok (.if_icmp .lt 28, 3) := by decide +kernel
theorem d_D_operation_25 : decode M_D_operation.2.1 25 = .ok (.iload_n 3, 1) := by decide +kernel
theorem d_D_operation_26 : decode M_D_operation.2.1 26 = .ok (.iconst 3, 1) := by decide +kernel
theorem d_D_operation_27 : decode M_D_operation.2.1 27 = .ok (.if_icmp .ge 23, 3) := by decide +kernel
theorem d_D_operation_30 : decode M_D_operation.2.1 30 = .ok (.iload_n 1, 1) := by decide +kernel
theorem d_D_operation_31 : decode M_D_operation.2.1 31 = .ok (.ifCond .ge 7, 3) := by decide +kernel
theorem d_D_operation_34 : decode M_D_operation.2.1 34 = .ok (.iload_n 2, 1) := by decide +kernel
theorem d_D_operation_35 : decode M_D_operation.2.1 35 = .ok (.ifCond .ge 15, 3) := by decide +kernel
theorem d_D_operation_38 : decode M_D_operation.2.1 38 = .ok (.iload_n 2, 1) := by decide +kernel
theorem d_D_operation_39 : decode M_D_operation.2.1 39 = .ok (.ifCond .ge 7, 3) := by decide +kernel
theorem d_D_operation_42 : decode M_D_operation.2.1 42 = .ok (.iload_n 3, 1) := by decide +kernel
theorem d_D_operation_43 : decode M_D_operation.2.1 43 = .ok (.ifCond .ge 7, 3) := by decide +kernel
theorem d_D_operation_46 : decode M_D_operation.2.1 46 = .ok (.iconst 1, 1) := by decide +kernel
theorem d_D_operation_47 : decode M_D_operation.2.1 47 = .ok (.goto 4, 3) := by decide +kernel
theorem d_D_operation_50 : decode M_D_operation.2.1 50 = .ok (.iconst 0, 1) := by decide +kernel
theorem d_D_operation_51 : decode M_D_operation.2.1 51 = .ok (.istore 4, 2) := by decide +kernel
theorem d_D_operation_53 : decode M_D_operation.2.1 53 = .ok (.aload_n 0, 1) := by decide +kernel
theorem d_D_operation_54 : decode M_D_operation.2.1 54 = .ok (.iload 4, 2) := by decide +kernel
theorem d_D_operation_56 : decode M_D_operation.2.1 56 = .ok (.ifCond .ne 7, 3) := by decide +kernel
theorem d_D_operation_59 : decode M_D_operation.2.1 59 = .ok (.iconst 1, 1) := by decide +kernel
theorem d_D_operation_60 : decode M_D_operation.2.1 60 = .ok (.goto 4, 3) := by decide +kernel
theorem d_D_operation_63 : decode M_D_operation.2.1 63 = .ok (.iconst 0, 1) := by decide +kernel
theorem d_D_operation_64 : decode M_D_operation.2.1 64 = .ok (.iconst 0, 1) := by decide +kernel
theorem d_D_operation_65 : decode M_D_operation.2.1 65 = .ok (.invokevirtual 104, 3) := by decide +kernel
theorem d_D_operation_68 : decode M_D_operation.2.1 68 = .ok (.ifCond .eq 5, 3) := by decide +kernel
theorem d_D_operation_71 : decode M_D_operation.2.1 71 = .ok (.iconst 0, 1) := by decide +kernel
theorem d_D_operation_72 : decode M_D_operation.2.1 72 = .ok (.ireturn, 1) := by decide +kernel
theorem d_D_operation_73 : decode M_D_operation.2.1 73 = .ok (.aload_n 0, 1) := by decide +kernel
theorem d_D_operation_74 : decode M_D_operation.2.1 74 = .ok (.getfield 108, 3) := by decide +kernel
theorem d_D_operation_77 : decode M_D_operation.2.1 77 = .ok (.bipush 16, 2) := by decide +kernel
theorem d_D_operation_79 : decode M_D_operation.2.1 79 = .ok (.if_icmp .ne 5, 3) := by decide +kernel
theorem d_D_operation_82 : decode M_D_operation.2.1 82 = .ok (.iconst (-1), 1) := by decide +kernel
theorem d_D_operation_83 : decode M_D_operation.2.1 83 = .ok (.ireturn, 1) := by decide +kernel
theorem d_D_operation_84 : decode M_D_operation.2.1 84 = .ok (.aload_n 0, 1) := by decide +kernel
theorem d_D_operation_85 : decode M_D_operation.2.1 85 = .ok (.getfield 7, 3) := by decide +kernel
theorem d_D_operation_88 : decode M_D_operation.2.1 88 = .ok (.aload_n 0, 1) := by decide +kernel
theorem d_D_operation_89 : decode M_D_operation.2.1 89 = .ok (.getfield 108, 3) := by decide +kernel
theorem d_D_operation_92 : decode M_D_operation.2.1 92 = .ok (.iload_n 1, 1) := by decide +kernel
theorem d_D_operation_93 : decode M_D_operation.2.1 93 = .ok (.ifCond .ge 7, 3) := by decide +kernel
theorem d_D_operation_96 : decode M_D_operation.2.1 96 = .ok (.iconst 0, 1) := by decide +kernel
theorem d_D_operation_97 : decode M_D_operation.2.1 97 = .ok (.goto 20, 3) := by decide +kernel
theorem d_D_operation_100 : decode M_D_operation.2.1 100 = .ok (.iload_n 2, 1) := by decide +kernel
theorem d_D_operation_101 : decode M_D_operation.2.1 101 = .ok (.ifCond .ge 7, 3) := by decide +kernel
theorem d_D_operation_104 : decode M_D_operation.2.1 104 = .ok (.iconst 1, 1) := by decide +kernel
theorem d_D_operation_105 : decode M_D_operation.2.1 105 = .ok (.goto 12, 3) := by decide +kernel
theorem d_D_operation_108 : decode M_D_operation.2.1 108 = .ok (.iload_n 3, 1) := by decide +kernel
theorem d_D_operation_109 : decode M_D_operation.2.1 109 = .ok (.ifCond .ge 7, 3) := by decide +kernel
theorem d_D_operation_112 : decode M_D_operation.2.1 112 = .ok (.iconst 2, 1) := by decide +kernel
theorem d_D_operation_113 : decode M_D_operation.2.1 113 = .ok (.goto 4, 3) := by decide +kernel
theorem d_D_operation_116 : decode M_D_operation.2.1 116 = .ok (.iconst 3, 1) := by decide +kernel
theorem d_D_operation_117 : decode M_D_operation.2.1 117 = .ok (.iastore, 1) := by decide +kernel
theorem d_D_operation_118 : decode M_D_operation.2.1 118 = .ok (.aload_n 0, 1) := by decide +kernel
theorem d_D_operation_119 : decode M_D_operation.2.1 119 = .ok (.getfield 13, 3) := by decide +kernel
theorem d_D_operation_122 : decode M_D_operation.2.1 122 = .ok (.iconst 3, 1) := by decide +kernel
theorem d_D_operation_123 : decode M_D_operation.2.1 123 = .ok (.aload_n 0, 1) := by decide +kernel
theorem d_D_operation_124 : decode M_D_operation.2.1 124 = .ok (.getfield 108, 3) := by decide +kernel
theorem d_D_operation_127 : decode M_D_operation.2.1 127 = .ok (.imul, 1) := by decide +kernel
theorem d_D_operation_128 : decode M_D_operation.2.1 128 = .ok (.iload_n 1, 1) := by decide +kernel
theorem d_D_operation_129 : decode M_D_operation.2.1 129 = .ok (.iastore, 1) := by decide +kernel
theorem d_D_operation_130 : decode M_D_operation.2.1 130 = .ok (.aload_n 0, 1) := by decide +kernel
theorem d_D_operation_131 : decode M_D_operation.2.1 131 = .ok (.getfield 13, 3) := by decide +kernel
theorem d_D_operation_134 : decode M_D_operation.2.1 134 = .ok (.iconst 3, 1) := by decide +kernel
theorem d_D_operation_135 : decode M_D_operation.2.1 135 = .ok (.aload_n 0, 1) := by decide +kernel
theorem d_D_operation_136 : decode M_D_operation.2.1 136 = .ok (.getfield 108, 3) := by decide +kernel
theorem d_D_operation_139 : decode M_D_operation.2.1 139 = .ok (.imul, 1) := by decide +kernel
theorem d_D_operation_140 : decode M_D_operation.2.1 140 = .ok (.iconst 1, 1) := by decide +kernel
theorem d_D_operation_141 : decode M_D_operation.2.1 141 = .ok (.iadd, 1) := by decide +kernel
theorem d_D_operation_142 : decode M_D_operation.2.1 142 = .ok (.iload_n 2, 1) := by decide +kernel
theorem d_D_operation_143 : decode M_D_operation.2.1 143 = .ok (.iastore, 1) := by decide +kernel
theorem d_D_operation_144 : decode M_D_operation.2.1 144 = .ok (.aload_n 0, 1) := by decide +kernel
theorem d_D_operation_145 : decode M_D_operation.2.1 145 = .ok (.getfield 13, 3) := by decide +kernel
theorem d_D_operation_148 : decode M_D_operation.2.1 148 = .ok (.iconst 3, 1) := by decide +kernel
theorem d_D_operation_149 : decode M_D_operation.2.1 149 = .ok (.aload_n 0, 1) := by decide +kernel
theorem d_D_operation_150 : decode M_D_operation.2.1 150 = .ok (.getfield 108, 3) := by decide +kernel
theorem d_D_operation_153 : decode M_D_operation.2.1 153 = .ok (.imul, 1) := by decide +kernel
theorem d_D_operation_154 : decode M_D_operation.2.1 154 = .ok (.iconst 2, 1) := by decide +kernel
theorem d_D_operation_155 : decode M_D_operation.2.1 155 = .ok (.iadd, 1) := by decide +kernel
theorem d_D_operation_156 : decode M_D_operation.2.1 156 = .ok (.iload_n 3, 1) := by decide +kernel
theorem d_D_operation_157 : decode M_D_operation.2.1 157 = .ok (.iastore, 1) := by decide +kernel
theorem d_D_operation_158 : decode M_D_operation.2.1 158 = .ok (.aload_n 0, 1) := by decide +kernel
theorem d_D_operation_159 : decode M_D_operation.2.1 159 = .ok (.dup, 1) := by decide +kernel
theorem d_D_operation_160 : decode M_D_operation.2.1 160 = .ok (.getfield 108, 3) := by decide +kernel
theorem d_D_operation_163 : decode M_D_operation.2.1 163 = .ok (.iconst 1, 1) := by decide +kernel
theorem d_D_operation_164 : decode M_D_operation.2.1 164 = .ok (.iadd, 1) := by decide +kernel
theorem d_D_operation_165 : decode M_D_operation.2.1 165 = .ok (.putfield 108, 3) := by decide +kernel
theorem d_D_operation_168 : decode M_D_operation.2.1 168 = .ok (.aload_n 0, 1) := by decide +kernel
theorem d_D_operation_169 : decode M_D_operation.2.1 169 = .ok (.getfield 108, 3) := by decide +kernel
theorem d_D_operation_172 : decode M_D_operation.2.1 172 = .ok (.iconst 1, 1) := by decide +kernel
theorem d_D_operation_173 : decode M_D_operation.2.1 173 = .ok (.isub, 1) := by decide +kernel
theorem d_D_operation_174 : decode M_D_operation.2.1 174 = .ok (.ireturn, 1) := by decide +kernel
theorem d_D_fails_0 : decode M_D_fails.2.1 0 = .ok (.aload_n 0, 1) := by decide +kernel
theorem d_D_fails_1 : decode M_D_fails.2.1 1 = .ok (.iload_n 1, 1) := by decide +kernel
theorem d_D_fails_2 : decode M_D_fails.2.1 2 = .ok (.ifCond .eq 7, 3) := by decide +kernel
theorem d_D_fails_5 : decode M_D_fails.2.1 5 = .ok (.iconst 1, 1) := by decide +kernel
theorem d_D_fails_6 : decode M_D_fails.2.1 6 = .ok (.goto 12, 3) := by decide +kernel
theorem d_D_fails_9 : decode M_D_fails.2.1 9 = .ok (.iload_n 2, 1) := by decide +kernel
theorem d_D_fails_10 : decode M_D_fails.2.1 10 = .ok (.ifCond .eq 7, 3) := by decide +kernel
theorem d_D_fails_13 : decode M_D_fails.2.1 13 = .ok (.iconst 2, 1) := by decide +kernel
theorem d_D_fails_14 : decode M_D_fails.2.1 14 = .ok (.goto 4, 3) := by decide +kernel
theorem d_D_fails_17 : decode M_D_fails.2.1 17 = .ok (.iconst 0, 1) := by decide +kernel
theorem d_D_fails_18 : decode M_D_fails.2.1 18 = .ok (.putfield 100, 3) := by decide +kernel
theorem d_D_fails_21 : decode M_D_fails.2.1 21 = .ok (.aload_n 0, 1) := by decide +kernel
theorem d_D_fails_22 : decode M_D_fails.2.1 22 = .ok (.getfield 100, 3) := by decide +kernel
theorem d_D_fails_25 : decode M_D_fails.2.1 25 = .ok (.ifCond .le 7, 3) := by decide +kernel
theorem d_D_fails_28 : decode M_D_fails.2.1 28 = .ok (.iconst 1, 1) := by decide +kernel
theorem d_D_fails_29 : decode M_D_fails.2.1 29 = .ok (.goto 4, 3) := by decide +kernel
theorem d_D_fails_32 : decode M_D_fails.2.1 32 = .ok (.iconst 0, 1) := by decide +kernel
theorem d_D_fails_33 : decode M_D_fails.2.1 33 = .ok (.ireturn, 1) := by decide +kernel
theorem d_D_hole_0 : decode M_D_hole.2.1 0 = .ok (.aload_n 0, 1) := by decide +kernel
theorem d_D_hole_1 : decode M_D_hole.2.1 1 = .ok (.iload_n 1, 1) := by decide +kernel
theorem d_D_hole_2 : decode M_D_hole.2.1 2 = .ok (.ifCond .lt 8, 3) := by decide +kernel
theorem d_D_hole_5 : decode M_D_hole.2.1 5 = .ok (.iload_n 1, 1) := by decide +kernel
theorem d_D_hole_6 : decode M_D_hole.2.1 6 = .ok (.iconst 4, 1) := by decide +kernel
theorem d_D_hole_7 : decode M_D_hole.2.1 7 = .ok (.if_icmp .le 7, 3) := by decide +kernel
theorem d_D_hole_10 : decode M_D_hole.2.1 10 = .ok (.iconst 1, 1) := by decide +kernel
theorem d_D_hole_11 : decode M_D_hole.2.1 11 = .ok (.goto 4, 3) := by decide +kernel
theorem d_D_hole_14 : decode M_D_hole.2.1 14 = .ok (.iconst 0, 1) := by decide +kernel
theorem d_D_hole_15 : decode M_D_hole.2.1 15 = .ok (.iconst 0, 1) := by decide +kernel
theorem d_D_hole_16 : decode M_D_hole.2.1 16 = .ok (.invokevirtual 104, 3) := by decide +kernel
theorem d_D_hole_19 : decode M_D_hole.2.1 19 = .ok (.ifCond .eq 5, 3) := by decide +kernel
theorem d_D_hole_22 : decode M_D_hole.2.1 22 = .ok (.iconst 0, 1) := by decide +kernel
theorem d_D_hole_23 : decode M_D_hole.2.1 23 = .ok (.ireturn, 1) := by decide +kernel
theorem d_D_hole_24 : decode M_D_hole.2.1 24 = .ok (.aload_n 0, 1) := by decide +kernel
theorem d_D_hole_25 : decode M_D_hole.2.1 25 = .ok (.getfield 111, 3) := by decide +kernel
theorem d_D_hole_28 : decode M_D_hole.2.1 28 = .ok (.bipush 24, 2) := by decide +kernel
theorem d_D_hole_30 : decode M_D_hole.2.1 30 = .ok (.if_icmp .ne 5, 3) := by decide +kernel
theorem d_D_hole_33 : decode M_D_hole.2.1 33 = .ok (.iconst (-1), 1) := by decide +kernel
theorem d_D_hole_34 : decode M_D_hole.2.1 34 = .ok (.ireturn, 1) := by decide +kernel
theorem d_D_hole_35 : decode M_D_hole.2.1 35 = .ok (.aload_n 0, 1) := by decide +kernel
theorem d_D_hole_36 : decode M_D_hole.2.1 36 = .ok (.getfield 16, 3) := by decide +kernel
theorem d_D_hole_39 : decode M_D_hole.2.1 39 = .ok (.aload_n 0, 1) := by decide +kernel
theorem d_D_hole_40 : decode M_D_hole.2.1 40 = .ok (.getfield 111, 3) := by decide +kernel
theorem d_D_hole_43 : decode M_D_hole.2.1 43 = .ok (.iload_n 1, 1) := by decide +kernel
theorem d_D_hole_44 : decode M_D_hole.2.1 44 = .ok (.iastore, 1) := by decide +kernel
theorem d_D_hole_45 : decode M_D_hole.2.1 45 = .ok (.aload_n 0, 1) := by decide +kernel
theorem d_D_hole_46 : decode M_D_hole.2.1 46 = .ok (.getfield 26, 3) := by decide +kernel
theorem d_D_hole_49 : decode M_D_hole.2.1 49 = .ok (.aload_n 0, 1) := by decide +kernel
theorem d_D_hole_50 : decode M_D_hole.2.1 50 = .ok (.getfield 111, 3) := by decide +kernel
theorem d_D_hole_53 : decode M_D_hole.2.1 53 = .ok (.iconst 0, 1) := by decide +kernel
theorem d_D_hole_54 : decode M_D_hole.2.1 54 = .ok (.bastore, 1) := by decide +kernel
theorem d_D_hole_55 : decode M_D_hole.2.1 55 = .ok (.aload_n 0, 1) := by decide +kernel
theorem d_D_hole_56 : decode M_D_hole.2.1 56 = .ok (.dup, 1) := by decide +kernel
theorem d_D_hole_57 : decode M_D_hole.2.1 57 = .ok (.getfield 111, 3) := by decide +kernel
theorem d_D_hole_60 : decode M_D_hole.2.1 60 = .ok (.iconst 1, 1) := by decide +kernel
theorem d_D_hole_61 : decode M_D_hole.2.1 61 = .ok (.iadd, 1) := by decide +kernel
theorem d_D_hole_62 : decode M_D_hole.2.1 62 = .ok (.putfield 111, 3) := by decide +kernel
theorem d_D_hole_65 : decode M_D_hole.2.1 65 = .ok (.aload_n 0, 1) := by decide +kernel
theorem d_D_hole_66 : decode M_D_hole.2.1 66 = .ok (.getfield 111, 3) := by decide +kernel
theorem d_D_hole_69 : decode M_D_hole.2.1 69 = .ok (.iconst 1, 1) := by decide +kernel
theorem d_D_hole_70 : decode M_D_hole.2.1 70 = .ok (.isub, 1) := by decide +kernel
theorem d_D_hole_71 : decode M_D_hole.2.1 71 = .ok (.ireturn, 1) := by decide +kernel
theorem d_D_begin_0 : decode M_D_begin.2.1 0 = .ok (.aload_n 0, 1) := by decide +kernel
theorem d_D_begin_1 : decode M_D_begin.2.1 1 = .ok (.iload_n 1, 1) := by decide +kernel
theorem d_D_begin_2 : decode M_D_begin.2.1 2 = .ok (.invokestatic 114, 3) := by decide +kernel
theorem d_D_begin_5 : decode M_D_begin.2.1 5 = .ok (.ifCond .eq 13, 3) := by decide +kernel
theorem d_D_begin_8 : decode M_D_begin.2.1 8 = .ok (.iload_n 2, 1) := by decide +kernel
theorem d_D_begin_9 : decode M_D_begin.2.1 9 = .ok (.ifCond .lt 9, 3) := by decide +kernel
theorem d_D_begin_12 : decode M_D_begin.2.1 12 = .ok (.iload_n 2, 1) := by decide +kernel
theorem d_D_begin_13 : decode M_D_begin.2.1 13 = .ok (.bipush 6, 2) := by decide +kernel
theorem d_D_begin_15 : decode M_D_begin.2.1 15 = .ok (.if_icmp .le 7, 3) := by decide +kernel
theorem d_D_begin_18 : decode M_D_begin.2.1 18 = .ok (.iconst 1, 1) := by decide +kernel
theorem d_D_begin_19 : decode M_D_begin.2.1 19 = .ok (.goto 4, 3) := by decide +kernel
theorem d_D_begin_22 : decode M_D_begin.2.1 22 = .ok (.iconst 0, 1) := by decide +kernel
theorem d_D_begin_23 : decode M_D_begin.2.1 23 = .ok (.iconst 0, 1) := by decide +kernel
theorem d_D_begin_24 : decode M_D_begin.2.1 24 = .ok (.invokevirtual 104, 3) := by decide +kernel
theorem d_D_begin_27 : decode M_D_begin.2.1 27 = .ok (.ifCond .eq 5, 3) := by decide +kernel
theorem d_D_begin_30 : decode M_D_begin.2.1 30 = .ok (.iconst 0, 1) := by decide +kernel
theorem d_D_begin_31 : decode M_D_begin.2.1 31 = .ok (.ireturn, 1) := by decide +kernel
theorem d_D_begin_32 : decode M_D_begin.2.1 32 = .ok (.aload_n 0, 1) := by decide +kernel
theorem d_D_begin_33 : decode M_D_begin.2.1 33 = .ok (.getfield 54, 3) := by decide +kernel
theorem d_D_begin_36 : decode M_D_begin.2.1 36 = .ok (.iload_n 1, 1) := by decide +kernel
theorem d_D_begin_37 : decode M_D_begin.2.1 37 = .ok (.iconst 1, 1) := by decide +kernel
theorem d_D_begin_38 : decode M_D_begin.2.1 38 = .ok (.bastore, 1) := by decide +kernel
theorem d_D_begin_39 : decode M_D_begin.2.1 39 = .ok (.aload_n 0, 1) := by decide +kernel
theorem d_D_begin_40 : decode M_D_begin.2.1 40 = .ok (.getfield 36, 3) := by decide +kernel
theorem d_D_begin_43 : decode M_D_begin.2.1 43 = .ok (.iload_n 1, 1) := by decide +kernel
theorem d_D_begin_44 : decode M_D_begin.2.1 44 = .ok (.iconst 0, 1) := by decide +kernel
theorem d_D_begin_45 : decode M_D_begin.2.1 45 = .ok (.iastore, 1) := by decide +kernel
theorem d_D_begin_46 : decode M_D_begin.2.1 46 = .ok (.aload_n 0, 1) := by decide +kernel
theorem d_D_begin_47 : decode M_D_begin.2.1 47 = .ok (.getfield 39, 3) := by decide +kernel
theorem d_D_begin_50 : decode M_D_begin.2.1 50 = .ok (.iload_n 1, 1) := by decide +kernel
theorem d_D_begin_51 : decode M_D_begin.2.1 51 = .ok (.iconst 0, 1) := by decide +kernel
theorem d_D_begin_52 : decode M_D_begin.2.1 52 = .ok (.iastore, 1) := by decide +kernel
theorem d_D_begin_53 : decode M_D_begin.2.1 53 = .ok (.aload_n 0, 1) := by decide +kernel
theorem d_D_begin_54 : decode M_D_begin.2.1 54 = .ok (.getfield 42, 3) := by decide +kernel
theorem d_D_begin_57 : decode M_D_begin.2.1 57 = .ok (.iload_n 1, 1) := by decide +kernel
theorem d_D_begin_58 : decode M_D_begin.2.1 58 = .ok (.iload_n 2, 1) := by decide +kernel
theorem d_D_begin_59 : decode M_D_begin.2.1 59 = .ok (.iastore, 1) := by decide +kernel
theorem d_D_begin_60 : decode M_D_begin.2.1 60 = .ok (.aload_n 0, 1) := by decide +kernel
theorem d_D_begin_61 : decode M_D_begin.2.1 61 = .ok (.getfield 45, 3) := by decide +kernel
theorem d_D_begin_64 : decode M_D_begin.2.1 64 = .ok (.iload_n 1, 1) := by decide +kernel
theorem d_D_begin_65 : decode M_D_begin.2.1 65 = .ok (.iconst 1, 1) := by decide +kernel
theorem d_D_begin_66 : decode M_D_begin.2.1 66 = .ok (.iastore, 1) := by decide +kernel
theorem d_D_begin_67 : decode M_D_begin.2.1 67 = .ok (.aload_n 0, 1) := by decide +kernel
theorem d_D_begin_68 : decode M_D_begin.2.1 68 = .ok (.getfield 48, 3) := by decide +kernel
theorem d_D_begin_71 : decode M_D_begin.2.1 71 = .ok (.sipush 160, 3) := by decide +kernel
theorem d_D_begin_74 : decode M_D_begin.2.1 74 = .ok (.iload_n 1, 1) := by decide +kernel
theorem d_D_begin_75 : decode M_D_begin.2.1 75 = .ok (.imul, 1) := by decide +kernel
theorem d_D_begin_76 : decode M_D_begin.2.1 76 = .ok (.iload_n 2, 1) := by decide +kernel
theorem d_D_begin_77 : decode M_D_begin.2.1 77 = .ok (.iastore, 1) := by decide +kernel
theorem d_D_begin_78 : decode M_D_begin.2.1 78 = .ok (.iconst 1, 1) := by decide +kernel
theorem d_D_begin_79 : decode M_D_begin.2.1 79 = .ok (.ireturn, 1) := by decide +kernel
theorem d_D_isSlot_0 : decode M_D_isSlot.2.1 0 = .ok (.iload_n 0, 1) := by decide +kernel
theorem d_D_isSlot_1 : decode M_D_isSlot.2.1 1 = .ok (.ifCond .lt 13, 3) := by decide +kernel
theorem d_D_isSlot_4 : decode M_D_isSlot.2.1 4 = .ok (.iload_n 0, 1) := by decide +kernel
theorem d_D_isSlot_5 : decode M_D_isSlot.2.1 5 = .ok (.bipush 8, 2) := by decide +kernel
theorem d_D_isSlot_7 : decode M_D_isSlot.2.1 7 = .ok (.if_icmp .ge 7, 3) := by decide +kernel
theorem d_D_isSlot_10 : decode M_D_isSlot.2.1 10 = .ok (.iconst 1, 1) := by decide +kernel
theorem d_D_isSlot_11 : decode M_D_isSlot.2.1 11 = .ok (.goto 4, 3) := by decide +kernel
theorem d_D_isSlot_14 : decode M_D_isSlot.2.1 14 = .ok (.iconst 0, 1) := by decide +kernel
theorem d_D_isSlot_15 : decode M_D_isSlot.2.1 15 = .ok (.ireturn, 1) := by decide +kernel
theorem d_D_put_0 : decode M_D_put.2.1 0 = .ok (.iload_n 1, 1) := by decide +kernel
theorem d_D_put_1 : decode M_D_put.2.1 1 = .ok (.invokestatic 114, 3) := by decide +kernel
theorem d_D_put_4 : decode M_D_put.2.1 4 = .ok (.istore 4, 2) := by decide +kernel
theorem d_D_put_6 : decode M_D_put.2.1 6 = .ok (.iload 4, 2) := by decide +kernel
theorem d_D_put_8 : decode M_D_put.2.1 8 = .ok (.ifCond .eq 16, 3) := by decide +kernel
theorem d_D_put_11 : decode M_D_put.2.1 11 = .ok (.aload_n 0, 1) := by decide +kernel
theorem d_D_put_12 : decode M_D_put.2.1 12 = .ok (.getfield 45, 3) := by decide +kernel
theorem d_D_put_15 : decode M_D_put.2.1 15 = .ok (.iload_n 1, 1) := by decide +kernel
theorem d_D_put_16 : decode M_D_put.2.1 16 = .ok (.iaload, 1) := by decide +kernel
theorem d_D_put_17 : decode M_D_put.2.1 17 = .ok (.ifCond .ne 7, 3) := by decide +kernel
theorem d_D_put_20 : decode M_D_put.2.1 20 = .ok (.iconst 1, 1) := by decide +kernel
theorem d_D_put_21 : decode M_D_put.2.1 21 = .ok (.goto 4, 3) := by decide +kernel
theorem d_D_put_24 : decode M_D_put.2.1 24 = .ok (.iconst 0, 1) := by decide +kernel
theorem d_D_put_25 : decode M_D_put.2.1 25 = .ok (.istore 5, 2) := by decide +kernel
theorem d_D_put_27 : decode M_D_put.2.1 27 = .ok (.aload_n 0, 1) := by decide +kernel
theorem d_D_put_28 : decode M_D_put.2.1 28 = .ok (.iload 5, 2) := by decide +kernel
theorem d_D_put_30 : decode M_D_put.2.1 30 = .ok (.iload 4, 2) := by decide +kernel
theorem d_D_put_32 : decode M_D_put.2.1 32 = .ok (.ifCond .eq 18, 3) := by decide +kernel
theorem d_D_put_35 : decode M_D_put.2.1 35 = .ok (.iload 5, 2) := by decide +kernel
theorem d_D_put_37 : decode M_D_put.2.1 37 = .ok (.ifCond .ne 17, 3) := by decide +kernel
theorem d_D_put_40 : decode M_D_put.2.1 40 = .ok (.aload_n 0, 1) := by decide +kernel
theorem d_D_put_41 : decode M_D_put.2.1 41 = .ok (.iload_n 1, 1) := by decide +kernel
theorem d_D_put_42 : decode M_D_put.2.1 42 = .ok (.iload_n 2, 1) := by decide +kernel
theorem d_D_put_43 : decode M_D_put.2.1 43 = .ok (.iload_n 3, 1) := by decide +kernel
theorem d_D_put_44 : decode M_D_put.2.1 44 = .ok (.invokevirtual 118, 3) := by decide +kernel
theorem d_D_put_47 : decode M_D_put.2.1 47 = .ok (.ifCond .ne 7, 3) := by decide +kernel
theorem d_D_put_50 : decode M_D_put.2.1 50 = .ok (.iconst 1, 1) := by decide +kernel
theorem d_D_put_51 : decode M_D_put.2.1 51 = .ok (.goto 4, 3) := by decide +kernel
theorem d_D_put_54 : decode M_D_put.2.1 54 = .ok (.iconst 0, 1) := by decide +kernel
theorem d_D_put_55 : decode M_D_put.2.1 55 = .ok (.invokevirtual 104, 3) := by decide +kernel
theorem d_D_put_58 : decode M_D_put.2.1 58 = .ok (.ifCond .eq 5, 3) := by decide +kernel
theorem d_D_put_61 : decode M_D_put.2.1 61 = .ok (.iconst 0, 1) := by decide +kernel
theorem d_D_put_62 : decode M_D_put.2.1 62 = .ok (.ireturn, 1) := by decide +kernel
theorem d_D_put_63 : decode M_D_put.2.1 63 = .ok (.aload_n 0, 1) := by decide +kernel
theorem d_D_put_64 : decode M_D_put.2.1 64 = .ok (.getfield 48, 3) := by decide +kernel
theorem d_D_put_67 : decode M_D_put.2.1 67 = .ok (.sipush 160, 3) := by decide +kernel
theorem d_D_put_70 : decode M_D_put.2.1 70 = .ok (.iload_n 1, 1) := by decide +kernel
theorem d_D_put_71 : decode M_D_put.2.1 71 = .ok (.imul, 1) := by decide +kernel
theorem d_D_put_72 : decode M_D_put.2.1 72 = .ok (.aload_n 0, 1) := by decide +kernel
theorem d_D_put_73 : decode M_D_put.2.1 73 = .ok (.getfield 45, 3) := by decide +kernel
theorem d_D_put_76 : decode M_D_put.2.1 76 = .ok (.iload_n 1, 1) := by decide +kernel
theorem d_D_put_77 : decode M_D_put.2.1 77 = .ok (.iaload, 1) := by decide +kernel
theorem d_D_put_78 : decode M_D_put.2.1 78 = .ok (.iadd, 1) := by decide +kernel
theorem d_D_put_79 : decode M_D_put.2.1 79 = .ok (.iconst 1, 1) := by decide +kernel
theorem d_D_put_80 : decode M_D_put.2.1 80 = .ok (.isub, 1) := by decide +kernel
theorem d_D_put_81 : decode M_D_put.2.1 81 = .ok (.iaload, 1) := by decide +kernel
theorem d_D_put_82 : decode M_D_put.2.1 82 = .ok (.istore 6, 2) := by decide +kernel
theorem d_D_put_84 : decode M_D_put.2.1 84 = .ok (.iload 6, 2) := by decide +kernel
theorem d_D_put_86 : decode M_D_put.2.1 86 = .ok (.bipush 100, 2) := by decide +kernel
theorem d_D_put_88 : decode M_D_put.2.1 88 = .ok (.if_icmp .ge 27, 3) := by decide +kernel
theorem d_D_put_91 : decode M_D_put.2.1 91 = .ok (.aload_n 0, 1) := by decide +kernel
theorem d_D_put_92 : decode M_D_put.2.1 92 = .ok (.getfield 39, 3) := by decide +kernel
theorem d_D_put_95 : decode M_D_put.2.1 95 = .ok (.iload_n 1, 1) := by decide +kernel
theorem d_D_put_96 : decode M_D_put.2.1 96 = .ok (.iaload, 1) := by decide +kernel
theorem d_D_put_97 : decode M_D_put.2.1 97 = .ok (.bipush 30, 2) := by decide +kernel
theorem d_D_put_99 : decode M_D_put.2.1 99 = .ok (.if_icmp .eq 14, 3) := by decide +kernel
theorem d_D_put_102 : decode M_D_put.2.1 102 = .ok (.aload_n 0, 1) := by decide +kernel
theorem d_D_put_103 : decode M_D_put.2.1 103 = .ok (.iload_n 2, 1) := by decide +kernel
theorem d_D_put_104 : decode M_D_put.2.1 104 = .ok (.iload_n 3, 1) := by decide +kernel
theorem d_D_put_105 : decode M_D_put.2.1 105 = .ok (.iload 6, 2) := by decide +kernel
theorem d_D_put_107 : decode M_D_put.2.1 107 = .ok (.invokevirtual 122, 3) := by decide +kernel
theorem d_D_put_110 : decode M_D_put.2.1 110 = .ok (.ifCond .eq 5, 3) := by decide +kernel
theorem d_D_put_113 : decode M_D_put.2.1 113 = .ok (.iconst (-1), 1) := by decide +kernel
theorem d_D_put_114 : decode M_D_put.2.1 114 = .ok (.ireturn, 1) := by decide +kernel
theorem d_D_put_115 : decode M_D_put.2.1 115 = .ok (.aload_n 0, 1) := by decide +kernel
theorem d_D_put_116 : decode M_D_put.2.1 116 = .ok (.getfield 36, 3) := by decide +kernel
theorem d_D_put_119 : decode M_D_put.2.1 119 = .ok (.iload_n 1, 1) := by decide +kernel
theorem d_D_put_120 : decode M_D_put.2.1 120 = .ok (.iaload, 1) := by decide +kernel
theorem d_D_put_121 : decode M_D_put.2.1 121 = .ok (.istore 7, 2) := by decide +kernel
theorem d_D_put_123 : decode M_D_put.2.1 123 = .ok (.aload_n 0, 1) := by decide +kernel
theorem d_D_put_124 : decode M_D_put.2.1 124 = .ok (.getfield 33, 3) := by decide +kernel
theorem d_D_put_127 : decode M_D_put.2.1 127 = .ok (.sipush 160, 3) := by decide +kernel
theorem d_D_put_130 : decode M_D_put.2.1 130 = .ok (.iload_n 1, 1) := by decide +kernel
theorem d_D_put_131 : decode M_D_put.2.1 131 = .ok (.imul, 1) := by decide +kernel
theorem d_D_put_132 : decode M_D_put.2.1 132 = .ok (.iload 7, 2) := by decide +kernel
theorem d_D_put_134 : decode M_D_put.2.1 134 = .ok (.iadd, 1) := by decide +kernel
theorem d_D_put_135 : decode M_D_put.2.1 135 = .ok (.iconst 4, 1) := by decide +kernel
theorem d_D_put_136 : decode M_D_put.2.1 136 = .ok (.iload_n 3, 1) := by decide +kernel
theorem d_D_put_137 : decode M_D_put.2.1 137 = .ok (.imul, 1) := by decide +kernel
theorem d_D_put_138 : decode M_D_put.2.1 138 = .ok (.iload_n 2, 1) := by decide +kernel
theorem d_D_put_139 : decode M_D_put.2.1 139 = .ok (.iadd, 1) := by decide +kernel
theorem d_D_put_140 : decode M_D_put.2.1 140 = .ok (.iastore, 1) := by decide +kernel
theorem d_D_put_141 : decode M_D_put.2.1 141 = .ok (.aload_n 0, 1) := by decide +kernel
theorem d_D_put_142 : decode M_D_put.2.1 142 = .ok (.getfield 36, 3) := by decide +kernel
theorem d_D_put_145 : decode M_D_put.2.1 145 = .ok (.iload_n 1, 1) := by decide +kernel
theorem d_D_put_146 : decode M_D_put.2.1 146 = .ok (.dup2, 1) := by decide +kernel
theorem d_D_put_147 : decode M_D_put.2.1 147 = .ok (.iaload, 1) := by decide +kernel
theorem d_D_put_148 : decode M_D_put.2.1 148 = .ok (.iconst 1, 1) := by decide +kernel
theorem d_D_put_149 : decode M_D_put.2.1 149 = .ok (.iadd, 1) := by decide +kernel
theorem d_D_put_150 : decode M_D_put.2.1 150 = .ok (.iastore, 1) := by decide +kernel
theorem d_D_put_151 : decode M_D_put.2.1 151 = .ok (.aload_n 0, 1) := by decide +kernel
theorem d_D_put_152 : decode M_D_put.2.1 152 = .ok (.getfield 45, 3) := by decide +kernel
theorem d_D_put_155 : decode M_D_put.2.1 155 = .ok (.iload_n 1, 1) := by decide +kernel
theorem d_D_put_156 : decode M_D_put.2.1 156 = .ok (.dup2, 1) := by decide +kernel
theorem d_D_put_157 : decode M_D_put.2.1 157 = .ok (.iaload, 1) := by decide +kernel
theorem d_D_put_158 : decode M_D_put.2.1 158 = .ok (.iconst 1, 1) := by decide +kernel
theorem d_D_put_159 : decode M_D_put.2.1 159 = .ok (.isub, 1) := by decide +kernel
theorem d_D_put_160 : decode M_D_put.2.1 160 = .ok (.iastore, 1) := by decide +kernel
theorem d_D_put_161 : decode M_D_put.2.1 161 = .ok (.iload 6, 2) := by decide +kernel
theorem d_D_put_163 : decode M_D_put.2.1 163 = .ok (.bipush 100, 2) := by decide +kernel
theorem d_D_put_165 : decode M_D_put.2.1 165 = .ok (.if_icmp .lt 10, 3) := by decide +kernel
theorem d_D_put_168 : decode M_D_put.2.1 168 = .ok (.aload_n 0, 1) := by decide +kernel
theorem d_D_put_169 : decode M_D_put.2.1 169 = .ok (.getfield 45, 3) := by decide +kernel
theorem d_D_put_172 : decode M_D_put.2.1 172 = .ok (.iload_n 1, 1) := by decide +kernel
theorem d_D_put_173 : decode M_D_put.2.1 173 = .ok (.iaload, 1) := by decide +kernel
theorem d_D_put_174 : decode M_D_put.2.1 174 = .ok (.ireturn, 1) := by decide +kernel
theorem d_D_put_175 : decode M_D_put.2.1 175 = .ok (.aload_n 0, 1) := by decide +kernel
theorem d_D_put_176 : decode M_D_put.2.1 176 = .ok (.getfield 39, 3) := by decide +kernel
theorem d_D_put_179 : decode M_D_put.2.1 179 = .ok (.iload_n 1, 1) := by decide +kernel
theorem d_D_put_180 : decode M_D_put.2.1 180 = .ok (.dup2, 1) := by decide +kernel
theorem d_D_put_181 : decode M_D_put.2.1 181 = .ok (.iaload, 1) := by decide +kernel
theorem d_D_put_182 : decode M_D_put.2.1 182 = .ok (.iconst 1, 1) := by decide +kernel
theorem d_D_put_183 : decode M_D_put.2.1 183 = .ok (.iadd, 1) := by decide +kernel
theorem d_D_put_184 : decode M_D_put.2.1 184 = .ok (.iastore, 1) := by decide +kernel
theorem d_D_put_185 : decode M_D_put.2.1 185 = .ok (.iconst 2, 1) := by decide +kernel
theorem d_D_put_186 : decode M_D_put.2.1 186 = .ok (.istore 8, 2) := by decide +kernel
theorem d_D_put_188 : decode M_D_put.2.1 188 = .ok (.iload 8, 2) := by decide +kernel
theorem d_D_put_190 : decode M_D_put.2.1 190 = .ok (.ifCond .lt 45, 3) := by decide +kernel
theorem d_D_put_193 : decode M_D_put.2.1 193 = .ok (.iload_n 2, 1) := by decide +kernel
theorem d_D_put_194 : decode M_D_put.2.1 194 = .ok (.iconst 1, 1) := by decide +kernel
theorem d_D_put_195 : decode M_D_put.2.1 195 = .ok (.if_icmp .ne 40, 3) := by decide +kernel
theorem d_D_put_198 : decode M_D_put.2.1 198 = .ok (.iload 8, 2) := by decide +kernel
theorem d_D_put_200 : decode M_D_put.2.1 200 = .ok (.aload_n 0, 1) := by decide +kernel
theorem d_D_put_201 : decode M_D_put.2.1 201 = .ok (.getfield 7, 3) := by decide +kernel
theorem d_D_put_204 : decode M_D_put.2.1 204 = .ok (.iload_n 3, 1) := by decide +kernel
theorem d_D_put_205 : decode M_D_put.2.1 205 = .ok (.iaload, 1) := by decide +kernel
theorem d_D_put_206 : decode M_D_put.2.1 206 = .ok (.if_icmp .ge 23, 3) := by decide +kernel
theorem d_D_put_209 : decode M_D_put.2.1 209 = .ok (.aload_n 0, 1) := by decide +kernel
theorem d_D_put_210 : decode M_D_put.2.1 210 = .ok (.iload_n 1, 1) := by decide +kernel
theorem d_D_put_211 : decode M_D_put.2.1 211 = .ok (.iload 6, 2) := by decide +kernel
theorem d_D_put_213 : decode M_D_put.2.1 213 = .ok (.aload_n 0, 1) := by decide +kernel
theorem d_D_put_214 : decode M_D_put.2.1 214 = .ok (.getfield 13, 3) := by decide +kernel
theorem d_D_put_217 : decode M_D_put.2.1 217 = .ok (.iconst 3, 1) := by decide +kernel
theorem d_D_put_218 : decode M_D_put.2.1 218 = .ok (.iload_n 3, 1) := by decide +kernel
theorem d_D_put_219 : decode M_D_put.2.1 219 = .ok (.imul, 1) := by decide +kernel
theorem d_D_put_220 : decode M_D_put.2.1 220 = .ok (.iload 8, 2) := by decide +kernel
theorem d_D_put_222 : decode M_D_put.2.1 222 = .ok (.iadd, 1) := by decide +kernel
theorem d_D_put_223 : decode M_D_put.2.1 223 = .ok (.iaload, 1) := by decide +kernel
theorem d_D_put_224 : decode M_D_put.2.1 224 = .ok (.iadd, 1) := by decide +kernel
theorem d_D_put_225 : decode M_D_put.2.1 225 = .ok (.iconst 0, 1) := by decide +kernel
theorem d_D_put_226 : decode M_D_put.2.1 226 = .ok (.invokevirtual 125, 3) := by decide +kernel
theorem d_D_put_229 : decode M_D_put.2.1 229 = .ok (.iinc 8 (-1), 3) := by decide +kernel
theorem d_D_put_232 : decode M_D_put.2.1 232 = .ok (.goto (-44), 3) := by decide +kernel
theorem d_D_put_235 : decode M_D_put.2.1 235 = .ok (.iconst 0, 1) := by decide +kernel
theorem d_D_put_236 : decode M_D_put.2.1 236 = .ok (.istore 8, 2) := by decide +kernel
theorem d_D_put_238 : decode M_D_put.2.1 238 = .ok (.iload_n 2, 1) := by decide +kernel
theorem d_D_put_239 : decode M_D_put.2.1 239 = .ok (.iconst 2, 1) := by decide +kernel
theorem d_D_put_240 : decode M_D_put.2.1 240 = .ok (.if_icmp .ne 32, 3) := by decide +kernel
theorem d_D_put_243 : decode M_D_put.2.1 243 = .ok (.iload 8, 2) := by decide +kernel
theorem d_D_put_245 : decode M_D_put.2.1 245 = .ok (.aload_n 0, 1) := by decide +kernel
theorem d_D_put_246 : decode M_D_put.2.1 246 = .ok (.getfield 16, 3) := by decide +kernel
theorem d_D_put_249 : decode M_D_put.2.1 249 = .ok (.iload_n 3, 1) := by decide +kernel
theorem d_D_put_250 : decode M_D_put.2.1 250 = .ok (.iaload, 1) := by decide +kernel
theorem d_D_put_251 : decode M_D_put.2.1 251 = .ok (.if_icmp .ge 21, 3) := by decide +kernel
theorem d_D_put_254 : decode M_D_put.2.1 254 = .ok (.aload_n 0, 1) := by decide +kernel
theorem d_D_put_255 : decode M_D_put.2.1 255 = .ok (.iload_n 1, 1) := by decide +kernel
theorem d_D_put_256 : decode M_D_put.2.1 256 = .ok (.bipush 100, 2) := by decide +kernel
theorem d_D_put_258 : decode M_D_put.2.1 258 = .ok (.iload 6, 2) := by decide +kernel
theorem d_D_put_260 : decode M_D_put.2.1 260 = .ok (.iadd, 1) := by decide +kernel
theorem d_D_put_261 : decode M_D_put.2.1 261 = .ok (.iload 7, 2) := by decide +kernel
theorem d_D_put_263 : decode M_D_put.2.1 263 = .ok (.invokevirtual 125, 3) := by decide +kernel
theorem d_D_put_266 : decode M_D_put.2.1 266 = .ok (.iinc 8 1, 3) := by decide +kernel
theorem d_D_put_269 : decode M_D_put.2.1 269 = .ok (.goto (-31), 3) := by decide +kernel
theorem d_D_put_272 : decode M_D_put.2.1 272 = .ok (.aload_n 0, 1) := by decide +kernel
theorem d_D_put_273 : decode M_D_put.2.1 273 = .ok (.getfield 45, 3) := by decide +kernel
theorem d_D_put_276 : decode M_D_put.2.1 276 = .ok (.iload_n 1, 1) := by decide +kernel
theorem d_D_put_277 : decode M_D_put.2.1 277 = .ok (.iaload, 1) := by decide +kernel
theorem d_D_put_278 : decode M_D_put.2.1 278 = .ok (.ireturn, 1) := by decide +kernel
theorem d_D_fits_0 : decode M_D_fits.2.1 0 = .ok (.aload_n 0, 1) := by decide +kernel
theorem d_D_fits_1 : decode M_D_fits.2.1 1 = .ok (.getfield 48, 3) := by decide +kernel
theorem d_D_fits_4 : decode M_D_fits.2.1 4 = .ok (.sipush 160, 3) := by decide +kernel
theorem d_D_fits_7 : decode M_D_fits.2.1 7 = .ok (.iload_n 1, 1) := by decide +kernel
theorem d_D_fits_8 : decode M_D_fits.2.1 8 = .ok (.imul, 1) := by decide +kernel
theorem d_D_fits_9 : decode M_D_fits.2.1 9 = .ok (.aload_n 0, 1) := by decide +kernel
theorem d_D_fits_10 : decode M_D_fits.2.1 10 = .ok (.getfield 45, 3) := by decide +kernel
theorem d_D_fits_13 : decode M_D_fits.2.1 13 = .ok (.iload_n 1, 1) := by decide +kernel
theorem d_D_fits_14 : decode M_D_fits.2.1 14 = .ok (.iaload, 1) := by decide +kernel
theorem d_D_fits_15 : decode M_D_fits.2.1 15 = .ok (.iadd, 1) := by decide +kernel
theorem d_D_fits_16 : decode M_D_fits.2.1 16 = .ok (.iconst 1, 1) := by decide +kernel
theorem d_D_fits_17 : decode M_D_fits.2.1 17 = .ok (.isub, 1) := by decide +kernel
theorem d_D_fits_18 : decode M_D_fits.2.1 18 = .ok (.iaload, 1) := by decide +kernel
theorem d_D_fits_19 : decode M_D_fits.2.1 19 = .ok (.istore 4, 2) := by decide +kernel
theorem d_D_fits_21 : decode M_D_fits.2.1 21 = .ok (.iload 4, 2) := by decide +kernel
theorem d_D_fits_23 : decode M_D_fits.2.1 23 = .ok (.bipush 100, 2) := by decide +kernel
theorem d_D_fits_25 : decode M_D_fits.2.1 25 = .ok (.if_icmp .lt 101, 3) := by decide +kernel
theorem d_D_fits_28 : decode M_D_fits.2.1 28 = .ok (.iload_n 2, 1) := by decide +kernel
theorem d_D_fits_29 : decode M_D_fits.2.1 29 = .ok (.ifCond .ne 20, 3) := by decide +kernel
theorem d_D_fits_32 : decode M_D_fits.2.1 32 = .ok (.iload_n 3, 1) := by decide +kernel
theorem d_D_fits_33 : decode M_D_fits.2.1 33 = .ok (.ifCond .lt 16, 3) := by decide +kernel
theorem d_D_fits_36 : decode M_D_fits.2.1 36 = .ok (.iload_n 3, 1) := by decide +kernel
theorem d_D_fits_37 : decode M_D_fits.2.1 37 = .ok (.iload 4, 2) := by decide +kernel
theorem d_D_fits_39 : decode M_D_fits.2.1 39 = .ok (.bipush 100, 2) := by decide +kernel
theorem d_D_fits_41 : decode M_D_fits.2.1 41 = .ok (.isub, 1) := by decide +kernel
theorem d_D_fits_42 : decode M_D_fits.2.1 42 = .ok (.if_icmp .ge 7, 3) := by decide +kernel
theorem d_D_fits_45 : decode M_D_fits.2.1 45 = .ok (.iconst 1, 1) := by decide +kernel
theorem d_D_fits_46 : decode M_D_fits.2.1 46 = .ok (.goto 4, 3) := by decide +kernel
theorem d_D_fits_49 : decode M_D_fits.2.1 49 = .ok (.iconst 0, 1) := by decide +kernel
theorem d_D_fits_50 : decode M_D_fits.2.1 50 = .ok (.istore 5, 2) := by decide +kernel
theorem d_D_fits_52 : decode M_D_fits.2.1 52 = .ok (.aload_n 0, 1) := by decide +kernel
theorem d_D_fits_53 : decode M_D_fits.2.1 53 = .ok (.getfield 51, 3) := by decide +kernel
theorem d_D_fits_56 : decode M_D_fits.2.1 56 = .ok (.sipush 160, 3) := by decide +kernel
theorem d_D_fits_59 : decode M_D_fits.2.1 59 = .ok (.iload_n 1, 1) := by decide +kernel
theorem d_D_fits_60 : decode M_D_fits.2.1 60 = .ok (.imul, 1) := by decide +kernel
theorem d_D_fits_61 : decode M_D_fits.2.1 61 = .ok (.aload_n 0, 1) := by decide +kernel
theorem d_D_fits_62 : decode M_D_fits.2.1 62 = .ok (.getfield 45, 3) := by decide +kernel
theorem d_D_fits_65 : decode M_D_fits.2.1 65 = .ok (.iload_n 1, 1) := by decide +kernel
theorem d_D_fits_66 : decode M_D_fits.2.1 66 = .ok (.iaload, 1) := by decide +kernel
theorem d_D_fits_67 : decode M_D_fits.2.1 67 = .ok (.iadd, 1) := by decide +kernel
theorem d_D_fits_68 : decode M_D_fits.2.1 68 = .ok (.iconst 1, 1) := by decide +kernel
theorem d_D_fits_69 : decode M_D_fits.2.1 69 = .ok (.isub, 1) := by decide +kernel
theorem d_D_fits_70 : decode M_D_fits.2.1 70 = .ok (.iaload, 1) := by decide +kernel
theorem d_D_fits_71 : decode M_D_fits.2.1 71 = .ok (.iconst 1, 1) := by decide +kernel
theorem d_D_fits_72 : decode M_D_fits.2.1 72 = .ok (.iadd, 1) := by decide +kernel
theorem d_D_fits_73 : decode M_D_fits.2.1 73 = .ok (.istore 6, 2) := by decide +kernel
theorem d_D_fits_75 : decode M_D_fits.2.1 75 = .ok (.iload 6, 2) := by decide +kernel
theorem d_D_fits_77 : decode M_D_fits.2.1 77 = .ok (.aload_n 0, 1) := by decide +kernel
theorem d_D_fits_78 : decode M_D_fits.2.1 78 = .ok (.getfield 36, 3) := by decide +kernel
theorem d_D_fits_81 : decode M_D_fits.2.1 81 = .ok (.iload_n 1, 1) := by decide +kernel
theorem d_D_fits_82 : decode M_D_fits.2.1 82 = .ok (.iaload, 1) := by decide +kernel
theorem d_D_fits_83 : decode M_D_fits.2.1 83 = .ok (.if_icmp .ge 40, 3) := by decide +kernel
theorem d_D_fits_86 : decode M_D_fits.2.1 86 = .ok (.iload 5, 2) := by decide +kernel
theorem d_D_fits_88 : decode M_D_fits.2.1 88 = .ok (.ifCond .eq 26, 3) := by decide +kernel
theorem d_D_fits_91 : decode M_D_fits.2.1 91 = .ok (.aload_n 0, 1) := by decide +kernel
theorem d_D_fits_92 : decode M_D_fits.2.1 92 = .ok (.getfield 33, 3) := by decide +kernel
theorem d_D_fits_95 : decode M_D_fits.2.1 95 = .ok (.sipush 160, 3) := by decide +kernel
theorem d_D_fits_98 : decode M_D_fits.2.1 98 = .ok (.iload_n 1, 1) := by decide +kernel
theorem d_D_fits_99 : decode M_D_fits.2.1 99 = .ok (.imul, 1) := by decide +kernel
theorem d_D_fits_100 : decode M_D_fits.2.1 100 = .ok (.iload 6, 2) := by decide +kernel
theorem d_D_fits_102 : decode M_D_fits.2.1 102 = .ok (.iadd, 1) := by decide +kernel
theorem d_D_fits_103 : decode M_D_fits.2.1 103 = .ok (.iaload, 1) := by decide +kernel
theorem d_D_fits_104 : decode M_D_fits.2.1 104 = .ok (.iconst 4, 1) := by decide +kernel
theorem d_D_fits_105 : decode M_D_fits.2.1 105 = .ok (.iload_n 3, 1) := by decide +kernel
theorem d_D_fits_106 : decode M_D_fits.2.1 106 = .ok (.imul, 1) := by decide +kernel
theorem d_D_fits_107 : decode M_D_fits.2.1 107 = .ok (.if_icmp .eq 7, 3) := by decide +kernel
theorem d_D_fits_110 : decode M_D_fits.2.1 110 = .ok (.iconst 1, 1) := by decide +kernel
theorem d_D_fits_111 : decode M_D_fits.2.1 111 = .ok (.goto 4, 3) := by decide +kernel
theorem d_D_fits_114 : decode M_D_fits.2.1 114 = .ok (.iconst 0, 1) := by decide +kernel
theorem d_D_fits_115 : decode M_D_fits.2.1 115 = .ok (.istore 5, 2) := by decide +kernel
theorem d_D_fits_117 : decode M_D_fits.2.1 117 = .ok (.iinc 6 1, 3) := by decide +kernel
theorem d_D_fits_120 : decode M_D_fits.2.1 120 = .ok (.goto (-45), 3) := by decide +kernel
theorem d_D_fits_123 : decode M_D_fits.2.1 123 = .ok (.iload 5, 2) := by decide +kernel
theorem d_D_fits_125 : decode M_D_fits.2.1 125 = .ok (.ireturn, 1) := by decide +kernel
theorem d_D_fits_126 : decode M_D_fits.2.1 126 = .ok (.iload_n 3, 1) := by decide +kernel
theorem d_D_fits_127 : decode M_D_fits.2.1 127 = .ok (.ifCond .lt 43, 3) := by decide +kernel
theorem d_D_fits_130 : decode M_D_fits.2.1 130 = .ok (.iload_n 2, 1) := by decide +kernel
theorem d_D_fits_131 : decode M_D_fits.2.1 131 = .ok (.ifCond .ne 9, 3) := by decide +kernel
theorem d_D_fits_134 : decode M_D_fits.2.1 134 = .ok (.iload_n 3, 1) := by decide +kernel
theorem d_D_fits_135 : decode M_D_fits.2.1 135 = .ok (.iload 4, 2) := by decide +kernel
theorem d_D_fits_137 : decode M_D_fits.2.1 137 = .ok (.if_icmp .lt 29, 3) := by decide +kernel
theorem d_D_fits_140 : decode M_D_fits.2.1 140 = .ok (.iload_n 2, 1) := by decide +kernel
theorem d_D_fits_141 : decode M_D_fits.2.1 141 = .ok (.iconst 1, 1) := by decide +kernel
theorem d_D_fits_142 : decode M_D_fits.2.1 142 = .ok (.if_icmp .ne 11, 3) := by decide +kernel
theorem d_D_fits_145 : decode M_D_fits.2.1 145 = .ok (.iload_n 3, 1) := by decide +kernel
theorem d_D_fits_146 : decode M_D_fits.2.1 146 = .ok (.aload_n 0, 1) := by decide +kernel
theorem d_D_fits_147 : decode M_D_fits.2.1 147 = .ok (.getfield 108, 3) := by decide +kernel
theorem d_D_fits_150 : decode M_D_fits.2.1 150 = .ok (.if_icmp .lt 16, 3) := by decide +kernel
theorem d_D_fits_153 : decode M_D_fits.2.1 153 = .ok (.iload_n 2, 1) := by decide +kernel
theorem d_D_fits_154 : decode M_D_fits.2.1 154 = .ok (.iconst 2, 1) := by decide +kernel
theorem d_D_fits_155 : decode M_D_fits.2.1 155 = .ok (.if_icmp .ne 15, 3) := by decide +kernel
theorem d_D_fits_158 : decode M_D_fits.2.1 158 = .ok (.iload_n 3, 1) := by decide +kernel
theorem d_D_fits_159 : decode M_D_fits.2.1 159 = .ok (.aload_n 0, 1) := by decide +kernel
theorem d_D_fits_160 : decode M_D_fits.2.1 160 = .ok (.getfield 111, 3) := by decide +kernel
theorem d_D_fits_163 : decode M_D_fits.2.1 163 = .ok (.if_icmp .ge 7, 3) := by decide +kernel
theorem d_D_fits_166 : decode M_D_fits.2.1 166 = .ok (.iconst 1, 1) := by decide +kernel
theorem d_D_fits_167 : decode M_D_fits.2.1 167 = .ok (.goto 4, 3) := by decide +kernel
theorem d_D_fits_170 : decode M_D_fits.2.1 170 = .ok (.iconst 0, 1) := by decide +kernel
theorem d_D_fits_171 : decode M_D_fits.2.1 171 = .ok (.ireturn, 1) := by decide +kernel
theorem d_D_isTooWide_0 : decode M_D_isTooWide.2.1 0 = .ok (.iconst 0, 1) := by decide +kernel
theorem d_D_isTooWide_1 : decode M_D_isTooWide.2.1 1 = .ok (.istore 4, 2) := by decide +kernel
theorem d_D_isTooWide_3 : decode M_D_isTooWide.2.1 3 = .ok (.iconst 0, 1) := by decide +kernel
theorem d_D_isTooWide_4 : decode M_D_isTooWide.2.1 4 = .ok (.istore 5, 2) := by decide +kernel
theorem d_D_isTooWide_6 : decode M_D_isTooWide.2.1 6 = .ok (.iload_n 1, 1) := by decide +kernel
theorem d_D_isTooWide_7 : decode M_D_isTooWide.2.1 7 = .ok (.iconst 1, 1) := by decide +kernel
theorem d_D_isTooWide_8 : decode M_D_isTooWide.2.1 8 = .ok (.if_icmp .ne 50, 3) := by decide +kernel
theorem d_D_isTooWide_11 : decode M_D_isTooWide.2.1 11 = .ok (.iload 5, 2) := by decide +kernel
theorem d_D_isTooWide_13 : decode M_D_isTooWide.2.1 13 = .ok (.aload_n 0, 1) := by decide +kernel
theorem d_D_isTooWide_14 : decode M_D_isTooWide.2.1 14 = .ok (.getfield 7, 3) := by decide +kernel
theorem d_D_isTooWide_17 : decode M_D_isTooWide.2.1 17 = .ok (.iload_n 2, 1) := by decide +kernel
theorem d_D_isTooWide_18 : decode M_D_isTooWide.2.1 18 = .ok (.iaload, 1) := by decide +kernel
theorem d_D_isTooWide_19 : decode M_D_isTooWide.2.1 19 = .ok (.if_icmp .ge 39, 3) := by decide +kernel
theorem d_D_isTooWide_22 : decode M_D_isTooWide.2.1 22 = .ok (.iload 4, 2) := by decide +kernel
theorem d_D_isTooWide_24 : decode M_D_isTooWide.2.1 24 = .ok (.ifCond .ne 21, 3) := by decide +kernel
theorem d_D_isTooWide_27 : decode M_D_isTooWide.2.1 27 = .ok (.iload_n 3, 1) := by decide +kernel
theorem d_D_isTooWide_28 : decode M_D_isTooWide.2.1 28 = .ok (.aload_n 0, 1) := by decide +kernel
theorem d_D_isTooWide_29 : decode M_D_isTooWide.2.1 29 = .ok (.getfield 13, 3) := by decide +kernel
theorem d_D_isTooWide_32 : decode M_D_isTooWide.2.1 32 = .ok (.iconst 3, 1) := by decide +kernel
theorem d_D_isTooWide_33 : decode M_D_isTooWide.2.1 33 = .ok (.iload_n 2, 1) := by decide +kernel
theorem d_D_isTooWide_34 : decode M_D_isTooWide.2.1 34 = .ok (.imul, 1) := by decide +kernel
theorem d_D_isTooWide_35 : decode M_D_isTooWide.2.1 35 = .ok (.iload 5, 2) := by decide +kernel
theorem d_D_isTooWide_37 : decode M_D_isTooWide.2.1 37 = .ok (.iadd, 1) := by decide +kernel
theorem d_D_isTooWide_38 : decode M_D_isTooWide.2.1 38 = .ok (.iaload, 1) := by decide +kernel
theorem d_D_isTooWide_39 : decode M_D_isTooWide.2.1 39 = .ok (.iadd, 1) := by decide +kernel
theorem d_D_isTooWide_40 : decode M_D_isTooWide.2.1 40 = .ok (.bipush 12, 2) := by decide +kernel
theorem d_D_isTooWide_42 : decode M_D_isTooWide.2.1 42 = .ok (.if_icmp .le 7, 3) := by decide +kernel
theorem d_D_isTooWide_45 : decode M_D_isTooWide.2.1 45 = .ok (.iconst 1, 1) := by decide +kernel
theorem d_D_isTooWide_46 : decode M_D_isTooWide.2.1 46 = .ok (.goto 4, 3) := by decide +kernel
theorem d_D_isTooWide_49 : decode M_D_isTooWide.2.1 49 = .ok (.iconst 0, 1) := by decide +kernel
theorem d_D_isTooWide_50 : decode M_D_isTooWide.2.1 50 = .ok (.istore 4, 2) := by decide +kernel
theorem d_D_isTooWide_52 : decode M_D_isTooWide.2.1 52 = .ok (.iinc 5 1, 3) := by decide +kernel
theorem d_D_isTooWide_55 : decode M_D_isTooWide.2.1 55 = .ok (.goto (-49), 3) := by decide +kernel
theorem d_D_isTooWide_58 : decode M_D_isTooWide.2.1 58 = .ok (.iload 4, 2) := by decide +kernel
theorem d_D_isTooWide_60 : decode M_D_isTooWide.2.1 60 = .ok (.ireturn, 1) := by decide +kernel
theorem d_D_wait_0 : decode M_D_wait.2.1 0 = .ok (.aload_n 0, 1) := by decide +kernel
theorem d_D_wait_1 : decode M_D_wait.2.1 1 = .ok (.getfield 48, 3) := by decide +kernel
theorem d_D_wait_4 : decode M_D_wait.2.1 4 = .ok (.sipush 160, 3) := by decide +kernel
theorem d_D_wait_7 : decode M_D_wait.2.1 7 = .ok (.iload_n 1, 1) := by decide +kernel
theorem d_D_wait_8 : decode M_D_wait.2.1 8 = .ok (.imul, 1) := by decide +kernel
theorem d_D_wait_9 : decode M_D_wait.2.1 9 = .ok (.aload_n 0, 1) := by decide +kernel
theorem d_D_wait_10 : decode M_D_wait.2.1 10 = .ok (.getfield 45, 3) := by decide +kernel
theorem d_D_wait_13 : decode M_D_wait.2.1 13 = .ok (.iload_n 1, 1) := by decide +kernel
theorem d_D_wait_14 : decode M_D_wait.2.1 14 = .ok (.iaload, 1) := by decide +kernel
theorem d_D_wait_15 : decode M_D_wait.2.1 15 = .ok (.iadd, 1) := by decide +kernel
theorem d_D_wait_16 : decode M_D_wait.2.1 16 = .ok (.iload_n 2, 1) := by decide +kernel
theorem d_D_wait_17 : decode M_D_wait.2.1 17 = .ok (.iastore, 1) := by decide +kernel
theorem d_D_wait_18 : decode M_D_wait.2.1 18 = .ok (.aload_n 0, 1) := by decide +kernel
theorem d_D_wait_19 : decode M_D_wait.2.1 19 = .ok (.getfield 51, 3) := by decide +kernel
theorem d_D_wait_22 : decode M_D_wait.2.1 22 = .ok (.sipush 160, 3) := by decide +kernel
theorem d_D_wait_25 : decode M_D_wait.2.1 25 = .ok (.iload_n 1, 1) := by decide +kernel
theorem d_D_wait_26 : decode M_D_wait.2.1 26 = .ok (.imul, 1) := by decide +kernel
theorem d_D_wait_27 : decode M_D_wait.2.1 27 = .ok (.aload_n 0, 1) := by decide +kernel
theorem d_D_wait_28 : decode M_D_wait.2.1 28 = .ok (.getfield 45, 3) := by decide +kernel
theorem d_D_wait_31 : decode M_D_wait.2.1 31 = .ok (.iload_n 1, 1) := by decide +kernel
theorem d_D_wait_32 : decode M_D_wait.2.1 32 = .ok (.iaload, 1) := by decide +kernel
theorem d_D_wait_33 : decode M_D_wait.2.1 33 = .ok (.iadd, 1) := by decide +kernel
theorem d_D_wait_34 : decode M_D_wait.2.1 34 = .ok (.iload_n 3, 1) := by decide +kernel
theorem d_D_wait_35 : decode M_D_wait.2.1 35 = .ok (.iastore, 1) := by decide +kernel
theorem d_D_wait_36 : decode M_D_wait.2.1 36 = .ok (.aload_n 0, 1) := by decide +kernel
theorem d_D_wait_37 : decode M_D_wait.2.1 37 = .ok (.getfield 45, 3) := by decide +kernel
theorem d_D_wait_40 : decode M_D_wait.2.1 40 = .ok (.iload_n 1, 1) := by decide +kernel
theorem d_D_wait_41 : decode M_D_wait.2.1 41 = .ok (.dup2, 1) := by decide +kernel
theorem d_D_wait_42 : decode M_D_wait.2.1 42 = .ok (.iaload, 1) := by decide +kernel
theorem d_D_wait_43 : decode M_D_wait.2.1 43 = .ok (.iconst 1, 1) := by decide +kernel
theorem d_D_wait_44 : decode M_D_wait.2.1 44 = .ok (.iadd, 1) := by decide +kernel
theorem d_D_wait_45 : decode M_D_wait.2.1 45 = .ok (.iastore, 1) := by decide +kernel
theorem d_D_wait_46 : decode M_D_wait.2.1 46 = .ok (.return_, 1) := by decide +kernel
theorem d_D_unify_0 : decode M_D_unify.2.1 0 = .ok (.aload_n 0, 1) := by decide +kernel
theorem d_D_unify_1 : decode M_D_unify.2.1 1 = .ok (.iload_n 1, 1) := by decide +kernel
theorem d_D_unify_2 : decode M_D_unify.2.1 2 = .ok (.iload_n 2, 1) := by decide +kernel
theorem d_D_unify_3 : decode M_D_unify.2.1 3 = .ok (.invokevirtual 205, 3) := by decide +kernel
theorem d_D_unify_6 : decode M_D_unify.2.1 6 = .ok (.ifCond .eq 5, 3) := by decide +kernel
theorem d_D_unify_9 : decode M_D_unify.2.1 9 = .ok (.iconst 0, 1) := by decide +kernel
theorem d_D_unify_10 : decode M_D_unify.2.1 10 = .ok (.ireturn, 1) := by decide +kernel
theorem d_D_unify_11 : decode M_D_unify.2.1 11 = .ok (.iconst 0, 1) := by decide +kernel
theorem d_D_unify_12 : decode M_D_unify.2.1 12 = .ok (.istore_n 3, 1) := by decide +kernel
theorem d_D_unify_13 : decode M_D_unify.2.1 13 = .ok (.iload_n 3, 1) := by decide +kernel
theorem d_D_unify_14 : decode M_D_unify.2.1 14 = .ok (.sipush 324, 3) := by decide +kernel
theorem d_D_unify_17 : decode M_D_unify.2.1 17 = .ok (.if_icmp .ge 21, 3) := by decide +kernel
theorem d_D_unify_20 : decode M_D_unify.2.1 20 = .ok (.aload_n 0, 1) := by decide +kernel
theorem d_D_unify_21 : decode M_D_unify.2.1 21 = .ok (.getfield 30, 3) := by decide +kernel
theorem d_D_unify_24 : decode M_D_unify.2.1 24 = .ok (.iload_n 3, 1) := by decide +kernel
theorem d_D_unify_25 : decode M_D_unify.2.1 25 = .ok (.aload_n 0, 1) := by decide +kernel
theorem d_D_unify_26 : decode M_D_unify.2.1 26 = .ok (.getfield 26, 3) := by decide +kernel
theorem d_D_unify_29 : decode M_D_unify.2.1 29 = .ok (.iload_n 3, 1) := by decide +kernel
