/-! THE LAW'S OWN ROWS. Written by wip/whole/gen_91.py. -/
def M_law : MM := (x, code, 7, ret, [])
theorem d_law_0 : decode M_law.2.1 0 = .ok (.new 8, 3) := by decide +kernel
def nL_8 : List MV := [mn, mn, mn, mn, mn, mn, mn, mi 0, mi 0]
def nV_8 : List Value := [.null, .null, .null, .null, .null, .null, .null, .int 0, .int 0]
theorem nw_L_8 : m_nw "HoleFillerLaw" 8 0 nL_8 9 := ⟨_, _, tyH, nV_8, rfl, u_H, tyH_ok, m_mem (i := 68) (by decide +kernel) rfl, m_mem (i := 69) (by decide +kernel) rfl, m_mem (i := 50) (by decide +kernel) rfl, by decide +kernel, rfl⟩
theorem d_law_3 : decode M_law.2.1 3 = .ok (.dup, 1) := by decide +kernel
theorem d_law_4 : decode M_law.2.1 4 = .ok (.invokespecial 49, 3) := by decide +kernel
theorem d_law_7 : decode M_law.2.1 7 = .ok (.astore_n 1, 1) := by decide +kernel
theorem d_law_8 : decode M_law.2.1 8 = .ok (.new 50, 3) := by decide +kernel
def nL_50 : List MV := [mi 0, mi 0, mi 0, mi 0, mn, mn, mn, mn, mn, mn, mn, mn, mn, mn, mn, mn, mn, mn, mn, mn, mn, mn, mn, mn, mn, mn, mn, mn, mn, mi 0, mi 0, mi 0, mn, mn, mn, mn, mi 0, mi 0, mi 0, mi 0]
def nV_50 : List Value := [.int 0, .int 0, .int 0, .int 0, .null, .null, .null, .null, .null, .null, .null, .null, .null, .null, .null, .null, .null, .null, .null, .null, .null, .null, .null, .null, .null, .null, .null, .null, .null, .int 0, .int 0, .int 0, .null, .null, .null, .null, .int 0, .int 0, .int 0, .int 0]
theorem nw_L_50 : m_nw "HoleFillerLaw" 50 8 nL_50 40 := ⟨_, _, tyD, nV_50, rfl, u_D, tyD_ok, m_mem (i := 845) (by decide +kernel) rfl, m_mem (i := 846) (by decide +kernel) rfl, m_mem (i := 58) (by decide +kernel) rfl, by decide +kernel, rfl⟩
theorem d_law_11 : decode M_law.2.1 11 = .ok (.dup, 1) := by decide +kernel
theorem d_law_12 : decode M_law.2.1 12 = .ok (.invokespecial 52, 3) := by decide +kernel
theorem d_law_15 : decode M_law.2.1 15 = .ok (.astore_n 2, 1) := by decide +kernel
theorem d_law_16 : decode M_law.2.1 16 = .ok (.iconst 1, 1) := by decide +kernel
theorem d_law_17 : decode M_law.2.1 17 = .ok (.newarray .long, 2) := by decide +kernel
theorem d_law_19 : decode M_law.2.1 19 = .ok (.astore_n 3, 1) := by decide +kernel
theorem d_law_20 : decode M_law.2.1 20 = .ok (.iconst 0, 1) := by decide +kernel
theorem d_law_21 : decode M_law.2.1 21 = .ok (.istore 4, 2) := by decide +kernel
theorem d_law_23 : decode M_law.2.1 23 = .ok (.iload 4, 2) := by decide +kernel
theorem d_law_25 : decode M_law.2.1 25 = .ok (.aload_n 0, 1) := by decide +kernel
theorem d_law_26 : decode M_law.2.1 26 = .ok (.arraylength, 1) := by decide +kernel
theorem d_law_27 : decode M_law.2.1 27 = .ok (.iconst 4, 1) := by decide +kernel
theorem d_law_28 : decode M_law.2.1 28 = .ok (.isub, 1) := by decide +kernel
theorem d_law_29 : decode M_law.2.1 29 = .ok (.if_icmp .gt 766, 3) := by decide +kernel
theorem d_law_32 : decode M_law.2.1 32 = .ok (.aload_n 0, 1) := by decide +kernel
theorem d_law_33 : decode M_law.2.1 33 = .ok (.iload 4, 2) := by decide +kernel
theorem d_law_35 : decode M_law.2.1 35 = .ok (.iaload, 1) := by decide +kernel
theorem d_law_36 : decode M_law.2.1 36 = .ok (.bipush 15, 2) := by decide +kernel
theorem d_law_38 : decode M_law.2.1 38 = .ok (.iand, 1) := by decide +kernel
theorem d_law_39 : decode M_law.2.1 39 = .ok (.tableswitch 750 0 11 #[61, 141, 197, 265, 345, 413, 469, 525, 600, 656, 712, 725], 61) := by decide +kernel
theorem d_law_100 : decode M_law.2.1 100 = .ok (.aload_n 1, 1) := by decide +kernel
theorem d_law_101 : decode M_law.2.1 101 = .ok (.aload_n 0, 1) := by decide +kernel
theorem d_law_102 : decode M_law.2.1 102 = .ok (.iload 4, 2) := by decide +kernel
theorem d_law_104 : decode M_law.2.1 104 = .ok (.iconst 1, 1) := by decide +kernel
theorem d_law_105 : decode M_law.2.1 105 = .ok (.iadd, 1) := by decide +kernel
theorem d_law_106 : decode M_law.2.1 106 = .ok (.iaload, 1) := by decide +kernel
theorem d_law_107 : decode M_law.2.1 107 = .ok (.aload_n 0, 1) := by decide +kernel
theorem d_law_108 : decode M_law.2.1 108 = .ok (.iload 4, 2) := by decide +kernel
theorem d_law_110 : decode M_law.2.1 110 = .ok (.iconst 2, 1) := by decide +kernel
theorem d_law_111 : decode M_law.2.1 111 = .ok (.iadd, 1) := by decide +kernel
theorem d_law_112 : decode M_law.2.1 112 = .ok (.iaload, 1) := by decide +kernel
theorem d_law_113 : decode M_law.2.1 113 = .ok (.aload_n 0, 1) := by decide +kernel
theorem d_law_114 : decode M_law.2.1 114 = .ok (.iload 4, 2) := by decide +kernel
theorem d_law_116 : decode M_law.2.1 116 = .ok (.iconst 3, 1) := by decide +kernel
theorem d_law_117 : decode M_law.2.1 117 = .ok (.iadd, 1) := by decide +kernel
theorem d_law_118 : decode M_law.2.1 118 = .ok (.iaload, 1) := by decide +kernel
theorem d_law_119 : decode M_law.2.1 119 = .ok (.aload_n 3, 1) := by decide +kernel
theorem d_law_120 : decode M_law.2.1 120 = .ok (.invokestatic 53, 3) := by decide +kernel
theorem d_law_123 : decode M_law.2.1 123 = .ok (.istore 5, 2) := by decide +kernel
theorem d_law_125 : decode M_law.2.1 125 = .ok (.aload_n 2, 1) := by decide +kernel
theorem d_law_126 : decode M_law.2.1 126 = .ok (.aload_n 0, 1) := by decide +kernel
theorem d_law_127 : decode M_law.2.1 127 = .ok (.iload 4, 2) := by decide +kernel
theorem d_law_129 : decode M_law.2.1 129 = .ok (.iconst 1, 1) := by decide +kernel
theorem d_law_130 : decode M_law.2.1 130 = .ok (.iadd, 1) := by decide +kernel
theorem d_law_131 : decode M_law.2.1 131 = .ok (.iaload, 1) := by decide +kernel
theorem d_law_132 : decode M_law.2.1 132 = .ok (.aload_n 0, 1) := by decide +kernel
theorem d_law_133 : decode M_law.2.1 133 = .ok (.iload 4, 2) := by decide +kernel
theorem d_law_135 : decode M_law.2.1 135 = .ok (.iconst 2, 1) := by decide +kernel
theorem d_law_136 : decode M_law.2.1 136 = .ok (.iadd, 1) := by decide +kernel
theorem d_law_137 : decode M_law.2.1 137 = .ok (.iaload, 1) := by decide +kernel
theorem d_law_138 : decode M_law.2.1 138 = .ok (.aload_n 0, 1) := by decide +kernel
theorem d_law_139 : decode M_law.2.1 139 = .ok (.iload 4, 2) := by decide +kernel
theorem d_law_141 : decode M_law.2.1 141 = .ok (.iconst 3, 1) := by decide +kernel
theorem d_law_142 : decode M_law.2.1 142 = .ok (.iadd, 1) := by decide +kernel
theorem d_law_143 : decode M_law.2.1 143 = .ok (.iaload, 1) := by decide +kernel
theorem d_law_144 : decode M_law.2.1 144 = .ok (.invokevirtual 58, 3) := by decide +kernel
theorem d_law_147 : decode M_law.2.1 147 = .ok (.istore 6, 2) := by decide +kernel
theorem d_law_149 : decode M_law.2.1 149 = .ok (.aload_n 2, 1) := by decide +kernel
theorem d_law_150 : decode M_law.2.1 150 = .ok (.invokevirtual 59, 3) := by decide +kernel
theorem d_law_153 : decode M_law.2.1 153 = .ok (.iload 5, 2) := by decide +kernel
theorem d_law_155 : decode M_law.2.1 155 = .ok (.if_icmp .eq 5, 3) := by decide +kernel
theorem d_law_158 : decode M_law.2.1 158 = .ok (.iconst 0, 1) := by decide +kernel
theorem d_law_159 : decode M_law.2.1 159 = .ok (.ireturn, 1) := by decide +kernel
theorem d_law_160 : decode M_law.2.1 160 = .ok (.iload 5, 2) := by decide +kernel
theorem d_law_162 : decode M_law.2.1 162 = .ok (.ifCond .ne 15, 3) := by decide +kernel
theorem d_law_165 : decode M_law.2.1 165 = .ok (.aload_n 3, 1) := by decide +kernel
theorem d_law_166 : decode M_law.2.1 166 = .ok (.iconst 0, 1) := by decide +kernel
theorem d_law_167 : decode M_law.2.1 167 = .ok (.laload, 1) := by decide +kernel
theorem d_law_168 : decode M_law.2.1 168 = .ok (.iload 6, 2) := by decide +kernel
theorem d_law_170 : decode M_law.2.1 170 = .ok (.i2l, 1) := by decide +kernel
theorem d_law_171 : decode M_law.2.1 171 = .ok (.lcmp, 1) := by decide +kernel
theorem d_law_172 : decode M_law.2.1 172 = .ok (.ifCond .eq 5, 3) := by decide +kernel
theorem d_law_175 : decode M_law.2.1 175 = .ok (.iconst 0, 1) := by decide +kernel
theorem d_law_176 : decode M_law.2.1 176 = .ok (.ireturn, 1) := by decide +kernel
theorem d_law_177 : decode M_law.2.1 177 = .ok (.goto 612, 3) := by decide +kernel
theorem d_law_180 : decode M_law.2.1 180 = .ok (.aload_n 1, 1) := by decide +kernel
theorem d_law_181 : decode M_law.2.1 181 = .ok (.aload_n 0, 1) := by decide +kernel
theorem d_law_182 : decode M_law.2.1 182 = .ok (.iload 4, 2) := by decide +kernel
theorem d_law_184 : decode M_law.2.1 184 = .ok (.iconst 1, 1) := by decide +kernel
theorem d_law_185 : decode M_law.2.1 185 = .ok (.iadd, 1) := by decide +kernel
theorem d_law_186 : decode M_law.2.1 186 = .ok (.iaload, 1) := by decide +kernel
theorem d_law_187 : decode M_law.2.1 187 = .ok (.aload_n 3, 1) := by decide +kernel
theorem d_law_188 : decode M_law.2.1 188 = .ok (.invokestatic 63, 3) := by decide +kernel
theorem d_law_191 : decode M_law.2.1 191 = .ok (.istore 5, 2) := by decide +kernel
theorem d_law_193 : decode M_law.2.1 193 = .ok (.aload_n 2, 1) := by decide +kernel
theorem d_law_194 : decode M_law.2.1 194 = .ok (.aload_n 0, 1) := by decide +kernel
theorem d_law_195 : decode M_law.2.1 195 = .ok (.iload 4, 2) := by decide +kernel
theorem d_law_197 : decode M_law.2.1 197 = .ok (.iconst 1, 1) := by decide +kernel
theorem d_law_198 : decode M_law.2.1 198 = .ok (.iadd, 1) := by decide +kernel
theorem d_law_199 : decode M_law.2.1 199 = .ok (.iaload, 1) := by decide +kernel
theorem d_law_200 : decode M_law.2.1 200 = .ok (.invokevirtual 66, 3) := by decide +kernel
theorem d_law_203 : decode M_law.2.1 203 = .ok (.istore 6, 2) := by decide +kernel
theorem d_law_205 : decode M_law.2.1 205 = .ok (.aload_n 2, 1) := by decide +kernel
theorem d_law_206 : decode M_law.2.1 206 = .ok (.invokevirtual 59, 3) := by decide +kernel
theorem d_law_209 : decode M_law.2.1 209 = .ok (.iload 5, 2) := by decide +kernel
theorem d_law_211 : decode M_law.2.1 211 = .ok (.if_icmp .eq 5, 3) := by decide +kernel
theorem d_law_214 : decode M_law.2.1 214 = .ok (.iconst 0, 1) := by decide +kernel
theorem d_law_215 : decode M_law.2.1 215 = .ok (.ireturn, 1) := by decide +kernel
theorem d_law_216 : decode M_law.2.1 216 = .ok (.iload 5, 2) := by decide +kernel
theorem d_law_218 : decode M_law.2.1 218 = .ok (.ifCond .ne 15, 3) := by decide +kernel
theorem d_law_221 : decode M_law.2.1 221 = .ok (.aload_n 3, 1) := by decide +kernel
theorem d_law_222 : decode M_law.2.1 222 = .ok (.iconst 0, 1) := by decide +kernel
theorem d_law_223 : decode M_law.2.1 223 = .ok (.laload, 1) := by decide +kernel
theorem d_law_224 : decode M_law.2.1 224 = .ok (.iload 6, 2) := by decide +kernel
theorem d_law_226 : decode M_law.2.1 226 = .ok (.i2l, 1) := by decide +kernel
theorem d_law_227 : decode M_law.2.1 227 = .ok (.lcmp, 1) := by decide +kernel
theorem d_law_228 : decode M_law.2.1 228 = .ok (.ifCond .eq 5, 3) := by decide +kernel
theorem d_law_231 : decode M_law.2.1 231 = .ok (.iconst 0, 1) := by decide +kernel
theorem d_law_232 : decode M_law.2.1 232 = .ok (.ireturn, 1) := by decide +kernel
theorem d_law_233 : decode M_law.2.1 233 = .ok (.goto 556, 3) := by decide +kernel
theorem d_law_236 : decode M_law.2.1 236 = .ok (.aload_n 1, 1) := by decide +kernel
theorem d_law_237 : decode M_law.2.1 237 = .ok (.aload_n 0, 1) := by decide +kernel
theorem d_law_238 : decode M_law.2.1 238 = .ok (.iload 4, 2) := by decide +kernel
theorem d_law_240 : decode M_law.2.1 240 = .ok (.iconst 1, 1) := by decide +kernel
theorem d_law_241 : decode M_law.2.1 241 = .ok (.iadd, 1) := by decide +kernel
theorem d_law_242 : decode M_law.2.1 242 = .ok (.iaload, 1) := by decide +kernel
theorem d_law_243 : decode M_law.2.1 243 = .ok (.aload_n 0, 1) := by decide +kernel
theorem d_law_244 : decode M_law.2.1 244 = .ok (.iload 4, 2) := by decide +kernel
theorem d_law_246 : decode M_law.2.1 246 = .ok (.iconst 2, 1) := by decide +kernel
theorem d_law_247 : decode M_law.2.1 247 = .ok (.iadd, 1) := by decide +kernel
theorem d_law_248 : decode M_law.2.1 248 = .ok (.iaload, 1) := by decide +kernel
theorem d_law_249 : decode M_law.2.1 249 = .ok (.aload_n 3, 1) := by decide +kernel
theorem d_law_250 : decode M_law.2.1 250 = .ok (.invokestatic 67, 3) := by decide +kernel
theorem d_law_253 : decode M_law.2.1 253 = .ok (.istore 5, 2) := by decide +kernel
theorem d_law_255 : decode M_law.2.1 255 = .ok (.aload_n 2, 1) := by decide +kernel
theorem d_law_256 : decode M_law.2.1 256 = .ok (.aload_n 0, 1) := by decide +kernel
theorem d_law_257 : decode M_law.2.1 257 = .ok (.iload 4, 2) := by decide +kernel
theorem d_law_259 : decode M_law.2.1 259 = .ok (.iconst 1, 1) := by decide +kernel
theorem d_law_260 : decode M_law.2.1 260 = .ok (.iadd, 1) := by decide +kernel
theorem d_law_261 : decode M_law.2.1 261 = .ok (.iaload, 1) := by decide +kernel
theorem d_law_262 : decode M_law.2.1 262 = .ok (.aload_n 0, 1) := by decide +kernel
theorem d_law_263 : decode M_law.2.1 263 = .ok (.iload 4, 2) := by decide +kernel
theorem d_law_265 : decode M_law.2.1 265 = .ok (.iconst 2, 1) := by decide +kernel
theorem d_law_266 : decode M_law.2.1 266 = .ok (.iadd, 1) := by decide +kernel
theorem d_law_267 : decode M_law.2.1 267 = .ok (.iaload, 1) := by decide +kernel
theorem d_law_268 : decode M_law.2.1 268 = .ok (.invokevirtual 70, 3) := by decide +kernel
theorem d_law_271 : decode M_law.2.1 271 = .ok (.istore 6, 2) := by decide +kernel
theorem d_law_273 : decode M_law.2.1 273 = .ok (.aload_n 2, 1) := by decide +kernel
theorem d_law_274 : decode M_law.2.1 274 = .ok (.invokevirtual 59, 3) := by decide +kernel
theorem d_law_277 : decode M_law.2.1 277 = .ok (.iload 5, 2) := by decide +kernel
theorem d_law_279 : decode M_law.2.1 279 = .ok (.if_icmp .eq 5, 3) := by decide +kernel
theorem d_law_282 : decode M_law.2.1 282 = .ok (.iconst 0, 1) := by decide +kernel
theorem d_law_283 : decode M_law.2.1 283 = .ok (.ireturn, 1) := by decide +kernel
theorem d_law_284 : decode M_law.2.1 284 = .ok (.iload 5, 2) := by decide +kernel
theorem d_law_286 : decode M_law.2.1 286 = .ok (.ifCond .ne 15, 3) := by decide +kernel
theorem d_law_289 : decode M_law.2.1 289 = .ok (.aload_n 3, 1) := by decide +kernel
theorem d_law_290 : decode M_law.2.1 290 = .ok (.iconst 0, 1) := by decide +kernel
theorem d_law_291 : decode M_law.2.1 291 = .ok (.laload, 1) := by decide +kernel
theorem d_law_292 : decode M_law.2.1 292 = .ok (.iload 6, 2) := by decide +kernel
theorem d_law_294 : decode M_law.2.1 294 = .ok (.i2l, 1) := by decide +kernel
theorem d_law_295 : decode M_law.2.1 295 = .ok (.lcmp, 1) := by decide +kernel
theorem d_law_296 : decode M_law.2.1 296 = .ok (.ifCond .eq 5, 3) := by decide +kernel
theorem d_law_299 : decode M_law.2.1 299 = .ok (.iconst 0, 1) := by decide +kernel
theorem d_law_300 : decode M_law.2.1 300 = .ok (.ireturn, 1) := by decide +kernel
theorem d_law_301 : decode M_law.2.1 301 = .ok (.goto 488, 3) := by decide +kernel
theorem d_law_304 : decode M_law.2.1 304 = .ok (.aload_n 1, 1) := by decide +kernel
theorem d_law_305 : decode M_law.2.1 305 = .ok (.aload_n 0, 1) := by decide +kernel
theorem d_law_306 : decode M_law.2.1 306 = .ok (.iload 4, 2) := by decide +kernel
theorem d_law_308 : decode M_law.2.1 308 = .ok (.iconst 1, 1) := by decide +kernel
theorem d_law_309 : decode M_law.2.1 309 = .ok (.iadd, 1) := by decide +kernel
theorem d_law_310 : decode M_law.2.1 310 = .ok (.iaload, 1) := by decide +kernel
theorem d_law_311 : decode M_law.2.1 311 = .ok (.aload_n 0, 1) := by decide +kernel
theorem d_law_312 : decode M_law.2.1 312 = .ok (.iload 4, 2) := by decide +kernel
theorem d_law_314 : decode M_law.2.1 314 = .ok (.iconst 2, 1) := by decide +kernel
theorem d_law_315 : decode M_law.2.1 315 = .ok (.iadd, 1) := by decide +kernel
theorem d_law_316 : decode M_law.2.1 316 = .ok (.iaload, 1) := by decide +kernel
theorem d_law_317 : decode M_law.2.1 317 = .ok (.aload_n 0, 1) := by decide +kernel
theorem d_law_318 : decode M_law.2.1 318 = .ok (.iload 4, 2) := by decide +kernel
theorem d_law_320 : decode M_law.2.1 320 = .ok (.iconst 3, 1) := by decide +kernel
theorem d_law_321 : decode M_law.2.1 321 = .ok (.iadd, 1) := by decide +kernel
theorem d_law_322 : decode M_law.2.1 322 = .ok (.iaload, 1) := by decide +kernel
theorem d_law_323 : decode M_law.2.1 323 = .ok (.aload_n 3, 1) := by decide +kernel
theorem d_law_324 : decode M_law.2.1 324 = .ok (.invokestatic 71, 3) := by decide +kernel
theorem d_law_327 : decode M_law.2.1 327 = .ok (.istore 5, 2) := by decide +kernel
theorem d_law_329 : decode M_law.2.1 329 = .ok (.aload_n 2, 1) := by decide +kernel
theorem d_law_330 : decode M_law.2.1 330 = .ok (.aload_n 0, 1) := by decide +kernel
theorem d_law_331 : decode M_law.2.1 331 = .ok (.iload 4, 2) := by decide +kernel
theorem d_law_333 : decode M_law.2.1 333 = .ok (.iconst 1, 1) := by decide +kernel
theorem d_law_334 : decode M_law.2.1 334 = .ok (.iadd, 1) := by decide +kernel
theorem d_law_335 : decode M_law.2.1 335 = .ok (.iaload, 1) := by decide +kernel
theorem d_law_336 : decode M_law.2.1 336 = .ok (.aload_n 0, 1) := by decide +kernel
theorem d_law_337 : decode M_law.2.1 337 = .ok (.iload 4, 2) := by decide +kernel
theorem d_law_339 : decode M_law.2.1 339 = .ok (.iconst 2, 1) := by decide +kernel
theorem d_law_340 : decode M_law.2.1 340 = .ok (.iadd, 1) := by decide +kernel
theorem d_law_341 : decode M_law.2.1 341 = .ok (.iaload, 1) := by decide +kernel
theorem d_law_342 : decode M_law.2.1 342 = .ok (.aload_n 0, 1) := by decide +kernel
theorem d_law_343 : decode M_law.2.1 343 = .ok (.iload 4, 2) := by decide +kernel
theorem d_law_345 : decode M_law.2.1 345 = .ok (.iconst 3, 1) := by decide +kernel
theorem d_law_346 : decode M_law.2.1 346 = .ok (.iadd, 1) := by decide +kernel
theorem d_law_347 : decode M_law.2.1 347 = .ok (.iaload, 1) := by decide +kernel
theorem d_law_348 : decode M_law.2.1 348 = .ok (.invokevirtual 73, 3) := by decide +kernel
theorem d_law_351 : decode M_law.2.1 351 = .ok (.istore 6, 2) := by decide +kernel
theorem d_law_353 : decode M_law.2.1 353 = .ok (.aload_n 2, 1) := by decide +kernel
theorem d_law_354 : decode M_law.2.1 354 = .ok (.invokevirtual 59, 3) := by decide +kernel
theorem d_law_357 : decode M_law.2.1 357 = .ok (.iload 5, 2) := by decide +kernel
theorem d_law_359 : decode M_law.2.1 359 = .ok (.if_icmp .eq 5, 3) := by decide +kernel
theorem d_law_362 : decode M_law.2.1 362 = .ok (.iconst 0, 1) := by decide +kernel
theorem d_law_363 : decode M_law.2.1 363 = .ok (.ireturn, 1) := by decide +kernel
theorem d_law_364 : decode M_law.2.1 364 = .ok (.iload 5, 2) := by decide +kernel
theorem d_law_366 : decode M_law.2.1 366 = .ok (.ifCond .ne 15, 3) := by decide +kernel
theorem d_law_369 : decode M_law.2.1 369 = .ok (.aload_n 3, 1) := by decide +kernel
theorem d_law_370 : decode M_law.2.1 370 = .ok (.iconst 0, 1) := by decide +kernel
theorem d_law_371 : decode M_law.2.1 371 = .ok (.laload, 1) := by decide +kernel
theorem d_law_372 : decode M_law.2.1 372 = .ok (.iload 6, 2) := by decide +kernel
theorem d_law_374 : decode M_law.2.1 374 = .ok (.i2l, 1) := by decide +kernel
theorem d_law_375 : decode M_law.2.1 375 = .ok (.lcmp, 1) := by decide +kernel
theorem d_law_376 : decode M_law.2.1 376 = .ok (.ifCond .eq 5, 3) := by decide +kernel
theorem d_law_379 : decode M_law.2.1 379 = .ok (.iconst 0, 1) := by decide +kernel
theorem d_law_380 : decode M_law.2.1 380 = .ok (.ireturn, 1) := by decide +kernel
theorem d_law_381 : decode M_law.2.1 381 = .ok (.goto 408, 3) := by decide +kernel
theorem d_law_384 : decode M_law.2.1 384 = .ok (.aload_n 1, 1) := by decide +kernel
theorem d_law_385 : decode M_law.2.1 385 = .ok (.aload_n 0, 1) := by decide +kernel
theorem d_law_386 : decode M_law.2.1 386 = .ok (.iload 4, 2) := by decide +kernel
theorem d_law_388 : decode M_law.2.1 388 = .ok (.iconst 1, 1) := by decide +kernel
theorem d_law_389 : decode M_law.2.1 389 = .ok (.iadd, 1) := by decide +kernel
theorem d_law_390 : decode M_law.2.1 390 = .ok (.iaload, 1) := by decide +kernel
theorem d_law_391 : decode M_law.2.1 391 = .ok (.aload_n 0, 1) := by decide +kernel
theorem d_law_392 : decode M_law.2.1 392 = .ok (.iload 4, 2) := by decide +kernel
theorem d_law_394 : decode M_law.2.1 394 = .ok (.iconst 2, 1) := by decide +kernel
theorem d_law_395 : decode M_law.2.1 395 = .ok (.iadd, 1) := by decide +kernel
theorem d_law_396 : decode M_law.2.1 396 = .ok (.iaload, 1) := by decide +kernel
theorem d_law_397 : decode M_law.2.1 397 = .ok (.aload_n 3, 1) := by decide +kernel
theorem d_law_398 : decode M_law.2.1 398 = .ok (.invokestatic 74, 3) := by decide +kernel
theorem d_law_401 : decode M_law.2.1 401 = .ok (.istore 5, 2) := by decide +kernel
theorem d_law_403 : decode M_law.2.1 403 = .ok (.aload_n 2, 1) := by decide +kernel
theorem d_law_404 : decode M_law.2.1 404 = .ok (.aload_n 0, 1) := by decide +kernel
theorem d_law_405 : decode M_law.2.1 405 = .ok (.iload 4, 2) := by decide +kernel
theorem d_law_407 : decode M_law.2.1 407 = .ok (.iconst 1, 1) := by decide +kernel
theorem d_law_408 : decode M_law.2.1 408 = .ok (.iadd, 1) := by decide +kernel
theorem d_law_409 : decode M_law.2.1 409 = .ok (.iaload, 1) := by decide +kernel
theorem d_law_410 : decode M_law.2.1 410 = .ok (.aload_n 0, 1) := by decide +kernel
theorem d_law_411 : decode M_law.2.1 411 = .ok (.iload 4, 2) := by decide +kernel
theorem d_law_413 : decode M_law.2.1 413 = .ok (.iconst 2, 1) := by decide +kernel
theorem d_law_414 : decode M_law.2.1 414 = .ok (.iadd, 1) := by decide +kernel
theorem d_law_415 : decode M_law.2.1 415 = .ok (.iaload, 1) := by decide +kernel
theorem d_law_416 : decode M_law.2.1 416 = .ok (.invokevirtual 76, 3) := by decide +kernel
theorem d_law_419 : decode M_law.2.1 419 = .ok (.istore 6, 2) := by decide +kernel
theorem d_law_421 : decode M_law.2.1 421 = .ok (.aload_n 2, 1) := by decide +kernel
theorem d_law_422 : decode M_law.2.1 422 = .ok (.invokevirtual 59, 3) := by decide +kernel
theorem d_law_425 : decode M_law.2.1 425 = .ok (.iload 5, 2) := by decide +kernel
theorem d_law_427 : decode M_law.2.1 427 = .ok (.if_icmp .eq 5, 3) := by decide +kernel
theorem d_law_430 : decode M_law.2.1 430 = .ok (.iconst 0, 1) := by decide +kernel
theorem d_law_431 : decode M_law.2.1 431 = .ok (.ireturn, 1) := by decide +kernel
theorem d_law_432 : decode M_law.2.1 432 = .ok (.iload 5, 2) := by decide +kernel
theorem d_law_434 : decode M_law.2.1 434 = .ok (.ifCond .ne 15, 3) := by decide +kernel
theorem d_law_437 : decode M_law.2.1 437 = .ok (.aload_n 3, 1) := by decide +kernel
theorem d_law_438 : decode M_law.2.1 438 = .ok (.iconst 0, 1) := by decide +kernel
theorem d_law_439 : decode M_law.2.1 439 = .ok (.laload, 1) := by decide +kernel
theorem d_law_440 : decode M_law.2.1 440 = .ok (.iload 6, 2) := by decide +kernel
theorem d_law_442 : decode M_law.2.1 442 = .ok (.i2l, 1) := by decide +kernel
theorem d_law_443 : decode M_law.2.1 443 = .ok (.lcmp, 1) := by decide +kernel
theorem d_law_444 : decode M_law.2.1 444 = .ok (.ifCond .eq 5, 3) := by decide +kernel
theorem d_law_447 : decode M_law.2.1 447 = .ok (.iconst 0, 1) := by decide +kernel
theorem d_law_448 : decode M_law.2.1 448 = .ok (.ireturn, 1) := by decide +kernel
theorem d_law_449 : decode M_law.2.1 449 = .ok (.goto 340, 3) := by decide +kernel
theorem d_law_452 : decode M_law.2.1 452 = .ok (.aload_n 1, 1) := by decide +kernel
theorem d_law_453 : decode M_law.2.1 453 = .ok (.aload_n 0, 1) := by decide +kernel
theorem d_law_454 : decode M_law.2.1 454 = .ok (.iload 4, 2) := by decide +kernel
theorem d_law_456 : decode M_law.2.1 456 = .ok (.iconst 1, 1) := by decide +kernel
theorem d_law_457 : decode M_law.2.1 457 = .ok (.iadd, 1) := by decide +kernel
theorem d_law_458 : decode M_law.2.1 458 = .ok (.iaload, 1) := by decide +kernel
theorem d_law_459 : decode M_law.2.1 459 = .ok (.aload_n 3, 1) := by decide +kernel
theorem d_law_460 : decode M_law.2.1 460 = .ok (.invokestatic 77, 3) := by decide +kernel
theorem d_law_463 : decode M_law.2.1 463 = .ok (.istore 5, 2) := by decide +kernel
theorem d_law_465 : decode M_law.2.1 465 = .ok (.aload_n 2, 1) := by decide +kernel
theorem d_law_466 : decode M_law.2.1 466 = .ok (.aload_n 0, 1) := by decide +kernel
theorem d_law_467 : decode M_law.2.1 467 = .ok (.iload 4, 2) := by decide +kernel
theorem d_law_469 : decode M_law.2.1 469 = .ok (.iconst 1, 1) := by decide +kernel
theorem d_law_470 : decode M_law.2.1 470 = .ok (.iadd, 1) := by decide +kernel
theorem d_law_471 : decode M_law.2.1 471 = .ok (.iaload, 1) := by decide +kernel
theorem d_law_472 : decode M_law.2.1 472 = .ok (.invokevirtual 79, 3) := by decide +kernel
theorem d_law_475 : decode M_law.2.1 475 = .ok (.istore 6, 2) := by decide +kernel
theorem d_law_477 : decode M_law.2.1 477 = .ok (.aload_n 2, 1) := by decide +kernel
theorem d_law_478 : decode M_law.2.1 478 = .ok (.invokevirtual 59, 3) := by decide +kernel
theorem d_law_481 : decode M_law.2.1 481 = .ok (.iload 5, 2) := by decide +kernel
theorem d_law_483 : decode M_law.2.1 483 = .ok (.if_icmp .eq 5, 3) := by decide +kernel
theorem d_law_486 : decode M_law.2.1 486 = .ok (.iconst 0, 1) := by decide +kernel
theorem d_law_487 : decode M_law.2.1 487 = .ok (.ireturn, 1) := by decide +kernel
theorem d_law_488 : decode M_law.2.1 488 = .ok (.iload 5, 2) := by decide +kernel
theorem d_law_490 : decode M_law.2.1 490 = .ok (.ifCond .ne 15, 3) := by decide +kernel
theorem d_law_493 : decode M_law.2.1 493 = .ok (.aload_n 3, 1) := by decide +kernel
theorem d_law_494 : decode M_law.2.1 494 = .ok (.iconst 0, 1) := by decide +kernel
theorem d_law_495 : decode M_law.2.1 495 = .ok (.laload, 1) := by decide +kernel
theorem d_law_496 : decode M_law.2.1 496 = .ok (.iload 6, 2) := by decide +kernel
theorem d_law_498 : decode M_law.2.1 498 = .ok (.i2l, 1) := by decide +kernel
theorem d_law_499 : decode M_law.2.1 499 = .ok (.lcmp, 1) := by decide +kernel
theorem d_law_500 : decode M_law.2.1 500 = .ok (.ifCond .eq 5, 3) := by decide +kernel
theorem d_law_503 : decode M_law.2.1 503 = .ok (.iconst 0, 1) := by decide +kernel
theorem d_law_504 : decode M_law.2.1 504 = .ok (.ireturn, 1) := by decide +kernel
theorem d_law_505 : decode M_law.2.1 505 = .ok (.goto 284, 3) := by decide +kernel
theorem d_law_508 : decode M_law.2.1 508 = .ok (.aload_n 1, 1) := by decide +kernel
theorem d_law_509 : decode M_law.2.1 509 = .ok (.aload_n 0, 1) := by decide +kernel
theorem d_law_510 : decode M_law.2.1 510 = .ok (.iload 4, 2) := by decide +kernel
theorem d_law_512 : decode M_law.2.1 512 = .ok (.iconst 1, 1) := by decide +kernel
theorem d_law_513 : decode M_law.2.1 513 = .ok (.iadd, 1) := by decide +kernel
theorem d_law_514 : decode M_law.2.1 514 = .ok (.iaload, 1) := by decide +kernel
theorem d_law_515 : decode M_law.2.1 515 = .ok (.aload_n 3, 1) := by decide +kernel
theorem d_law_516 : decode M_law.2.1 516 = .ok (.invokestatic 80, 3) := by decide +kernel
theorem d_law_519 : decode M_law.2.1 519 = .ok (.istore 5, 2) := by decide +kernel
theorem d_law_521 : decode M_law.2.1 521 = .ok (.aload_n 2, 1) := by decide +kernel
theorem d_law_522 : decode M_law.2.1 522 = .ok (.aload_n 0, 1) := by decide +kernel
theorem d_law_523 : decode M_law.2.1 523 = .ok (.iload 4, 2) := by decide +kernel
theorem d_law_525 : decode M_law.2.1 525 = .ok (.iconst 1, 1) := by decide +kernel
theorem d_law_526 : decode M_law.2.1 526 = .ok (.iadd, 1) := by decide +kernel
theorem d_law_527 : decode M_law.2.1 527 = .ok (.iaload, 1) := by decide +kernel
theorem d_law_528 : decode M_law.2.1 528 = .ok (.invokevirtual 82, 3) := by decide +kernel
theorem d_law_531 : decode M_law.2.1 531 = .ok (.istore 6, 2) := by decide +kernel
theorem d_law_533 : decode M_law.2.1 533 = .ok (.aload_n 2, 1) := by decide +kernel
theorem d_law_534 : decode M_law.2.1 534 = .ok (.invokevirtual 59, 3) := by decide +kernel
theorem d_law_537 : decode M_law.2.1 537 = .ok (.iload 5, 2) := by decide +kernel
theorem d_law_539 : decode M_law.2.1 539 = .ok (.if_icmp .eq 5, 3) := by decide +kernel
theorem d_law_542 : decode M_law.2.1 542 = .ok (.iconst 0, 1) := by decide +kernel
theorem d_law_543 : decode M_law.2.1 543 = .ok (.ireturn, 1) := by decide +kernel
theorem d_law_544 : decode M_law.2.1 544 = .ok (.iload 5, 2) := by decide +kernel
theorem d_law_546 : decode M_law.2.1 546 = .ok (.ifCond .ne 15, 3) := by decide +kernel
theorem d_law_549 : decode M_law.2.1 549 = .ok (.aload_n 3, 1) := by decide +kernel
theorem d_law_550 : decode M_law.2.1 550 = .ok (.iconst 0, 1) := by decide +kernel
theorem d_law_551 : decode M_law.2.1 551 = .ok (.laload, 1) := by decide +kernel
theorem d_law_552 : decode M_law.2.1 552 = .ok (.iload 6, 2) := by decide +kernel
theorem d_law_554 : decode M_law.2.1 554 = .ok (.i2l, 1) := by decide +kernel
theorem d_law_555 : decode M_law.2.1 555 = .ok (.lcmp, 1) := by decide +kernel
theorem d_law_556 : decode M_law.2.1 556 = .ok (.ifCond .eq 5, 3) := by decide +kernel
theorem d_law_559 : decode M_law.2.1 559 = .ok (.iconst 0, 1) := by decide +kernel
theorem d_law_560 : decode M_law.2.1 560 = .ok (.ireturn, 1) := by decide +kernel
theorem d_law_561 : decode M_law.2.1 561 = .ok (.goto 228, 3) := by decide +kernel
theorem d_law_564 : decode M_law.2.1 564 = .ok (.aload_n 1, 1) := by decide +kernel
theorem d_law_565 : decode M_law.2.1 565 = .ok (.aload_n 0, 1) := by decide +kernel
theorem d_law_566 : decode M_law.2.1 566 = .ok (.iload 4, 2) := by decide +kernel
theorem d_law_568 : decode M_law.2.1 568 = .ok (.iconst 1, 1) := by decide +kernel
theorem d_law_569 : decode M_law.2.1 569 = .ok (.iadd, 1) := by decide +kernel
theorem d_law_570 : decode M_law.2.1 570 = .ok (.iaload, 1) := by decide +kernel
theorem d_law_571 : decode M_law.2.1 571 = .ok (.aload_n 0, 1) := by decide +kernel
theorem d_law_572 : decode M_law.2.1 572 = .ok (.iload 4, 2) := by decide +kernel
theorem d_law_574 : decode M_law.2.1 574 = .ok (.iconst 2, 1) := by decide +kernel
theorem d_law_575 : decode M_law.2.1 575 = .ok (.iadd, 1) := by decide +kernel
theorem d_law_576 : decode M_law.2.1 576 = .ok (.iaload, 1) := by decide +kernel
theorem d_law_577 : decode M_law.2.1 577 = .ok (.aload_n 3, 1) := by decide +kernel
theorem d_law_578 : decode M_law.2.1 578 = .ok (.invokestatic 83, 3) := by decide +kernel
theorem d_law_581 : decode M_law.2.1 581 = .ok (.istore 5, 2) := by decide +kernel
theorem d_law_583 : decode M_law.2.1 583 = .ok (.aload_n 2, 1) := by decide +kernel
theorem d_law_584 : decode M_law.2.1 584 = .ok (.aload_n 0, 1) := by decide +kernel
theorem d_law_585 : decode M_law.2.1 585 = .ok (.iload 4, 2) := by decide +kernel
theorem d_law_587 : decode M_law.2.1 587 = .ok (.iconst 1, 1) := by decide +kernel
theorem d_law_588 : decode M_law.2.1 588 = .ok (.iadd, 1) := by decide +kernel
theorem d_law_589 : decode M_law.2.1 589 = .ok (.iaload, 1) := by decide +kernel
theorem d_law_590 : decode M_law.2.1 590 = .ok (.aload_n 0, 1) := by decide +kernel
theorem d_law_591 : decode M_law.2.1 591 = .ok (.iload 4, 2) := by decide +kernel
theorem d_law_593 : decode M_law.2.1 593 = .ok (.iconst 2, 1) := by decide +kernel
theorem d_law_594 : decode M_law.2.1 594 = .ok (.iadd, 1) := by decide +kernel
theorem d_law_595 : decode M_law.2.1 595 = .ok (.iaload, 1) := by decide +kernel
theorem d_law_596 : decode M_law.2.1 596 = .ok (.invokevirtual 85, 3) := by decide +kernel
theorem d_law_599 : decode M_law.2.1 599 = .ok (.istore 6, 2) := by decide +kernel
theorem d_law_601 : decode M_law.2.1 601 = .ok (.aload_n 2, 1) := by decide +kernel
theorem d_law_602 : decode M_law.2.1 602 = .ok (.invokevirtual 59, 3) := by decide +kernel
theorem d_law_605 : decode M_law.2.1 605 = .ok (.iload 5, 2) := by decide +kernel
theorem d_law_607 : decode M_law.2.1 607 = .ok (.if_icmp .eq 5, 3) := by decide +kernel
theorem d_law_610 : decode M_law.2.1 610 = .ok (.iconst 0, 1) := by decide +kernel
theorem d_law_611 : decode M_law.2.1 611 = .ok (.ireturn, 1) := by decide +kernel
theorem d_law_612 : decode M_law.2.1 612 = .ok (.iload 5, 2) := by decide +kernel
theorem d_law_614 : decode M_law.2.1 614 = .ok (.ifCond .ne 22, 3) := by decide +kernel
theorem d_law_617 : decode M_law.2.1 617 = .ok (.aload_n 3, 1) := by decide +kernel
theorem d_law_618 : decode M_law.2.1 618 = .ok (.iconst 0, 1) := by decide +kernel
theorem d_law_619 : decode M_law.2.1 619 = .ok (.laload, 1) := by decide +kernel
theorem d_law_620 : decode M_law.2.1 620 = .ok (.iload 6, 2) := by decide +kernel
theorem d_law_622 : decode M_law.2.1 622 = .ok (.ifCond .eq 7, 3) := by decide +kernel
theorem d_law_625 : decode M_law.2.1 625 = .ok (.lconst 1, 1) := by decide +kernel
theorem d_law_626 : decode M_law.2.1 626 = .ok (.goto 4, 3) := by decide +kernel
theorem d_law_629 : decode M_law.2.1 629 = .ok (.lconst 0, 1) := by decide +kernel
theorem d_law_630 : decode M_law.2.1 630 = .ok (.lcmp, 1) := by decide +kernel
theorem d_law_631 : decode M_law.2.1 631 = .ok (.ifCond .eq 5, 3) := by decide +kernel
theorem d_law_634 : decode M_law.2.1 634 = .ok (.iconst 0, 1) := by decide +kernel
theorem d_law_635 : decode M_law.2.1 635 = .ok (.ireturn, 1) := by decide +kernel
theorem d_law_636 : decode M_law.2.1 636 = .ok (.goto 153, 3) := by decide +kernel
theorem d_law_639 : decode M_law.2.1 639 = .ok (.aload_n 1, 1) := by decide +kernel
theorem d_law_640 : decode M_law.2.1 640 = .ok (.aload_n 0, 1) := by decide +kernel
theorem d_law_641 : decode M_law.2.1 641 = .ok (.iload 4, 2) := by decide +kernel
theorem d_law_643 : decode M_law.2.1 643 = .ok (.iconst 1, 1) := by decide +kernel
theorem d_law_644 : decode M_law.2.1 644 = .ok (.iadd, 1) := by decide +kernel
theorem d_law_645 : decode M_law.2.1 645 = .ok (.iaload, 1) := by decide +kernel
theorem d_law_646 : decode M_law.2.1 646 = .ok (.aload_n 3, 1) := by decide +kernel
theorem d_law_647 : decode M_law.2.1 647 = .ok (.invokestatic 86, 3) := by decide +kernel
theorem d_law_650 : decode M_law.2.1 650 = .ok (.istore 5, 2) := by decide +kernel
theorem d_law_652 : decode M_law.2.1 652 = .ok (.aload_n 2, 1) := by decide +kernel
theorem d_law_653 : decode M_law.2.1 653 = .ok (.aload_n 0, 1) := by decide +kernel
theorem d_law_654 : decode M_law.2.1 654 = .ok (.iload 4, 2) := by decide +kernel
theorem d_law_656 : decode M_law.2.1 656 = .ok (.iconst 1, 1) := by decide +kernel
theorem d_law_657 : decode M_law.2.1 657 = .ok (.iadd, 1) := by decide +kernel
theorem d_law_658 : decode M_law.2.1 658 = .ok (.iaload, 1) := by decide +kernel
theorem d_law_659 : decode M_law.2.1 659 = .ok (.invokevirtual 88, 3) := by decide +kernel
theorem d_law_662 : decode M_law.2.1 662 = .ok (.istore 6, 2) := by decide +kernel
theorem d_law_664 : decode M_law.2.1 664 = .ok (.aload_n 2, 1) := by decide +kernel
theorem d_law_665 : decode M_law.2.1 665 = .ok (.invokevirtual 59, 3) := by decide +kernel
theorem d_law_668 : decode M_law.2.1 668 = .ok (.iload 5, 2) := by decide +kernel
theorem d_law_670 : decode M_law.2.1 670 = .ok (.if_icmp .eq 5, 3) := by decide +kernel
theorem d_law_673 : decode M_law.2.1 673 = .ok (.iconst 0, 1) := by decide +kernel
theorem d_law_674 : decode M_law.2.1 674 = .ok (.ireturn, 1) := by decide +kernel
theorem d_law_675 : decode M_law.2.1 675 = .ok (.iload 5, 2) := by decide +kernel
theorem d_law_677 : decode M_law.2.1 677 = .ok (.ifCond .ne 15, 3) := by decide +kernel
theorem d_law_680 : decode M_law.2.1 680 = .ok (.aload_n 3, 1) := by decide +kernel
theorem d_law_681 : decode M_law.2.1 681 = .ok (.iconst 0, 1) := by decide +kernel
theorem d_law_682 : decode M_law.2.1 682 = .ok (.laload, 1) := by decide +kernel
theorem d_law_683 : decode M_law.2.1 683 = .ok (.iload 6, 2) := by decide +kernel
theorem d_law_685 : decode M_law.2.1 685 = .ok (.i2l, 1) := by decide +kernel
theorem d_law_686 : decode M_law.2.1 686 = .ok (.lcmp, 1) := by decide +kernel
theorem d_law_687 : decode M_law.2.1 687 = .ok (.ifCond .eq 5, 3) := by decide +kernel
theorem d_law_690 : decode M_law.2.1 690 = .ok (.iconst 0, 1) := by decide +kernel
theorem d_law_691 : decode M_law.2.1 691 = .ok (.ireturn, 1) := by decide +kernel
theorem d_law_692 : decode M_law.2.1 692 = .ok (.goto 97, 3) := by decide +kernel
theorem d_law_695 : decode M_law.2.1 695 = .ok (.aload_n 1, 1) := by decide +kernel
theorem d_law_696 : decode M_law.2.1 696 = .ok (.aload_n 0, 1) := by decide +kernel
theorem d_law_697 : decode M_law.2.1 697 = .ok (.iload 4, 2) := by decide +kernel
theorem d_law_699 : decode M_law.2.1 699 = .ok (.iconst 1, 1) := by decide +kernel
theorem d_law_700 : decode M_law.2.1 700 = .ok (.iadd, 1) := by decide +kernel
theorem d_law_701 : decode M_law.2.1 701 = .ok (.iaload, 1) := by decide +kernel
theorem d_law_702 : decode M_law.2.1 702 = .ok (.aload_n 3, 1) := by decide +kernel
theorem d_law_703 : decode M_law.2.1 703 = .ok (.invokestatic 89, 3) := by decide +kernel
theorem d_law_706 : decode M_law.2.1 706 = .ok (.istore 5, 2) := by decide +kernel
theorem d_law_708 : decode M_law.2.1 708 = .ok (.aload_n 2, 1) := by decide +kernel
theorem d_law_709 : decode M_law.2.1 709 = .ok (.aload_n 0, 1) := by decide +kernel
theorem d_law_710 : decode M_law.2.1 710 = .ok (.iload 4, 2) := by decide +kernel
theorem d_law_712 : decode M_law.2.1 712 = .ok (.iconst 1, 1) := by decide +kernel
theorem d_law_713 : decode M_law.2.1 713 = .ok (.iadd, 1) := by decide +kernel
theorem d_law_714 : decode M_law.2.1 714 = .ok (.iaload, 1) := by decide +kernel
theorem d_law_715 : decode M_law.2.1 715 = .ok (.invokevirtual 91, 3) := by decide +kernel
theorem d_law_718 : decode M_law.2.1 718 = .ok (.istore 6, 2) := by decide +kernel
theorem d_law_720 : decode M_law.2.1 720 = .ok (.aload_n 2, 1) := by decide +kernel
theorem d_law_721 : decode M_law.2.1 721 = .ok (.invokevirtual 59, 3) := by decide +kernel
theorem d_law_724 : decode M_law.2.1 724 = .ok (.iload 5, 2) := by decide +kernel
theorem d_law_726 : decode M_law.2.1 726 = .ok (.if_icmp .eq 5, 3) := by decide +kernel
theorem d_law_729 : decode M_law.2.1 729 = .ok (.iconst 0, 1) := by decide +kernel
theorem d_law_730 : decode M_law.2.1 730 = .ok (.ireturn, 1) := by decide +kernel
theorem d_law_731 : decode M_law.2.1 731 = .ok (.iload 5, 2) := by decide +kernel
theorem d_law_733 : decode M_law.2.1 733 = .ok (.ifCond .ne 15, 3) := by decide +kernel
theorem d_law_736 : decode M_law.2.1 736 = .ok (.aload_n 3, 1) := by decide +kernel
theorem d_law_737 : decode M_law.2.1 737 = .ok (.iconst 0, 1) := by decide +kernel
theorem d_law_738 : decode M_law.2.1 738 = .ok (.laload, 1) := by decide +kernel
theorem d_law_739 : decode M_law.2.1 739 = .ok (.iload 6, 2) := by decide +kernel
theorem d_law_741 : decode M_law.2.1 741 = .ok (.i2l, 1) := by decide +kernel
theorem d_law_742 : decode M_law.2.1 742 = .ok (.lcmp, 1) := by decide +kernel
theorem d_law_743 : decode M_law.2.1 743 = .ok (.ifCond .eq 5, 3) := by decide +kernel
theorem d_law_746 : decode M_law.2.1 746 = .ok (.iconst 0, 1) := by decide +kernel
theorem d_law_747 : decode M_law.2.1 747 = .ok (.ireturn, 1) := by decide +kernel
theorem d_law_748 : decode M_law.2.1 748 = .ok (.goto 41, 3) := by decide +kernel
theorem d_law_751 : decode M_law.2.1 751 = .ok (.aload_n 1, 1) := by decide +kernel
theorem d_law_752 : decode M_law.2.1 752 = .ok (.invokevirtual 92, 3) := by decide +kernel
theorem d_law_755 : decode M_law.2.1 755 = .ok (.aload_n 2, 1) := by decide +kernel
theorem d_law_756 : decode M_law.2.1 756 = .ok (.invokevirtual 95, 3) := by decide +kernel
theorem d_law_759 : decode M_law.2.1 759 = .ok (.if_icmp .eq 30, 3) := by decide +kernel
theorem d_law_762 : decode M_law.2.1 762 = .ok (.iconst 0, 1) := by decide +kernel
theorem d_law_763 : decode M_law.2.1 763 = .ok (.ireturn, 1) := by decide +kernel
theorem d_law_764 : decode M_law.2.1 764 = .ok (.aload_n 1, 1) := by decide +kernel
theorem d_law_765 : decode M_law.2.1 765 = .ok (.aload_n 0, 1) := by decide +kernel
theorem d_law_766 : decode M_law.2.1 766 = .ok (.iload 4, 2) := by decide +kernel
theorem d_law_768 : decode M_law.2.1 768 = .ok (.iconst 1, 1) := by decide +kernel
theorem d_law_769 : decode M_law.2.1 769 = .ok (.iadd, 1) := by decide +kernel
theorem d_law_770 : decode M_law.2.1 770 = .ok (.iaload, 1) := by decide +kernel
theorem d_law_771 : decode M_law.2.1 771 = .ok (.invokevirtual 96, 3) := by decide +kernel
theorem d_law_774 : decode M_law.2.1 774 = .ok (.aload_n 2, 1) := by decide +kernel
theorem d_law_775 : decode M_law.2.1 775 = .ok (.aload_n 0, 1) := by decide +kernel
theorem d_law_776 : decode M_law.2.1 776 = .ok (.iload 4, 2) := by decide +kernel
theorem d_law_778 : decode M_law.2.1 778 = .ok (.iconst 1, 1) := by decide +kernel
theorem d_law_779 : decode M_law.2.1 779 = .ok (.iadd, 1) := by decide +kernel
theorem d_law_780 : decode M_law.2.1 780 = .ok (.iaload, 1) := by decide +kernel
theorem d_law_781 : decode M_law.2.1 781 = .ok (.invokevirtual 99, 3) := by decide +kernel
theorem d_law_784 : decode M_law.2.1 784 = .ok (.if_icmp .eq 5, 3) := by decide +kernel
theorem d_law_787 : decode M_law.2.1 787 = .ok (.iconst 0, 1) := by decide +kernel
theorem d_law_788 : decode M_law.2.1 788 = .ok (.ireturn, 1) := by decide +kernel
theorem d_law_789 : decode M_law.2.1 789 = .ok (.iinc 4 4, 3) := by decide +kernel
theorem d_law_792 : decode M_law.2.1 792 = .ok (.goto (-769), 3) := by decide +kernel
theorem d_law_795 : decode M_law.2.1 795 = .ok (.iconst 1, 1) := by decide +kernel
theorem d_law_796 : decode M_law.2.1 796 = .ok (.ireturn, 1) := by decide +kernel
theorem l_L_49 : m_lI "HoleFillerLaw" 49 M_H_init := ⟨m_mem (i := 71) (by decide +kernel) rfl, rfl, rfl, rfl, Or.inl (m_mem (i := 70) (by decide +kernel) rfl)⟩
theorem l_L_52 : m_lI "HoleFillerLaw" 52 M_D_init := ⟨m_mem (i := 848) (by decide +kernel) rfl, rfl, rfl, rfl, Or.inl (m_mem (i := 847) (by decide +kernel) rfl)⟩
theorem l_L_53 : m_lS "HoleFillerLaw" 53 M_L_operation := ⟨m_mem (i := 360) (by decide +kernel) rfl, Or.inl (m_mem (i := 359) (by decide +kernel) rfl)⟩
theorem l_L_58 : m_lV "HoleFillerLaw" 58 M_D_operation := ⟨m_mem (i := 980) (by decide +kernel) rfl, m_mem (i := 981) (by decide +kernel) rfl, Or.inl (m_mem (i := 979) (by decide +kernel) rfl)⟩
theorem l_L_59 : m_lV "HoleFillerLaw" 59 M_D_thrown := ⟨m_mem (i := 976) (by decide +kernel) rfl, m_mem (i := 977) (by decide +kernel) rfl, Or.inl (m_mem (i := 975) (by decide +kernel) rfl)⟩
theorem l_L_63 : m_lS "HoleFillerLaw" 63 M_L_hole := ⟨m_mem (i := 454) (by decide +kernel) rfl, Or.inl (m_mem (i := 453) (by decide +kernel) rfl)⟩
theorem l_L_66 : m_lV "HoleFillerLaw" 66 M_D_hole := ⟨m_mem (i := 988) (by decide +kernel) rfl, m_mem (i := 989) (by decide +kernel) rfl, Or.inl (m_mem (i := 987) (by decide +kernel) rfl)⟩
theorem l_L_67 : m_lS "HoleFillerLaw" 67 M_L_begin := ⟨m_mem (i := 466) (by decide +kernel) rfl, Or.inl (m_mem (i := 465) (by decide +kernel) rfl)⟩
theorem l_L_70 : m_lV "HoleFillerLaw" 70 M_D_begin := ⟨m_mem (i := 992) (by decide +kernel) rfl, m_mem (i := 993) (by decide +kernel) rfl, Or.inl (m_mem (i := 991) (by decide +kernel) rfl)⟩
theorem l_L_71 : m_lS "HoleFillerLaw" 71 M_L_put := ⟨m_mem (i := 488) (by decide +kernel) rfl, Or.inl (m_mem (i := 487) (by decide +kernel) rfl)⟩
theorem l_L_73 : m_lV "HoleFillerLaw" 73 M_D_put := ⟨m_mem (i := 999) (by decide +kernel) rfl, m_mem (i := 1000) (by decide +kernel) rfl, Or.inl (m_mem (i := 998) (by decide +kernel) rfl)⟩
theorem l_L_74 : m_lS "HoleFillerLaw" 74 M_L_unify := ⟨m_mem (i := 589) (by decide +kernel) rfl, Or.inl (m_mem (i := 588) (by decide +kernel) rfl)⟩
theorem l_L_76 : m_lV "HoleFillerLaw" 76 M_D_unify := ⟨m_mem (i := 1015) (by decide +kernel) rfl, m_mem (i := 1016) (by decide +kernel) rfl, Or.inl (m_mem (i := 1014) (by decide +kernel) rfl)⟩
theorem l_L_77 : m_lS "HoleFillerLaw" 77 M_L_read := ⟨m_mem (i := 754) (by decide +kernel) rfl, Or.inl (m_mem (i := 753) (by decide +kernel) rfl)⟩
theorem l_L_79 : m_lV "HoleFillerLaw" 79 M_D_read := ⟨m_mem (i := 1100) (by decide +kernel) rfl, m_mem (i := 1101) (by decide +kernel) rfl, Or.inl (m_mem (i := 1099) (by decide +kernel) rfl)⟩
theorem l_L_80 : m_lS "HoleFillerLaw" 80 M_L_item := ⟨m_mem (i := 783) (by decide +kernel) rfl, Or.inl (m_mem (i := 782) (by decide +kernel) rfl)⟩
theorem l_L_82 : m_lV "HoleFillerLaw" 82 M_D_item := ⟨m_mem (i := 1108) (by decide +kernel) rfl, m_mem (i := 1109) (by decide +kernel) rfl, Or.inl (m_mem (i := 1107) (by decide +kernel) rfl)⟩
theorem l_L_83 : m_lS "HoleFillerLaw" 83 M_L_isSame := ⟨m_mem (i := 808) (by decide +kernel) rfl, Or.inl (m_mem (i := 807) (by decide +kernel) rfl)⟩
theorem l_L_85 : m_lV "HoleFillerLaw" 85 M_D_isSame := ⟨m_mem (i := 1112) (by decide +kernel) rfl, m_mem (i := 1113) (by decide +kernel) rfl, Or.inl (m_mem (i := 1111) (by decide +kernel) rfl)⟩
theorem l_L_86 : m_lS "HoleFillerLaw" 86 M_L_size := ⟨m_mem (i := 818) (by decide +kernel) rfl, Or.inl (m_mem (i := 817) (by decide +kernel) rfl)⟩
theorem l_L_88 : m_lV "HoleFillerLaw" 88 M_D_size := ⟨m_mem (i := 1116) (by decide +kernel) rfl, m_mem (i := 1117) (by decide +kernel) rfl, Or.inl (m_mem (i := 1115) (by decide +kernel) rfl)⟩
theorem l_L_89 : m_lS "HoleFillerLaw" 89 M_L_uses := ⟨m_mem (i := 831) (by decide +kernel) rfl, Or.inl (m_mem (i := 830) (by decide +kernel) rfl)⟩
theorem l_L_91 : m_lV "HoleFillerLaw" 91 M_D_uses := ⟨m_mem (i := 1120) (by decide +kernel) rfl, m_mem (i := 1121) (by decide +kernel) rfl, Or.inl (m_mem (i := 1119) (by decide +kernel) rfl)⟩
theorem l_L_92 : m_lV "HoleFillerLaw" 92 M_H_empty := ⟨m_mem (i := 338) (by decide +kernel) rfl, m_mem (i := 339) (by decide +kernel) rfl, Or.inl (m_mem (i := 337) (by decide +kernel) rfl)⟩
theorem l_L_95 : m_lV "HoleFillerLaw" 95 M_D_empty := ⟨m_mem (i := 1124) (by decide +kernel) rfl, m_mem (i := 1125) (by decide +kernel) rfl, Or.inl (m_mem (i := 1123) (by decide +kernel) rfl)⟩
theorem l_L_96 : m_lV "HoleFillerLaw" 96 M_H_count := ⟨m_mem (i := 356) (by decide +kernel) rfl, m_mem (i := 357) (by decide +kernel) rfl, Or.inl (m_mem (i := 355) (by decide +kernel) rfl)⟩
theorem l_L_99 : m_lV "HoleFillerLaw" 99 M_D_count := ⟨m_mem (i := 1128) (by decide +kernel) rfl, m_mem (i := 1129) (by decide +kernel) rfl, Or.inl (m_mem (i := 1127) (by decide +kernel) rfl)⟩
theorem cc_L_13 : Cond.classLink "HoleFillerLaw" 13 "java/lang/IllegalArgumentException" ∈ m_Ts := m_mem (i := 362) (by decide +kernel) rfl
theorem cc_L_26 : Cond.classLink "HoleFillerLaw" 26 "java/lang/IllegalStateException" ∈ m_Ts := m_mem (i := 490) (by decide +kernel) rfl
theorem cc_L_37 : Cond.classLink "HoleFillerLaw" 37 "java/lang/IndexOutOfBoundsException" ∈ m_Ts := m_mem (i := 785) (by decide +kernel) rfl
