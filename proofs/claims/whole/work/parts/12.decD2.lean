theorem d_D_step_224 : decode M_D_step.2.1 224 = .ok (.iload_n 2, 1) := by decide +kernel
theorem d_D_step_225 : decode M_D_step.2.1 225 = .ok (.ifCond .eq 20, 3) := by decide +kernel
theorem d_D_step_228 : decode M_D_step.2.1 228 = .ok (.aload_n 0, 1) := by decide +kernel
theorem d_D_step_229 : decode M_D_step.2.1 229 = .ok (.aload_n 0, 1) := by decide +kernel
theorem d_D_step_230 : decode M_D_step.2.1 230 = .ok (.getfield 57, 3) := by decide +kernel
theorem d_D_step_233 : decode M_D_step.2.1 233 = .ok (.aload_n 0, 1) := by decide +kernel
theorem d_D_step_234 : decode M_D_step.2.1 234 = .ok (.getfield 60, 3) := by decide +kernel
theorem d_D_step_237 : decode M_D_step.2.1 237 = .ok (.aload_n 0, 1) := by decide +kernel
theorem d_D_step_238 : decode M_D_step.2.1 238 = .ok (.getfield 157, 3) := by decide +kernel
theorem d_D_step_241 : decode M_D_step.2.1 241 = .ok (.invokevirtual 167, 3) := by decide +kernel
theorem d_D_step_244 : decode M_D_step.2.1 244 = .ok (.ireturn, 1) := by decide +kernel
theorem d_D_step_245 : decode M_D_step.2.1 245 = .ok (.iload_n 3, 1) := by decide +kernel
theorem d_D_step_246 : decode M_D_step.2.1 246 = .ok (.ifCond .eq 20, 3) := by decide +kernel
theorem d_D_step_249 : decode M_D_step.2.1 249 = .ok (.aload_n 0, 1) := by decide +kernel
theorem d_D_step_250 : decode M_D_step.2.1 250 = .ok (.aload_n 0, 1) := by decide +kernel
theorem d_D_step_251 : decode M_D_step.2.1 251 = .ok (.getfield 60, 3) := by decide +kernel
theorem d_D_step_254 : decode M_D_step.2.1 254 = .ok (.aload_n 0, 1) := by decide +kernel
theorem d_D_step_255 : decode M_D_step.2.1 255 = .ok (.getfield 57, 3) := by decide +kernel
theorem d_D_step_258 : decode M_D_step.2.1 258 = .ok (.aload_n 0, 1) := by decide +kernel
theorem d_D_step_259 : decode M_D_step.2.1 259 = .ok (.getfield 154, 3) := by decide +kernel
theorem d_D_step_262 : decode M_D_step.2.1 262 = .ok (.invokevirtual 167, 3) := by decide +kernel
theorem d_D_step_265 : decode M_D_step.2.1 265 = .ok (.ireturn, 1) := by decide +kernel
theorem d_D_step_266 : decode M_D_step.2.1 266 = .ok (.aload_n 0, 1) := by decide +kernel
theorem d_D_step_267 : decode M_D_step.2.1 267 = .ok (.getfield 57, 3) := by decide +kernel
theorem d_D_step_270 : decode M_D_step.2.1 270 = .ok (.iconst 0, 1) := by decide +kernel
theorem d_D_step_271 : decode M_D_step.2.1 271 = .ok (.iaload, 1) := by decide +kernel
theorem d_D_step_272 : decode M_D_step.2.1 272 = .ok (.aload_n 0, 1) := by decide +kernel
theorem d_D_step_273 : decode M_D_step.2.1 273 = .ok (.getfield 60, 3) := by decide +kernel
theorem d_D_step_276 : decode M_D_step.2.1 276 = .ok (.iconst 0, 1) := by decide +kernel
theorem d_D_step_277 : decode M_D_step.2.1 277 = .ok (.iaload, 1) := by decide +kernel
theorem d_D_step_278 : decode M_D_step.2.1 278 = .ok (.if_icmp .eq 5, 3) := by decide +kernel
theorem d_D_step_281 : decode M_D_step.2.1 281 = .ok (.iconst 1, 1) := by decide +kernel
theorem d_D_step_282 : decode M_D_step.2.1 282 = .ok (.ireturn, 1) := by decide +kernel
theorem d_D_step_283 : decode M_D_step.2.1 283 = .ok (.aload_n 0, 1) := by decide +kernel
theorem d_D_step_284 : decode M_D_step.2.1 284 = .ok (.getfield 57, 3) := by decide +kernel
theorem d_D_step_287 : decode M_D_step.2.1 287 = .ok (.iconst 0, 1) := by decide +kernel
theorem d_D_step_288 : decode M_D_step.2.1 288 = .ok (.iaload, 1) := by decide +kernel
theorem d_D_step_289 : decode M_D_step.2.1 289 = .ok (.invokestatic 129, 3) := by decide +kernel
theorem d_D_step_292 : decode M_D_step.2.1 292 = .ok (.iconst 1, 1) := by decide +kernel
theorem d_D_step_293 : decode M_D_step.2.1 293 = .ok (.if_icmp .ne 18, 3) := by decide +kernel
theorem d_D_step_296 : decode M_D_step.2.1 296 = .ok (.aload_n 0, 1) := by decide +kernel
theorem d_D_step_297 : decode M_D_step.2.1 297 = .ok (.aload_n 0, 1) := by decide +kernel
theorem d_D_step_298 : decode M_D_step.2.1 298 = .ok (.getfield 57, 3) := by decide +kernel
theorem d_D_step_301 : decode M_D_step.2.1 301 = .ok (.iconst 0, 1) := by decide +kernel
theorem d_D_step_302 : decode M_D_step.2.1 302 = .ok (.iaload, 1) := by decide +kernel
theorem d_D_step_303 : decode M_D_step.2.1 303 = .ok (.iconst 2, 1) := by decide +kernel
theorem d_D_step_304 : decode M_D_step.2.1 304 = .ok (.ishr, 1) := by decide +kernel
theorem d_D_step_305 : decode M_D_step.2.1 305 = .ok (.invokevirtual 171, 3) := by decide +kernel
theorem d_D_step_308 : decode M_D_step.2.1 308 = .ok (.goto 4, 3) := by decide +kernel
theorem d_D_step_311 : decode M_D_step.2.1 311 = .ok (.iconst 0, 1) := by decide +kernel
theorem d_D_step_312 : decode M_D_step.2.1 312 = .ok (.ireturn, 1) := by decide +kernel
theorem d_D_same_0 : decode M_D_same.2.1 0 = .ok (.aload_n 0, 1) := by decide +kernel
theorem d_D_same_1 : decode M_D_same.2.1 1 = .ok (.getfield 57, 3) := by decide +kernel
theorem d_D_same_4 : decode M_D_same.2.1 4 = .ok (.iconst 0, 1) := by decide +kernel
theorem d_D_same_5 : decode M_D_same.2.1 5 = .ok (.iaload, 1) := by decide +kernel
theorem d_D_same_6 : decode M_D_same.2.1 6 = .ok (.iconst 2, 1) := by decide +kernel
theorem d_D_same_7 : decode M_D_same.2.1 7 = .ok (.ishr, 1) := by decide +kernel
theorem d_D_same_8 : decode M_D_same.2.1 8 = .ok (.istore_n 1, 1) := by decide +kernel
theorem d_D_same_9 : decode M_D_same.2.1 9 = .ok (.iconst 0, 1) := by decide +kernel
theorem d_D_same_10 : decode M_D_same.2.1 10 = .ok (.istore_n 2, 1) := by decide +kernel
theorem d_D_same_11 : decode M_D_same.2.1 11 = .ok (.iconst 0, 1) := by decide +kernel
theorem d_D_same_12 : decode M_D_same.2.1 12 = .ok (.istore_n 3, 1) := by decide +kernel
theorem d_D_same_13 : decode M_D_same.2.1 13 = .ok (.iload_n 3, 1) := by decide +kernel
theorem d_D_same_14 : decode M_D_same.2.1 14 = .ok (.aload_n 0, 1) := by decide +kernel
theorem d_D_same_15 : decode M_D_same.2.1 15 = .ok (.getfield 16, 3) := by decide +kernel
theorem d_D_same_18 : decode M_D_same.2.1 18 = .ok (.iload_n 1, 1) := by decide +kernel
theorem d_D_same_19 : decode M_D_same.2.1 19 = .ok (.iaload, 1) := by decide +kernel
theorem d_D_same_20 : decode M_D_same.2.1 20 = .ok (.if_icmp .ge 41, 3) := by decide +kernel
theorem d_D_same_23 : decode M_D_same.2.1 23 = .ok (.aload_n 0, 1) := by decide +kernel
theorem d_D_same_24 : decode M_D_same.2.1 24 = .ok (.getfield 57, 3) := by decide +kernel
theorem d_D_same_27 : decode M_D_same.2.1 27 = .ok (.iconst 1, 1) := by decide +kernel
theorem d_D_same_28 : decode M_D_same.2.1 28 = .ok (.iload_n 3, 1) := by decide +kernel
theorem d_D_same_29 : decode M_D_same.2.1 29 = .ok (.iadd, 1) := by decide +kernel
theorem d_D_same_30 : decode M_D_same.2.1 30 = .ok (.iaload, 1) := by decide +kernel
theorem d_D_same_31 : decode M_D_same.2.1 31 = .ok (.aload_n 0, 1) := by decide +kernel
theorem d_D_same_32 : decode M_D_same.2.1 32 = .ok (.getfield 60, 3) := by decide +kernel
theorem d_D_same_35 : decode M_D_same.2.1 35 = .ok (.iconst 1, 1) := by decide +kernel
theorem d_D_same_36 : decode M_D_same.2.1 36 = .ok (.iload_n 3, 1) := by decide +kernel
theorem d_D_same_37 : decode M_D_same.2.1 37 = .ok (.iadd, 1) := by decide +kernel
theorem d_D_same_38 : decode M_D_same.2.1 38 = .ok (.iaload, 1) := by decide +kernel
theorem d_D_same_39 : decode M_D_same.2.1 39 = .ok (.if_icmp .eq 6, 3) := by decide +kernel
theorem d_D_same_42 : decode M_D_same.2.1 42 = .ok (.goto 13, 3) := by decide +kernel
theorem d_D_same_45 : decode M_D_same.2.1 45 = .ok (.aload_n 0, 1) := by decide +kernel
theorem d_D_same_46 : decode M_D_same.2.1 46 = .ok (.getfield 88, 3) := by decide +kernel
theorem d_D_same_49 : decode M_D_same.2.1 49 = .ok (.iload_n 2, 1) := by decide +kernel
theorem d_D_same_50 : decode M_D_same.2.1 50 = .ok (.iload_n 3, 1) := by decide +kernel
theorem d_D_same_51 : decode M_D_same.2.1 51 = .ok (.iastore, 1) := by decide +kernel
theorem d_D_same_52 : decode M_D_same.2.1 52 = .ok (.iinc 2 1, 3) := by decide +kernel
theorem d_D_same_55 : decode M_D_same.2.1 55 = .ok (.iinc 3 1, 3) := by decide +kernel
theorem d_D_same_58 : decode M_D_same.2.1 58 = .ok (.goto (-45), 3) := by decide +kernel
theorem d_D_same_61 : decode M_D_same.2.1 61 = .ok (.iload_n 2, 1) := by decide +kernel
theorem d_D_same_62 : decode M_D_same.2.1 62 = .ok (.aload_n 0, 1) := by decide +kernel
theorem d_D_same_63 : decode M_D_same.2.1 63 = .ok (.getfield 16, 3) := by decide +kernel
theorem d_D_same_66 : decode M_D_same.2.1 66 = .ok (.iload_n 1, 1) := by decide +kernel
theorem d_D_same_67 : decode M_D_same.2.1 67 = .ok (.iaload, 1) := by decide +kernel
theorem d_D_same_68 : decode M_D_same.2.1 68 = .ok (.if_icmp .ne 5, 3) := by decide +kernel
theorem d_D_same_71 : decode M_D_same.2.1 71 = .ok (.iconst 0, 1) := by decide +kernel
theorem d_D_same_72 : decode M_D_same.2.1 72 = .ok (.ireturn, 1) := by decide +kernel
theorem d_D_same_73 : decode M_D_same.2.1 73 = .ok (.aload_n 0, 1) := by decide +kernel
theorem d_D_same_74 : decode M_D_same.2.1 74 = .ok (.invokevirtual 181, 3) := by decide +kernel
theorem d_D_same_77 : decode M_D_same.2.1 77 = .ok (.ifCond .eq 5, 3) := by decide +kernel
theorem d_D_same_80 : decode M_D_same.2.1 80 = .ok (.iconst 5, 1) := by decide +kernel
theorem d_D_same_81 : decode M_D_same.2.1 81 = .ok (.ireturn, 1) := by decide +kernel
theorem d_D_same_82 : decode M_D_same.2.1 82 = .ok (.aload_n 0, 1) := by decide +kernel
theorem d_D_same_83 : decode M_D_same.2.1 83 = .ok (.iload_n 1, 1) := by decide +kernel
theorem d_D_same_84 : decode M_D_same.2.1 84 = .ok (.aload_n 0, 1) := by decide +kernel
theorem d_D_same_85 : decode M_D_same.2.1 85 = .ok (.iload_n 2, 1) := by decide +kernel
theorem d_D_same_86 : decode M_D_same.2.1 86 = .ok (.invokevirtual 185, 3) := by decide +kernel
theorem d_D_same_89 : decode M_D_same.2.1 89 = .ok (.aload_n 0, 1) := by decide +kernel
theorem d_D_same_90 : decode M_D_same.2.1 90 = .ok (.getfield 88, 3) := by decide +kernel
theorem d_D_same_93 : decode M_D_same.2.1 93 = .ok (.iload_n 2, 1) := by decide +kernel
theorem d_D_same_94 : decode M_D_same.2.1 94 = .ok (.invokevirtual 188, 3) := by decide +kernel
theorem d_D_same_97 : decode M_D_same.2.1 97 = .ok (.iconst 0, 1) := by decide +kernel
theorem d_D_same_98 : decode M_D_same.2.1 98 = .ok (.ireturn, 1) := by decide +kernel
theorem d_D_isFull_0 : decode M_D_isFull.2.1 0 = .ok (.aload_n 0, 1) := by decide +kernel
theorem d_D_isFull_1 : decode M_D_isFull.2.1 1 = .ok (.getfield 111, 3) := by decide +kernel
theorem d_D_isFull_4 : decode M_D_isFull.2.1 4 = .ok (.aload_n 0, 1) := by decide +kernel
theorem d_D_isFull_5 : decode M_D_isFull.2.1 5 = .ok (.getfield 144, 3) := by decide +kernel
theorem d_D_isFull_8 : decode M_D_isFull.2.1 8 = .ok (.iadd, 1) := by decide +kernel
theorem d_D_isFull_9 : decode M_D_isFull.2.1 9 = .ok (.sipush 300, 3) := by decide +kernel
theorem d_D_isFull_12 : decode M_D_isFull.2.1 12 = .ok (.if_icmp .ne 7, 3) := by decide +kernel
theorem d_D_isFull_15 : decode M_D_isFull.2.1 15 = .ok (.iconst 1, 1) := by decide +kernel
theorem d_D_isFull_16 : decode M_D_isFull.2.1 16 = .ok (.goto 4, 3) := by decide +kernel
theorem d_D_isFull_19 : decode M_D_isFull.2.1 19 = .ok (.iconst 0, 1) := by decide +kernel
theorem d_D_isFull_20 : decode M_D_isFull.2.1 20 = .ok (.ireturn, 1) := by decide +kernel
theorem d_D_make_0 : decode M_D_make.2.1 0 = .ok (.bipush 24, 2) := by decide +kernel
theorem d_D_make_2 : decode M_D_make.2.1 2 = .ok (.aload_n 0, 1) := by decide +kernel
theorem d_D_make_3 : decode M_D_make.2.1 3 = .ok (.getfield 144, 3) := by decide +kernel
theorem d_D_make_6 : decode M_D_make.2.1 6 = .ok (.iadd, 1) := by decide +kernel
theorem d_D_make_7 : decode M_D_make.2.1 7 = .ok (.istore_n 2, 1) := by decide +kernel
theorem d_D_make_8 : decode M_D_make.2.1 8 = .ok (.aload_n 0, 1) := by decide +kernel
theorem d_D_make_9 : decode M_D_make.2.1 9 = .ok (.dup, 1) := by decide +kernel
theorem d_D_make_10 : decode M_D_make.2.1 10 = .ok (.getfield 144, 3) := by decide +kernel
theorem d_D_make_13 : decode M_D_make.2.1 13 = .ok (.iconst 1, 1) := by decide +kernel
theorem d_D_make_14 : decode M_D_make.2.1 14 = .ok (.iadd, 1) := by decide +kernel
theorem d_D_make_15 : decode M_D_make.2.1 15 = .ok (.putfield 144, 3) := by decide +kernel
theorem d_D_make_18 : decode M_D_make.2.1 18 = .ok (.aload_n 0, 1) := by decide +kernel
theorem d_D_make_19 : decode M_D_make.2.1 19 = .ok (.getfield 16, 3) := by decide +kernel
theorem d_D_make_22 : decode M_D_make.2.1 22 = .ok (.iload_n 2, 1) := by decide +kernel
theorem d_D_make_23 : decode M_D_make.2.1 23 = .ok (.iload_n 1, 1) := by decide +kernel
theorem d_D_make_24 : decode M_D_make.2.1 24 = .ok (.iastore, 1) := by decide +kernel
theorem d_D_make_25 : decode M_D_make.2.1 25 = .ok (.aload_n 0, 1) := by decide +kernel
theorem d_D_make_26 : decode M_D_make.2.1 26 = .ok (.getfield 26, 3) := by decide +kernel
theorem d_D_make_29 : decode M_D_make.2.1 29 = .ok (.iload_n 2, 1) := by decide +kernel
theorem d_D_make_30 : decode M_D_make.2.1 30 = .ok (.iconst 0, 1) := by decide +kernel
theorem d_D_make_31 : decode M_D_make.2.1 31 = .ok (.bastore, 1) := by decide +kernel
theorem d_D_make_32 : decode M_D_make.2.1 32 = .ok (.iload_n 2, 1) := by decide +kernel
theorem d_D_make_33 : decode M_D_make.2.1 33 = .ok (.ireturn, 1) := by decide +kernel
theorem d_D_pass_0 : decode M_D_pass.2.1 0 = .ok (.aload_n 0, 1) := by decide +kernel
theorem d_D_pass_1 : decode M_D_pass.2.1 1 = .ok (.getfield 26, 3) := by decide +kernel
theorem d_D_pass_4 : decode M_D_pass.2.1 4 = .ok (.iload_n 1, 1) := by decide +kernel
theorem d_D_pass_5 : decode M_D_pass.2.1 5 = .ok (.iconst 1, 1) := by decide +kernel
theorem d_D_pass_6 : decode M_D_pass.2.1 6 = .ok (.bastore, 1) := by decide +kernel
theorem d_D_pass_7 : decode M_D_pass.2.1 7 = .ok (.aload_n 0, 1) := by decide +kernel
theorem d_D_pass_8 : decode M_D_pass.2.1 8 = .ok (.getfield 23, 3) := by decide +kernel
theorem d_D_pass_11 : decode M_D_pass.2.1 11 = .ok (.sipush 400, 3) := by decide +kernel
theorem d_D_pass_14 : decode M_D_pass.2.1 14 = .ok (.iload_n 1, 1) := by decide +kernel
theorem d_D_pass_15 : decode M_D_pass.2.1 15 = .ok (.imul, 1) := by decide +kernel
theorem d_D_pass_16 : decode M_D_pass.2.1 16 = .ok (.iconst 4, 1) := by decide +kernel
theorem d_D_pass_17 : decode M_D_pass.2.1 17 = .ok (.iload_n 2, 1) := by decide +kernel
theorem d_D_pass_18 : decode M_D_pass.2.1 18 = .ok (.imul, 1) := by decide +kernel
theorem d_D_pass_19 : decode M_D_pass.2.1 19 = .ok (.iconst 2, 1) := by decide +kernel
theorem d_D_pass_20 : decode M_D_pass.2.1 20 = .ok (.iadd, 1) := by decide +kernel
theorem d_D_pass_21 : decode M_D_pass.2.1 21 = .ok (.iastore, 1) := by decide +kernel
theorem d_D_pass_22 : decode M_D_pass.2.1 22 = .ok (.iconst 0, 1) := by decide +kernel
theorem d_D_pass_23 : decode M_D_pass.2.1 23 = .ok (.istore 5, 2) := by decide +kernel
theorem d_D_pass_25 : decode M_D_pass.2.1 25 = .ok (.iload 5, 2) := by decide +kernel
theorem d_D_pass_27 : decode M_D_pass.2.1 27 = .ok (.iload 4, 2) := by decide +kernel
theorem d_D_pass_29 : decode M_D_pass.2.1 29 = .ok (.if_icmp .ge 30, 3) := by decide +kernel
theorem d_D_pass_32 : decode M_D_pass.2.1 32 = .ok (.aload_n 0, 1) := by decide +kernel
theorem d_D_pass_33 : decode M_D_pass.2.1 33 = .ok (.getfield 23, 3) := by decide +kernel
theorem d_D_pass_36 : decode M_D_pass.2.1 36 = .ok (.sipush 400, 3) := by decide +kernel
theorem d_D_pass_39 : decode M_D_pass.2.1 39 = .ok (.iload_n 1, 1) := by decide +kernel
theorem d_D_pass_40 : decode M_D_pass.2.1 40 = .ok (.imul, 1) := by decide +kernel
theorem d_D_pass_41 : decode M_D_pass.2.1 41 = .ok (.iconst 1, 1) := by decide +kernel
theorem d_D_pass_42 : decode M_D_pass.2.1 42 = .ok (.iadd, 1) := by decide +kernel
theorem d_D_pass_43 : decode M_D_pass.2.1 43 = .ok (.iload 5, 2) := by decide +kernel
theorem d_D_pass_45 : decode M_D_pass.2.1 45 = .ok (.iadd, 1) := by decide +kernel
theorem d_D_pass_46 : decode M_D_pass.2.1 46 = .ok (.iconst 4, 1) := by decide +kernel
theorem d_D_pass_47 : decode M_D_pass.2.1 47 = .ok (.aload_n 3, 1) := by decide +kernel
theorem d_D_pass_48 : decode M_D_pass.2.1 48 = .ok (.iload 5, 2) := by decide +kernel
theorem d_D_pass_50 : decode M_D_pass.2.1 50 = .ok (.iaload, 1) := by decide +kernel
theorem d_D_pass_51 : decode M_D_pass.2.1 51 = .ok (.imul, 1) := by decide +kernel
theorem d_D_pass_52 : decode M_D_pass.2.1 52 = .ok (.iastore, 1) := by decide +kernel
theorem d_D_pass_53 : decode M_D_pass.2.1 53 = .ok (.iinc 5 1, 3) := by decide +kernel
theorem d_D_pass_56 : decode M_D_pass.2.1 56 = .ok (.goto (-31), 3) := by decide +kernel
theorem d_D_pass_59 : decode M_D_pass.2.1 59 = .ok (.aload_n 0, 1) := by decide +kernel
theorem d_D_pass_60 : decode M_D_pass.2.1 60 = .ok (.getfield 19, 3) := by decide +kernel
theorem d_D_pass_63 : decode M_D_pass.2.1 63 = .ok (.iload_n 1, 1) := by decide +kernel
theorem d_D_pass_64 : decode M_D_pass.2.1 64 = .ok (.iconst 1, 1) := by decide +kernel
theorem d_D_pass_65 : decode M_D_pass.2.1 65 = .ok (.iload 4, 2) := by decide +kernel
theorem d_D_pass_67 : decode M_D_pass.2.1 67 = .ok (.iadd, 1) := by decide +kernel
theorem d_D_pass_68 : decode M_D_pass.2.1 68 = .ok (.iastore, 1) := by decide +kernel
theorem d_D_pass_69 : decode M_D_pass.2.1 69 = .ok (.return_, 1) := by decide +kernel
theorem d_D_both_0 : decode M_D_both.2.1 0 = .ok (.aload_n 0, 1) := by decide +kernel
theorem d_D_both_1 : decode M_D_both.2.1 1 = .ok (.getfield 57, 3) := by decide +kernel
theorem d_D_both_4 : decode M_D_both.2.1 4 = .ok (.iconst 0, 1) := by decide +kernel
theorem d_D_both_5 : decode M_D_both.2.1 5 = .ok (.iaload, 1) := by decide +kernel
theorem d_D_both_6 : decode M_D_both.2.1 6 = .ok (.iconst 2, 1) := by decide +kernel
theorem d_D_both_7 : decode M_D_both.2.1 7 = .ok (.ishr, 1) := by decide +kernel
theorem d_D_both_8 : decode M_D_both.2.1 8 = .ok (.istore_n 1, 1) := by decide +kernel
theorem d_D_both_9 : decode M_D_both.2.1 9 = .ok (.aload_n 0, 1) := by decide +kernel
theorem d_D_both_10 : decode M_D_both.2.1 10 = .ok (.getfield 60, 3) := by decide +kernel
theorem d_D_both_13 : decode M_D_both.2.1 13 = .ok (.iconst 0, 1) := by decide +kernel
theorem d_D_both_14 : decode M_D_both.2.1 14 = .ok (.iaload, 1) := by decide +kernel
theorem d_D_both_15 : decode M_D_both.2.1 15 = .ok (.iconst 2, 1) := by decide +kernel
theorem d_D_both_16 : decode M_D_both.2.1 16 = .ok (.ishr, 1) := by decide +kernel
theorem d_D_both_17 : decode M_D_both.2.1 17 = .ok (.istore_n 2, 1) := by decide +kernel
theorem d_D_both_18 : decode M_D_both.2.1 18 = .ok (.iconst 0, 1) := by decide +kernel
theorem d_D_both_19 : decode M_D_both.2.1 19 = .ok (.istore_n 3, 1) := by decide +kernel
theorem d_D_both_20 : decode M_D_both.2.1 20 = .ok (.iconst 0, 1) := by decide +kernel
theorem d_D_both_21 : decode M_D_both.2.1 21 = .ok (.istore 4, 2) := by decide +kernel
theorem d_D_both_23 : decode M_D_both.2.1 23 = .ok (.iload 4, 2) := by decide +kernel
theorem d_D_both_25 : decode M_D_both.2.1 25 = .ok (.aload_n 0, 1) := by decide +kernel
theorem d_D_both_26 : decode M_D_both.2.1 26 = .ok (.getfield 16, 3) := by decide +kernel
theorem d_D_both_29 : decode M_D_both.2.1 29 = .ok (.iload_n 1, 1) := by decide +kernel
theorem d_D_both_30 : decode M_D_both.2.1 30 = .ok (.iaload, 1) := by decide +kernel
theorem d_D_both_31 : decode M_D_both.2.1 31 = .ok (.if_icmp .ge 81, 3) := by decide +kernel
theorem d_D_both_34 : decode M_D_both.2.1 34 = .ok (.aload_n 0, 1) := by decide +kernel
theorem d_D_both_35 : decode M_D_both.2.1 35 = .ok (.getfield 60, 3) := by decide +kernel
theorem d_D_both_38 : decode M_D_both.2.1 38 = .ok (.iconst 1, 1) := by decide +kernel
theorem d_D_both_39 : decode M_D_both.2.1 39 = .ok (.aload_n 0, 1) := by decide +kernel
theorem d_D_both_40 : decode M_D_both.2.1 40 = .ok (.getfield 16, 3) := by decide +kernel
theorem d_D_both_43 : decode M_D_both.2.1 43 = .ok (.iload_n 2, 1) := by decide +kernel
theorem d_D_both_44 : decode M_D_both.2.1 44 = .ok (.iaload, 1) := by decide +kernel
theorem d_D_both_45 : decode M_D_both.2.1 45 = .ok (.aload_n 0, 1) := by decide +kernel
theorem d_D_both_46 : decode M_D_both.2.1 46 = .ok (.getfield 57, 3) := by decide +kernel
theorem d_D_both_49 : decode M_D_both.2.1 49 = .ok (.iconst 1, 1) := by decide +kernel
theorem d_D_both_50 : decode M_D_both.2.1 50 = .ok (.iload 4, 2) := by decide +kernel
theorem d_D_both_52 : decode M_D_both.2.1 52 = .ok (.iadd, 1) := by decide +kernel
theorem d_D_both_53 : decode M_D_both.2.1 53 = .ok (.iaload, 1) := by decide +kernel
theorem d_D_both_54 : decode M_D_both.2.1 54 = .ok (.invokestatic 192, 3) := by decide +kernel
theorem d_D_both_57 : decode M_D_both.2.1 57 = .ok (.ifCond .ge 6, 3) := by decide +kernel
theorem d_D_both_60 : decode M_D_both.2.1 60 = .ok (.goto 46, 3) := by decide +kernel
theorem d_D_both_63 : decode M_D_both.2.1 63 = .ok (.aload_n 0, 1) := by decide +kernel
theorem d_D_both_64 : decode M_D_both.2.1 64 = .ok (.getfield 88, 3) := by decide +kernel
theorem d_D_both_67 : decode M_D_both.2.1 67 = .ok (.iload_n 3, 1) := by decide +kernel
theorem d_D_both_68 : decode M_D_both.2.1 68 = .ok (.iload 4, 2) := by decide +kernel
theorem d_D_both_70 : decode M_D_both.2.1 70 = .ok (.iastore, 1) := by decide +kernel
theorem d_D_both_71 : decode M_D_both.2.1 71 = .ok (.aload_n 0, 1) := by decide +kernel
theorem d_D_both_72 : decode M_D_both.2.1 72 = .ok (.getfield 88, 3) := by decide +kernel
theorem d_D_both_75 : decode M_D_both.2.1 75 = .ok (.bipush 8, 2) := by decide +kernel
theorem d_D_both_77 : decode M_D_both.2.1 77 = .ok (.iload_n 3, 1) := by decide +kernel
theorem d_D_both_78 : decode M_D_both.2.1 78 = .ok (.iadd, 1) := by decide +kernel
theorem d_D_both_79 : decode M_D_both.2.1 79 = .ok (.aload_n 0, 1) := by decide +kernel
theorem d_D_both_80 : decode M_D_both.2.1 80 = .ok (.getfield 60, 3) := by decide +kernel
theorem d_D_both_83 : decode M_D_both.2.1 83 = .ok (.iconst 1, 1) := by decide +kernel
theorem d_D_both_84 : decode M_D_both.2.1 84 = .ok (.aload_n 0, 1) := by decide +kernel
theorem d_D_both_85 : decode M_D_both.2.1 85 = .ok (.getfield 16, 3) := by decide +kernel
theorem d_D_both_88 : decode M_D_both.2.1 88 = .ok (.iload_n 2, 1) := by decide +kernel
theorem d_D_both_89 : decode M_D_both.2.1 89 = .ok (.iaload, 1) := by decide +kernel
theorem d_D_both_90 : decode M_D_both.2.1 90 = .ok (.aload_n 0, 1) := by decide +kernel
theorem d_D_both_91 : decode M_D_both.2.1 91 = .ok (.getfield 57, 3) := by decide +kernel
theorem d_D_both_94 : decode M_D_both.2.1 94 = .ok (.iconst 1, 1) := by decide +kernel
theorem d_D_both_95 : decode M_D_both.2.1 95 = .ok (.iload 4, 2) := by decide +kernel
theorem d_D_both_97 : decode M_D_both.2.1 97 = .ok (.iadd, 1) := by decide +kernel
theorem d_D_both_98 : decode M_D_both.2.1 98 = .ok (.iaload, 1) := by decide +kernel
theorem d_D_both_99 : decode M_D_both.2.1 99 = .ok (.invokestatic 192, 3) := by decide +kernel
theorem d_D_both_102 : decode M_D_both.2.1 102 = .ok (.iastore, 1) := by decide +kernel
theorem d_D_both_103 : decode M_D_both.2.1 103 = .ok (.iinc 3 1, 3) := by decide +kernel
theorem d_D_both_106 : decode M_D_both.2.1 106 = .ok (.iinc 4 1, 3) := by decide +kernel
theorem d_D_both_109 : decode M_D_both.2.1 109 = .ok (.goto (-86), 3) := by decide +kernel
theorem d_D_both_112 : decode M_D_both.2.1 112 = .ok (.aload_n 0, 1) := by decide +kernel
theorem d_D_both_113 : decode M_D_both.2.1 113 = .ok (.invokevirtual 181, 3) := by decide +kernel
theorem d_D_both_116 : decode M_D_both.2.1 116 = .ok (.ifCond .eq 5, 3) := by decide +kernel
theorem d_D_both_119 : decode M_D_both.2.1 119 = .ok (.iconst 5, 1) := by decide +kernel
theorem d_D_both_120 : decode M_D_both.2.1 120 = .ok (.ireturn, 1) := by decide +kernel
theorem d_D_both_121 : decode M_D_both.2.1 121 = .ok (.aload_n 0, 1) := by decide +kernel
theorem d_D_both_122 : decode M_D_both.2.1 122 = .ok (.iload_n 3, 1) := by decide +kernel
theorem d_D_both_123 : decode M_D_both.2.1 123 = .ok (.invokevirtual 185, 3) := by decide +kernel
theorem d_D_both_126 : decode M_D_both.2.1 126 = .ok (.istore 4, 2) := by decide +kernel
theorem d_D_both_128 : decode M_D_both.2.1 128 = .ok (.aload_n 0, 1) := by decide +kernel
theorem d_D_both_129 : decode M_D_both.2.1 129 = .ok (.iload_n 1, 1) := by decide +kernel
theorem d_D_both_130 : decode M_D_both.2.1 130 = .ok (.iload 4, 2) := by decide +kernel
theorem d_D_both_132 : decode M_D_both.2.1 132 = .ok (.aload_n 0, 1) := by decide +kernel
theorem d_D_both_133 : decode M_D_both.2.1 133 = .ok (.getfield 88, 3) := by decide +kernel
theorem d_D_both_136 : decode M_D_both.2.1 136 = .ok (.iload_n 3, 1) := by decide +kernel
theorem d_D_both_137 : decode M_D_both.2.1 137 = .ok (.invokevirtual 188, 3) := by decide +kernel
theorem d_D_both_140 : decode M_D_both.2.1 140 = .ok (.iconst 0, 1) := by decide +kernel
theorem d_D_both_141 : decode M_D_both.2.1 141 = .ok (.istore 5, 2) := by decide +kernel
theorem d_D_both_143 : decode M_D_both.2.1 143 = .ok (.iload 5, 2) := by decide +kernel
theorem d_D_both_145 : decode M_D_both.2.1 145 = .ok (.iload_n 3, 1) := by decide +kernel
theorem d_D_both_146 : decode M_D_both.2.1 146 = .ok (.if_icmp .ge 26, 3) := by decide +kernel
theorem d_D_both_149 : decode M_D_both.2.1 149 = .ok (.aload_n 0, 1) := by decide +kernel
theorem d_D_both_150 : decode M_D_both.2.1 150 = .ok (.getfield 88, 3) := by decide +kernel
theorem d_D_both_153 : decode M_D_both.2.1 153 = .ok (.iload 5, 2) := by decide +kernel
theorem d_D_both_155 : decode M_D_both.2.1 155 = .ok (.aload_n 0, 1) := by decide +kernel
theorem d_D_both_156 : decode M_D_both.2.1 156 = .ok (.getfield 88, 3) := by decide +kernel
theorem d_D_both_159 : decode M_D_both.2.1 159 = .ok (.bipush 8, 2) := by decide +kernel
theorem d_D_both_161 : decode M_D_both.2.1 161 = .ok (.iload 5, 2) := by decide +kernel
theorem d_D_both_163 : decode M_D_both.2.1 163 = .ok (.iadd, 1) := by decide +kernel
theorem d_D_both_164 : decode M_D_both.2.1 164 = .ok (.iaload, 1) := by decide +kernel
theorem d_D_both_165 : decode M_D_both.2.1 165 = .ok (.iastore, 1) := by decide +kernel
theorem d_D_both_166 : decode M_D_both.2.1 166 = .ok (.iinc 5 1, 3) := by decide +kernel
theorem d_D_both_169 : decode M_D_both.2.1 169 = .ok (.goto (-26), 3) := by decide +kernel
theorem d_D_both_172 : decode M_D_both.2.1 172 = .ok (.aload_n 0, 1) := by decide +kernel
theorem d_D_both_173 : decode M_D_both.2.1 173 = .ok (.iload_n 2, 1) := by decide +kernel
theorem d_D_both_174 : decode M_D_both.2.1 174 = .ok (.iload 4, 2) := by decide +kernel
theorem d_D_both_176 : decode M_D_both.2.1 176 = .ok (.aload_n 0, 1) := by decide +kernel
theorem d_D_both_177 : decode M_D_both.2.1 177 = .ok (.getfield 88, 3) := by decide +kernel
theorem d_D_both_180 : decode M_D_both.2.1 180 = .ok (.iload_n 3, 1) := by decide +kernel
theorem d_D_both_181 : decode M_D_both.2.1 181 = .ok (.invokevirtual 188, 3) := by decide +kernel
theorem d_D_both_184 : decode M_D_both.2.1 184 = .ok (.iconst 0, 1) := by decide +kernel
theorem d_D_both_185 : decode M_D_both.2.1 185 = .ok (.ireturn, 1) := by decide +kernel
theorem d_D_find_0 : decode M_D_find.2.1 0 = .ok (.iconst 0, 1) := by decide +kernel
theorem d_D_find_1 : decode M_D_find.2.1 1 = .ok (.istore 4, 2) := by decide +kernel
theorem d_D_find_3 : decode M_D_find.2.1 3 = .ok (.iload 4, 2) := by decide +kernel
theorem d_D_find_5 : decode M_D_find.2.1 5 = .ok (.iload_n 2, 1) := by decide +kernel
theorem d_D_find_6 : decode M_D_find.2.1 6 = .ok (.if_icmp .ge 22, 3) := by decide +kernel
theorem d_D_find_9 : decode M_D_find.2.1 9 = .ok (.aload_n 0, 1) := by decide +kernel
theorem d_D_find_10 : decode M_D_find.2.1 10 = .ok (.iload_n 1, 1) := by decide +kernel
theorem d_D_find_11 : decode M_D_find.2.1 11 = .ok (.iload 4, 2) := by decide +kernel
theorem d_D_find_13 : decode M_D_find.2.1 13 = .ok (.iadd, 1) := by decide +kernel
theorem d_D_find_14 : decode M_D_find.2.1 14 = .ok (.iaload, 1) := by decide +kernel
theorem d_D_find_15 : decode M_D_find.2.1 15 = .ok (.iload_n 3, 1) := by decide +kernel
theorem d_D_find_16 : decode M_D_find.2.1 16 = .ok (.if_icmp .ne 6, 3) := by decide +kernel
theorem d_D_find_19 : decode M_D_find.2.1 19 = .ok (.iload 4, 2) := by decide +kernel
theorem d_D_find_21 : decode M_D_find.2.1 21 = .ok (.ireturn, 1) := by decide +kernel
theorem d_D_find_22 : decode M_D_find.2.1 22 = .ok (.iinc 4 1, 3) := by decide +kernel
theorem d_D_find_25 : decode M_D_find.2.1 25 = .ok (.goto (-22), 3) := by decide +kernel
theorem d_D_find_28 : decode M_D_find.2.1 28 = .ok (.iconst (-1), 1) := by decide +kernel
theorem d_D_find_29 : decode M_D_find.2.1 29 = .ok (.ireturn, 1) := by decide +kernel
theorem d_D_fill_0 : decode M_D_fill.2.1 0 = .ok (.aload_n 1, 1) := by decide +kernel
theorem d_D_fill_1 : decode M_D_fill.2.1 1 = .ok (.iconst 0, 1) := by decide +kernel
theorem d_D_fill_2 : decode M_D_fill.2.1 2 = .ok (.iaload, 1) := by decide +kernel
theorem d_D_fill_3 : decode M_D_fill.2.1 3 = .ok (.iconst 2, 1) := by decide +kernel
theorem d_D_fill_4 : decode M_D_fill.2.1 4 = .ok (.ishr, 1) := by decide +kernel
theorem d_D_fill_5 : decode M_D_fill.2.1 5 = .ok (.istore 4, 2) := by decide +kernel
theorem d_D_fill_7 : decode M_D_fill.2.1 7 = .ok (.iload_n 3, 1) := by decide +kernel
theorem d_D_fill_8 : decode M_D_fill.2.1 8 = .ok (.istore 5, 2) := by decide +kernel
theorem d_D_fill_10 : decode M_D_fill.2.1 10 = .ok (.aload_n 0, 1) := by decide +kernel
theorem d_D_fill_11 : decode M_D_fill.2.1 11 = .ok (.aload_n 1, 1) := by decide +kernel
theorem d_D_fill_12 : decode M_D_fill.2.1 12 = .ok (.aload_n 2, 1) := by decide +kernel
theorem d_D_fill_13 : decode M_D_fill.2.1 13 = .ok (.iload 5, 2) := by decide +kernel
theorem d_D_fill_15 : decode M_D_fill.2.1 15 = .ok (.invokevirtual 196, 3) := by decide +kernel
theorem d_D_fill_18 : decode M_D_fill.2.1 18 = .ok (.istore 6, 2) := by decide +kernel
theorem d_D_fill_20 : decode M_D_fill.2.1 20 = .ok (.iload 6, 2) := by decide +kernel
theorem d_D_fill_22 : decode M_D_fill.2.1 22 = .ok (.ifCond .lt 165, 3) := by decide +kernel
theorem d_D_fill_25 : decode M_D_fill.2.1 25 = .ok (.aload_n 2, 1) := by decide +kernel
theorem d_D_fill_26 : decode M_D_fill.2.1 26 = .ok (.iload 6, 2) := by decide +kernel
theorem d_D_fill_28 : decode M_D_fill.2.1 28 = .ok (.iaload, 1) := by decide +kernel
theorem d_D_fill_29 : decode M_D_fill.2.1 29 = .ok (.iconst 2, 1) := by decide +kernel
theorem d_D_fill_30 : decode M_D_fill.2.1 30 = .ok (.ishr, 1) := by decide +kernel
theorem d_D_fill_31 : decode M_D_fill.2.1 31 = .ok (.istore 7, 2) := by decide +kernel
theorem d_D_fill_33 : decode M_D_fill.2.1 33 = .ok (.aload_n 2, 1) := by decide +kernel
theorem d_D_fill_34 : decode M_D_fill.2.1 34 = .ok (.iload 6, 2) := by decide +kernel
theorem d_D_fill_36 : decode M_D_fill.2.1 36 = .ok (.iaload, 1) := by decide +kernel
theorem d_D_fill_37 : decode M_D_fill.2.1 37 = .ok (.invokestatic 129, 3) := by decide +kernel
theorem d_D_fill_40 : decode M_D_fill.2.1 40 = .ok (.ifCond .ne 5, 3) := by decide +kernel
theorem d_D_fill_43 : decode M_D_fill.2.1 43 = .ok (.iconst 2, 1) := by decide +kernel
theorem d_D_fill_44 : decode M_D_fill.2.1 44 = .ok (.ireturn, 1) := by decide +kernel
theorem d_D_fill_45 : decode M_D_fill.2.1 45 = .ok (.iload 7, 2) := by decide +kernel
theorem d_D_fill_47 : decode M_D_fill.2.1 47 = .ok (.iload 4, 2) := by decide +kernel
theorem d_D_fill_49 : decode M_D_fill.2.1 49 = .ok (.if_icmp .ne 5, 3) := by decide +kernel
theorem d_D_fill_52 : decode M_D_fill.2.1 52 = .ok (.iconst 3, 1) := by decide +kernel
theorem d_D_fill_53 : decode M_D_fill.2.1 53 = .ok (.ireturn, 1) := by decide +kernel
theorem d_D_fill_54 : decode M_D_fill.2.1 54 = .ok (.aload_n 0, 1) := by decide +kernel
theorem d_D_fill_55 : decode M_D_fill.2.1 55 = .ok (.invokevirtual 181, 3) := by decide +kernel
theorem d_D_fill_58 : decode M_D_fill.2.1 58 = .ok (.ifCond .eq 5, 3) := by decide +kernel
theorem d_D_fill_61 : decode M_D_fill.2.1 61 = .ok (.iconst 5, 1) := by decide +kernel
theorem d_D_fill_62 : decode M_D_fill.2.1 62 = .ok (.ireturn, 1) := by decide +kernel
theorem d_D_fill_63 : decode M_D_fill.2.1 63 = .ok (.iconst 0, 1) := by decide +kernel
theorem d_D_fill_64 : decode M_D_fill.2.1 64 = .ok (.istore 8, 2) := by decide +kernel
theorem d_D_fill_66 : decode M_D_fill.2.1 66 = .ok (.iconst 0, 1) := by decide +kernel
theorem d_D_fill_67 : decode M_D_fill.2.1 67 = .ok (.istore 9, 2) := by decide +kernel
theorem d_D_fill_69 : decode M_D_fill.2.1 69 = .ok (.iload 9, 2) := by decide +kernel
theorem d_D_fill_71 : decode M_D_fill.2.1 71 = .ok (.aload_n 0, 1) := by decide +kernel
theorem d_D_fill_72 : decode M_D_fill.2.1 72 = .ok (.getfield 16, 3) := by decide +kernel
theorem d_D_fill_75 : decode M_D_fill.2.1 75 = .ok (.iload 7, 2) := by decide +kernel
theorem d_D_fill_77 : decode M_D_fill.2.1 77 = .ok (.iaload, 1) := by decide +kernel
theorem d_D_fill_78 : decode M_D_fill.2.1 78 = .ok (.if_icmp .ge 69, 3) := by decide +kernel
theorem d_D_fill_81 : decode M_D_fill.2.1 81 = .ok (.aload_n 2, 1) := by decide +kernel
theorem d_D_fill_82 : decode M_D_fill.2.1 82 = .ok (.iload 6, 2) := by decide +kernel
theorem d_D_fill_84 : decode M_D_fill.2.1 84 = .ok (.iconst 1, 1) := by decide +kernel
theorem d_D_fill_85 : decode M_D_fill.2.1 85 = .ok (.iadd, 1) := by decide +kernel
theorem d_D_fill_86 : decode M_D_fill.2.1 86 = .ok (.iload 9, 2) := by decide +kernel
theorem d_D_fill_88 : decode M_D_fill.2.1 88 = .ok (.iadd, 1) := by decide +kernel
theorem d_D_fill_89 : decode M_D_fill.2.1 89 = .ok (.iaload, 1) := by decide +kernel
theorem d_D_fill_90 : decode M_D_fill.2.1 90 = .ok (.iconst 2, 1) := by decide +kernel
theorem d_D_fill_91 : decode M_D_fill.2.1 91 = .ok (.ishr, 1) := by decide +kernel
theorem d_D_fill_92 : decode M_D_fill.2.1 92 = .ok (.aload_n 0, 1) := by decide +kernel
theorem d_D_fill_93 : decode M_D_fill.2.1 93 = .ok (.getfield 66, 3) := by decide +kernel
theorem d_D_fill_96 : decode M_D_fill.2.1 96 = .ok (.iload 6, 2) := by decide +kernel
theorem d_D_fill_98 : decode M_D_fill.2.1 98 = .ok (.iaload, 1) := by decide +kernel
theorem d_D_fill_99 : decode M_D_fill.2.1 99 = .ok (.isub, 1) := by decide +kernel
theorem d_D_fill_100 : decode M_D_fill.2.1 100 = .ok (.istore 10, 2) := by decide +kernel
theorem d_D_fill_102 : decode M_D_fill.2.1 102 = .ok (.iload 10, 2) := by decide +kernel
theorem d_D_fill_104 : decode M_D_fill.2.1 104 = .ok (.ifCond .lt 25, 3) := by decide +kernel
theorem d_D_fill_107 : decode M_D_fill.2.1 107 = .ok (.aload_n 1, 1) := by decide +kernel
theorem d_D_fill_108 : decode M_D_fill.2.1 108 = .ok (.iconst 1, 1) := by decide +kernel
theorem d_D_fill_109 : decode M_D_fill.2.1 109 = .ok (.aload_n 0, 1) := by decide +kernel
theorem d_D_fill_110 : decode M_D_fill.2.1 110 = .ok (.getfield 16, 3) := by decide +kernel
theorem d_D_fill_113 : decode M_D_fill.2.1 113 = .ok (.iload 4, 2) := by decide +kernel
theorem d_D_fill_115 : decode M_D_fill.2.1 115 = .ok (.iaload, 1) := by decide +kernel
theorem d_D_fill_116 : decode M_D_fill.2.1 116 = .ok (.iconst 4, 1) := by decide +kernel
theorem d_D_fill_117 : decode M_D_fill.2.1 117 = .ok (.iload 10, 2) := by decide +kernel
theorem d_D_fill_119 : decode M_D_fill.2.1 119 = .ok (.imul, 1) := by decide +kernel
theorem d_D_fill_120 : decode M_D_fill.2.1 120 = .ok (.invokestatic 192, 3) := by decide +kernel
theorem d_D_fill_123 : decode M_D_fill.2.1 123 = .ok (.ifCond .ge 6, 3) := by decide +kernel
theorem d_D_fill_126 : decode M_D_fill.2.1 126 = .ok (.goto 15, 3) := by decide +kernel
theorem d_D_fill_129 : decode M_D_fill.2.1 129 = .ok (.aload_n 0, 1) := by decide +kernel
theorem d_D_fill_130 : decode M_D_fill.2.1 130 = .ok (.getfield 88, 3) := by decide +kernel
theorem d_D_fill_133 : decode M_D_fill.2.1 133 = .ok (.iload 8, 2) := by decide +kernel
theorem d_D_fill_135 : decode M_D_fill.2.1 135 = .ok (.iload 9, 2) := by decide +kernel
theorem d_D_fill_137 : decode M_D_fill.2.1 137 = .ok (.iastore, 1) := by decide +kernel
theorem d_D_fill_138 : decode M_D_fill.2.1 138 = .ok (.iinc 8 1, 3) := by decide +kernel
theorem d_D_fill_141 : decode M_D_fill.2.1 141 = .ok (.iinc 9 1, 3) := by decide +kernel
theorem d_D_fill_144 : decode M_D_fill.2.1 144 = .ok (.goto (-75), 3) := by decide +kernel
theorem d_D_fill_147 : decode M_D_fill.2.1 147 = .ok (.aload_n 0, 1) := by decide +kernel
theorem d_D_fill_148 : decode M_D_fill.2.1 148 = .ok (.iload 7, 2) := by decide +kernel
theorem d_D_fill_150 : decode M_D_fill.2.1 150 = .ok (.aload_n 0, 1) := by decide +kernel
theorem d_D_fill_151 : decode M_D_fill.2.1 151 = .ok (.iload 8, 2) := by decide +kernel
theorem d_D_fill_153 : decode M_D_fill.2.1 153 = .ok (.invokevirtual 185, 3) := by decide +kernel
theorem d_D_fill_156 : decode M_D_fill.2.1 156 = .ok (.aload_n 0, 1) := by decide +kernel
theorem d_D_fill_157 : decode M_D_fill.2.1 157 = .ok (.getfield 88, 3) := by decide +kernel
theorem d_D_fill_160 : decode M_D_fill.2.1 160 = .ok (.iload 8, 2) := by decide +kernel
theorem d_D_fill_162 : decode M_D_fill.2.1 162 = .ok (.invokevirtual 188, 3) := by decide +kernel
theorem d_D_fill_165 : decode M_D_fill.2.1 165 = .ok (.aload_n 0, 1) := by decide +kernel
theorem d_D_fill_166 : decode M_D_fill.2.1 166 = .ok (.aload_n 2, 1) := by decide +kernel
theorem d_D_fill_167 : decode M_D_fill.2.1 167 = .ok (.iload 5, 2) := by decide +kernel
theorem d_D_fill_169 : decode M_D_fill.2.1 169 = .ok (.invokevirtual 141, 3) := by decide +kernel
theorem d_D_fill_172 : decode M_D_fill.2.1 172 = .ok (.istore 5, 2) := by decide +kernel
theorem d_D_fill_174 : decode M_D_fill.2.1 174 = .ok (.aload_n 0, 1) := by decide +kernel
theorem d_D_fill_175 : decode M_D_fill.2.1 175 = .ok (.aload_n 1, 1) := by decide +kernel
theorem d_D_fill_176 : decode M_D_fill.2.1 176 = .ok (.aload_n 2, 1) := by decide +kernel
theorem d_D_fill_177 : decode M_D_fill.2.1 177 = .ok (.iload 5, 2) := by decide +kernel
theorem d_D_fill_179 : decode M_D_fill.2.1 179 = .ok (.invokevirtual 196, 3) := by decide +kernel
theorem d_D_fill_182 : decode M_D_fill.2.1 182 = .ok (.istore 6, 2) := by decide +kernel
theorem d_D_fill_184 : decode M_D_fill.2.1 184 = .ok (.goto (-164), 3) := by decide +kernel
theorem d_D_fill_187 : decode M_D_fill.2.1 187 = .ok (.aload_n 2, 1) := by decide +kernel
theorem d_D_fill_188 : decode M_D_fill.2.1 188 = .ok (.iload 5, 2) := by decide +kernel
theorem d_D_fill_190 : decode M_D_fill.2.1 190 = .ok (.aload_n 0, 1) := by decide +kernel
theorem d_D_fill_191 : decode M_D_fill.2.1 191 = .ok (.getfield 16, 3) := by decide +kernel
theorem d_D_fill_194 : decode M_D_fill.2.1 194 = .ok (.invokestatic 147, 3) := by decide +kernel
theorem d_D_fill_197 : decode M_D_fill.2.1 197 = .ok (.bipush 80, 2) := by decide +kernel
theorem d_D_fill_199 : decode M_D_fill.2.1 199 = .ok (.if_icmp .le 5, 3) := by decide +kernel
theorem d_D_fill_202 : decode M_D_fill.2.1 202 = .ok (.iconst 4, 1) := by decide +kernel
theorem d_D_fill_203 : decode M_D_fill.2.1 203 = .ok (.ireturn, 1) := by decide +kernel
theorem d_D_fill_204 : decode M_D_fill.2.1 204 = .ok (.iconst 0, 1) := by decide +kernel
theorem d_D_fill_205 : decode M_D_fill.2.1 205 = .ok (.istore 7, 2) := by decide +kernel
theorem d_D_fill_207 : decode M_D_fill.2.1 207 = .ok (.iload 7, 2) := by decide +kernel
theorem d_D_fill_209 : decode M_D_fill.2.1 209 = .ok (.iload 5, 2) := by decide +kernel
theorem d_D_fill_211 : decode M_D_fill.2.1 211 = .ok (.if_icmp .ge 87, 3) := by decide +kernel
theorem d_D_fill_214 : decode M_D_fill.2.1 214 = .ok (.aload_n 2, 1) := by decide +kernel
theorem d_D_fill_215 : decode M_D_fill.2.1 215 = .ok (.iload 7, 2) := by decide +kernel
theorem d_D_fill_217 : decode M_D_fill.2.1 217 = .ok (.iaload, 1) := by decide +kernel
theorem d_D_fill_218 : decode M_D_fill.2.1 218 = .ok (.iconst 2, 1) := by decide +kernel
theorem d_D_fill_219 : decode M_D_fill.2.1 219 = .ok (.ishr, 1) := by decide +kernel
theorem d_D_fill_220 : decode M_D_fill.2.1 220 = .ok (.aload_n 0, 1) := by decide +kernel
theorem d_D_fill_221 : decode M_D_fill.2.1 221 = .ok (.getfield 66, 3) := by decide +kernel
theorem d_D_fill_224 : decode M_D_fill.2.1 224 = .ok (.iload 7, 2) := by decide +kernel
theorem d_D_fill_226 : decode M_D_fill.2.1 226 = .ok (.iaload, 1) := by decide +kernel
theorem d_D_fill_227 : decode M_D_fill.2.1 227 = .ok (.isub, 1) := by decide +kernel
theorem d_D_fill_228 : decode M_D_fill.2.1 228 = .ok (.istore 8, 2) := by decide +kernel
theorem d_D_fill_230 : decode M_D_fill.2.1 230 = .ok (.aload_n 0, 1) := by decide +kernel
theorem d_D_fill_231 : decode M_D_fill.2.1 231 = .ok (.getfield 23, 3) := by decide +kernel
theorem d_D_fill_234 : decode M_D_fill.2.1 234 = .ok (.sipush 400, 3) := by decide +kernel
theorem d_D_fill_237 : decode M_D_fill.2.1 237 = .ok (.iload 4, 2) := by decide +kernel
theorem d_D_fill_239 : decode M_D_fill.2.1 239 = .ok (.imul, 1) := by decide +kernel
theorem d_D_fill_240 : decode M_D_fill.2.1 240 = .ok (.iload 7, 2) := by decide +kernel
theorem d_D_fill_242 : decode M_D_fill.2.1 242 = .ok (.iadd, 1) := by decide +kernel
theorem d_D_fill_243 : decode M_D_fill.2.1 243 = .ok (.aload_n 2, 1) := by decide +kernel
theorem d_D_fill_244 : decode M_D_fill.2.1 244 = .ok (.iload 7, 2) := by decide +kernel
theorem d_D_fill_246 : decode M_D_fill.2.1 246 = .ok (.iaload, 1) := by decide +kernel
theorem d_D_fill_247 : decode M_D_fill.2.1 247 = .ok (.invokestatic 129, 3) := by decide +kernel
theorem d_D_fill_250 : decode M_D_fill.2.1 250 = .ok (.ifCond .ne 8, 3) := by decide +kernel
theorem d_D_fill_253 : decode M_D_fill.2.1 253 = .ok (.iload 8, 2) := by decide +kernel
theorem d_D_fill_255 : decode M_D_fill.2.1 255 = .ok (.ifCond .ge 10, 3) := by decide +kernel
theorem d_D_fill_258 : decode M_D_fill.2.1 258 = .ok (.aload_n 2, 1) := by decide +kernel
theorem d_D_fill_259 : decode M_D_fill.2.1 259 = .ok (.iload 7, 2) := by decide +kernel
theorem d_D_fill_261 : decode M_D_fill.2.1 261 = .ok (.iaload, 1) := by decide +kernel
theorem d_D_fill_262 : decode M_D_fill.2.1 262 = .ok (.goto 29, 3) := by decide +kernel
theorem d_D_fill_265 : decode M_D_fill.2.1 265 = .ok (.iconst 4, 1) := by decide +kernel
theorem d_D_fill_266 : decode M_D_fill.2.1 266 = .ok (.aload_n 1, 1) := by decide +kernel
theorem d_D_fill_267 : decode M_D_fill.2.1 267 = .ok (.iconst 1, 1) := by decide +kernel
theorem d_D_fill_268 : decode M_D_fill.2.1 268 = .ok (.aload_n 0, 1) := by decide +kernel
theorem d_D_fill_269 : decode M_D_fill.2.1 269 = .ok (.getfield 16, 3) := by decide +kernel
theorem d_D_fill_272 : decode M_D_fill.2.1 272 = .ok (.iload 4, 2) := by decide +kernel
theorem d_D_fill_274 : decode M_D_fill.2.1 274 = .ok (.iaload, 1) := by decide +kernel
theorem d_D_fill_275 : decode M_D_fill.2.1 275 = .ok (.iconst 4, 1) := by decide +kernel
theorem d_D_fill_276 : decode M_D_fill.2.1 276 = .ok (.iload 8, 2) := by decide +kernel
theorem d_D_fill_278 : decode M_D_fill.2.1 278 = .ok (.imul, 1) := by decide +kernel
theorem d_D_fill_279 : decode M_D_fill.2.1 279 = .ok (.invokestatic 192, 3) := by decide +kernel
theorem d_D_fill_282 : decode M_D_fill.2.1 282 = .ok (.aload_n 0, 1) := by decide +kernel
theorem d_D_fill_283 : decode M_D_fill.2.1 283 = .ok (.getfield 66, 3) := by decide +kernel
theorem d_D_fill_286 : decode M_D_fill.2.1 286 = .ok (.iload 7, 2) := by decide +kernel
theorem d_D_fill_288 : decode M_D_fill.2.1 288 = .ok (.iaload, 1) := by decide +kernel
theorem d_D_fill_289 : decode M_D_fill.2.1 289 = .ok (.iadd, 1) := by decide +kernel
theorem d_D_fill_290 : decode M_D_fill.2.1 290 = .ok (.imul, 1) := by decide +kernel
theorem d_D_fill_291 : decode M_D_fill.2.1 291 = .ok (.iastore, 1) := by decide +kernel
theorem d_D_fill_292 : decode M_D_fill.2.1 292 = .ok (.iinc 7 1, 3) := by decide +kernel
theorem d_D_fill_295 : decode M_D_fill.2.1 295 = .ok (.goto (-88), 3) := by decide +kernel
theorem d_D_fill_298 : decode M_D_fill.2.1 298 = .ok (.aload_n 0, 1) := by decide +kernel
theorem d_D_fill_299 : decode M_D_fill.2.1 299 = .ok (.getfield 19, 3) := by decide +kernel
theorem d_D_fill_302 : decode M_D_fill.2.1 302 = .ok (.iload 4, 2) := by decide +kernel
theorem d_D_fill_304 : decode M_D_fill.2.1 304 = .ok (.iload 5, 2) := by decide +kernel
theorem d_D_fill_306 : decode M_D_fill.2.1 306 = .ok (.iastore, 1) := by decide +kernel
theorem d_D_fill_307 : decode M_D_fill.2.1 307 = .ok (.aload_n 0, 1) := by decide +kernel
theorem d_D_fill_308 : decode M_D_fill.2.1 308 = .ok (.getfield 26, 3) := by decide +kernel
theorem d_D_fill_311 : decode M_D_fill.2.1 311 = .ok (.iload 4, 2) := by decide +kernel
theorem d_D_fill_313 : decode M_D_fill.2.1 313 = .ok (.iconst 1, 1) := by decide +kernel
theorem d_D_fill_314 : decode M_D_fill.2.1 314 = .ok (.bastore, 1) := by decide +kernel
theorem d_D_fill_315 : decode M_D_fill.2.1 315 = .ok (.iconst 0, 1) := by decide +kernel
theorem d_D_fill_316 : decode M_D_fill.2.1 316 = .ok (.istore 7, 2) := by decide +kernel
theorem d_D_fill_318 : decode M_D_fill.2.1 318 = .ok (.iload 7, 2) := by decide +kernel
theorem d_D_fill_320 : decode M_D_fill.2.1 320 = .ok (.bipush 24, 2) := by decide +kernel
theorem d_D_fill_322 : decode M_D_fill.2.1 322 = .ok (.aload_n 0, 1) := by decide +kernel
theorem d_D_fill_323 : decode M_D_fill.2.1 323 = .ok (.getfield 144, 3) := by decide +kernel
theorem d_D_fill_326 : decode M_D_fill.2.1 326 = .ok (.iadd, 1) := by decide +kernel
theorem d_D_fill_327 : decode M_D_fill.2.1 327 = .ok (.if_icmp .ge 38, 3) := by decide +kernel
theorem d_D_fill_330 : decode M_D_fill.2.1 330 = .ok (.iload 7, 2) := by decide +kernel
theorem d_D_fill_332 : decode M_D_fill.2.1 332 = .ok (.aload_n 0, 1) := by decide +kernel
theorem d_D_fill_333 : decode M_D_fill.2.1 333 = .ok (.getfield 111, 3) := by decide +kernel
theorem d_D_fill_336 : decode M_D_fill.2.1 336 = .ok (.if_icmp .lt 10, 3) := by decide +kernel
theorem d_D_fill_339 : decode M_D_fill.2.1 339 = .ok (.iload 7, 2) := by decide +kernel
theorem d_D_fill_341 : decode M_D_fill.2.1 341 = .ok (.bipush 24, 2) := by decide +kernel
theorem d_D_fill_343 : decode M_D_fill.2.1 343 = .ok (.if_icmp .lt 16, 3) := by decide +kernel
theorem d_D_fill_346 : decode M_D_fill.2.1 346 = .ok (.aload_n 0, 1) := by decide +kernel
theorem d_D_fill_347 : decode M_D_fill.2.1 347 = .ok (.iload 7, 2) := by decide +kernel
theorem d_D_fill_349 : decode M_D_fill.2.1 349 = .ok (.invokevirtual 199, 3) := by decide +kernel
theorem d_D_fill_352 : decode M_D_fill.2.1 352 = .ok (.bipush 80, 2) := by decide +kernel
theorem d_D_fill_354 : decode M_D_fill.2.1 354 = .ok (.if_icmp .le 5, 3) := by decide +kernel
theorem d_D_fill_357 : decode M_D_fill.2.1 357 = .ok (.iconst 4, 1) := by decide +kernel
theorem d_D_fill_358 : decode M_D_fill.2.1 358 = .ok (.ireturn, 1) := by decide +kernel
theorem d_D_fill_359 : decode M_D_fill.2.1 359 = .ok (.iinc 7 1, 3) := by decide +kernel
theorem d_D_fill_362 : decode M_D_fill.2.1 362 = .ok (.goto (-44), 3) := by decide +kernel
theorem d_D_fill_365 : decode M_D_fill.2.1 365 = .ok (.iconst 0, 1) := by decide +kernel
theorem d_D_fill_366 : decode M_D_fill.2.1 366 = .ok (.ireturn, 1) := by decide +kernel
theorem d_D_hindrance_0 : decode M_D_hindrance.2.1 0 = .ok (.aload_n 1, 1) := by decide +kernel
theorem d_D_hindrance_1 : decode M_D_hindrance.2.1 1 = .ok (.iconst 0, 1) := by decide +kernel
theorem d_D_hindrance_2 : decode M_D_hindrance.2.1 2 = .ok (.iaload, 1) := by decide +kernel
theorem d_D_hindrance_3 : decode M_D_hindrance.2.1 3 = .ok (.iconst 2, 1) := by decide +kernel
theorem d_D_hindrance_4 : decode M_D_hindrance.2.1 4 = .ok (.ishr, 1) := by decide +kernel
theorem d_D_hindrance_5 : decode M_D_hindrance.2.1 5 = .ok (.istore 4, 2) := by decide +kernel
theorem d_D_hindrance_7 : decode M_D_hindrance.2.1 7 = .ok (.aload_n 0, 1) := by decide +kernel
theorem d_D_hindrance_8 : decode M_D_hindrance.2.1 8 = .ok (.aload_n 2, 1) := by decide +kernel
theorem d_D_hindrance_9 : decode M_D_hindrance.2.1 9 = .ok (.iconst 0, 1) := by decide +kernel
theorem d_D_hindrance_10 : decode M_D_hindrance.2.1 10 = .ok (.iload_n 3, 1) := by decide +kernel
theorem d_D_hindrance_11 : decode M_D_hindrance.2.1 11 = .ok (.invokevirtual 133, 3) := by decide +kernel
theorem d_D_hindrance_14 : decode M_D_hindrance.2.1 14 = .ok (.iconst 0, 1) := by decide +kernel
theorem d_D_hindrance_15 : decode M_D_hindrance.2.1 15 = .ok (.istore 5, 2) := by decide +kernel
theorem d_D_hindrance_17 : decode M_D_hindrance.2.1 17 = .ok (.iload 5, 2) := by decide +kernel
theorem d_D_hindrance_19 : decode M_D_hindrance.2.1 19 = .ok (.iload_n 3, 1) := by decide +kernel
theorem d_D_hindrance_20 : decode M_D_hindrance.2.1 20 = .ok (.if_icmp .ge 174, 3) := by decide +kernel
theorem d_D_hindrance_23 : decode M_D_hindrance.2.1 23 = .ok (.aload_n 2, 1) := by decide +kernel
theorem d_D_hindrance_24 : decode M_D_hindrance.2.1 24 = .ok (.iload 5, 2) := by decide +kernel
theorem d_D_hindrance_26 : decode M_D_hindrance.2.1 26 = .ok (.iaload, 1) := by decide +kernel
theorem d_D_hindrance_27 : decode M_D_hindrance.2.1 27 = .ok (.iconst 2, 1) := by decide +kernel
theorem d_D_hindrance_28 : decode M_D_hindrance.2.1 28 = .ok (.ishr, 1) := by decide +kernel
theorem d_D_hindrance_29 : decode M_D_hindrance.2.1 29 = .ok (.istore 6, 2) := by decide +kernel
theorem d_D_hindrance_31 : decode M_D_hindrance.2.1 31 = .ok (.aload_n 2, 1) := by decide +kernel
theorem d_D_hindrance_32 : decode M_D_hindrance.2.1 32 = .ok (.iload 5, 2) := by decide +kernel
theorem d_D_hindrance_34 : decode M_D_hindrance.2.1 34 = .ok (.iaload, 1) := by decide +kernel
theorem d_D_hindrance_35 : decode M_D_hindrance.2.1 35 = .ok (.invokestatic 129, 3) := by decide +kernel
theorem d_D_hindrance_38 : decode M_D_hindrance.2.1 38 = .ok (.ifCond .ne 45, 3) := by decide +kernel
theorem d_D_hindrance_41 : decode M_D_hindrance.2.1 41 = .ok (.iload 6, 2) := by decide +kernel
theorem d_D_hindrance_43 : decode M_D_hindrance.2.1 43 = .ok (.aload_n 0, 1) := by decide +kernel
theorem d_D_hindrance_44 : decode M_D_hindrance.2.1 44 = .ok (.getfield 66, 3) := by decide +kernel
theorem d_D_hindrance_47 : decode M_D_hindrance.2.1 47 = .ok (.iload 5, 2) := by decide +kernel
theorem d_D_hindrance_49 : decode M_D_hindrance.2.1 49 = .ok (.iaload, 1) := by decide +kernel
theorem d_D_hindrance_50 : decode M_D_hindrance.2.1 50 = .ok (.if_icmp .lt 33, 3) := by decide +kernel
theorem d_D_hindrance_53 : decode M_D_hindrance.2.1 53 = .ok (.aload_n 1, 1) := by decide +kernel
theorem d_D_hindrance_54 : decode M_D_hindrance.2.1 54 = .ok (.iconst 1, 1) := by decide +kernel
theorem d_D_hindrance_55 : decode M_D_hindrance.2.1 55 = .ok (.aload_n 0, 1) := by decide +kernel
theorem d_D_hindrance_56 : decode M_D_hindrance.2.1 56 = .ok (.getfield 16, 3) := by decide +kernel
theorem d_D_hindrance_59 : decode M_D_hindrance.2.1 59 = .ok (.iload 4, 2) := by decide +kernel
theorem d_D_hindrance_61 : decode M_D_hindrance.2.1 61 = .ok (.iaload, 1) := by decide +kernel
theorem d_D_hindrance_62 : decode M_D_hindrance.2.1 62 = .ok (.iconst 4, 1) := by decide +kernel
theorem d_D_hindrance_63 : decode M_D_hindrance.2.1 63 = .ok (.iload 6, 2) := by decide +kernel
theorem d_D_hindrance_65 : decode M_D_hindrance.2.1 65 = .ok (.aload_n 0, 1) := by decide +kernel
theorem d_D_hindrance_66 : decode M_D_hindrance.2.1 66 = .ok (.getfield 66, 3) := by decide +kernel
theorem d_D_hindrance_69 : decode M_D_hindrance.2.1 69 = .ok (.iload 5, 2) := by decide +kernel
theorem d_D_hindrance_71 : decode M_D_hindrance.2.1 71 = .ok (.iaload, 1) := by decide +kernel
theorem d_D_hindrance_72 : decode M_D_hindrance.2.1 72 = .ok (.isub, 1) := by decide +kernel
theorem d_D_hindrance_73 : decode M_D_hindrance.2.1 73 = .ok (.imul, 1) := by decide +kernel
theorem d_D_hindrance_74 : decode M_D_hindrance.2.1 74 = .ok (.invokestatic 192, 3) := by decide +kernel
theorem d_D_hindrance_77 : decode M_D_hindrance.2.1 77 = .ok (.ifCond .ge 6, 3) := by decide +kernel
theorem d_D_hindrance_80 : decode M_D_hindrance.2.1 80 = .ok (.iload 5, 2) := by decide +kernel
theorem d_D_hindrance_82 : decode M_D_hindrance.2.1 82 = .ok (.ireturn, 1) := by decide +kernel
theorem d_D_hindrance_83 : decode M_D_hindrance.2.1 83 = .ok (.aload_n 2, 1) := by decide +kernel
theorem d_D_hindrance_84 : decode M_D_hindrance.2.1 84 = .ok (.iload 5, 2) := by decide +kernel
theorem d_D_hindrance_86 : decode M_D_hindrance.2.1 86 = .ok (.iaload, 1) := by decide +kernel
theorem d_D_hindrance_87 : decode M_D_hindrance.2.1 87 = .ok (.invokestatic 129, 3) := by decide +kernel
theorem d_D_hindrance_90 : decode M_D_hindrance.2.1 90 = .ok (.iconst 2, 1) := by decide +kernel
theorem d_D_hindrance_91 : decode M_D_hindrance.2.1 91 = .ok (.if_icmp .eq 6, 3) := by decide +kernel
theorem d_D_hindrance_94 : decode M_D_hindrance.2.1 94 = .ok (.goto 94, 3) := by decide +kernel
theorem d_D_hindrance_97 : decode M_D_hindrance.2.1 97 = .ok (.iload 6, 2) := by decide +kernel
theorem d_D_hindrance_99 : decode M_D_hindrance.2.1 99 = .ok (.iload 4, 2) := by decide +kernel
theorem d_D_hindrance_101 : decode M_D_hindrance.2.1 101 = .ok (.if_icmp .ne 6, 3) := by decide +kernel
theorem d_D_hindrance_104 : decode M_D_hindrance.2.1 104 = .ok (.iload 5, 2) := by decide +kernel
theorem d_D_hindrance_106 : decode M_D_hindrance.2.1 106 = .ok (.ireturn, 1) := by decide +kernel
theorem d_D_hindrance_107 : decode M_D_hindrance.2.1 107 = .ok (.iconst 0, 1) := by decide +kernel
theorem d_D_hindrance_108 : decode M_D_hindrance.2.1 108 = .ok (.istore 7, 2) := by decide +kernel
theorem d_D_hindrance_110 : decode M_D_hindrance.2.1 110 = .ok (.iload 7, 2) := by decide +kernel
theorem d_D_hindrance_112 : decode M_D_hindrance.2.1 112 = .ok (.aload_n 0, 1) := by decide +kernel
theorem d_D_hindrance_113 : decode M_D_hindrance.2.1 113 = .ok (.getfield 16, 3) := by decide +kernel
theorem d_D_hindrance_116 : decode M_D_hindrance.2.1 116 = .ok (.iload 6, 2) := by decide +kernel
theorem d_D_hindrance_118 : decode M_D_hindrance.2.1 118 = .ok (.iaload, 1) := by decide +kernel
theorem d_D_hindrance_119 : decode M_D_hindrance.2.1 119 = .ok (.if_icmp .ge 57, 3) := by decide +kernel
theorem d_D_hindrance_122 : decode M_D_hindrance.2.1 122 = .ok (.aload_n 2, 1) := by decide +kernel
theorem d_D_hindrance_123 : decode M_D_hindrance.2.1 123 = .ok (.iload 5, 2) := by decide +kernel
theorem d_D_hindrance_125 : decode M_D_hindrance.2.1 125 = .ok (.iconst 1, 1) := by decide +kernel
theorem d_D_hindrance_126 : decode M_D_hindrance.2.1 126 = .ok (.iadd, 1) := by decide +kernel
theorem d_D_hindrance_127 : decode M_D_hindrance.2.1 127 = .ok (.iload 7, 2) := by decide +kernel
theorem d_D_hindrance_129 : decode M_D_hindrance.2.1 129 = .ok (.iadd, 1) := by decide +kernel
theorem d_D_hindrance_130 : decode M_D_hindrance.2.1 130 = .ok (.iaload, 1) := by decide +kernel
theorem d_D_hindrance_131 : decode M_D_hindrance.2.1 131 = .ok (.iconst 2, 1) := by decide +kernel
theorem d_D_hindrance_132 : decode M_D_hindrance.2.1 132 = .ok (.ishr, 1) := by decide +kernel
theorem d_D_hindrance_133 : decode M_D_hindrance.2.1 133 = .ok (.aload_n 0, 1) := by decide +kernel
theorem d_D_hindrance_134 : decode M_D_hindrance.2.1 134 = .ok (.getfield 66, 3) := by decide +kernel
theorem d_D_hindrance_137 : decode M_D_hindrance.2.1 137 = .ok (.iload 5, 2) := by decide +kernel
theorem d_D_hindrance_139 : decode M_D_hindrance.2.1 139 = .ok (.iaload, 1) := by decide +kernel
theorem d_D_hindrance_140 : decode M_D_hindrance.2.1 140 = .ok (.isub, 1) := by decide +kernel
theorem d_D_hindrance_141 : decode M_D_hindrance.2.1 141 = .ok (.istore 8, 2) := by decide +kernel
theorem d_D_hindrance_143 : decode M_D_hindrance.2.1 143 = .ok (.iload 8, 2) := by decide +kernel
theorem d_D_hindrance_145 : decode M_D_hindrance.2.1 145 = .ok (.ifCond .lt 25, 3) := by decide +kernel
theorem d_D_hindrance_148 : decode M_D_hindrance.2.1 148 = .ok (.aload_n 1, 1) := by decide +kernel
theorem d_D_hindrance_149 : decode M_D_hindrance.2.1 149 = .ok (.iconst 1, 1) := by decide +kernel
theorem d_D_hindrance_150 : decode M_D_hindrance.2.1 150 = .ok (.aload_n 0, 1) := by decide +kernel
theorem d_D_hindrance_151 : decode M_D_hindrance.2.1 151 = .ok (.getfield 16, 3) := by decide +kernel
theorem d_D_hindrance_154 : decode M_D_hindrance.2.1 154 = .ok (.iload 4, 2) := by decide +kernel
theorem d_D_hindrance_156 : decode M_D_hindrance.2.1 156 = .ok (.iaload, 1) := by decide +kernel
theorem d_D_hindrance_157 : decode M_D_hindrance.2.1 157 = .ok (.iconst 4, 1) := by decide +kernel
theorem d_D_hindrance_158 : decode M_D_hindrance.2.1 158 = .ok (.iload 8, 2) := by decide +kernel
theorem d_D_hindrance_160 : decode M_D_hindrance.2.1 160 = .ok (.imul, 1) := by decide +kernel
theorem d_D_hindrance_161 : decode M_D_hindrance.2.1 161 = .ok (.invokestatic 192, 3) := by decide +kernel
theorem d_D_hindrance_164 : decode M_D_hindrance.2.1 164 = .ok (.ifCond .ge 6, 3) := by decide +kernel
theorem d_D_hindrance_167 : decode M_D_hindrance.2.1 167 = .ok (.iload 5, 2) := by decide +kernel
theorem d_D_hindrance_169 : decode M_D_hindrance.2.1 169 = .ok (.ireturn, 1) := by decide +kernel
theorem d_D_hindrance_170 : decode M_D_hindrance.2.1 170 = .ok (.iinc 7 1, 3) := by decide +kernel
theorem d_D_hindrance_173 : decode M_D_hindrance.2.1 173 = .ok (.goto (-63), 3) := by decide +kernel
theorem d_D_hindrance_176 : decode M_D_hindrance.2.1 176 = .ok (.iload 5, 2) := by decide +kernel
theorem d_D_hindrance_178 : decode M_D_hindrance.2.1 178 = .ok (.aload_n 0, 1) := by decide +kernel
theorem d_D_hindrance_179 : decode M_D_hindrance.2.1 179 = .ok (.getfield 16, 3) := by decide +kernel
theorem d_D_hindrance_182 : decode M_D_hindrance.2.1 182 = .ok (.iload 6, 2) := by decide +kernel
theorem d_D_hindrance_184 : decode M_D_hindrance.2.1 184 = .ok (.iaload, 1) := by decide +kernel
theorem d_D_hindrance_185 : decode M_D_hindrance.2.1 185 = .ok (.iadd, 1) := by decide +kernel
theorem d_D_hindrance_186 : decode M_D_hindrance.2.1 186 = .ok (.istore 5, 2) := by decide +kernel
theorem d_D_hindrance_188 : decode M_D_hindrance.2.1 188 = .ok (.iinc 5 1, 3) := by decide +kernel
theorem d_D_hindrance_191 : decode M_D_hindrance.2.1 191 = .ok (.goto (-174), 3) := by decide +kernel
theorem d_D_hindrance_194 : decode M_D_hindrance.2.1 194 = .ok (.iconst (-1), 1) := by decide +kernel
theorem d_D_hindrance_195 : decode M_D_hindrance.2.1 195 = .ok (.ireturn, 1) := by decide +kernel
theorem d_D_sizeOf_0 : decode M_D_sizeOf.2.1 0 = .ok (.iconst 0, 1) := by decide +kernel
theorem d_D_sizeOf_1 : decode M_D_sizeOf.2.1 1 = .ok (.istore_n 3, 1) := by decide +kernel
theorem d_D_sizeOf_2 : decode M_D_sizeOf.2.1 2 = .ok (.iconst 0, 1) := by decide +kernel
theorem d_D_sizeOf_3 : decode M_D_sizeOf.2.1 3 = .ok (.istore 4, 2) := by decide +kernel
theorem d_D_sizeOf_5 : decode M_D_sizeOf.2.1 5 = .ok (.iload 4, 2) := by decide +kernel
theorem d_D_sizeOf_7 : decode M_D_sizeOf.2.1 7 = .ok (.iload_n 1, 1) := by decide +kernel
theorem d_D_sizeOf_8 : decode M_D_sizeOf.2.1 8 = .ok (.if_icmp .ge 36, 3) := by decide +kernel
theorem d_D_sizeOf_11 : decode M_D_sizeOf.2.1 11 = .ok (.iinc 3 1, 3) := by decide +kernel
theorem d_D_sizeOf_14 : decode M_D_sizeOf.2.1 14 = .ok (.aload_n 0, 1) := by decide +kernel
theorem d_D_sizeOf_15 : decode M_D_sizeOf.2.1 15 = .ok (.iload 4, 2) := by decide +kernel
theorem d_D_sizeOf_17 : decode M_D_sizeOf.2.1 17 = .ok (.iaload, 1) := by decide +kernel
theorem d_D_sizeOf_18 : decode M_D_sizeOf.2.1 18 = .ok (.invokestatic 129, 3) := by decide +kernel
theorem d_D_sizeOf_21 : decode M_D_sizeOf.2.1 21 = .ok (.iconst 2, 1) := by decide +kernel
theorem d_D_sizeOf_22 : decode M_D_sizeOf.2.1 22 = .ok (.if_icmp .ne 16, 3) := by decide +kernel
theorem d_D_sizeOf_25 : decode M_D_sizeOf.2.1 25 = .ok (.iload 4, 2) := by decide +kernel
theorem d_D_sizeOf_27 : decode M_D_sizeOf.2.1 27 = .ok (.aload_n 2, 1) := by decide +kernel
theorem d_D_sizeOf_28 : decode M_D_sizeOf.2.1 28 = .ok (.aload_n 0, 1) := by decide +kernel
theorem d_D_sizeOf_29 : decode M_D_sizeOf.2.1 29 = .ok (.iload 4, 2) := by decide +kernel
theorem d_D_sizeOf_31 : decode M_D_sizeOf.2.1 31 = .ok (.iaload, 1) := by decide +kernel
theorem d_D_sizeOf_32 : decode M_D_sizeOf.2.1 32 = .ok (.iconst 2, 1) := by decide +kernel
theorem d_D_sizeOf_33 : decode M_D_sizeOf.2.1 33 = .ok (.ishr, 1) := by decide +kernel
theorem d_D_sizeOf_34 : decode M_D_sizeOf.2.1 34 = .ok (.iaload, 1) := by decide +kernel
theorem d_D_sizeOf_35 : decode M_D_sizeOf.2.1 35 = .ok (.iadd, 1) := by decide +kernel
theorem d_D_sizeOf_36 : decode M_D_sizeOf.2.1 36 = .ok (.istore 4, 2) := by decide +kernel
theorem d_D_sizeOf_38 : decode M_D_sizeOf.2.1 38 = .ok (.iinc 4 1, 3) := by decide +kernel
theorem d_D_sizeOf_41 : decode M_D_sizeOf.2.1 41 = .ok (.goto (-36), 3) := by decide +kernel
theorem d_D_sizeOf_44 : decode M_D_sizeOf.2.1 44 = .ok (.iload_n 3, 1) := by decide +kernel
theorem d_D_sizeOf_45 : decode M_D_sizeOf.2.1 45 = .ok (.ireturn, 1) := by decide +kernel
theorem d_D_fullSize_0 : decode M_D_fullSize.2.1 0 = .ok (.aload_n 0, 1) := by decide +kernel
theorem d_D_fullSize_1 : decode M_D_fullSize.2.1 1 = .ok (.getfield 26, 3) := by decide +kernel
theorem d_D_fullSize_4 : decode M_D_fullSize.2.1 4 = .ok (.iload_n 1, 1) := by decide +kernel
theorem d_D_fullSize_5 : decode M_D_fullSize.2.1 5 = .ok (.baload, 1) := by decide +kernel
theorem d_D_fullSize_6 : decode M_D_fullSize.2.1 6 = .ok (.ifCond .ne 5, 3) := by decide +kernel
theorem d_D_fullSize_9 : decode M_D_fullSize.2.1 9 = .ok (.iconst 1, 1) := by decide +kernel
theorem d_D_fullSize_10 : decode M_D_fullSize.2.1 10 = .ok (.ireturn, 1) := by decide +kernel
theorem d_D_fullSize_11 : decode M_D_fullSize.2.1 11 = .ok (.iconst 0, 1) := by decide +kernel
theorem d_D_fullSize_12 : decode M_D_fullSize.2.1 12 = .ok (.istore_n 2, 1) := by decide +kernel
theorem d_D_fullSize_13 : decode M_D_fullSize.2.1 13 = .ok (.iload_n 2, 1) := by decide +kernel
theorem d_D_fullSize_14 : decode M_D_fullSize.2.1 14 = .ok (.aload_n 0, 1) := by decide +kernel
theorem d_D_fullSize_15 : decode M_D_fullSize.2.1 15 = .ok (.getfield 19, 3) := by decide +kernel
theorem d_D_fullSize_18 : decode M_D_fullSize.2.1 18 = .ok (.iload_n 1, 1) := by decide +kernel
theorem d_D_fullSize_19 : decode M_D_fullSize.2.1 19 = .ok (.iaload, 1) := by decide +kernel
theorem d_D_fullSize_20 : decode M_D_fullSize.2.1 20 = .ok (.if_icmp .ge 27, 3) := by decide +kernel
theorem d_D_fullSize_23 : decode M_D_fullSize.2.1 23 = .ok (.aload_n 0, 1) := by decide +kernel
theorem d_D_fullSize_24 : decode M_D_fullSize.2.1 24 = .ok (.getfield 60, 3) := by decide +kernel
theorem d_D_fullSize_27 : decode M_D_fullSize.2.1 27 = .ok (.iload_n 2, 1) := by decide +kernel
theorem d_D_fullSize_28 : decode M_D_fullSize.2.1 28 = .ok (.aload_n 0, 1) := by decide +kernel
theorem d_D_fullSize_29 : decode M_D_fullSize.2.1 29 = .ok (.getfield 23, 3) := by decide +kernel
theorem d_D_fullSize_32 : decode M_D_fullSize.2.1 32 = .ok (.sipush 400, 3) := by decide +kernel
theorem d_D_fullSize_35 : decode M_D_fullSize.2.1 35 = .ok (.iload_n 1, 1) := by decide +kernel
theorem d_D_fullSize_36 : decode M_D_fullSize.2.1 36 = .ok (.imul, 1) := by decide +kernel
theorem d_D_fullSize_37 : decode M_D_fullSize.2.1 37 = .ok (.iload_n 2, 1) := by decide +kernel
theorem d_D_fullSize_38 : decode M_D_fullSize.2.1 38 = .ok (.iadd, 1) := by decide +kernel
theorem d_D_fullSize_39 : decode M_D_fullSize.2.1 39 = .ok (.iaload, 1) := by decide +kernel
theorem d_D_fullSize_40 : decode M_D_fullSize.2.1 40 = .ok (.iastore, 1) := by decide +kernel
theorem d_D_fullSize_41 : decode M_D_fullSize.2.1 41 = .ok (.iinc 2 1, 3) := by decide +kernel
theorem d_D_fullSize_44 : decode M_D_fullSize.2.1 44 = .ok (.goto (-31), 3) := by decide +kernel
theorem d_D_fullSize_47 : decode M_D_fullSize.2.1 47 = .ok (.aload_n 0, 1) := by decide +kernel
