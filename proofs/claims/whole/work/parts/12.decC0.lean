theorem d_C_init_0 : decode M_C_init.2.1 0 = .ok (.aload_n 0, 1) := by decide +kernel
theorem d_C_init_1 : decode M_C_init.2.1 1 = .ok (.invokespecial 3, 3) := by decide +kernel
theorem d_C_init_4 : decode M_C_init.2.1 4 = .ok (.aload_n 0, 1) := by decide +kernel
theorem d_C_init_5 : decode M_C_init.2.1 5 = .ok (.sipush 2048, 3) := by decide +kernel
theorem d_C_init_8 : decode M_C_init.2.1 8 = .ok (.newarray .int, 2) := by decide +kernel
theorem d_C_init_10 : decode M_C_init.2.1 10 = .ok (.putfield 9, 3) := by decide +kernel
theorem d_C_init_13 : decode M_C_init.2.1 13 = .ok (.aload_n 0, 1) := by decide +kernel
theorem d_C_init_14 : decode M_C_init.2.1 14 = .ok (.sipush 2048, 3) := by decide +kernel
theorem d_C_init_17 : decode M_C_init.2.1 17 = .ok (.newarray .int, 2) := by decide +kernel
theorem d_C_init_19 : decode M_C_init.2.1 19 = .ok (.putfield 15, 3) := by decide +kernel
theorem d_C_init_22 : decode M_C_init.2.1 22 = .ok (.aload_n 0, 1) := by decide +kernel
theorem d_C_init_23 : decode M_C_init.2.1 23 = .ok (.sipush 1200, 3) := by decide +kernel
theorem d_C_init_26 : decode M_C_init.2.1 26 = .ok (.putfield 18, 3) := by decide +kernel
theorem d_C_init_29 : decode M_C_init.2.1 29 = .ok (.return_, 1) := by decide +kernel
theorem d_C_codeAt_0 : decode M_C_codeAt.2.1 0 = .ok (.aload_n 0, 1) := by decide +kernel
theorem d_C_codeAt_1 : decode M_C_codeAt.2.1 1 = .ok (.getfield 9, 3) := by decide +kernel
theorem d_C_codeAt_4 : decode M_C_codeAt.2.1 4 = .ok (.iload_n 1, 1) := by decide +kernel
theorem d_C_codeAt_5 : decode M_C_codeAt.2.1 5 = .ok (.invokestatic 22, 3) := by decide +kernel
theorem d_C_codeAt_8 : decode M_C_codeAt.2.1 8 = .ok (.ireturn, 1) := by decide +kernel
theorem d_C_write_0 : decode M_C_write.2.1 0 = .ok (.aload_n 0, 1) := by decide +kernel
theorem d_C_write_1 : decode M_C_write.2.1 1 = .ok (.getfield 9, 3) := by decide +kernel
theorem d_C_write_4 : decode M_C_write.2.1 4 = .ok (.iload_n 1, 1) := by decide +kernel
theorem d_C_write_5 : decode M_C_write.2.1 5 = .ok (.iload_n 2, 1) := by decide +kernel
theorem d_C_write_6 : decode M_C_write.2.1 6 = .ok (.invokestatic 26, 3) := by decide +kernel
theorem d_C_write_9 : decode M_C_write.2.1 9 = .ok (.aload_n 0, 1) := by decide +kernel
theorem d_C_write_10 : decode M_C_write.2.1 10 = .ok (.getfield 15, 3) := by decide +kernel
theorem d_C_write_13 : decode M_C_write.2.1 13 = .ok (.iload_n 1, 1) := by decide +kernel
theorem d_C_write_14 : decode M_C_write.2.1 14 = .ok (.iload_n 3, 1) := by decide +kernel
theorem d_C_write_15 : decode M_C_write.2.1 15 = .ok (.invokestatic 26, 3) := by decide +kernel
theorem d_C_write_18 : decode M_C_write.2.1 18 = .ok (.return_, 1) := by decide +kernel
theorem d_C_boundAt_0 : decode M_C_boundAt.2.1 0 = .ok (.aload_n 0, 1) := by decide +kernel
theorem d_C_boundAt_1 : decode M_C_boundAt.2.1 1 = .ok (.getfield 15, 3) := by decide +kernel
theorem d_C_boundAt_4 : decode M_C_boundAt.2.1 4 = .ok (.iload_n 1, 1) := by decide +kernel
theorem d_C_boundAt_5 : decode M_C_boundAt.2.1 5 = .ok (.invokestatic 22, 3) := by decide +kernel
theorem d_C_boundAt_8 : decode M_C_boundAt.2.1 8 = .ok (.ireturn, 1) := by decide +kernel
theorem d_C_append_0 : decode M_C_append.2.1 0 = .ok (.aload_n 0, 1) := by decide +kernel
theorem d_C_append_1 : decode M_C_append.2.1 1 = .ok (.getfield 18, 3) := by decide +kernel
theorem d_C_append_4 : decode M_C_append.2.1 4 = .ok (.aload_n 0, 1) := by decide +kernel
theorem d_C_append_5 : decode M_C_append.2.1 5 = .ok (.getfield 9, 3) := by decide +kernel
theorem d_C_append_8 : decode M_C_append.2.1 8 = .ok (.arraylength, 1) := by decide +kernel
theorem d_C_append_9 : decode M_C_append.2.1 9 = .ok (.if_icmp .lt 49, 3) := by decide +kernel
theorem d_C_append_12 : decode M_C_append.2.1 12 = .ok (.aload_n 0, 1) := by decide +kernel
theorem d_C_append_13 : decode M_C_append.2.1 13 = .ok (.getfield 9, 3) := by decide +kernel
theorem d_C_append_16 : decode M_C_append.2.1 16 = .ok (.arraylength, 1) := by decide +kernel
theorem d_C_append_17 : decode M_C_append.2.1 17 = .ok (.ldc 30, 2) := by decide +kernel
theorem d_C_append_19 : decode M_C_append.2.1 19 = .ok (.if_icmp .ge 39, 3) := by decide +kernel
theorem d_C_append_22 : decode M_C_append.2.1 22 = .ok (.aload_n 0, 1) := by decide +kernel
theorem d_C_append_23 : decode M_C_append.2.1 23 = .ok (.aload_n 0, 1) := by decide +kernel
theorem d_C_append_24 : decode M_C_append.2.1 24 = .ok (.getfield 9, 3) := by decide +kernel
theorem d_C_append_27 : decode M_C_append.2.1 27 = .ok (.iconst 2, 1) := by decide +kernel
theorem d_C_append_28 : decode M_C_append.2.1 28 = .ok (.aload_n 0, 1) := by decide +kernel
theorem d_C_append_29 : decode M_C_append.2.1 29 = .ok (.getfield 9, 3) := by decide +kernel
theorem d_C_append_32 : decode M_C_append.2.1 32 = .ok (.arraylength, 1) := by decide +kernel
theorem d_C_append_33 : decode M_C_append.2.1 33 = .ok (.imul, 1) := by decide +kernel
theorem d_C_append_34 : decode M_C_append.2.1 34 = .ok (.invokestatic 31, 3) := by decide +kernel
theorem d_C_append_37 : decode M_C_append.2.1 37 = .ok (.putfield 9, 3) := by decide +kernel
theorem d_C_append_40 : decode M_C_append.2.1 40 = .ok (.aload_n 0, 1) := by decide +kernel
theorem d_C_append_41 : decode M_C_append.2.1 41 = .ok (.aload_n 0, 1) := by decide +kernel
theorem d_C_append_42 : decode M_C_append.2.1 42 = .ok (.getfield 15, 3) := by decide +kernel
theorem d_C_append_45 : decode M_C_append.2.1 45 = .ok (.iconst 2, 1) := by decide +kernel
theorem d_C_append_46 : decode M_C_append.2.1 46 = .ok (.aload_n 0, 1) := by decide +kernel
theorem d_C_append_47 : decode M_C_append.2.1 47 = .ok (.getfield 15, 3) := by decide +kernel
theorem d_C_append_50 : decode M_C_append.2.1 50 = .ok (.arraylength, 1) := by decide +kernel
theorem d_C_append_51 : decode M_C_append.2.1 51 = .ok (.imul, 1) := by decide +kernel
theorem d_C_append_52 : decode M_C_append.2.1 52 = .ok (.invokestatic 31, 3) := by decide +kernel
theorem d_C_append_55 : decode M_C_append.2.1 55 = .ok (.putfield 15, 3) := by decide +kernel
theorem d_C_append_58 : decode M_C_append.2.1 58 = .ok (.aload_n 0, 1) := by decide +kernel
theorem d_C_append_59 : decode M_C_append.2.1 59 = .ok (.getfield 18, 3) := by decide +kernel
theorem d_C_append_62 : decode M_C_append.2.1 62 = .ok (.ifCond .lt 47, 3) := by decide +kernel
theorem d_C_append_65 : decode M_C_append.2.1 65 = .ok (.aload_n 0, 1) := by decide +kernel
theorem d_C_append_66 : decode M_C_append.2.1 66 = .ok (.getfield 18, 3) := by decide +kernel
theorem d_C_append_69 : decode M_C_append.2.1 69 = .ok (.aload_n 0, 1) := by decide +kernel
theorem d_C_append_70 : decode M_C_append.2.1 70 = .ok (.getfield 9, 3) := by decide +kernel
theorem d_C_append_73 : decode M_C_append.2.1 73 = .ok (.arraylength, 1) := by decide +kernel
theorem d_C_append_74 : decode M_C_append.2.1 74 = .ok (.if_icmp .ge 35, 3) := by decide +kernel
theorem d_C_append_77 : decode M_C_append.2.1 77 = .ok (.aload_n 0, 1) := by decide +kernel
theorem d_C_append_78 : decode M_C_append.2.1 78 = .ok (.getfield 18, 3) := by decide +kernel
theorem d_C_append_81 : decode M_C_append.2.1 81 = .ok (.aload_n 0, 1) := by decide +kernel
theorem d_C_append_82 : decode M_C_append.2.1 82 = .ok (.getfield 15, 3) := by decide +kernel
theorem d_C_append_85 : decode M_C_append.2.1 85 = .ok (.arraylength, 1) := by decide +kernel
theorem d_C_append_86 : decode M_C_append.2.1 86 = .ok (.if_icmp .ge 23, 3) := by decide +kernel
theorem d_C_append_89 : decode M_C_append.2.1 89 = .ok (.aload_n 0, 1) := by decide +kernel
theorem d_C_append_90 : decode M_C_append.2.1 90 = .ok (.getfield 9, 3) := by decide +kernel
theorem d_C_append_93 : decode M_C_append.2.1 93 = .ok (.aload_n 0, 1) := by decide +kernel
theorem d_C_append_94 : decode M_C_append.2.1 94 = .ok (.getfield 18, 3) := by decide +kernel
theorem d_C_append_97 : decode M_C_append.2.1 97 = .ok (.iload_n 1, 1) := by decide +kernel
theorem d_C_append_98 : decode M_C_append.2.1 98 = .ok (.iastore, 1) := by decide +kernel
theorem d_C_append_99 : decode M_C_append.2.1 99 = .ok (.aload_n 0, 1) := by decide +kernel
theorem d_C_append_100 : decode M_C_append.2.1 100 = .ok (.getfield 15, 3) := by decide +kernel
theorem d_C_append_103 : decode M_C_append.2.1 103 = .ok (.aload_n 0, 1) := by decide +kernel
theorem d_C_append_104 : decode M_C_append.2.1 104 = .ok (.getfield 18, 3) := by decide +kernel
theorem d_C_append_107 : decode M_C_append.2.1 107 = .ok (.iload_n 2, 1) := by decide +kernel
theorem d_C_append_108 : decode M_C_append.2.1 108 = .ok (.iastore, 1) := by decide +kernel
theorem d_C_append_109 : decode M_C_append.2.1 109 = .ok (.aload_n 0, 1) := by decide +kernel
theorem d_C_append_110 : decode M_C_append.2.1 110 = .ok (.dup, 1) := by decide +kernel
theorem d_C_append_111 : decode M_C_append.2.1 111 = .ok (.getfield 18, 3) := by decide +kernel
theorem d_C_append_114 : decode M_C_append.2.1 114 = .ok (.iconst 1, 1) := by decide +kernel
theorem d_C_append_115 : decode M_C_append.2.1 115 = .ok (.iadd, 1) := by decide +kernel
theorem d_C_append_116 : decode M_C_append.2.1 116 = .ok (.putfield 18, 3) := by decide +kernel
theorem d_C_append_119 : decode M_C_append.2.1 119 = .ok (.return_, 1) := by decide +kernel
