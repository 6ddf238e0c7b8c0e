theorem d_N_init_0 : decode M_N_init.2.1 0 = .ok (.aload_n 0, 1) := by decide +kernel
theorem d_N_init_1 : decode M_N_init.2.1 1 = .ok (.invokespecial 3, 3) := by decide +kernel
theorem d_N_init_4 : decode M_N_init.2.1 4 = .ok (.aload_n 0, 1) := by decide +kernel
theorem d_N_init_5 : decode M_N_init.2.1 5 = .ok (.iconst 4, 1) := by decide +kernel
theorem d_N_init_6 : decode M_N_init.2.1 6 = .ok (.newarray .int, 2) := by decide +kernel
theorem d_N_init_8 : decode M_N_init.2.1 8 = .ok (.putfield 9, 3) := by decide +kernel
theorem d_N_init_11 : decode M_N_init.2.1 11 = .ok (.aload_n 0, 1) := by decide +kernel
theorem d_N_init_12 : decode M_N_init.2.1 12 = .ok (.iconst 4, 1) := by decide +kernel
theorem d_N_init_13 : decode M_N_init.2.1 13 = .ok (.newarray .int, 2) := by decide +kernel
theorem d_N_init_15 : decode M_N_init.2.1 15 = .ok (.putfield 15, 3) := by decide +kernel
theorem d_N_init_18 : decode M_N_init.2.1 18 = .ok (.aload_n 0, 1) := by decide +kernel
theorem d_N_init_19 : decode M_N_init.2.1 19 = .ok (.aload_n 1, 1) := by decide +kernel
theorem d_N_init_20 : decode M_N_init.2.1 20 = .ok (.putfield 18, 3) := by decide +kernel
theorem d_N_init_23 : decode M_N_init.2.1 23 = .ok (.aload_n 0, 1) := by decide +kernel
theorem d_N_init_24 : decode M_N_init.2.1 24 = .ok (.aload_n 2, 1) := by decide +kernel
theorem d_N_init_25 : decode M_N_init.2.1 25 = .ok (.putfield 22, 3) := by decide +kernel
theorem d_N_init_28 : decode M_N_init.2.1 28 = .ok (.aload_n 0, 1) := by decide +kernel
theorem d_N_init_29 : decode M_N_init.2.1 29 = .ok (.aload_n 3, 1) := by decide +kernel
theorem d_N_init_30 : decode M_N_init.2.1 30 = .ok (.putfield 26, 3) := by decide +kernel
theorem d_N_init_33 : decode M_N_init.2.1 33 = .ok (.aload_n 0, 1) := by decide +kernel
theorem d_N_init_34 : decode M_N_init.2.1 34 = .ok (.aload 4, 2) := by decide +kernel
theorem d_N_init_36 : decode M_N_init.2.1 36 = .ok (.putfield 30, 3) := by decide +kernel
theorem d_N_init_39 : decode M_N_init.2.1 39 = .ok (.aload_n 0, 1) := by decide +kernel
theorem d_N_init_40 : decode M_N_init.2.1 40 = .ok (.aload 5, 2) := by decide +kernel
theorem d_N_init_42 : decode M_N_init.2.1 42 = .ok (.putfield 34, 3) := by decide +kernel
theorem d_N_init_45 : decode M_N_init.2.1 45 = .ok (.aload_n 0, 1) := by decide +kernel
theorem d_N_init_46 : decode M_N_init.2.1 46 = .ok (.new 37, 3) := by decide +kernel
theorem d_N_init_49 : decode M_N_init.2.1 49 = .ok (.dup, 1) := by decide +kernel
theorem d_N_init_50 : decode M_N_init.2.1 50 = .ok (.aload_n 1, 1) := by decide +kernel
theorem d_N_init_51 : decode M_N_init.2.1 51 = .ok (.aload_n 2, 1) := by decide +kernel
theorem d_N_init_52 : decode M_N_init.2.1 52 = .ok (.invokespecial 39, 3) := by decide +kernel
theorem d_N_init_55 : decode M_N_init.2.1 55 = .ok (.putfield 42, 3) := by decide +kernel
theorem d_N_init_58 : decode M_N_init.2.1 58 = .ok (.return_, 1) := by decide +kernel
theorem d_N_solve_0 : decode M_N_solve.2.1 0 = .ok (.iconst 0, 1) := by decide +kernel
theorem d_N_solve_1 : decode M_N_solve.2.1 1 = .ok (.istore_n 1, 1) := by decide +kernel
theorem d_N_solve_2 : decode M_N_solve.2.1 2 = .ok (.iload_n 1, 1) := by decide +kernel
theorem d_N_solve_3 : decode M_N_solve.2.1 3 = .ok (.ldc 45, 2) := by decide +kernel
theorem d_N_solve_5 : decode M_N_solve.2.1 5 = .ok (.if_icmp .ge 165, 3) := by decide +kernel
theorem d_N_solve_8 : decode M_N_solve.2.1 8 = .ok (.aload_n 0, 1) := by decide +kernel
theorem d_N_solve_9 : decode M_N_solve.2.1 9 = .ok (.getfield 30, 3) := by decide +kernel
theorem d_N_solve_12 : decode M_N_solve.2.1 12 = .ok (.invokevirtual 46, 3) := by decide +kernel
theorem d_N_solve_15 : decode M_N_solve.2.1 15 = .ok (.ifCond .eq 13, 3) := by decide +kernel
theorem d_N_solve_18 : decode M_N_solve.2.1 18 = .ok (.aload_n 0, 1) := by decide +kernel
theorem d_N_solve_19 : decode M_N_solve.2.1 19 = .ok (.getfield 34, 3) := by decide +kernel
theorem d_N_solve_22 : decode M_N_solve.2.1 22 = .ok (.invokevirtual 46, 3) := by decide +kernel
theorem d_N_solve_25 : decode M_N_solve.2.1 25 = .ok (.ifCond .ne 5, 3) := by decide +kernel
theorem d_N_solve_28 : decode M_N_solve.2.1 28 = .ok (.iconst 0, 1) := by decide +kernel
theorem d_N_solve_29 : decode M_N_solve.2.1 29 = .ok (.ireturn, 1) := by decide +kernel
theorem d_N_solve_30 : decode M_N_solve.2.1 30 = .ok (.aload_n 0, 1) := by decide +kernel
theorem d_N_solve_31 : decode M_N_solve.2.1 31 = .ok (.getfield 30, 3) := by decide +kernel
theorem d_N_solve_34 : decode M_N_solve.2.1 34 = .ok (.getfield 50, 3) := by decide +kernel
theorem d_N_solve_37 : decode M_N_solve.2.1 37 = .ok (.iconst 2, 1) := by decide +kernel
theorem d_N_solve_38 : decode M_N_solve.2.1 38 = .ok (.if_icmp .ne 46, 3) := by decide +kernel
theorem d_N_solve_41 : decode M_N_solve.2.1 41 = .ok (.aload_n 0, 1) := by decide +kernel
theorem d_N_solve_42 : decode M_N_solve.2.1 42 = .ok (.getfield 34, 3) := by decide +kernel
theorem d_N_solve_45 : decode M_N_solve.2.1 45 = .ok (.getfield 50, 3) := by decide +kernel
theorem d_N_solve_48 : decode M_N_solve.2.1 48 = .ok (.iconst 2, 1) := by decide +kernel
theorem d_N_solve_49 : decode M_N_solve.2.1 49 = .ok (.if_icmp .ne 35, 3) := by decide +kernel
theorem d_N_solve_52 : decode M_N_solve.2.1 52 = .ok (.aload_n 0, 1) := by decide +kernel
theorem d_N_solve_53 : decode M_N_solve.2.1 53 = .ok (.getfield 30, 3) := by decide +kernel
theorem d_N_solve_56 : decode M_N_solve.2.1 56 = .ok (.getfield 54, 3) := by decide +kernel
theorem d_N_solve_59 : decode M_N_solve.2.1 59 = .ok (.aload_n 0, 1) := by decide +kernel
theorem d_N_solve_60 : decode M_N_solve.2.1 60 = .ok (.getfield 34, 3) := by decide +kernel
theorem d_N_solve_63 : decode M_N_solve.2.1 63 = .ok (.getfield 54, 3) := by decide +kernel
theorem d_N_solve_66 : decode M_N_solve.2.1 66 = .ok (.if_icmp .ne 10, 3) := by decide +kernel
theorem d_N_solve_69 : decode M_N_solve.2.1 69 = .ok (.aload_n 0, 1) := by decide +kernel
theorem d_N_solve_70 : decode M_N_solve.2.1 70 = .ok (.invokevirtual 57, 3) := by decide +kernel
theorem d_N_solve_73 : decode M_N_solve.2.1 73 = .ok (.goto 7, 3) := by decide +kernel
theorem d_N_solve_76 : decode M_N_solve.2.1 76 = .ok (.aload_n 0, 1) := by decide +kernel
theorem d_N_solve_77 : decode M_N_solve.2.1 77 = .ok (.invokevirtual 61, 3) := by decide +kernel
theorem d_N_solve_80 : decode M_N_solve.2.1 80 = .ok (.istore_n 2, 1) := by decide +kernel
theorem d_N_solve_81 : decode M_N_solve.2.1 81 = .ok (.goto 77, 3) := by decide +kernel
theorem d_N_solve_84 : decode M_N_solve.2.1 84 = .ok (.aload_n 0, 1) := by decide +kernel
theorem d_N_solve_85 : decode M_N_solve.2.1 85 = .ok (.getfield 30, 3) := by decide +kernel
theorem d_N_solve_88 : decode M_N_solve.2.1 88 = .ok (.getfield 50, 3) := by decide +kernel
theorem d_N_solve_91 : decode M_N_solve.2.1 91 = .ok (.iconst 2, 1) := by decide +kernel
theorem d_N_solve_92 : decode M_N_solve.2.1 92 = .ok (.if_icmp .ne 19, 3) := by decide +kernel
theorem d_N_solve_95 : decode M_N_solve.2.1 95 = .ok (.aload_n 0, 1) := by decide +kernel
theorem d_N_solve_96 : decode M_N_solve.2.1 96 = .ok (.aload_n 0, 1) := by decide +kernel
theorem d_N_solve_97 : decode M_N_solve.2.1 97 = .ok (.getfield 30, 3) := by decide +kernel
theorem d_N_solve_100 : decode M_N_solve.2.1 100 = .ok (.aload_n 0, 1) := by decide +kernel
theorem d_N_solve_101 : decode M_N_solve.2.1 101 = .ok (.getfield 34, 3) := by decide +kernel
theorem d_N_solve_104 : decode M_N_solve.2.1 104 = .ok (.invokevirtual 64, 3) := by decide +kernel
theorem d_N_solve_107 : decode M_N_solve.2.1 107 = .ok (.istore_n 2, 1) := by decide +kernel
theorem d_N_solve_108 : decode M_N_solve.2.1 108 = .ok (.goto 50, 3) := by decide +kernel
theorem d_N_solve_111 : decode M_N_solve.2.1 111 = .ok (.aload_n 0, 1) := by decide +kernel
theorem d_N_solve_112 : decode M_N_solve.2.1 112 = .ok (.getfield 34, 3) := by decide +kernel
theorem d_N_solve_115 : decode M_N_solve.2.1 115 = .ok (.getfield 50, 3) := by decide +kernel
theorem d_N_solve_118 : decode M_N_solve.2.1 118 = .ok (.iconst 2, 1) := by decide +kernel
theorem d_N_solve_119 : decode M_N_solve.2.1 119 = .ok (.if_icmp .ne 19, 3) := by decide +kernel
theorem d_N_solve_122 : decode M_N_solve.2.1 122 = .ok (.aload_n 0, 1) := by decide +kernel
theorem d_N_solve_123 : decode M_N_solve.2.1 123 = .ok (.aload_n 0, 1) := by decide +kernel
theorem d_N_solve_124 : decode M_N_solve.2.1 124 = .ok (.getfield 34, 3) := by decide +kernel
theorem d_N_solve_127 : decode M_N_solve.2.1 127 = .ok (.aload_n 0, 1) := by decide +kernel
theorem d_N_solve_128 : decode M_N_solve.2.1 128 = .ok (.getfield 30, 3) := by decide +kernel
theorem d_N_solve_131 : decode M_N_solve.2.1 131 = .ok (.invokevirtual 64, 3) := by decide +kernel
theorem d_N_solve_134 : decode M_N_solve.2.1 134 = .ok (.istore_n 2, 1) := by decide +kernel
theorem d_N_solve_135 : decode M_N_solve.2.1 135 = .ok (.goto 23, 3) := by decide +kernel
theorem d_N_solve_138 : decode M_N_solve.2.1 138 = .ok (.aload_n 0, 1) := by decide +kernel
theorem d_N_solve_139 : decode M_N_solve.2.1 139 = .ok (.getfield 30, 3) := by decide +kernel
theorem d_N_solve_142 : decode M_N_solve.2.1 142 = .ok (.aload_n 0, 1) := by decide +kernel
theorem d_N_solve_143 : decode M_N_solve.2.1 143 = .ok (.getfield 34, 3) := by decide +kernel
theorem d_N_solve_146 : decode M_N_solve.2.1 146 = .ok (.invokevirtual 68, 3) := by decide +kernel
theorem d_N_solve_149 : decode M_N_solve.2.1 149 = .ok (.ifCond .eq 7, 3) := by decide +kernel
theorem d_N_solve_152 : decode M_N_solve.2.1 152 = .ok (.iconst 0, 1) := by decide +kernel
theorem d_N_solve_153 : decode M_N_solve.2.1 153 = .ok (.goto 4, 3) := by decide +kernel
theorem d_N_solve_156 : decode M_N_solve.2.1 156 = .ok (.iconst 1, 1) := by decide +kernel
theorem d_N_solve_157 : decode M_N_solve.2.1 157 = .ok (.istore_n 2, 1) := by decide +kernel
theorem d_N_solve_158 : decode M_N_solve.2.1 158 = .ok (.iload_n 2, 1) := by decide +kernel
theorem d_N_solve_159 : decode M_N_solve.2.1 159 = .ok (.ifCond .eq 5, 3) := by decide +kernel
theorem d_N_solve_162 : decode M_N_solve.2.1 162 = .ok (.iload_n 2, 1) := by decide +kernel
theorem d_N_solve_163 : decode M_N_solve.2.1 163 = .ok (.ireturn, 1) := by decide +kernel
theorem d_N_solve_164 : decode M_N_solve.2.1 164 = .ok (.iinc 1 1, 3) := by decide +kernel
theorem d_N_solve_167 : decode M_N_solve.2.1 167 = .ok (.goto (-165), 3) := by decide +kernel
theorem d_N_solve_170 : decode M_N_solve.2.1 170 = .ok (.iconst 0, 1) := by decide +kernel
theorem d_N_solve_171 : decode M_N_solve.2.1 171 = .ok (.ireturn, 1) := by decide +kernel
theorem d_N_narrowToSame_0 : decode M_N_narrowToSame.2.1 0 = .ok (.iconst 0, 1) := by decide +kernel
theorem d_N_narrowToSame_1 : decode M_N_narrowToSame.2.1 1 = .ok (.istore_n 1, 1) := by decide +kernel
theorem d_N_narrowToSame_2 : decode M_N_narrowToSame.2.1 2 = .ok (.iconst 0, 1) := by decide +kernel
theorem d_N_narrowToSame_3 : decode M_N_narrowToSame.2.1 3 = .ok (.istore_n 2, 1) := by decide +kernel
theorem d_N_narrowToSame_4 : decode M_N_narrowToSame.2.1 4 = .ok (.iload_n 2, 1) := by decide +kernel
theorem d_N_narrowToSame_5 : decode M_N_narrowToSame.2.1 5 = .ok (.aload_n 0, 1) := by decide +kernel
theorem d_N_narrowToSame_6 : decode M_N_narrowToSame.2.1 6 = .ok (.getfield 30, 3) := by decide +kernel
theorem d_N_narrowToSame_9 : decode M_N_narrowToSame.2.1 9 = .ok (.getfield 72, 3) := by decide +kernel
theorem d_N_narrowToSame_12 : decode M_N_narrowToSame.2.1 12 = .ok (.if_icmp .ge 46, 3) := by decide +kernel
theorem d_N_narrowToSame_15 : decode M_N_narrowToSame.2.1 15 = .ok (.aload_n 0, 1) := by decide +kernel
theorem d_N_narrowToSame_16 : decode M_N_narrowToSame.2.1 16 = .ok (.getfield 30, 3) := by decide +kernel
theorem d_N_narrowToSame_19 : decode M_N_narrowToSame.2.1 19 = .ok (.getfield 75, 3) := by decide +kernel
theorem d_N_narrowToSame_22 : decode M_N_narrowToSame.2.1 22 = .ok (.iload_n 2, 1) := by decide +kernel
theorem d_N_narrowToSame_23 : decode M_N_narrowToSame.2.1 23 = .ok (.invokestatic 78, 3) := by decide +kernel
theorem d_N_narrowToSame_26 : decode M_N_narrowToSame.2.1 26 = .ok (.aload_n 0, 1) := by decide +kernel
theorem d_N_narrowToSame_27 : decode M_N_narrowToSame.2.1 27 = .ok (.getfield 34, 3) := by decide +kernel
theorem d_N_narrowToSame_30 : decode M_N_narrowToSame.2.1 30 = .ok (.getfield 75, 3) := by decide +kernel
theorem d_N_narrowToSame_33 : decode M_N_narrowToSame.2.1 33 = .ok (.iload_n 2, 1) := by decide +kernel
theorem d_N_narrowToSame_34 : decode M_N_narrowToSame.2.1 34 = .ok (.invokestatic 78, 3) := by decide +kernel
theorem d_N_narrowToSame_37 : decode M_N_narrowToSame.2.1 37 = .ok (.if_icmp .ne 15, 3) := by decide +kernel
theorem d_N_narrowToSame_40 : decode M_N_narrowToSame.2.1 40 = .ok (.aload_n 0, 1) := by decide +kernel
theorem d_N_narrowToSame_41 : decode M_N_narrowToSame.2.1 41 = .ok (.getfield 9, 3) := by decide +kernel
theorem d_N_narrowToSame_44 : decode M_N_narrowToSame.2.1 44 = .ok (.iload_n 1, 1) := by decide +kernel
theorem d_N_narrowToSame_45 : decode M_N_narrowToSame.2.1 45 = .ok (.iload_n 2, 1) := by decide +kernel
theorem d_N_narrowToSame_46 : decode M_N_narrowToSame.2.1 46 = .ok (.invokestatic 82, 3) := by decide +kernel
theorem d_N_narrowToSame_49 : decode M_N_narrowToSame.2.1 49 = .ok (.iinc 1 1, 3) := by decide +kernel
theorem d_N_narrowToSame_52 : decode M_N_narrowToSame.2.1 52 = .ok (.iinc 2 1, 3) := by decide +kernel
theorem d_N_narrowToSame_55 : decode M_N_narrowToSame.2.1 55 = .ok (.goto (-51), 3) := by decide +kernel
theorem d_N_narrowToSame_58 : decode M_N_narrowToSame.2.1 58 = .ok (.iload_n 1, 1) := by decide +kernel
theorem d_N_narrowToSame_59 : decode M_N_narrowToSame.2.1 59 = .ok (.aload_n 0, 1) := by decide +kernel
theorem d_N_narrowToSame_60 : decode M_N_narrowToSame.2.1 60 = .ok (.getfield 30, 3) := by decide +kernel
theorem d_N_narrowToSame_63 : decode M_N_narrowToSame.2.1 63 = .ok (.getfield 72, 3) := by decide +kernel
theorem d_N_narrowToSame_66 : decode M_N_narrowToSame.2.1 66 = .ok (.if_icmp .ne 5, 3) := by decide +kernel
theorem d_N_narrowToSame_69 : decode M_N_narrowToSame.2.1 69 = .ok (.iconst 0, 1) := by decide +kernel
theorem d_N_narrowToSame_70 : decode M_N_narrowToSame.2.1 70 = .ok (.ireturn, 1) := by decide +kernel
theorem d_N_narrowToSame_71 : decode M_N_narrowToSame.2.1 71 = .ok (.aload_n 0, 1) := by decide +kernel
theorem d_N_narrowToSame_72 : decode M_N_narrowToSame.2.1 72 = .ok (.getfield 22, 3) := by decide +kernel
theorem d_N_narrowToSame_75 : decode M_N_narrowToSame.2.1 75 = .ok (.aload_n 0, 1) := by decide +kernel
theorem d_N_narrowToSame_76 : decode M_N_narrowToSame.2.1 76 = .ok (.getfield 30, 3) := by decide +kernel
theorem d_N_narrowToSame_79 : decode M_N_narrowToSame.2.1 79 = .ok (.getfield 54, 3) := by decide +kernel
theorem d_N_narrowToSame_82 : decode M_N_narrowToSame.2.1 82 = .ok (.aload_n 0, 1) := by decide +kernel
theorem d_N_narrowToSame_83 : decode M_N_narrowToSame.2.1 83 = .ok (.getfield 22, 3) := by decide +kernel
theorem d_N_narrowToSame_86 : decode M_N_narrowToSame.2.1 86 = .ok (.iload_n 1, 1) := by decide +kernel
theorem d_N_narrowToSame_87 : decode M_N_narrowToSame.2.1 87 = .ok (.invokevirtual 86, 3) := by decide +kernel
theorem d_N_narrowToSame_90 : decode M_N_narrowToSame.2.1 90 = .ok (.aload_n 0, 1) := by decide +kernel
theorem d_N_narrowToSame_91 : decode M_N_narrowToSame.2.1 91 = .ok (.getfield 9, 3) := by decide +kernel
theorem d_N_narrowToSame_94 : decode M_N_narrowToSame.2.1 94 = .ok (.invokevirtual 92, 3) := by decide +kernel
theorem d_N_narrowToSame_97 : decode M_N_narrowToSame.2.1 97 = .ok (.istore_n 2, 1) := by decide +kernel
theorem d_N_narrowToSame_98 : decode M_N_narrowToSame.2.1 98 = .ok (.iload_n 2, 1) := by decide +kernel
theorem d_N_narrowToSame_99 : decode M_N_narrowToSame.2.1 99 = .ok (.ifCond .eq 7, 3) := by decide +kernel
theorem d_N_narrowToSame_102 : decode M_N_narrowToSame.2.1 102 = .ok (.iconst 0, 1) := by decide +kernel
theorem d_N_narrowToSame_103 : decode M_N_narrowToSame.2.1 103 = .ok (.goto 4, 3) := by decide +kernel
theorem d_N_narrowToSame_106 : decode M_N_narrowToSame.2.1 106 = .ok (.iconst 5, 1) := by decide +kernel
theorem d_N_narrowToSame_107 : decode M_N_narrowToSame.2.1 107 = .ok (.ireturn, 1) := by decide +kernel
theorem d_N_joinHoles_0 : decode M_N_joinHoles.2.1 0 = .ok (.iconst 0, 1) := by decide +kernel
theorem d_N_joinHoles_1 : decode M_N_joinHoles.2.1 1 = .ok (.istore_n 1, 1) := by decide +kernel
theorem d_N_joinHoles_2 : decode M_N_joinHoles.2.1 2 = .ok (.iconst 0, 1) := by decide +kernel
theorem d_N_joinHoles_3 : decode M_N_joinHoles.2.1 3 = .ok (.istore_n 2, 1) := by decide +kernel
theorem d_N_joinHoles_4 : decode M_N_joinHoles.2.1 4 = .ok (.iload_n 2, 1) := by decide +kernel
theorem d_N_joinHoles_5 : decode M_N_joinHoles.2.1 5 = .ok (.aload_n 0, 1) := by decide +kernel
theorem d_N_joinHoles_6 : decode M_N_joinHoles.2.1 6 = .ok (.getfield 30, 3) := by decide +kernel
theorem d_N_joinHoles_9 : decode M_N_joinHoles.2.1 9 = .ok (.getfield 72, 3) := by decide +kernel
theorem d_N_joinHoles_12 : decode M_N_joinHoles.2.1 12 = .ok (.if_icmp .ge 54, 3) := by decide +kernel
theorem d_N_joinHoles_15 : decode M_N_joinHoles.2.1 15 = .ok (.aload_n 0, 1) := by decide +kernel
theorem d_N_joinHoles_16 : decode M_N_joinHoles.2.1 16 = .ok (.getfield 34, 3) := by decide +kernel
theorem d_N_joinHoles_19 : decode M_N_joinHoles.2.1 19 = .ok (.aload_n 0, 1) := by decide +kernel
theorem d_N_joinHoles_20 : decode M_N_joinHoles.2.1 20 = .ok (.getfield 30, 3) := by decide +kernel
theorem d_N_joinHoles_23 : decode M_N_joinHoles.2.1 23 = .ok (.getfield 75, 3) := by decide +kernel
theorem d_N_joinHoles_26 : decode M_N_joinHoles.2.1 26 = .ok (.iload_n 2, 1) := by decide +kernel
theorem d_N_joinHoles_27 : decode M_N_joinHoles.2.1 27 = .ok (.invokestatic 78, 3) := by decide +kernel
theorem d_N_joinHoles_30 : decode M_N_joinHoles.2.1 30 = .ok (.invokevirtual 96, 3) := by decide +kernel
theorem d_N_joinHoles_33 : decode M_N_joinHoles.2.1 33 = .ok (.istore_n 3, 1) := by decide +kernel
theorem d_N_joinHoles_34 : decode M_N_joinHoles.2.1 34 = .ok (.iload_n 3, 1) := by decide +kernel
theorem d_N_joinHoles_35 : decode M_N_joinHoles.2.1 35 = .ok (.iconst (-1), 1) := by decide +kernel
theorem d_N_joinHoles_36 : decode M_N_joinHoles.2.1 36 = .ok (.if_icmp .eq 24, 3) := by decide +kernel
theorem d_N_joinHoles_39 : decode M_N_joinHoles.2.1 39 = .ok (.aload_n 0, 1) := by decide +kernel
theorem d_N_joinHoles_40 : decode M_N_joinHoles.2.1 40 = .ok (.getfield 9, 3) := by decide +kernel
theorem d_N_joinHoles_43 : decode M_N_joinHoles.2.1 43 = .ok (.iload_n 1, 1) := by decide +kernel
theorem d_N_joinHoles_44 : decode M_N_joinHoles.2.1 44 = .ok (.iload_n 2, 1) := by decide +kernel
theorem d_N_joinHoles_45 : decode M_N_joinHoles.2.1 45 = .ok (.invokestatic 82, 3) := by decide +kernel
theorem d_N_joinHoles_48 : decode M_N_joinHoles.2.1 48 = .ok (.aload_n 0, 1) := by decide +kernel
theorem d_N_joinHoles_49 : decode M_N_joinHoles.2.1 49 = .ok (.getfield 15, 3) := by decide +kernel
theorem d_N_joinHoles_52 : decode M_N_joinHoles.2.1 52 = .ok (.iload_n 1, 1) := by decide +kernel
theorem d_N_joinHoles_53 : decode M_N_joinHoles.2.1 53 = .ok (.iload_n 3, 1) := by decide +kernel
theorem d_N_joinHoles_54 : decode M_N_joinHoles.2.1 54 = .ok (.invokestatic 82, 3) := by decide +kernel
theorem d_N_joinHoles_57 : decode M_N_joinHoles.2.1 57 = .ok (.iinc 1 1, 3) := by decide +kernel
theorem d_N_joinHoles_60 : decode M_N_joinHoles.2.1 60 = .ok (.iinc 2 1, 3) := by decide +kernel
theorem d_N_joinHoles_63 : decode M_N_joinHoles.2.1 63 = .ok (.goto (-59), 3) := by decide +kernel
theorem d_N_joinHoles_66 : decode M_N_joinHoles.2.1 66 = .ok (.aload_n 0, 1) := by decide +kernel
theorem d_N_joinHoles_67 : decode M_N_joinHoles.2.1 67 = .ok (.getfield 22, 3) := by decide +kernel
theorem d_N_joinHoles_70 : decode M_N_joinHoles.2.1 70 = .ok (.iload_n 1, 1) := by decide +kernel
theorem d_N_joinHoles_71 : decode M_N_joinHoles.2.1 71 = .ok (.invokevirtual 86, 3) := by decide +kernel
theorem d_N_joinHoles_74 : decode M_N_joinHoles.2.1 74 = .ok (.istore_n 2, 1) := by decide +kernel
theorem d_N_joinHoles_75 : decode M_N_joinHoles.2.1 75 = .ok (.aload_n 0, 1) := by decide +kernel
theorem d_N_joinHoles_76 : decode M_N_joinHoles.2.1 76 = .ok (.getfield 22, 3) := by decide +kernel
theorem d_N_joinHoles_79 : decode M_N_joinHoles.2.1 79 = .ok (.aload_n 0, 1) := by decide +kernel
theorem d_N_joinHoles_80 : decode M_N_joinHoles.2.1 80 = .ok (.getfield 30, 3) := by decide +kernel
theorem d_N_joinHoles_83 : decode M_N_joinHoles.2.1 83 = .ok (.getfield 54, 3) := by decide +kernel
theorem d_N_joinHoles_86 : decode M_N_joinHoles.2.1 86 = .ok (.iload_n 2, 1) := by decide +kernel
theorem d_N_joinHoles_87 : decode M_N_joinHoles.2.1 87 = .ok (.aload_n 0, 1) := by decide +kernel
theorem d_N_joinHoles_88 : decode M_N_joinHoles.2.1 88 = .ok (.getfield 9, 3) := by decide +kernel
theorem d_N_joinHoles_91 : decode M_N_joinHoles.2.1 91 = .ok (.invokevirtual 92, 3) := by decide +kernel
theorem d_N_joinHoles_94 : decode M_N_joinHoles.2.1 94 = .ok (.ifCond .eq 29, 3) := by decide +kernel
theorem d_N_joinHoles_97 : decode M_N_joinHoles.2.1 97 = .ok (.aload_n 0, 1) := by decide +kernel
theorem d_N_joinHoles_98 : decode M_N_joinHoles.2.1 98 = .ok (.getfield 22, 3) := by decide +kernel
theorem d_N_joinHoles_101 : decode M_N_joinHoles.2.1 101 = .ok (.aload_n 0, 1) := by decide +kernel
theorem d_N_joinHoles_102 : decode M_N_joinHoles.2.1 102 = .ok (.getfield 34, 3) := by decide +kernel
theorem d_N_joinHoles_105 : decode M_N_joinHoles.2.1 105 = .ok (.getfield 54, 3) := by decide +kernel
theorem d_N_joinHoles_108 : decode M_N_joinHoles.2.1 108 = .ok (.iload_n 2, 1) := by decide +kernel
theorem d_N_joinHoles_109 : decode M_N_joinHoles.2.1 109 = .ok (.aload_n 0, 1) := by decide +kernel
theorem d_N_joinHoles_110 : decode M_N_joinHoles.2.1 110 = .ok (.getfield 15, 3) := by decide +kernel
theorem d_N_joinHoles_113 : decode M_N_joinHoles.2.1 113 = .ok (.invokevirtual 92, 3) := by decide +kernel
theorem d_N_joinHoles_116 : decode M_N_joinHoles.2.1 116 = .ok (.ifCond .eq 7, 3) := by decide +kernel
theorem d_N_joinHoles_119 : decode M_N_joinHoles.2.1 119 = .ok (.iconst 1, 1) := by decide +kernel
theorem d_N_joinHoles_120 : decode M_N_joinHoles.2.1 120 = .ok (.goto 4, 3) := by decide +kernel
theorem d_N_joinHoles_123 : decode M_N_joinHoles.2.1 123 = .ok (.iconst 0, 1) := by decide +kernel
theorem d_N_joinHoles_124 : decode M_N_joinHoles.2.1 124 = .ok (.istore_n 3, 1) := by decide +kernel
theorem d_N_joinHoles_125 : decode M_N_joinHoles.2.1 125 = .ok (.iload_n 3, 1) := by decide +kernel
theorem d_N_joinHoles_126 : decode M_N_joinHoles.2.1 126 = .ok (.ifCond .eq 7, 3) := by decide +kernel
theorem d_N_joinHoles_129 : decode M_N_joinHoles.2.1 129 = .ok (.iconst 0, 1) := by decide +kernel
theorem d_N_joinHoles_130 : decode M_N_joinHoles.2.1 130 = .ok (.goto 4, 3) := by decide +kernel
theorem d_N_joinHoles_133 : decode M_N_joinHoles.2.1 133 = .ok (.iconst 5, 1) := by decide +kernel
theorem d_N_joinHoles_134 : decode M_N_joinHoles.2.1 134 = .ok (.ireturn, 1) := by decide +kernel
theorem d_N_fillWithTerm_0 : decode M_N_fillWithTerm.2.1 0 = .ok (.aload_n 0, 1) := by decide +kernel
theorem d_N_fillWithTerm_1 : decode M_N_fillWithTerm.2.1 1 = .ok (.getfield 42, 3) := by decide +kernel
theorem d_N_fillWithTerm_4 : decode M_N_fillWithTerm.2.1 4 = .ok (.aload_n 2, 1) := by decide +kernel
theorem d_N_fillWithTerm_5 : decode M_N_fillWithTerm.2.1 5 = .ok (.invokevirtual 99, 3) := by decide +kernel
theorem d_N_fillWithTerm_8 : decode M_N_fillWithTerm.2.1 8 = .ok (.aload_n 0, 1) := by decide +kernel
theorem d_N_fillWithTerm_9 : decode M_N_fillWithTerm.2.1 9 = .ok (.aload_n 1, 1) := by decide +kernel
theorem d_N_fillWithTerm_10 : decode M_N_fillWithTerm.2.1 10 = .ok (.invokevirtual 103, 3) := by decide +kernel
theorem d_N_fillWithTerm_13 : decode M_N_fillWithTerm.2.1 13 = .ok (.istore_n 3, 1) := by decide +kernel
theorem d_N_fillWithTerm_14 : decode M_N_fillWithTerm.2.1 14 = .ok (.iload_n 3, 1) := by decide +kernel
theorem d_N_fillWithTerm_15 : decode M_N_fillWithTerm.2.1 15 = .ok (.ifCond .eq 5, 3) := by decide +kernel
theorem d_N_fillWithTerm_18 : decode M_N_fillWithTerm.2.1 18 = .ok (.iload_n 3, 1) := by decide +kernel
theorem d_N_fillWithTerm_19 : decode M_N_fillWithTerm.2.1 19 = .ok (.ireturn, 1) := by decide +kernel
theorem d_N_fillWithTerm_20 : decode M_N_fillWithTerm.2.1 20 = .ok (.aload_n 0, 1) := by decide +kernel
theorem d_N_fillWithTerm_21 : decode M_N_fillWithTerm.2.1 21 = .ok (.getfield 107, 3) := by decide +kernel
theorem d_N_fillWithTerm_24 : decode M_N_fillWithTerm.2.1 24 = .ok (.bipush 80, 2) := by decide +kernel
theorem d_N_fillWithTerm_26 : decode M_N_fillWithTerm.2.1 26 = .ok (.if_icmp .le 5, 3) := by decide +kernel
theorem d_N_fillWithTerm_29 : decode M_N_fillWithTerm.2.1 29 = .ok (.iconst 4, 1) := by decide +kernel
theorem d_N_fillWithTerm_30 : decode M_N_fillWithTerm.2.1 30 = .ok (.ireturn, 1) := by decide +kernel
theorem d_N_fillWithTerm_31 : decode M_N_fillWithTerm.2.1 31 = .ok (.aload_n 0, 1) := by decide +kernel
theorem d_N_fillWithTerm_32 : decode M_N_fillWithTerm.2.1 32 = .ok (.getfield 18, 3) := by decide +kernel
theorem d_N_fillWithTerm_35 : decode M_N_fillWithTerm.2.1 35 = .ok (.getfield 110, 3) := by decide +kernel
theorem d_N_fillWithTerm_38 : decode M_N_fillWithTerm.2.1 38 = .ok (.istore 4, 2) := by decide +kernel
theorem d_N_fillWithTerm_40 : decode M_N_fillWithTerm.2.1 40 = .ok (.aload_n 0, 1) := by decide +kernel
theorem d_N_fillWithTerm_41 : decode M_N_fillWithTerm.2.1 41 = .ok (.aload_n 1, 1) := by decide +kernel
theorem d_N_fillWithTerm_42 : decode M_N_fillWithTerm.2.1 42 = .ok (.aload_n 2, 1) := by decide +kernel
theorem d_N_fillWithTerm_43 : decode M_N_fillWithTerm.2.1 43 = .ok (.invokevirtual 115, 3) := by decide +kernel
theorem d_N_fillWithTerm_46 : decode M_N_fillWithTerm.2.1 46 = .ok (.aload_n 0, 1) := by decide +kernel
theorem d_N_fillWithTerm_47 : decode M_N_fillWithTerm.2.1 47 = .ok (.getfield 22, 3) := by decide +kernel
theorem d_N_fillWithTerm_50 : decode M_N_fillWithTerm.2.1 50 = .ok (.aload_n 1, 1) := by decide +kernel
theorem d_N_fillWithTerm_51 : decode M_N_fillWithTerm.2.1 51 = .ok (.getfield 54, 3) := by decide +kernel
theorem d_N_fillWithTerm_54 : decode M_N_fillWithTerm.2.1 54 = .ok (.iload 4, 2) := by decide +kernel
theorem d_N_fillWithTerm_56 : decode M_N_fillWithTerm.2.1 56 = .ok (.invokevirtual 119, 3) := by decide +kernel
theorem d_N_fillWithTerm_59 : decode M_N_fillWithTerm.2.1 59 = .ok (.aload_n 0, 1) := by decide +kernel
theorem d_N_fillWithTerm_60 : decode M_N_fillWithTerm.2.1 60 = .ok (.getfield 22, 3) := by decide +kernel
theorem d_N_fillWithTerm_63 : decode M_N_fillWithTerm.2.1 63 = .ok (.invokevirtual 123, 3) := by decide +kernel
theorem d_N_fillWithTerm_66 : decode M_N_fillWithTerm.2.1 66 = .ok (.bipush 80, 2) := by decide +kernel
theorem d_N_fillWithTerm_68 : decode M_N_fillWithTerm.2.1 68 = .ok (.if_icmp .le 7, 3) := by decide +kernel
theorem d_N_fillWithTerm_71 : decode M_N_fillWithTerm.2.1 71 = .ok (.iconst 4, 1) := by decide +kernel
theorem d_N_fillWithTerm_72 : decode M_N_fillWithTerm.2.1 72 = .ok (.goto 4, 3) := by decide +kernel
theorem d_N_fillWithTerm_75 : decode M_N_fillWithTerm.2.1 75 = .ok (.iconst 0, 1) := by decide +kernel
theorem d_N_fillWithTerm_76 : decode M_N_fillWithTerm.2.1 76 = .ok (.ireturn, 1) := by decide +kernel
theorem d_N_admitTerm_0 : decode M_N_admitTerm.2.1 0 = .ok (.aload_n 0, 1) := by decide +kernel
theorem d_N_admitTerm_1 : decode M_N_admitTerm.2.1 1 = .ok (.iconst 0, 1) := by decide +kernel
theorem d_N_admitTerm_2 : decode M_N_admitTerm.2.1 2 = .ok (.putfield 107, 3) := by decide +kernel
theorem d_N_admitTerm_5 : decode M_N_admitTerm.2.1 5 = .ok (.iconst 1, 1) := by decide +kernel
theorem d_N_admitTerm_6 : decode M_N_admitTerm.2.1 6 = .ok (.istore_n 2, 1) := by decide +kernel
theorem d_N_admitTerm_7 : decode M_N_admitTerm.2.1 7 = .ok (.iconst 0, 1) := by decide +kernel
theorem d_N_admitTerm_8 : decode M_N_admitTerm.2.1 8 = .ok (.istore_n 3, 1) := by decide +kernel
theorem d_N_admitTerm_9 : decode M_N_admitTerm.2.1 9 = .ok (.iload_n 3, 1) := by decide +kernel
theorem d_N_admitTerm_10 : decode M_N_admitTerm.2.1 10 = .ok (.ldc 45, 2) := by decide +kernel
theorem d_N_admitTerm_12 : decode M_N_admitTerm.2.1 12 = .ok (.if_icmp .ge 125, 3) := by decide +kernel
theorem d_N_admitTerm_15 : decode M_N_admitTerm.2.1 15 = .ok (.aload_n 0, 1) := by decide +kernel
theorem d_N_admitTerm_16 : decode M_N_admitTerm.2.1 16 = .ok (.dup, 1) := by decide +kernel
theorem d_N_admitTerm_17 : decode M_N_admitTerm.2.1 17 = .ok (.getfield 107, 3) := by decide +kernel
theorem d_N_admitTerm_20 : decode M_N_admitTerm.2.1 20 = .ok (.iconst 1, 1) := by decide +kernel
theorem d_N_admitTerm_21 : decode M_N_admitTerm.2.1 21 = .ok (.iadd, 1) := by decide +kernel
theorem d_N_admitTerm_22 : decode M_N_admitTerm.2.1 22 = .ok (.putfield 107, 3) := by decide +kernel
theorem d_N_admitTerm_25 : decode M_N_admitTerm.2.1 25 = .ok (.iconst 0, 1) := by decide +kernel
theorem d_N_admitTerm_26 : decode M_N_admitTerm.2.1 26 = .ok (.istore 4, 2) := by decide +kernel
theorem d_N_admitTerm_28 : decode M_N_admitTerm.2.1 28 = .ok (.aload_n 0, 1) := by decide +kernel
theorem d_N_admitTerm_29 : decode M_N_admitTerm.2.1 29 = .ok (.getfield 42, 3) := by decide +kernel
theorem d_N_admitTerm_32 : decode M_N_admitTerm.2.1 32 = .ok (.getfield 50, 3) := by decide +kernel
theorem d_N_admitTerm_35 : decode M_N_admitTerm.2.1 35 = .ok (.ifCond .ne 28, 3) := by decide +kernel
theorem d_N_admitTerm_38 : decode M_N_admitTerm.2.1 38 = .ok (.aload_n 0, 1) := by decide +kernel
theorem d_N_admitTerm_39 : decode M_N_admitTerm.2.1 39 = .ok (.aload_n 1, 1) := by decide +kernel
theorem d_N_admitTerm_40 : decode M_N_admitTerm.2.1 40 = .ok (.aload_n 0, 1) := by decide +kernel
theorem d_N_admitTerm_41 : decode M_N_admitTerm.2.1 41 = .ok (.getfield 42, 3) := by decide +kernel
theorem d_N_admitTerm_44 : decode M_N_admitTerm.2.1 44 = .ok (.getfield 54, 3) := by decide +kernel
theorem d_N_admitTerm_47 : decode M_N_admitTerm.2.1 47 = .ok (.invokevirtual 126, 3) := by decide +kernel
theorem d_N_admitTerm_50 : decode M_N_admitTerm.2.1 50 = .ok (.ifCond .eq 7, 3) := by decide +kernel
theorem d_N_admitTerm_53 : decode M_N_admitTerm.2.1 53 = .ok (.iconst 2, 1) := by decide +kernel
theorem d_N_admitTerm_54 : decode M_N_admitTerm.2.1 54 = .ok (.goto 4, 3) := by decide +kernel
theorem d_N_admitTerm_57 : decode M_N_admitTerm.2.1 57 = .ok (.iconst 0, 1) := by decide +kernel
theorem d_N_admitTerm_58 : decode M_N_admitTerm.2.1 58 = .ok (.istore 4, 2) := by decide +kernel
theorem d_N_admitTerm_60 : decode M_N_admitTerm.2.1 60 = .ok (.goto 39, 3) := by decide +kernel
theorem d_N_admitTerm_63 : decode M_N_admitTerm.2.1 63 = .ok (.aload_n 0, 1) := by decide +kernel
theorem d_N_admitTerm_64 : decode M_N_admitTerm.2.1 64 = .ok (.getfield 42, 3) := by decide +kernel
theorem d_N_admitTerm_67 : decode M_N_admitTerm.2.1 67 = .ok (.getfield 50, 3) := by decide +kernel
theorem d_N_admitTerm_70 : decode M_N_admitTerm.2.1 70 = .ok (.iconst 2, 1) := by decide +kernel
theorem d_N_admitTerm_71 : decode M_N_admitTerm.2.1 71 = .ok (.if_icmp .ne 28, 3) := by decide +kernel
theorem d_N_admitTerm_74 : decode M_N_admitTerm.2.1 74 = .ok (.aload_n 0, 1) := by decide +kernel
theorem d_N_admitTerm_75 : decode M_N_admitTerm.2.1 75 = .ok (.getfield 42, 3) := by decide +kernel
theorem d_N_admitTerm_78 : decode M_N_admitTerm.2.1 78 = .ok (.getfield 54, 3) := by decide +kernel
theorem d_N_admitTerm_81 : decode M_N_admitTerm.2.1 81 = .ok (.aload_n 1, 1) := by decide +kernel
theorem d_N_admitTerm_82 : decode M_N_admitTerm.2.1 82 = .ok (.getfield 54, 3) := by decide +kernel
theorem d_N_admitTerm_85 : decode M_N_admitTerm.2.1 85 = .ok (.if_icmp .ne 7, 3) := by decide +kernel
theorem d_N_admitTerm_88 : decode M_N_admitTerm.2.1 88 = .ok (.iconst 3, 1) := by decide +kernel
theorem d_N_admitTerm_89 : decode M_N_admitTerm.2.1 89 = .ok (.goto 8, 3) := by decide +kernel
theorem d_N_admitTerm_92 : decode M_N_admitTerm.2.1 92 = .ok (.aload_n 0, 1) := by decide +kernel
theorem d_N_admitTerm_93 : decode M_N_admitTerm.2.1 93 = .ok (.aload_n 1, 1) := by decide +kernel
theorem d_N_admitTerm_94 : decode M_N_admitTerm.2.1 94 = .ok (.invokevirtual 130, 3) := by decide +kernel
theorem d_N_admitTerm_97 : decode M_N_admitTerm.2.1 97 = .ok (.istore 4, 2) := by decide +kernel
theorem d_N_admitTerm_99 : decode M_N_admitTerm.2.1 99 = .ok (.aload_n 0, 1) := by decide +kernel
theorem d_N_admitTerm_100 : decode M_N_admitTerm.2.1 100 = .ok (.aload_n 0, 1) := by decide +kernel
theorem d_N_admitTerm_101 : decode M_N_admitTerm.2.1 101 = .ok (.getfield 42, 3) := by decide +kernel
theorem d_N_admitTerm_104 : decode M_N_admitTerm.2.1 104 = .ok (.iload_n 2, 1) := by decide +kernel
theorem d_N_admitTerm_105 : decode M_N_admitTerm.2.1 105 = .ok (.invokevirtual 133, 3) := by decide +kernel
theorem d_N_admitTerm_108 : decode M_N_admitTerm.2.1 108 = .ok (.istore_n 2, 1) := by decide +kernel
theorem d_N_admitTerm_109 : decode M_N_admitTerm.2.1 109 = .ok (.iload 4, 2) := by decide +kernel
theorem d_N_admitTerm_111 : decode M_N_admitTerm.2.1 111 = .ok (.ifCond .ne 17, 3) := by decide +kernel
theorem d_N_admitTerm_114 : decode M_N_admitTerm.2.1 114 = .ok (.iload_n 2, 1) := by decide +kernel
theorem d_N_admitTerm_115 : decode M_N_admitTerm.2.1 115 = .ok (.ifCond .eq 13, 3) := by decide +kernel
theorem d_N_admitTerm_118 : decode M_N_admitTerm.2.1 118 = .ok (.aload_n 0, 1) := by decide +kernel
theorem d_N_admitTerm_119 : decode M_N_admitTerm.2.1 119 = .ok (.getfield 42, 3) := by decide +kernel
theorem d_N_admitTerm_122 : decode M_N_admitTerm.2.1 122 = .ok (.invokevirtual 46, 3) := by decide +kernel
theorem d_N_admitTerm_125 : decode M_N_admitTerm.2.1 125 = .ok (.ifCond .ne 6, 3) := by decide +kernel
theorem d_N_admitTerm_128 : decode M_N_admitTerm.2.1 128 = .ok (.iload 4, 2) := by decide +kernel
theorem d_N_admitTerm_130 : decode M_N_admitTerm.2.1 130 = .ok (.ireturn, 1) := by decide +kernel
theorem d_N_admitTerm_131 : decode M_N_admitTerm.2.1 131 = .ok (.iinc 3 1, 3) := by decide +kernel
theorem d_N_admitTerm_134 : decode M_N_admitTerm.2.1 134 = .ok (.goto (-125), 3) := by decide +kernel
theorem d_N_admitTerm_137 : decode M_N_admitTerm.2.1 137 = .ok (.iconst 0, 1) := by decide +kernel
theorem d_N_admitTerm_138 : decode M_N_admitTerm.2.1 138 = .ok (.ireturn, 1) := by decide +kernel
theorem d_N_isForeign_0 : decode M_N_isForeign.2.1 0 = .ok (.iload_n 2, 1) := by decide +kernel
theorem d_N_isForeign_1 : decode M_N_isForeign.2.1 1 = .ok (.aload_n 0, 1) := by decide +kernel
theorem d_N_isForeign_2 : decode M_N_isForeign.2.1 2 = .ok (.getfield 42, 3) := by decide +kernel
theorem d_N_isForeign_5 : decode M_N_isForeign.2.1 5 = .ok (.getfield 142, 3) := by decide +kernel
theorem d_N_isForeign_8 : decode M_N_isForeign.2.1 8 = .ok (.aload_n 1, 1) := by decide +kernel
theorem d_N_isForeign_9 : decode M_N_isForeign.2.1 9 = .ok (.getfield 142, 3) := by decide +kernel
theorem d_N_isForeign_12 : decode M_N_isForeign.2.1 12 = .ok (.isub, 1) := by decide +kernel
theorem d_N_isForeign_13 : decode M_N_isForeign.2.1 13 = .ok (.isub, 1) := by decide +kernel
theorem d_N_isForeign_14 : decode M_N_isForeign.2.1 14 = .ok (.istore_n 3, 1) := by decide +kernel
theorem d_N_isForeign_15 : decode M_N_isForeign.2.1 15 = .ok (.iload_n 3, 1) := by decide +kernel
theorem d_N_isForeign_16 : decode M_N_isForeign.2.1 16 = .ok (.ifCond .lt 16, 3) := by decide +kernel
theorem d_N_isForeign_19 : decode M_N_isForeign.2.1 19 = .ok (.aload_n 1, 1) := by decide +kernel
theorem d_N_isForeign_20 : decode M_N_isForeign.2.1 20 = .ok (.iload_n 3, 1) := by decide +kernel
theorem d_N_isForeign_21 : decode M_N_isForeign.2.1 21 = .ok (.invokevirtual 96, 3) := by decide +kernel
theorem d_N_isForeign_24 : decode M_N_isForeign.2.1 24 = .ok (.iconst (-1), 1) := by decide +kernel
theorem d_N_isForeign_25 : decode M_N_isForeign.2.1 25 = .ok (.if_icmp .ne 7, 3) := by decide +kernel
theorem d_N_isForeign_28 : decode M_N_isForeign.2.1 28 = .ok (.iconst 1, 1) := by decide +kernel
theorem d_N_isForeign_29 : decode M_N_isForeign.2.1 29 = .ok (.goto 4, 3) := by decide +kernel
theorem d_N_isForeign_32 : decode M_N_isForeign.2.1 32 = .ok (.iconst 0, 1) := by decide +kernel
theorem d_N_isForeign_33 : decode M_N_isForeign.2.1 33 = .ok (.ireturn, 1) := by decide +kernel
theorem d_N_dropForeign_0 : decode M_N_dropForeign.2.1 0 = .ok (.iconst 0, 1) := by decide +kernel
theorem d_N_dropForeign_1 : decode M_N_dropForeign.2.1 1 = .ok (.istore_n 2, 1) := by decide +kernel
theorem d_N_dropForeign_2 : decode M_N_dropForeign.2.1 2 = .ok (.iconst 0, 1) := by decide +kernel
theorem d_N_dropForeign_3 : decode M_N_dropForeign.2.1 3 = .ok (.istore_n 3, 1) := by decide +kernel
theorem d_N_dropForeign_4 : decode M_N_dropForeign.2.1 4 = .ok (.iload_n 3, 1) := by decide +kernel
theorem d_N_dropForeign_5 : decode M_N_dropForeign.2.1 5 = .ok (.aload_n 0, 1) := by decide +kernel
theorem d_N_dropForeign_6 : decode M_N_dropForeign.2.1 6 = .ok (.getfield 42, 3) := by decide +kernel
theorem d_N_dropForeign_9 : decode M_N_dropForeign.2.1 9 = .ok (.getfield 72, 3) := by decide +kernel
theorem d_N_dropForeign_12 : decode M_N_dropForeign.2.1 12 = .ok (.if_icmp .ge 40, 3) := by decide +kernel
theorem d_N_dropForeign_15 : decode M_N_dropForeign.2.1 15 = .ok (.aload_n 0, 1) := by decide +kernel
theorem d_N_dropForeign_16 : decode M_N_dropForeign.2.1 16 = .ok (.aload_n 1, 1) := by decide +kernel
theorem d_N_dropForeign_17 : decode M_N_dropForeign.2.1 17 = .ok (.aload_n 0, 1) := by decide +kernel
theorem d_N_dropForeign_18 : decode M_N_dropForeign.2.1 18 = .ok (.getfield 42, 3) := by decide +kernel
theorem d_N_dropForeign_21 : decode M_N_dropForeign.2.1 21 = .ok (.getfield 75, 3) := by decide +kernel
theorem d_N_dropForeign_24 : decode M_N_dropForeign.2.1 24 = .ok (.iload_n 3, 1) := by decide +kernel
theorem d_N_dropForeign_25 : decode M_N_dropForeign.2.1 25 = .ok (.invokestatic 78, 3) := by decide +kernel
theorem d_N_dropForeign_28 : decode M_N_dropForeign.2.1 28 = .ok (.invokevirtual 126, 3) := by decide +kernel
theorem d_N_dropForeign_31 : decode M_N_dropForeign.2.1 31 = .ok (.ifCond .ne 15, 3) := by decide +kernel
theorem d_N_dropForeign_34 : decode M_N_dropForeign.2.1 34 = .ok (.aload_n 0, 1) := by decide +kernel
theorem d_N_dropForeign_35 : decode M_N_dropForeign.2.1 35 = .ok (.getfield 9, 3) := by decide +kernel
theorem d_N_dropForeign_38 : decode M_N_dropForeign.2.1 38 = .ok (.iload_n 2, 1) := by decide +kernel
theorem d_N_dropForeign_39 : decode M_N_dropForeign.2.1 39 = .ok (.iload_n 3, 1) := by decide +kernel
theorem d_N_dropForeign_40 : decode M_N_dropForeign.2.1 40 = .ok (.invokestatic 82, 3) := by decide +kernel
theorem d_N_dropForeign_43 : decode M_N_dropForeign.2.1 43 = .ok (.iinc 2 1, 3) := by decide +kernel
theorem d_N_dropForeign_46 : decode M_N_dropForeign.2.1 46 = .ok (.iinc 3 1, 3) := by decide +kernel
theorem d_N_dropForeign_49 : decode M_N_dropForeign.2.1 49 = .ok (.goto (-45), 3) := by decide +kernel
theorem d_N_dropForeign_52 : decode M_N_dropForeign.2.1 52 = .ok (.iload_n 2, 1) := by decide +kernel
theorem d_N_dropForeign_53 : decode M_N_dropForeign.2.1 53 = .ok (.aload_n 0, 1) := by decide +kernel
theorem d_N_dropForeign_54 : decode M_N_dropForeign.2.1 54 = .ok (.getfield 42, 3) := by decide +kernel
theorem d_N_dropForeign_57 : decode M_N_dropForeign.2.1 57 = .ok (.getfield 72, 3) := by decide +kernel
theorem d_N_dropForeign_60 : decode M_N_dropForeign.2.1 60 = .ok (.if_icmp .ne 5, 3) := by decide +kernel
theorem d_N_dropForeign_63 : decode M_N_dropForeign.2.1 63 = .ok (.iconst 0, 1) := by decide +kernel
theorem d_N_dropForeign_64 : decode M_N_dropForeign.2.1 64 = .ok (.ireturn, 1) := by decide +kernel
theorem d_N_dropForeign_65 : decode M_N_dropForeign.2.1 65 = .ok (.aload_n 0, 1) := by decide +kernel
theorem d_N_dropForeign_66 : decode M_N_dropForeign.2.1 66 = .ok (.getfield 22, 3) := by decide +kernel
theorem d_N_dropForeign_69 : decode M_N_dropForeign.2.1 69 = .ok (.aload_n 0, 1) := by decide +kernel
theorem d_N_dropForeign_70 : decode M_N_dropForeign.2.1 70 = .ok (.getfield 42, 3) := by decide +kernel
theorem d_N_dropForeign_73 : decode M_N_dropForeign.2.1 73 = .ok (.getfield 54, 3) := by decide +kernel
theorem d_N_dropForeign_76 : decode M_N_dropForeign.2.1 76 = .ok (.aload_n 0, 1) := by decide +kernel
theorem d_N_dropForeign_77 : decode M_N_dropForeign.2.1 77 = .ok (.getfield 22, 3) := by decide +kernel
theorem d_N_dropForeign_80 : decode M_N_dropForeign.2.1 80 = .ok (.iload_n 2, 1) := by decide +kernel
theorem d_N_dropForeign_81 : decode M_N_dropForeign.2.1 81 = .ok (.invokevirtual 86, 3) := by decide +kernel
theorem d_N_dropForeign_84 : decode M_N_dropForeign.2.1 84 = .ok (.aload_n 0, 1) := by decide +kernel
theorem d_N_dropForeign_85 : decode M_N_dropForeign.2.1 85 = .ok (.getfield 9, 3) := by decide +kernel
theorem d_N_dropForeign_88 : decode M_N_dropForeign.2.1 88 = .ok (.invokevirtual 92, 3) := by decide +kernel
theorem d_N_dropForeign_91 : decode M_N_dropForeign.2.1 91 = .ok (.istore_n 3, 1) := by decide +kernel
theorem d_N_dropForeign_92 : decode M_N_dropForeign.2.1 92 = .ok (.iload_n 3, 1) := by decide +kernel
theorem d_N_dropForeign_93 : decode M_N_dropForeign.2.1 93 = .ok (.ifCond .eq 7, 3) := by decide +kernel
theorem d_N_dropForeign_96 : decode M_N_dropForeign.2.1 96 = .ok (.iconst 0, 1) := by decide +kernel
theorem d_N_dropForeign_97 : decode M_N_dropForeign.2.1 97 = .ok (.goto 4, 3) := by decide +kernel
theorem d_N_dropForeign_100 : decode M_N_dropForeign.2.1 100 = .ok (.iconst 5, 1) := by decide +kernel
theorem d_N_dropForeign_101 : decode M_N_dropForeign.2.1 101 = .ok (.ireturn, 1) := by decide +kernel
theorem d_N_dueAfter_0 : decode M_N_dueAfter.2.1 0 = .ok (.aload_n 1, 1) := by decide +kernel
theorem d_N_dueAfter_1 : decode M_N_dueAfter.2.1 1 = .ok (.getfield 50, 3) := by decide +kernel
theorem d_N_dueAfter_4 : decode M_N_dueAfter.2.1 4 = .ok (.iconst 1, 1) := by decide +kernel
theorem d_N_dueAfter_5 : decode M_N_dueAfter.2.1 5 = .ok (.if_icmp .ne 17, 3) := by decide +kernel
theorem d_N_dueAfter_8 : decode M_N_dueAfter.2.1 8 = .ok (.aload_n 0, 1) := by decide +kernel
theorem d_N_dueAfter_9 : decode M_N_dueAfter.2.1 9 = .ok (.getfield 26, 3) := by decide +kernel
theorem d_N_dueAfter_12 : decode M_N_dueAfter.2.1 12 = .ok (.aload_n 1, 1) := by decide +kernel
theorem d_N_dueAfter_13 : decode M_N_dueAfter.2.1 13 = .ok (.getfield 54, 3) := by decide +kernel
theorem d_N_dueAfter_16 : decode M_N_dueAfter.2.1 16 = .ok (.invokevirtual 137, 3) := by decide +kernel
theorem d_N_dueAfter_19 : decode M_N_dueAfter.2.1 19 = .ok (.goto 4, 3) := by decide +kernel
theorem d_N_dueAfter_22 : decode M_N_dueAfter.2.1 22 = .ok (.iconst 0, 1) := by decide +kernel
theorem d_N_dueAfter_23 : decode M_N_dueAfter.2.1 23 = .ok (.istore_n 3, 1) := by decide +kernel
theorem d_N_dueAfter_24 : decode M_N_dueAfter.2.1 24 = .ok (.iload_n 2, 1) := by decide +kernel
theorem d_N_dueAfter_25 : decode M_N_dueAfter.2.1 25 = .ok (.iconst 1, 1) := by decide +kernel
theorem d_N_dueAfter_26 : decode M_N_dueAfter.2.1 26 = .ok (.isub, 1) := by decide +kernel
theorem d_N_dueAfter_27 : decode M_N_dueAfter.2.1 27 = .ok (.iload_n 3, 1) := by decide +kernel
theorem d_N_dueAfter_28 : decode M_N_dueAfter.2.1 28 = .ok (.iadd, 1) := by decide +kernel
theorem d_N_dueAfter_29 : decode M_N_dueAfter.2.1 29 = .ok (.ireturn, 1) := by decide +kernel
theorem d_N_copyTerm_0 : decode M_N_copyTerm.2.1 0 = .ok (.iconst 1, 1) := by decide +kernel
theorem d_N_copyTerm_1 : decode M_N_copyTerm.2.1 1 = .ok (.istore_n 3, 1) := by decide +kernel
theorem d_N_copyTerm_2 : decode M_N_copyTerm.2.1 2 = .ok (.iconst 0, 1) := by decide +kernel
theorem d_N_copyTerm_3 : decode M_N_copyTerm.2.1 3 = .ok (.istore 4, 2) := by decide +kernel
theorem d_N_copyTerm_5 : decode M_N_copyTerm.2.1 5 = .ok (.iload 4, 2) := by decide +kernel
theorem d_N_copyTerm_7 : decode M_N_copyTerm.2.1 7 = .ok (.ldc 45, 2) := by decide +kernel
theorem d_N_copyTerm_9 : decode M_N_copyTerm.2.1 9 = .ok (.if_icmp .ge 34, 3) := by decide +kernel
theorem d_N_copyTerm_12 : decode M_N_copyTerm.2.1 12 = .ok (.aload_n 0, 1) := by decide +kernel
theorem d_N_copyTerm_13 : decode M_N_copyTerm.2.1 13 = .ok (.aload_n 1, 1) := by decide +kernel
theorem d_N_copyTerm_14 : decode M_N_copyTerm.2.1 14 = .ok (.aload_n 2, 1) := by decide +kernel
theorem d_N_copyTerm_15 : decode M_N_copyTerm.2.1 15 = .ok (.invokevirtual 145, 3) := by decide +kernel
theorem d_N_copyTerm_18 : decode M_N_copyTerm.2.1 18 = .ok (.aload_n 0, 1) := by decide +kernel
theorem d_N_copyTerm_19 : decode M_N_copyTerm.2.1 19 = .ok (.aload_n 2, 1) := by decide +kernel
theorem d_N_copyTerm_20 : decode M_N_copyTerm.2.1 20 = .ok (.iload_n 3, 1) := by decide +kernel
theorem d_N_copyTerm_21 : decode M_N_copyTerm.2.1 21 = .ok (.invokevirtual 133, 3) := by decide +kernel
theorem d_N_copyTerm_24 : decode M_N_copyTerm.2.1 24 = .ok (.istore_n 3, 1) := by decide +kernel
theorem d_N_copyTerm_25 : decode M_N_copyTerm.2.1 25 = .ok (.iload_n 3, 1) := by decide +kernel
theorem d_N_copyTerm_26 : decode M_N_copyTerm.2.1 26 = .ok (.ifCond .eq 10, 3) := by decide +kernel
theorem d_N_copyTerm_29 : decode M_N_copyTerm.2.1 29 = .ok (.aload_n 2, 1) := by decide +kernel
theorem d_N_copyTerm_30 : decode M_N_copyTerm.2.1 30 = .ok (.invokevirtual 46, 3) := by decide +kernel
theorem d_N_copyTerm_33 : decode M_N_copyTerm.2.1 33 = .ok (.ifCond .ne 4, 3) := by decide +kernel
theorem d_N_copyTerm_36 : decode M_N_copyTerm.2.1 36 = .ok (.return_, 1) := by decide +kernel
theorem d_N_copyTerm_37 : decode M_N_copyTerm.2.1 37 = .ok (.iinc 4 1, 3) := by decide +kernel
theorem d_N_copyTerm_40 : decode M_N_copyTerm.2.1 40 = .ok (.goto (-35), 3) := by decide +kernel
theorem d_N_copyTerm_43 : decode M_N_copyTerm.2.1 43 = .ok (.return_, 1) := by decide +kernel
theorem d_N_copyHere_0 : decode M_N_copyHere.2.1 0 = .ok (.aload_n 2, 1) := by decide +kernel
theorem d_N_copyHere_1 : decode M_N_copyHere.2.1 1 = .ok (.getfield 142, 3) := by decide +kernel
theorem d_N_copyHere_4 : decode M_N_copyHere.2.1 4 = .ok (.aload_n 1, 1) := by decide +kernel
theorem d_N_copyHere_5 : decode M_N_copyHere.2.1 5 = .ok (.getfield 142, 3) := by decide +kernel
theorem d_N_copyHere_8 : decode M_N_copyHere.2.1 8 = .ok (.isub, 1) := by decide +kernel
theorem d_N_copyHere_9 : decode M_N_copyHere.2.1 9 = .ok (.istore_n 3, 1) := by decide +kernel
theorem d_N_copyHere_10 : decode M_N_copyHere.2.1 10 = .ok (.aload_n 2, 1) := by decide +kernel
theorem d_N_copyHere_11 : decode M_N_copyHere.2.1 11 = .ok (.getfield 50, 3) := by decide +kernel
theorem d_N_copyHere_14 : decode M_N_copyHere.2.1 14 = .ok (.ifCond .ne 16, 3) := by decide +kernel
theorem d_N_copyHere_17 : decode M_N_copyHere.2.1 17 = .ok (.aload_n 0, 1) := by decide +kernel
theorem d_N_copyHere_18 : decode M_N_copyHere.2.1 18 = .ok (.aload_n 1, 1) := by decide +kernel
theorem d_N_copyHere_19 : decode M_N_copyHere.2.1 19 = .ok (.aload_n 2, 1) := by decide +kernel
theorem d_N_copyHere_20 : decode M_N_copyHere.2.1 20 = .ok (.getfield 54, 3) := by decide +kernel
theorem d_N_copyHere_23 : decode M_N_copyHere.2.1 23 = .ok (.iload_n 3, 1) := by decide +kernel
theorem d_N_copyHere_24 : decode M_N_copyHere.2.1 24 = .ok (.invokevirtual 148, 3) := by decide +kernel
theorem d_N_copyHere_27 : decode M_N_copyHere.2.1 27 = .ok (.goto 7, 3) := by decide +kernel
theorem d_N_copyHere_30 : decode M_N_copyHere.2.1 30 = .ok (.aload_n 2, 1) := by decide +kernel
theorem d_N_copyHere_31 : decode M_N_copyHere.2.1 31 = .ok (.getfield 54, 3) := by decide +kernel
theorem d_N_copyHere_34 : decode M_N_copyHere.2.1 34 = .ok (.istore 4, 2) := by decide +kernel
theorem d_N_copyHere_36 : decode M_N_copyHere.2.1 36 = .ok (.aload_n 0, 1) := by decide +kernel
theorem d_N_copyHere_37 : decode M_N_copyHere.2.1 37 = .ok (.getfield 18, 3) := by decide +kernel
theorem d_N_copyHere_40 : decode M_N_copyHere.2.1 40 = .ok (.aload_n 2, 1) := by decide +kernel
theorem d_N_copyHere_41 : decode M_N_copyHere.2.1 41 = .ok (.getfield 50, 3) := by decide +kernel
theorem d_N_copyHere_44 : decode M_N_copyHere.2.1 44 = .ok (.iload 4, 2) := by decide +kernel
theorem d_N_copyHere_46 : decode M_N_copyHere.2.1 46 = .ok (.invokestatic 152, 3) := by decide +kernel
theorem d_N_copyHere_49 : decode M_N_copyHere.2.1 49 = .ok (.iload_n 3, 1) := by decide +kernel
theorem d_N_copyHere_50 : decode M_N_copyHere.2.1 50 = .ok (.invokevirtual 156, 3) := by decide +kernel
theorem d_N_copyHere_53 : decode M_N_copyHere.2.1 53 = .ok (.iconst 0, 1) := by decide +kernel
theorem d_N_copyHere_54 : decode M_N_copyHere.2.1 54 = .ok (.istore 5, 2) := by decide +kernel
theorem d_N_copyHere_56 : decode M_N_copyHere.2.1 56 = .ok (.iload 5, 2) := by decide +kernel
theorem d_N_copyHere_58 : decode M_N_copyHere.2.1 58 = .ok (.aload_n 2, 1) := by decide +kernel
theorem d_N_copyHere_59 : decode M_N_copyHere.2.1 59 = .ok (.getfield 72, 3) := by decide +kernel
theorem d_N_copyHere_62 : decode M_N_copyHere.2.1 62 = .ok (.if_icmp .ge 40, 3) := by decide +kernel
theorem d_N_copyHere_65 : decode M_N_copyHere.2.1 65 = .ok (.aload_n 0, 1) := by decide +kernel
theorem d_N_copyHere_66 : decode M_N_copyHere.2.1 66 = .ok (.aload_n 1, 1) := by decide +kernel
theorem d_N_copyHere_67 : decode M_N_copyHere.2.1 67 = .ok (.aload_n 2, 1) := by decide +kernel
theorem d_N_copyHere_68 : decode M_N_copyHere.2.1 68 = .ok (.getfield 75, 3) := by decide +kernel
theorem d_N_copyHere_71 : decode M_N_copyHere.2.1 71 = .ok (.iload 5, 2) := by decide +kernel
theorem d_N_copyHere_73 : decode M_N_copyHere.2.1 73 = .ok (.invokestatic 78, 3) := by decide +kernel
theorem d_N_copyHere_76 : decode M_N_copyHere.2.1 76 = .ok (.iload_n 3, 1) := by decide +kernel
theorem d_N_copyHere_77 : decode M_N_copyHere.2.1 77 = .ok (.invokevirtual 148, 3) := by decide +kernel
theorem d_N_copyHere_80 : decode M_N_copyHere.2.1 80 = .ok (.istore 6, 2) := by decide +kernel
theorem d_N_copyHere_82 : decode M_N_copyHere.2.1 82 = .ok (.aload_n 0, 1) := by decide +kernel
theorem d_N_copyHere_83 : decode M_N_copyHere.2.1 83 = .ok (.getfield 18, 3) := by decide +kernel
theorem d_N_copyHere_86 : decode M_N_copyHere.2.1 86 = .ok (.iconst 0, 1) := by decide +kernel
theorem d_N_copyHere_87 : decode M_N_copyHere.2.1 87 = .ok (.iload 6, 2) := by decide +kernel
theorem d_N_copyHere_89 : decode M_N_copyHere.2.1 89 = .ok (.invokestatic 152, 3) := by decide +kernel
theorem d_N_copyHere_92 : decode M_N_copyHere.2.1 92 = .ok (.iload_n 3, 1) := by decide +kernel
theorem d_N_copyHere_93 : decode M_N_copyHere.2.1 93 = .ok (.invokevirtual 156, 3) := by decide +kernel
theorem d_N_copyHere_96 : decode M_N_copyHere.2.1 96 = .ok (.iinc 5 1, 3) := by decide +kernel
theorem d_N_copyHere_99 : decode M_N_copyHere.2.1 99 = .ok (.goto (-43), 3) := by decide +kernel
theorem d_N_copyHere_102 : decode M_N_copyHere.2.1 102 = .ok (.return_, 1) := by decide +kernel
theorem d_N_inside_0 : decode M_N_inside.2.1 0 = .ok (.iload_n 2, 1) := by decide +kernel
theorem d_N_inside_1 : decode M_N_inside.2.1 1 = .ok (.iload_n 3, 1) := by decide +kernel
theorem d_N_inside_2 : decode M_N_inside.2.1 2 = .ok (.if_icmp .ge 7, 3) := by decide +kernel
theorem d_N_inside_5 : decode M_N_inside.2.1 5 = .ok (.iload_n 2, 1) := by decide +kernel
theorem d_N_inside_6 : decode M_N_inside.2.1 6 = .ok (.goto 12, 3) := by decide +kernel
theorem d_N_inside_9 : decode M_N_inside.2.1 9 = .ok (.aload_n 1, 1) := by decide +kernel
theorem d_N_inside_10 : decode M_N_inside.2.1 10 = .ok (.iload_n 2, 1) := by decide +kernel
theorem d_N_inside_11 : decode M_N_inside.2.1 11 = .ok (.iload_n 3, 1) := by decide +kernel
theorem d_N_inside_12 : decode M_N_inside.2.1 12 = .ok (.isub, 1) := by decide +kernel
theorem d_N_inside_13 : decode M_N_inside.2.1 13 = .ok (.invokevirtual 96, 3) := by decide +kernel
theorem d_N_inside_16 : decode M_N_inside.2.1 16 = .ok (.iload_n 3, 1) := by decide +kernel
theorem d_N_inside_17 : decode M_N_inside.2.1 17 = .ok (.iadd, 1) := by decide +kernel
theorem d_N_inside_18 : decode M_N_inside.2.1 18 = .ok (.ireturn, 1) := by decide +kernel
