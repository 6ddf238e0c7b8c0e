theorem d_O_init_0 : decode M_O_init.2.1 0 = .ok (.aload_n 0, 1) := by decide +kernel
theorem d_O_init_1 : decode M_O_init.2.1 1 = .ok (.invokespecial 3, 3) := by decide +kernel
theorem d_O_init_4 : decode M_O_init.2.1 4 = .ok (.aload_n 0, 1) := by decide +kernel
theorem d_O_init_5 : decode M_O_init.2.1 5 = .ok (.bipush 16, 2) := by decide +kernel
theorem d_O_init_7 : decode M_O_init.2.1 7 = .ok (.newarray .int, 2) := by decide +kernel
theorem d_O_init_9 : decode M_O_init.2.1 9 = .ok (.putfield 9, 3) := by decide +kernel
theorem d_O_init_12 : decode M_O_init.2.1 12 = .ok (.aload_n 0, 1) := by decide +kernel
theorem d_O_init_13 : decode M_O_init.2.1 13 = .ok (.bipush 48, 2) := by decide +kernel
theorem d_O_init_15 : decode M_O_init.2.1 15 = .ok (.newarray .int, 2) := by decide +kernel
theorem d_O_init_17 : decode M_O_init.2.1 17 = .ok (.putfield 15, 3) := by decide +kernel
theorem d_O_init_20 : decode M_O_init.2.1 20 = .ok (.return_, 1) := by decide +kernel
theorem d_O_tell_0 : decode M_O_tell.2.1 0 = .ok (.aload_n 0, 1) := by decide +kernel
theorem d_O_tell_1 : decode M_O_tell.2.1 1 = .ok (.getfield 18, 3) := by decide +kernel
theorem d_O_tell_4 : decode M_O_tell.2.1 4 = .ok (.bipush 16, 2) := by decide +kernel
theorem d_O_tell_6 : decode M_O_tell.2.1 6 = .ok (.if_icmp .lt 5, 3) := by decide +kernel
theorem d_O_tell_9 : decode M_O_tell.2.1 9 = .ok (.iconst (-1), 1) := by decide +kernel
theorem d_O_tell_10 : decode M_O_tell.2.1 10 = .ok (.ireturn, 1) := by decide +kernel
theorem d_O_tell_11 : decode M_O_tell.2.1 11 = .ok (.aload_n 0, 1) := by decide +kernel
theorem d_O_tell_12 : decode M_O_tell.2.1 12 = .ok (.getfield 18, 3) := by decide +kernel
theorem d_O_tell_15 : decode M_O_tell.2.1 15 = .ok (.istore 4, 2) := by decide +kernel
theorem d_O_tell_17 : decode M_O_tell.2.1 17 = .ok (.aload_n 0, 1) := by decide +kernel
theorem d_O_tell_18 : decode M_O_tell.2.1 18 = .ok (.dup, 1) := by decide +kernel
theorem d_O_tell_19 : decode M_O_tell.2.1 19 = .ok (.getfield 18, 3) := by decide +kernel
theorem d_O_tell_22 : decode M_O_tell.2.1 22 = .ok (.iconst 1, 1) := by decide +kernel
theorem d_O_tell_23 : decode M_O_tell.2.1 23 = .ok (.iadd, 1) := by decide +kernel
theorem d_O_tell_24 : decode M_O_tell.2.1 24 = .ok (.putfield 18, 3) := by decide +kernel
theorem d_O_tell_27 : decode M_O_tell.2.1 27 = .ok (.aload_n 0, 1) := by decide +kernel
theorem d_O_tell_28 : decode M_O_tell.2.1 28 = .ok (.iload 4, 2) := by decide +kernel
theorem d_O_tell_30 : decode M_O_tell.2.1 30 = .ok (.iload_n 1, 1) := by decide +kernel
theorem d_O_tell_31 : decode M_O_tell.2.1 31 = .ok (.invokevirtual 22, 3) := by decide +kernel
theorem d_O_tell_34 : decode M_O_tell.2.1 34 = .ok (.aload_n 0, 1) := by decide +kernel
theorem d_O_tell_35 : decode M_O_tell.2.1 35 = .ok (.iload 4, 2) := by decide +kernel
theorem d_O_tell_37 : decode M_O_tell.2.1 37 = .ok (.iload_n 2, 1) := by decide +kernel
theorem d_O_tell_38 : decode M_O_tell.2.1 38 = .ok (.invokevirtual 22, 3) := by decide +kernel
theorem d_O_tell_41 : decode M_O_tell.2.1 41 = .ok (.aload_n 0, 1) := by decide +kernel
theorem d_O_tell_42 : decode M_O_tell.2.1 42 = .ok (.iload 4, 2) := by decide +kernel
theorem d_O_tell_44 : decode M_O_tell.2.1 44 = .ok (.iload_n 3, 1) := by decide +kernel
theorem d_O_tell_45 : decode M_O_tell.2.1 45 = .ok (.invokevirtual 22, 3) := by decide +kernel
theorem d_O_tell_48 : decode M_O_tell.2.1 48 = .ok (.iload 4, 2) := by decide +kernel
theorem d_O_tell_50 : decode M_O_tell.2.1 50 = .ok (.ireturn, 1) := by decide +kernel
theorem d_O_addArgument_0 : decode M_O_addArgument.2.1 0 = .ok (.iload_n 2, 1) := by decide +kernel
theorem d_O_addArgument_1 : decode M_O_addArgument.2.1 1 = .ok (.iconst (-1), 1) := by decide +kernel
theorem d_O_addArgument_2 : decode M_O_addArgument.2.1 2 = .ok (.if_icmp .ne 4, 3) := by decide +kernel
theorem d_O_addArgument_5 : decode M_O_addArgument.2.1 5 = .ok (.return_, 1) := by decide +kernel
theorem d_O_addArgument_6 : decode M_O_addArgument.2.1 6 = .ok (.aload_n 0, 1) := by decide +kernel
theorem d_O_addArgument_7 : decode M_O_addArgument.2.1 7 = .ok (.iload_n 1, 1) := by decide +kernel
theorem d_O_addArgument_8 : decode M_O_addArgument.2.1 8 = .ok (.invokevirtual 26, 3) := by decide +kernel
theorem d_O_addArgument_11 : decode M_O_addArgument.2.1 11 = .ok (.istore_n 3, 1) := by decide +kernel
theorem d_O_addArgument_12 : decode M_O_addArgument.2.1 12 = .ok (.aload_n 0, 1) := by decide +kernel
theorem d_O_addArgument_13 : decode M_O_addArgument.2.1 13 = .ok (.getfield 15, 3) := by decide +kernel
theorem d_O_addArgument_16 : decode M_O_addArgument.2.1 16 = .ok (.iload_n 1, 1) := by decide +kernel
theorem d_O_addArgument_17 : decode M_O_addArgument.2.1 17 = .ok (.iconst 3, 1) := by decide +kernel
theorem d_O_addArgument_18 : decode M_O_addArgument.2.1 18 = .ok (.imul, 1) := by decide +kernel
theorem d_O_addArgument_19 : decode M_O_addArgument.2.1 19 = .ok (.iload_n 3, 1) := by decide +kernel
theorem d_O_addArgument_20 : decode M_O_addArgument.2.1 20 = .ok (.iadd, 1) := by decide +kernel
theorem d_O_addArgument_21 : decode M_O_addArgument.2.1 21 = .ok (.iload_n 2, 1) := by decide +kernel
theorem d_O_addArgument_22 : decode M_O_addArgument.2.1 22 = .ok (.invokestatic 30, 3) := by decide +kernel
theorem d_O_addArgument_25 : decode M_O_addArgument.2.1 25 = .ok (.aload_n 0, 1) := by decide +kernel
theorem d_O_addArgument_26 : decode M_O_addArgument.2.1 26 = .ok (.getfield 9, 3) := by decide +kernel
theorem d_O_addArgument_29 : decode M_O_addArgument.2.1 29 = .ok (.iload_n 1, 1) := by decide +kernel
theorem d_O_addArgument_30 : decode M_O_addArgument.2.1 30 = .ok (.iload_n 3, 1) := by decide +kernel
theorem d_O_addArgument_31 : decode M_O_addArgument.2.1 31 = .ok (.iconst 1, 1) := by decide +kernel
theorem d_O_addArgument_32 : decode M_O_addArgument.2.1 32 = .ok (.iadd, 1) := by decide +kernel
theorem d_O_addArgument_33 : decode M_O_addArgument.2.1 33 = .ok (.invokestatic 30, 3) := by decide +kernel
theorem d_O_addArgument_36 : decode M_O_addArgument.2.1 36 = .ok (.return_, 1) := by decide +kernel
theorem d_O_arityOf_0 : decode M_O_arityOf.2.1 0 = .ok (.aload_n 0, 1) := by decide +kernel
theorem d_O_arityOf_1 : decode M_O_arityOf.2.1 1 = .ok (.getfield 9, 3) := by decide +kernel
theorem d_O_arityOf_4 : decode M_O_arityOf.2.1 4 = .ok (.iload_n 1, 1) := by decide +kernel
theorem d_O_arityOf_5 : decode M_O_arityOf.2.1 5 = .ok (.invokestatic 34, 3) := by decide +kernel
theorem d_O_arityOf_8 : decode M_O_arityOf.2.1 8 = .ok (.ireturn, 1) := by decide +kernel
theorem d_O_mostBound_0 : decode M_O_mostBound.2.1 0 = .ok (.iconst 0, 1) := by decide +kernel
theorem d_O_mostBound_1 : decode M_O_mostBound.2.1 1 = .ok (.istore_n 2, 1) := by decide +kernel
theorem d_O_mostBound_2 : decode M_O_mostBound.2.1 2 = .ok (.iconst 0, 1) := by decide +kernel
theorem d_O_mostBound_3 : decode M_O_mostBound.2.1 3 = .ok (.istore_n 3, 1) := by decide +kernel
theorem d_O_mostBound_4 : decode M_O_mostBound.2.1 4 = .ok (.iload_n 3, 1) := by decide +kernel
theorem d_O_mostBound_5 : decode M_O_mostBound.2.1 5 = .ok (.aload_n 0, 1) := by decide +kernel
theorem d_O_mostBound_6 : decode M_O_mostBound.2.1 6 = .ok (.iload_n 1, 1) := by decide +kernel
theorem d_O_mostBound_7 : decode M_O_mostBound.2.1 7 = .ok (.invokevirtual 26, 3) := by decide +kernel
theorem d_O_mostBound_10 : decode M_O_mostBound.2.1 10 = .ok (.if_icmp .ge 20, 3) := by decide +kernel
theorem d_O_mostBound_13 : decode M_O_mostBound.2.1 13 = .ok (.iload_n 2, 1) := by decide +kernel
theorem d_O_mostBound_14 : decode M_O_mostBound.2.1 14 = .ok (.aload_n 0, 1) := by decide +kernel
theorem d_O_mostBound_15 : decode M_O_mostBound.2.1 15 = .ok (.iload_n 1, 1) := by decide +kernel
theorem d_O_mostBound_16 : decode M_O_mostBound.2.1 16 = .ok (.iload_n 3, 1) := by decide +kernel
theorem d_O_mostBound_17 : decode M_O_mostBound.2.1 17 = .ok (.invokevirtual 38, 3) := by decide +kernel
theorem d_O_mostBound_20 : decode M_O_mostBound.2.1 20 = .ok (.invokestatic 42, 3) := by decide +kernel
theorem d_O_mostBound_23 : decode M_O_mostBound.2.1 23 = .ok (.istore_n 2, 1) := by decide +kernel
theorem d_O_mostBound_24 : decode M_O_mostBound.2.1 24 = .ok (.iinc 3 1, 3) := by decide +kernel
theorem d_O_mostBound_27 : decode M_O_mostBound.2.1 27 = .ok (.goto (-23), 3) := by decide +kernel
theorem d_O_mostBound_30 : decode M_O_mostBound.2.1 30 = .ok (.iload_n 2, 1) := by decide +kernel
theorem d_O_mostBound_31 : decode M_O_mostBound.2.1 31 = .ok (.ireturn, 1) := by decide +kernel
theorem d_O_boundBy_0 : decode M_O_boundBy.2.1 0 = .ok (.aload_n 0, 1) := by decide +kernel
theorem d_O_boundBy_1 : decode M_O_boundBy.2.1 1 = .ok (.getfield 15, 3) := by decide +kernel
theorem d_O_boundBy_4 : decode M_O_boundBy.2.1 4 = .ok (.iload_n 1, 1) := by decide +kernel
theorem d_O_boundBy_5 : decode M_O_boundBy.2.1 5 = .ok (.iconst 3, 1) := by decide +kernel
theorem d_O_boundBy_6 : decode M_O_boundBy.2.1 6 = .ok (.imul, 1) := by decide +kernel
theorem d_O_boundBy_7 : decode M_O_boundBy.2.1 7 = .ok (.iload_n 2, 1) := by decide +kernel
theorem d_O_boundBy_8 : decode M_O_boundBy.2.1 8 = .ok (.iadd, 1) := by decide +kernel
theorem d_O_boundBy_9 : decode M_O_boundBy.2.1 9 = .ok (.invokestatic 34, 3) := by decide +kernel
theorem d_O_boundBy_12 : decode M_O_boundBy.2.1 12 = .ok (.ireturn, 1) := by decide +kernel
