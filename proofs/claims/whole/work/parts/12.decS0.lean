theorem d_S_init_0 : decode M_S_init.2.1 0 = .ok (.aload_n 0, 1) := by decide +kernel
theorem d_S_init_1 : decode M_S_init.2.1 1 = .ok (.invokespecial 3, 3) := by decide +kernel
theorem d_S_init_4 : decode M_S_init.2.1 4 = .ok (.aload_n 0, 1) := by decide +kernel
theorem d_S_init_5 : decode M_S_init.2.1 5 = .ok (.bipush 91, 2) := by decide +kernel
theorem d_S_init_7 : decode M_S_init.2.1 7 = .ok (.newarray .int, 2) := by decide +kernel
theorem d_S_init_9 : decode M_S_init.2.1 9 = .ok (.putfield 9, 3) := by decide +kernel
theorem d_S_init_12 : decode M_S_init.2.1 12 = .ok (.aload_n 0, 1) := by decide +kernel
theorem d_S_init_13 : decode M_S_init.2.1 13 = .ok (.aload_n 1, 1) := by decide +kernel
theorem d_S_init_14 : decode M_S_init.2.1 14 = .ok (.putfield 15, 3) := by decide +kernel
theorem d_S_init_17 : decode M_S_init.2.1 17 = .ok (.aload_n 0, 1) := by decide +kernel
theorem d_S_init_18 : decode M_S_init.2.1 18 = .ok (.iload_n 2, 1) := by decide +kernel
theorem d_S_init_19 : decode M_S_init.2.1 19 = .ok (.putfield 19, 3) := by decide +kernel
theorem d_S_init_22 : decode M_S_init.2.1 22 = .ok (.return_, 1) := by decide +kernel
theorem d_S_restart_0 : decode M_S_restart.2.1 0 = .ok (.aload_n 0, 1) := by decide +kernel
theorem d_S_restart_1 : decode M_S_restart.2.1 1 = .ok (.iload_n 1, 1) := by decide +kernel
theorem d_S_restart_2 : decode M_S_restart.2.1 2 = .ok (.putfield 23, 3) := by decide +kernel
theorem d_S_restart_5 : decode M_S_restart.2.1 5 = .ok (.aload_n 0, 1) := by decide +kernel
theorem d_S_restart_6 : decode M_S_restart.2.1 6 = .ok (.iconst 0, 1) := by decide +kernel
theorem d_S_restart_7 : decode M_S_restart.2.1 7 = .ok (.putfield 26, 3) := by decide +kernel
theorem d_S_restart_10 : decode M_S_restart.2.1 10 = .ok (.aload_n 0, 1) := by decide +kernel
theorem d_S_restart_11 : decode M_S_restart.2.1 11 = .ok (.iconst 0, 1) := by decide +kernel
theorem d_S_restart_12 : decode M_S_restart.2.1 12 = .ok (.putfield 29, 3) := by decide +kernel
theorem d_S_restart_15 : decode M_S_restart.2.1 15 = .ok (.aload_n 0, 1) := by decide +kernel
theorem d_S_restart_16 : decode M_S_restart.2.1 16 = .ok (.iconst 0, 1) := by decide +kernel
theorem d_S_restart_17 : decode M_S_restart.2.1 17 = .ok (.putfield 32, 3) := by decide +kernel
theorem d_S_restart_20 : decode M_S_restart.2.1 20 = .ok (.aload_n 0, 1) := by decide +kernel
theorem d_S_restart_21 : decode M_S_restart.2.1 21 = .ok (.getfield 9, 3) := by decide +kernel
theorem d_S_restart_24 : decode M_S_restart.2.1 24 = .ok (.iconst 0, 1) := by decide +kernel
theorem d_S_restart_25 : decode M_S_restart.2.1 25 = .ok (.iconst 0, 1) := by decide +kernel
theorem d_S_restart_26 : decode M_S_restart.2.1 26 = .ok (.invokestatic 35, 3) := by decide +kernel
theorem d_S_restart_29 : decode M_S_restart.2.1 29 = .ok (.aload_n 0, 1) := by decide +kernel
theorem d_S_restart_30 : decode M_S_restart.2.1 30 = .ok (.iconst 1, 1) := by decide +kernel
theorem d_S_restart_31 : decode M_S_restart.2.1 31 = .ok (.putfield 39, 3) := by decide +kernel
theorem d_S_restart_34 : decode M_S_restart.2.1 34 = .ok (.return_, 1) := by decide +kernel
theorem d_S_itemsDue_0 : decode M_S_itemsDue.2.1 0 = .ok (.aload_n 0, 1) := by decide +kernel
theorem d_S_itemsDue_1 : decode M_S_itemsDue.2.1 1 = .ok (.getfield 39, 3) := by decide +kernel
theorem d_S_itemsDue_4 : decode M_S_itemsDue.2.1 4 = .ok (.aload_n 0, 1) := by decide +kernel
theorem d_S_itemsDue_5 : decode M_S_itemsDue.2.1 5 = .ok (.getfield 32, 3) := by decide +kernel
theorem d_S_itemsDue_8 : decode M_S_itemsDue.2.1 8 = .ok (.iadd, 1) := by decide +kernel
theorem d_S_itemsDue_9 : decode M_S_itemsDue.2.1 9 = .ok (.ireturn, 1) := by decide +kernel
theorem d_S_mayTakeVariable_0 : decode M_S_mayTakeVariable.2.1 0 = .ok (.iload_n 1, 1) := by decide +kernel
theorem d_S_mayTakeVariable_1 : decode M_S_mayTakeVariable.2.1 1 = .ok (.ifCond .lt 11, 3) := by decide +kernel
theorem d_S_mayTakeVariable_4 : decode M_S_mayTakeVariable.2.1 4 = .ok (.iload_n 1, 1) := by decide +kernel
theorem d_S_mayTakeVariable_5 : decode M_S_mayTakeVariable.2.1 5 = .ok (.aload_n 0, 1) := by decide +kernel
theorem d_S_mayTakeVariable_6 : decode M_S_mayTakeVariable.2.1 6 = .ok (.invokevirtual 60, 3) := by decide +kernel
theorem d_S_mayTakeVariable_9 : decode M_S_mayTakeVariable.2.1 9 = .ok (.if_icmp .lt 5, 3) := by decide +kernel
theorem d_S_mayTakeVariable_12 : decode M_S_mayTakeVariable.2.1 12 = .ok (.iconst 0, 1) := by decide +kernel
theorem d_S_mayTakeVariable_13 : decode M_S_mayTakeVariable.2.1 13 = .ok (.ireturn, 1) := by decide +kernel
theorem d_S_mayTakeVariable_14 : decode M_S_mayTakeVariable.2.1 14 = .ok (.aload_n 0, 1) := by decide +kernel
theorem d_S_mayTakeVariable_15 : decode M_S_mayTakeVariable.2.1 15 = .ok (.invokevirtual 49, 3) := by decide +kernel
theorem d_S_mayTakeVariable_18 : decode M_S_mayTakeVariable.2.1 18 = .ok (.ifCond .ne 5, 3) := by decide +kernel
theorem d_S_mayTakeVariable_21 : decode M_S_mayTakeVariable.2.1 21 = .ok (.iconst 1, 1) := by decide +kernel
theorem d_S_mayTakeVariable_22 : decode M_S_mayTakeVariable.2.1 22 = .ok (.ireturn, 1) := by decide +kernel
theorem d_S_mayTakeVariable_23 : decode M_S_mayTakeVariable.2.1 23 = .ok (.aload_n 0, 1) := by decide +kernel
theorem d_S_mayTakeVariable_24 : decode M_S_mayTakeVariable.2.1 24 = .ok (.getfield 63, 3) := by decide +kernel
theorem d_S_mayTakeVariable_27 : decode M_S_mayTakeVariable.2.1 27 = .ok (.istore_n 2, 1) := by decide +kernel
theorem d_S_mayTakeVariable_28 : decode M_S_mayTakeVariable.2.1 28 = .ok (.iload_n 2, 1) := by decide +kernel
theorem d_S_mayTakeVariable_29 : decode M_S_mayTakeVariable.2.1 29 = .ok (.aload_n 0, 1) := by decide +kernel
theorem d_S_mayTakeVariable_30 : decode M_S_mayTakeVariable.2.1 30 = .ok (.getfield 26, 3) := by decide +kernel
theorem d_S_mayTakeVariable_33 : decode M_S_mayTakeVariable.2.1 33 = .ok (.if_icmp .ge 31, 3) := by decide +kernel
theorem d_S_mayTakeVariable_36 : decode M_S_mayTakeVariable.2.1 36 = .ok (.aload_n 0, 1) := by decide +kernel
theorem d_S_mayTakeVariable_37 : decode M_S_mayTakeVariable.2.1 37 = .ok (.getfield 15, 3) := by decide +kernel
theorem d_S_mayTakeVariable_40 : decode M_S_mayTakeVariable.2.1 40 = .ok (.aload_n 0, 1) := by decide +kernel
theorem d_S_mayTakeVariable_41 : decode M_S_mayTakeVariable.2.1 41 = .ok (.getfield 19, 3) := by decide +kernel
theorem d_S_mayTakeVariable_44 : decode M_S_mayTakeVariable.2.1 44 = .ok (.iload_n 2, 1) := by decide +kernel
theorem d_S_mayTakeVariable_45 : decode M_S_mayTakeVariable.2.1 45 = .ok (.iadd, 1) := by decide +kernel
theorem d_S_mayTakeVariable_46 : decode M_S_mayTakeVariable.2.1 46 = .ok (.invokevirtual 66, 3) := by decide +kernel
theorem d_S_mayTakeVariable_49 : decode M_S_mayTakeVariable.2.1 49 = .ok (.invokestatic 72, 3) := by decide +kernel
theorem d_S_mayTakeVariable_52 : decode M_S_mayTakeVariable.2.1 52 = .ok (.iload_n 1, 1) := by decide +kernel
theorem d_S_mayTakeVariable_53 : decode M_S_mayTakeVariable.2.1 53 = .ok (.if_icmp .ne 5, 3) := by decide +kernel
theorem d_S_mayTakeVariable_56 : decode M_S_mayTakeVariable.2.1 56 = .ok (.iconst 0, 1) := by decide +kernel
theorem d_S_mayTakeVariable_57 : decode M_S_mayTakeVariable.2.1 57 = .ok (.ireturn, 1) := by decide +kernel
theorem d_S_mayTakeVariable_58 : decode M_S_mayTakeVariable.2.1 58 = .ok (.iinc 2 1, 3) := by decide +kernel
theorem d_S_mayTakeVariable_61 : decode M_S_mayTakeVariable.2.1 61 = .ok (.goto (-33), 3) := by decide +kernel
theorem d_S_mayTakeVariable_64 : decode M_S_mayTakeVariable.2.1 64 = .ok (.iconst 1, 1) := by decide +kernel
theorem d_S_mayTakeVariable_65 : decode M_S_mayTakeVariable.2.1 65 = .ok (.ireturn, 1) := by decide +kernel
theorem d_S_variablesHere_0 : decode M_S_variablesHere.2.1 0 = .ok (.aload_n 0, 1) := by decide +kernel
theorem d_S_variablesHere_1 : decode M_S_variablesHere.2.1 1 = .ok (.getfield 23, 3) := by decide +kernel
theorem d_S_variablesHere_4 : decode M_S_variablesHere.2.1 4 = .ok (.aload_n 0, 1) := by decide +kernel
theorem d_S_variablesHere_5 : decode M_S_variablesHere.2.1 5 = .ok (.invokevirtual 46, 3) := by decide +kernel
theorem d_S_variablesHere_8 : decode M_S_variablesHere.2.1 8 = .ok (.iadd, 1) := by decide +kernel
theorem d_S_variablesHere_9 : decode M_S_variablesHere.2.1 9 = .ok (.ireturn, 1) := by decide +kernel
theorem d_S_boundHere_0 : decode M_S_boundHere.2.1 0 = .ok (.aload_n 0, 1) := by decide +kernel
theorem d_S_boundHere_1 : decode M_S_boundHere.2.1 1 = .ok (.invokevirtual 49, 3) := by decide +kernel
theorem d_S_boundHere_4 : decode M_S_boundHere.2.1 4 = .ok (.ifCond .eq 10, 3) := by decide +kernel
theorem d_S_boundHere_7 : decode M_S_boundHere.2.1 7 = .ok (.aload_n 0, 1) := by decide +kernel
theorem d_S_boundHere_8 : decode M_S_boundHere.2.1 8 = .ok (.getfield 53, 3) := by decide +kernel
theorem d_S_boundHere_11 : decode M_S_boundHere.2.1 11 = .ok (.goto 16, 3) := by decide +kernel
theorem d_S_boundHere_14 : decode M_S_boundHere.2.1 14 = .ok (.aload_n 0, 1) := by decide +kernel
theorem d_S_boundHere_15 : decode M_S_boundHere.2.1 15 = .ok (.getfield 9, 3) := by decide +kernel
theorem d_S_boundHere_18 : decode M_S_boundHere.2.1 18 = .ok (.aload_n 0, 1) := by decide +kernel
theorem d_S_boundHere_19 : decode M_S_boundHere.2.1 19 = .ok (.getfield 39, 3) := by decide +kernel
theorem d_S_boundHere_22 : decode M_S_boundHere.2.1 22 = .ok (.iconst 1, 1) := by decide +kernel
theorem d_S_boundHere_23 : decode M_S_boundHere.2.1 23 = .ok (.isub, 1) := by decide +kernel
theorem d_S_boundHere_24 : decode M_S_boundHere.2.1 24 = .ok (.invokestatic 56, 3) := by decide +kernel
theorem d_S_boundHere_27 : decode M_S_boundHere.2.1 27 = .ok (.ireturn, 1) := by decide +kernel
theorem d_S_isBehindHole_0 : decode M_S_isBehindHole.2.1 0 = .ok (.aload_n 0, 1) := by decide +kernel
theorem d_S_isBehindHole_1 : decode M_S_isBehindHole.2.1 1 = .ok (.getfield 32, 3) := by decide +kernel
theorem d_S_isBehindHole_4 : decode M_S_isBehindHole.2.1 4 = .ok (.ifCond .le 7, 3) := by decide +kernel
theorem d_S_isBehindHole_7 : decode M_S_isBehindHole.2.1 7 = .ok (.iconst 1, 1) := by decide +kernel
theorem d_S_isBehindHole_8 : decode M_S_isBehindHole.2.1 8 = .ok (.goto 4, 3) := by decide +kernel
theorem d_S_isBehindHole_11 : decode M_S_isBehindHole.2.1 11 = .ok (.iconst 0, 1) := by decide +kernel
theorem d_S_isBehindHole_12 : decode M_S_isBehindHole.2.1 12 = .ok (.ireturn, 1) := by decide +kernel
theorem d_S_takeVariable_0 : decode M_S_takeVariable.2.1 0 = .ok (.aload_n 0, 1) := by decide +kernel
theorem d_S_takeVariable_1 : decode M_S_takeVariable.2.1 1 = .ok (.invokevirtual 46, 3) := by decide +kernel
theorem d_S_takeVariable_4 : decode M_S_takeVariable.2.1 4 = .ok (.istore_n 2, 1) := by decide +kernel
theorem d_S_takeVariable_5 : decode M_S_takeVariable.2.1 5 = .ok (.aload_n 0, 1) := by decide +kernel
theorem d_S_takeVariable_6 : decode M_S_takeVariable.2.1 6 = .ok (.invokevirtual 49, 3) := by decide +kernel
theorem d_S_takeVariable_9 : decode M_S_takeVariable.2.1 9 = .ok (.ifCond .eq 16, 3) := by decide +kernel
theorem d_S_takeVariable_12 : decode M_S_takeVariable.2.1 12 = .ok (.aload_n 0, 1) := by decide +kernel
theorem d_S_takeVariable_13 : decode M_S_takeVariable.2.1 13 = .ok (.dup, 1) := by decide +kernel
theorem d_S_takeVariable_14 : decode M_S_takeVariable.2.1 14 = .ok (.getfield 32, 3) := by decide +kernel
theorem d_S_takeVariable_17 : decode M_S_takeVariable.2.1 17 = .ok (.iconst 1, 1) := by decide +kernel
theorem d_S_takeVariable_18 : decode M_S_takeVariable.2.1 18 = .ok (.isub, 1) := by decide +kernel
theorem d_S_takeVariable_19 : decode M_S_takeVariable.2.1 19 = .ok (.putfield 32, 3) := by decide +kernel
theorem d_S_takeVariable_22 : decode M_S_takeVariable.2.1 22 = .ok (.goto 23, 3) := by decide +kernel
theorem d_S_takeVariable_25 : decode M_S_takeVariable.2.1 25 = .ok (.aload_n 0, 1) := by decide +kernel
theorem d_S_takeVariable_26 : decode M_S_takeVariable.2.1 26 = .ok (.dup, 1) := by decide +kernel
theorem d_S_takeVariable_27 : decode M_S_takeVariable.2.1 27 = .ok (.getfield 39, 3) := by decide +kernel
theorem d_S_takeVariable_30 : decode M_S_takeVariable.2.1 30 = .ok (.iconst 1, 1) := by decide +kernel
theorem d_S_takeVariable_31 : decode M_S_takeVariable.2.1 31 = .ok (.isub, 1) := by decide +kernel
theorem d_S_takeVariable_32 : decode M_S_takeVariable.2.1 32 = .ok (.putfield 39, 3) := by decide +kernel
theorem d_S_takeVariable_35 : decode M_S_takeVariable.2.1 35 = .ok (.aload_n 0, 1) := by decide +kernel
theorem d_S_takeVariable_36 : decode M_S_takeVariable.2.1 36 = .ok (.dup, 1) := by decide +kernel
theorem d_S_takeVariable_37 : decode M_S_takeVariable.2.1 37 = .ok (.getfield 29, 3) := by decide +kernel
theorem d_S_takeVariable_40 : decode M_S_takeVariable.2.1 40 = .ok (.iconst 1, 1) := by decide +kernel
theorem d_S_takeVariable_41 : decode M_S_takeVariable.2.1 41 = .ok (.iadd, 1) := by decide +kernel
theorem d_S_takeVariable_42 : decode M_S_takeVariable.2.1 42 = .ok (.putfield 29, 3) := by decide +kernel
theorem d_S_takeVariable_45 : decode M_S_takeVariable.2.1 45 = .ok (.aload_n 0, 1) := by decide +kernel
theorem d_S_takeVariable_46 : decode M_S_takeVariable.2.1 46 = .ok (.iconst 0, 1) := by decide +kernel
theorem d_S_takeVariable_47 : decode M_S_takeVariable.2.1 47 = .ok (.iload_n 1, 1) := by decide +kernel
theorem d_S_takeVariable_48 : decode M_S_takeVariable.2.1 48 = .ok (.invokestatic 75, 3) := by decide +kernel
theorem d_S_takeVariable_51 : decode M_S_takeVariable.2.1 51 = .ok (.iload_n 2, 1) := by decide +kernel
theorem d_S_takeVariable_52 : decode M_S_takeVariable.2.1 52 = .ok (.invokevirtual 79, 3) := by decide +kernel
theorem d_S_takeVariable_55 : decode M_S_takeVariable.2.1 55 = .ok (.return_, 1) := by decide +kernel
theorem d_S_write_0 : decode M_S_write.2.1 0 = .ok (.aload_n 0, 1) := by decide +kernel
theorem d_S_write_1 : decode M_S_write.2.1 1 = .ok (.getfield 15, 3) := by decide +kernel
theorem d_S_write_4 : decode M_S_write.2.1 4 = .ok (.aload_n 0, 1) := by decide +kernel
theorem d_S_write_5 : decode M_S_write.2.1 5 = .ok (.getfield 19, 3) := by decide +kernel
theorem d_S_write_8 : decode M_S_write.2.1 8 = .ok (.aload_n 0, 1) := by decide +kernel
theorem d_S_write_9 : decode M_S_write.2.1 9 = .ok (.getfield 26, 3) := by decide +kernel
theorem d_S_write_12 : decode M_S_write.2.1 12 = .ok (.iadd, 1) := by decide +kernel
theorem d_S_write_13 : decode M_S_write.2.1 13 = .ok (.iload_n 1, 1) := by decide +kernel
theorem d_S_write_14 : decode M_S_write.2.1 14 = .ok (.iload_n 2, 1) := by decide +kernel
theorem d_S_write_15 : decode M_S_write.2.1 15 = .ok (.invokevirtual 91, 3) := by decide +kernel
theorem d_S_write_18 : decode M_S_write.2.1 18 = .ok (.aload_n 0, 1) := by decide +kernel
theorem d_S_write_19 : decode M_S_write.2.1 19 = .ok (.dup, 1) := by decide +kernel
theorem d_S_write_20 : decode M_S_write.2.1 20 = .ok (.getfield 26, 3) := by decide +kernel
theorem d_S_write_23 : decode M_S_write.2.1 23 = .ok (.iconst 1, 1) := by decide +kernel
theorem d_S_write_24 : decode M_S_write.2.1 24 = .ok (.iadd, 1) := by decide +kernel
theorem d_S_write_25 : decode M_S_write.2.1 25 = .ok (.putfield 26, 3) := by decide +kernel
theorem d_S_write_28 : decode M_S_write.2.1 28 = .ok (.return_, 1) := by decide +kernel
theorem d_S_takeOperation_0 : decode M_S_takeOperation.2.1 0 = .ok (.aload_n 0, 1) := by decide +kernel
theorem d_S_takeOperation_1 : decode M_S_takeOperation.2.1 1 = .ok (.invokevirtual 46, 3) := by decide +kernel
theorem d_S_takeOperation_4 : decode M_S_takeOperation.2.1 4 = .ok (.istore_n 3, 1) := by decide +kernel
theorem d_S_takeOperation_5 : decode M_S_takeOperation.2.1 5 = .ok (.aload_n 0, 1) := by decide +kernel
theorem d_S_takeOperation_6 : decode M_S_takeOperation.2.1 6 = .ok (.dup, 1) := by decide +kernel
theorem d_S_takeOperation_7 : decode M_S_takeOperation.2.1 7 = .ok (.getfield 39, 3) := by decide +kernel
theorem d_S_takeOperation_10 : decode M_S_takeOperation.2.1 10 = .ok (.iconst 1, 1) := by decide +kernel
theorem d_S_takeOperation_11 : decode M_S_takeOperation.2.1 11 = .ok (.isub, 1) := by decide +kernel
theorem d_S_takeOperation_12 : decode M_S_takeOperation.2.1 12 = .ok (.putfield 39, 3) := by decide +kernel
theorem d_S_takeOperation_15 : decode M_S_takeOperation.2.1 15 = .ok (.aload_n 0, 1) := by decide +kernel
theorem d_S_takeOperation_16 : decode M_S_takeOperation.2.1 16 = .ok (.dup, 1) := by decide +kernel
theorem d_S_takeOperation_17 : decode M_S_takeOperation.2.1 17 = .ok (.getfield 29, 3) := by decide +kernel
theorem d_S_takeOperation_20 : decode M_S_takeOperation.2.1 20 = .ok (.iconst 1, 1) := by decide +kernel
theorem d_S_takeOperation_21 : decode M_S_takeOperation.2.1 21 = .ok (.iadd, 1) := by decide +kernel
theorem d_S_takeOperation_22 : decode M_S_takeOperation.2.1 22 = .ok (.putfield 29, 3) := by decide +kernel
theorem d_S_takeOperation_25 : decode M_S_takeOperation.2.1 25 = .ok (.aload_n 0, 1) := by decide +kernel
theorem d_S_takeOperation_26 : decode M_S_takeOperation.2.1 26 = .ok (.iconst 1, 1) := by decide +kernel
theorem d_S_takeOperation_27 : decode M_S_takeOperation.2.1 27 = .ok (.iload_n 1, 1) := by decide +kernel
theorem d_S_takeOperation_28 : decode M_S_takeOperation.2.1 28 = .ok (.invokestatic 75, 3) := by decide +kernel
theorem d_S_takeOperation_31 : decode M_S_takeOperation.2.1 31 = .ok (.iload_n 3, 1) := by decide +kernel
theorem d_S_takeOperation_32 : decode M_S_takeOperation.2.1 32 = .ok (.invokevirtual 79, 3) := by decide +kernel
theorem d_S_takeOperation_35 : decode M_S_takeOperation.2.1 35 = .ok (.aload_n 2, 1) := by decide +kernel
theorem d_S_takeOperation_36 : decode M_S_takeOperation.2.1 36 = .ok (.iload_n 1, 1) := by decide +kernel
theorem d_S_takeOperation_37 : decode M_S_takeOperation.2.1 37 = .ok (.invokevirtual 83, 3) := by decide +kernel
theorem d_S_takeOperation_40 : decode M_S_takeOperation.2.1 40 = .ok (.iconst 1, 1) := by decide +kernel
theorem d_S_takeOperation_41 : decode M_S_takeOperation.2.1 41 = .ok (.isub, 1) := by decide +kernel
theorem d_S_takeOperation_42 : decode M_S_takeOperation.2.1 42 = .ok (.istore 4, 2) := by decide +kernel
theorem d_S_takeOperation_44 : decode M_S_takeOperation.2.1 44 = .ok (.iload 4, 2) := by decide +kernel
theorem d_S_takeOperation_46 : decode M_S_takeOperation.2.1 46 = .ok (.ifCond .lt 39, 3) := by decide +kernel
theorem d_S_takeOperation_49 : decode M_S_takeOperation.2.1 49 = .ok (.aload_n 0, 1) := by decide +kernel
theorem d_S_takeOperation_50 : decode M_S_takeOperation.2.1 50 = .ok (.getfield 9, 3) := by decide +kernel
theorem d_S_takeOperation_53 : decode M_S_takeOperation.2.1 53 = .ok (.aload_n 0, 1) := by decide +kernel
theorem d_S_takeOperation_54 : decode M_S_takeOperation.2.1 54 = .ok (.getfield 39, 3) := by decide +kernel
theorem d_S_takeOperation_57 : decode M_S_takeOperation.2.1 57 = .ok (.iload_n 3, 1) := by decide +kernel
theorem d_S_takeOperation_58 : decode M_S_takeOperation.2.1 58 = .ok (.aload_n 2, 1) := by decide +kernel
theorem d_S_takeOperation_59 : decode M_S_takeOperation.2.1 59 = .ok (.iload_n 1, 1) := by decide +kernel
theorem d_S_takeOperation_60 : decode M_S_takeOperation.2.1 60 = .ok (.iload 4, 2) := by decide +kernel
theorem d_S_takeOperation_62 : decode M_S_takeOperation.2.1 62 = .ok (.invokevirtual 88, 3) := by decide +kernel
theorem d_S_takeOperation_65 : decode M_S_takeOperation.2.1 65 = .ok (.iadd, 1) := by decide +kernel
theorem d_S_takeOperation_66 : decode M_S_takeOperation.2.1 66 = .ok (.invokestatic 35, 3) := by decide +kernel
theorem d_S_takeOperation_69 : decode M_S_takeOperation.2.1 69 = .ok (.aload_n 0, 1) := by decide +kernel
theorem d_S_takeOperation_70 : decode M_S_takeOperation.2.1 70 = .ok (.dup, 1) := by decide +kernel
theorem d_S_takeOperation_71 : decode M_S_takeOperation.2.1 71 = .ok (.getfield 39, 3) := by decide +kernel
theorem d_S_takeOperation_74 : decode M_S_takeOperation.2.1 74 = .ok (.iconst 1, 1) := by decide +kernel
theorem d_S_takeOperation_75 : decode M_S_takeOperation.2.1 75 = .ok (.iadd, 1) := by decide +kernel
theorem d_S_takeOperation_76 : decode M_S_takeOperation.2.1 76 = .ok (.putfield 39, 3) := by decide +kernel
theorem d_S_takeOperation_79 : decode M_S_takeOperation.2.1 79 = .ok (.iinc 4 (-1), 3) := by decide +kernel
theorem d_S_takeOperation_82 : decode M_S_takeOperation.2.1 82 = .ok (.goto (-38), 3) := by decide +kernel
theorem d_S_takeOperation_85 : decode M_S_takeOperation.2.1 85 = .ok (.return_, 1) := by decide +kernel
theorem d_S_takeHole_0 : decode M_S_takeHole.2.1 0 = .ok (.aload_n 0, 1) := by decide +kernel
theorem d_S_takeHole_1 : decode M_S_takeHole.2.1 1 = .ok (.invokevirtual 46, 3) := by decide +kernel
theorem d_S_takeHole_4 : decode M_S_takeHole.2.1 4 = .ok (.istore_n 3, 1) := by decide +kernel
theorem d_S_takeHole_5 : decode M_S_takeHole.2.1 5 = .ok (.aload_n 0, 1) := by decide +kernel
theorem d_S_takeHole_6 : decode M_S_takeHole.2.1 6 = .ok (.dup, 1) := by decide +kernel
theorem d_S_takeHole_7 : decode M_S_takeHole.2.1 7 = .ok (.getfield 39, 3) := by decide +kernel
theorem d_S_takeHole_10 : decode M_S_takeHole.2.1 10 = .ok (.iconst 1, 1) := by decide +kernel
theorem d_S_takeHole_11 : decode M_S_takeHole.2.1 11 = .ok (.isub, 1) := by decide +kernel
theorem d_S_takeHole_12 : decode M_S_takeHole.2.1 12 = .ok (.putfield 39, 3) := by decide +kernel
theorem d_S_takeHole_15 : decode M_S_takeHole.2.1 15 = .ok (.aload_n 0, 1) := by decide +kernel
theorem d_S_takeHole_16 : decode M_S_takeHole.2.1 16 = .ok (.dup, 1) := by decide +kernel
theorem d_S_takeHole_17 : decode M_S_takeHole.2.1 17 = .ok (.getfield 29, 3) := by decide +kernel
theorem d_S_takeHole_20 : decode M_S_takeHole.2.1 20 = .ok (.iconst 1, 1) := by decide +kernel
theorem d_S_takeHole_21 : decode M_S_takeHole.2.1 21 = .ok (.iadd, 1) := by decide +kernel
theorem d_S_takeHole_22 : decode M_S_takeHole.2.1 22 = .ok (.putfield 29, 3) := by decide +kernel
theorem d_S_takeHole_25 : decode M_S_takeHole.2.1 25 = .ok (.aload_n 0, 1) := by decide +kernel
theorem d_S_takeHole_26 : decode M_S_takeHole.2.1 26 = .ok (.iconst 2, 1) := by decide +kernel
theorem d_S_takeHole_27 : decode M_S_takeHole.2.1 27 = .ok (.iload_n 1, 1) := by decide +kernel
theorem d_S_takeHole_28 : decode M_S_takeHole.2.1 28 = .ok (.invokestatic 75, 3) := by decide +kernel
theorem d_S_takeHole_31 : decode M_S_takeHole.2.1 31 = .ok (.iload_n 3, 1) := by decide +kernel
theorem d_S_takeHole_32 : decode M_S_takeHole.2.1 32 = .ok (.invokevirtual 79, 3) := by decide +kernel
theorem d_S_takeHole_35 : decode M_S_takeHole.2.1 35 = .ok (.aload_n 0, 1) := by decide +kernel
theorem d_S_takeHole_36 : decode M_S_takeHole.2.1 36 = .ok (.iload_n 2, 1) := by decide +kernel
theorem d_S_takeHole_37 : decode M_S_takeHole.2.1 37 = .ok (.putfield 32, 3) := by decide +kernel
theorem d_S_takeHole_40 : decode M_S_takeHole.2.1 40 = .ok (.aload_n 0, 1) := by decide +kernel
theorem d_S_takeHole_41 : decode M_S_takeHole.2.1 41 = .ok (.aload_n 0, 1) := by decide +kernel
theorem d_S_takeHole_42 : decode M_S_takeHole.2.1 42 = .ok (.getfield 26, 3) := by decide +kernel
theorem d_S_takeHole_45 : decode M_S_takeHole.2.1 45 = .ok (.putfield 63, 3) := by decide +kernel
theorem d_S_takeHole_48 : decode M_S_takeHole.2.1 48 = .ok (.aload_n 0, 1) := by decide +kernel
theorem d_S_takeHole_49 : decode M_S_takeHole.2.1 49 = .ok (.iload_n 3, 1) := by decide +kernel
theorem d_S_takeHole_50 : decode M_S_takeHole.2.1 50 = .ok (.putfield 53, 3) := by decide +kernel
theorem d_S_takeHole_53 : decode M_S_takeHole.2.1 53 = .ok (.return_, 1) := by decide +kernel
theorem d_S_isWhole_0 : decode M_S_isWhole.2.1 0 = .ok (.aload_n 0, 1) := by decide +kernel
theorem d_S_isWhole_1 : decode M_S_isWhole.2.1 1 = .ok (.getfield 26, 3) := by decide +kernel
theorem d_S_isWhole_4 : decode M_S_isWhole.2.1 4 = .ok (.ifCond .le 14, 3) := by decide +kernel
theorem d_S_isWhole_7 : decode M_S_isWhole.2.1 7 = .ok (.aload_n 0, 1) := by decide +kernel
theorem d_S_isWhole_8 : decode M_S_isWhole.2.1 8 = .ok (.invokevirtual 42, 3) := by decide +kernel
theorem d_S_isWhole_11 : decode M_S_isWhole.2.1 11 = .ok (.ifCond .ne 7, 3) := by decide +kernel
theorem d_S_isWhole_14 : decode M_S_isWhole.2.1 14 = .ok (.iconst 1, 1) := by decide +kernel
theorem d_S_isWhole_15 : decode M_S_isWhole.2.1 15 = .ok (.goto 4, 3) := by decide +kernel
theorem d_S_isWhole_18 : decode M_S_isWhole.2.1 18 = .ok (.iconst 0, 1) := by decide +kernel
theorem d_S_isWhole_19 : decode M_S_isWhole.2.1 19 = .ok (.ireturn, 1) := by decide +kernel
