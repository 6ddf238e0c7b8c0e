theorem d_R_init_0 : decode M_R_init.2.1 0 = .ok (.aload_n 0, 1) := by decide +kernel
theorem d_R_init_1 : decode M_R_init.2.1 1 = .ok (.invokespecial 3, 3) := by decide +kernel
theorem d_R_init_4 : decode M_R_init.2.1 4 = .ok (.aload_n 0, 1) := by decide +kernel
theorem d_R_init_5 : decode M_R_init.2.1 5 = .ok (.sipush 128, 3) := by decide +kernel
theorem d_R_init_8 : decode M_R_init.2.1 8 = .ok (.newarray .int, 2) := by decide +kernel
theorem d_R_init_10 : decode M_R_init.2.1 10 = .ok (.putfield 9, 3) := by decide +kernel
theorem d_R_init_13 : decode M_R_init.2.1 13 = .ok (.aload_n 0, 1) := by decide +kernel
theorem d_R_init_14 : decode M_R_init.2.1 14 = .ok (.sipush 324, 3) := by decide +kernel
theorem d_R_init_17 : decode M_R_init.2.1 17 = .ok (.newarray .int, 2) := by decide +kernel
theorem d_R_init_19 : decode M_R_init.2.1 19 = .ok (.putfield 15, 3) := by decide +kernel
theorem d_R_init_22 : decode M_R_init.2.1 22 = .ok (.aload_n 0, 1) := by decide +kernel
theorem d_R_init_23 : decode M_R_init.2.1 23 = .ok (.sipush 324, 3) := by decide +kernel
theorem d_R_init_26 : decode M_R_init.2.1 26 = .ok (.newarray .int, 2) := by decide +kernel
theorem d_R_init_28 : decode M_R_init.2.1 28 = .ok (.putfield 18, 3) := by decide +kernel
theorem d_R_init_31 : decode M_R_init.2.1 31 = .ok (.return_, 1) := by decide +kernel
theorem d_R_takeAll_0 : decode M_R_takeAll.2.1 0 = .ok (.aload_n 0, 1) := by decide +kernel
theorem d_R_takeAll_1 : decode M_R_takeAll.2.1 1 = .ok (.iconst 0, 1) := by decide +kernel
theorem d_R_takeAll_2 : decode M_R_takeAll.2.1 2 = .ok (.putfield 21, 3) := by decide +kernel
theorem d_R_takeAll_5 : decode M_R_takeAll.2.1 5 = .ok (.aload_n 0, 1) := by decide +kernel
theorem d_R_takeAll_6 : decode M_R_takeAll.2.1 6 = .ok (.iconst 0, 1) := by decide +kernel
theorem d_R_takeAll_7 : decode M_R_takeAll.2.1 7 = .ok (.putfield 25, 3) := by decide +kernel
theorem d_R_takeAll_10 : decode M_R_takeAll.2.1 10 = .ok (.aload_n 0, 1) := by decide +kernel
theorem d_R_takeAll_11 : decode M_R_takeAll.2.1 11 = .ok (.getfield 15, 3) := by decide +kernel
theorem d_R_takeAll_14 : decode M_R_takeAll.2.1 14 = .ok (.iconst 0, 1) := by decide +kernel
theorem d_R_takeAll_15 : decode M_R_takeAll.2.1 15 = .ok (.invokestatic 28, 3) := by decide +kernel
theorem d_R_takeAll_18 : decode M_R_takeAll.2.1 18 = .ok (.iconst 0, 1) := by decide +kernel
theorem d_R_takeAll_19 : decode M_R_takeAll.2.1 19 = .ok (.istore_n 2, 1) := by decide +kernel
theorem d_R_takeAll_20 : decode M_R_takeAll.2.1 20 = .ok (.iload_n 2, 1) := by decide +kernel
theorem d_R_takeAll_21 : decode M_R_takeAll.2.1 21 = .ok (.ldc 34, 2) := by decide +kernel
theorem d_R_takeAll_23 : decode M_R_takeAll.2.1 23 = .ok (.if_icmp .ge 47, 3) := by decide +kernel
theorem d_R_takeAll_26 : decode M_R_takeAll.2.1 26 = .ok (.aload_n 1, 1) := by decide +kernel
theorem d_R_takeAll_27 : decode M_R_takeAll.2.1 27 = .ok (.invokevirtual 35, 3) := by decide +kernel
theorem d_R_takeAll_30 : decode M_R_takeAll.2.1 30 = .ok (.ifCond .eq 40, 3) := by decide +kernel
theorem d_R_takeAll_33 : decode M_R_takeAll.2.1 33 = .ok (.aload_n 1, 1) := by decide +kernel
theorem d_R_takeAll_34 : decode M_R_takeAll.2.1 34 = .ok (.getfield 41, 3) := by decide +kernel
theorem d_R_takeAll_37 : decode M_R_takeAll.2.1 37 = .ok (.iconst 2, 1) := by decide +kernel
theorem d_R_takeAll_38 : decode M_R_takeAll.2.1 38 = .ok (.if_icmp .ne 11, 3) := by decide +kernel
theorem d_R_takeAll_41 : decode M_R_takeAll.2.1 41 = .ok (.aload_n 0, 1) := by decide +kernel
theorem d_R_takeAll_42 : decode M_R_takeAll.2.1 42 = .ok (.aload_n 1, 1) := by decide +kernel
theorem d_R_takeAll_43 : decode M_R_takeAll.2.1 43 = .ok (.invokevirtual 44, 3) := by decide +kernel
theorem d_R_takeAll_46 : decode M_R_takeAll.2.1 46 = .ok (.goto 18, 3) := by decide +kernel
theorem d_R_takeAll_49 : decode M_R_takeAll.2.1 49 = .ok (.aload_n 0, 1) := by decide +kernel
theorem d_R_takeAll_50 : decode M_R_takeAll.2.1 50 = .ok (.aload_n 1, 1) := by decide +kernel
theorem d_R_takeAll_51 : decode M_R_takeAll.2.1 51 = .ok (.getfield 41, 3) := by decide +kernel
theorem d_R_takeAll_54 : decode M_R_takeAll.2.1 54 = .ok (.aload_n 1, 1) := by decide +kernel
theorem d_R_takeAll_55 : decode M_R_takeAll.2.1 55 = .ok (.getfield 48, 3) := by decide +kernel
theorem d_R_takeAll_58 : decode M_R_takeAll.2.1 58 = .ok (.invokestatic 51, 3) := by decide +kernel
theorem d_R_takeAll_61 : decode M_R_takeAll.2.1 61 = .ok (.invokevirtual 55, 3) := by decide +kernel
theorem d_R_takeAll_64 : decode M_R_takeAll.2.1 64 = .ok (.iinc 2 1, 3) := by decide +kernel
theorem d_R_takeAll_67 : decode M_R_takeAll.2.1 67 = .ok (.goto (-47), 3) := by decide +kernel
theorem d_R_takeAll_70 : decode M_R_takeAll.2.1 70 = .ok (.return_, 1) := by decide +kernel
theorem d_R_takeHole_0 : decode M_R_takeHole.2.1 0 = .ok (.aload_n 1, 1) := by decide +kernel
theorem d_R_takeHole_1 : decode M_R_takeHole.2.1 1 = .ok (.getfield 48, 3) := by decide +kernel
theorem d_R_takeHole_4 : decode M_R_takeHole.2.1 4 = .ok (.istore_n 2, 1) := by decide +kernel
theorem d_R_takeHole_5 : decode M_R_takeHole.2.1 5 = .ok (.aload_n 0, 1) := by decide +kernel
theorem d_R_takeHole_6 : decode M_R_takeHole.2.1 6 = .ok (.getfield 15, 3) := by decide +kernel
theorem d_R_takeHole_9 : decode M_R_takeHole.2.1 9 = .ok (.iload_n 2, 1) := by decide +kernel
theorem d_R_takeHole_10 : decode M_R_takeHole.2.1 10 = .ok (.invokestatic 59, 3) := by decide +kernel
theorem d_R_takeHole_13 : decode M_R_takeHole.2.1 13 = .ok (.ifCond .ne 37, 3) := by decide +kernel
theorem d_R_takeHole_16 : decode M_R_takeHole.2.1 16 = .ok (.aload_n 0, 1) := by decide +kernel
theorem d_R_takeHole_17 : decode M_R_takeHole.2.1 17 = .ok (.dup, 1) := by decide +kernel
theorem d_R_takeHole_18 : decode M_R_takeHole.2.1 18 = .ok (.getfield 25, 3) := by decide +kernel
theorem d_R_takeHole_21 : decode M_R_takeHole.2.1 21 = .ok (.iconst 1, 1) := by decide +kernel
theorem d_R_takeHole_22 : decode M_R_takeHole.2.1 22 = .ok (.iadd, 1) := by decide +kernel
theorem d_R_takeHole_23 : decode M_R_takeHole.2.1 23 = .ok (.putfield 25, 3) := by decide +kernel
theorem d_R_takeHole_26 : decode M_R_takeHole.2.1 26 = .ok (.aload_n 0, 1) := by decide +kernel
theorem d_R_takeHole_27 : decode M_R_takeHole.2.1 27 = .ok (.getfield 15, 3) := by decide +kernel
theorem d_R_takeHole_30 : decode M_R_takeHole.2.1 30 = .ok (.iload_n 2, 1) := by decide +kernel
theorem d_R_takeHole_31 : decode M_R_takeHole.2.1 31 = .ok (.aload_n 0, 1) := by decide +kernel
theorem d_R_takeHole_32 : decode M_R_takeHole.2.1 32 = .ok (.getfield 25, 3) := by decide +kernel
theorem d_R_takeHole_35 : decode M_R_takeHole.2.1 35 = .ok (.invokestatic 63, 3) := by decide +kernel
theorem d_R_takeHole_38 : decode M_R_takeHole.2.1 38 = .ok (.aload_n 0, 1) := by decide +kernel
theorem d_R_takeHole_39 : decode M_R_takeHole.2.1 39 = .ok (.getfield 18, 3) := by decide +kernel
theorem d_R_takeHole_42 : decode M_R_takeHole.2.1 42 = .ok (.iload_n 2, 1) := by decide +kernel
theorem d_R_takeHole_43 : decode M_R_takeHole.2.1 43 = .ok (.aload_n 1, 1) := by decide +kernel
theorem d_R_takeHole_44 : decode M_R_takeHole.2.1 44 = .ok (.invokestatic 67, 3) := by decide +kernel
theorem d_R_takeHole_47 : decode M_R_takeHole.2.1 47 = .ok (.invokestatic 63, 3) := by decide +kernel
theorem d_R_takeHole_50 : decode M_R_takeHole.2.1 50 = .ok (.aload_n 0, 1) := by decide +kernel
theorem d_R_takeHole_51 : decode M_R_takeHole.2.1 51 = .ok (.iconst 2, 1) := by decide +kernel
theorem d_R_takeHole_52 : decode M_R_takeHole.2.1 52 = .ok (.aload_n 0, 1) := by decide +kernel
theorem d_R_takeHole_53 : decode M_R_takeHole.2.1 53 = .ok (.getfield 15, 3) := by decide +kernel
theorem d_R_takeHole_56 : decode M_R_takeHole.2.1 56 = .ok (.iload_n 2, 1) := by decide +kernel
theorem d_R_takeHole_57 : decode M_R_takeHole.2.1 57 = .ok (.invokestatic 59, 3) := by decide +kernel
theorem d_R_takeHole_60 : decode M_R_takeHole.2.1 60 = .ok (.iconst 1, 1) := by decide +kernel
theorem d_R_takeHole_61 : decode M_R_takeHole.2.1 61 = .ok (.isub, 1) := by decide +kernel
theorem d_R_takeHole_62 : decode M_R_takeHole.2.1 62 = .ok (.invokestatic 51, 3) := by decide +kernel
theorem d_R_takeHole_65 : decode M_R_takeHole.2.1 65 = .ok (.invokevirtual 55, 3) := by decide +kernel
theorem d_R_takeHole_68 : decode M_R_takeHole.2.1 68 = .ok (.aload_n 0, 1) := by decide +kernel
theorem d_R_takeHole_69 : decode M_R_takeHole.2.1 69 = .ok (.getfield 18, 3) := by decide +kernel
theorem d_R_takeHole_72 : decode M_R_takeHole.2.1 72 = .ok (.iload_n 2, 1) := by decide +kernel
theorem d_R_takeHole_73 : decode M_R_takeHole.2.1 73 = .ok (.invokestatic 59, 3) := by decide +kernel
theorem d_R_takeHole_76 : decode M_R_takeHole.2.1 76 = .ok (.istore_n 3, 1) := by decide +kernel
theorem d_R_takeHole_77 : decode M_R_takeHole.2.1 77 = .ok (.iconst 0, 1) := by decide +kernel
theorem d_R_takeHole_78 : decode M_R_takeHole.2.1 78 = .ok (.istore 4, 2) := by decide +kernel
theorem d_R_takeHole_80 : decode M_R_takeHole.2.1 80 = .ok (.iload 4, 2) := by decide +kernel
theorem d_R_takeHole_82 : decode M_R_takeHole.2.1 82 = .ok (.aload_n 1, 1) := by decide +kernel
theorem d_R_takeHole_83 : decode M_R_takeHole.2.1 83 = .ok (.getfield 71, 3) := by decide +kernel
theorem d_R_takeHole_86 : decode M_R_takeHole.2.1 86 = .ok (.if_icmp .ge 36, 3) := by decide +kernel
theorem d_R_takeHole_89 : decode M_R_takeHole.2.1 89 = .ok (.iload_n 3, 1) := by decide +kernel
theorem d_R_takeHole_90 : decode M_R_takeHole.2.1 90 = .ok (.iconst 2, 1) := by decide +kernel
theorem d_R_takeHole_91 : decode M_R_takeHole.2.1 91 = .ok (.iload 4, 2) := by decide +kernel
theorem d_R_takeHole_93 : decode M_R_takeHole.2.1 93 = .ok (.imul, 1) := by decide +kernel
theorem d_R_takeHole_94 : decode M_R_takeHole.2.1 94 = .ok (.ishr, 1) := by decide +kernel
theorem d_R_takeHole_95 : decode M_R_takeHole.2.1 95 = .ok (.iconst 3, 1) := by decide +kernel
theorem d_R_takeHole_96 : decode M_R_takeHole.2.1 96 = .ok (.iand, 1) := by decide +kernel
theorem d_R_takeHole_97 : decode M_R_takeHole.2.1 97 = .ok (.istore 5, 2) := by decide +kernel
theorem d_R_takeHole_99 : decode M_R_takeHole.2.1 99 = .ok (.aload_n 0, 1) := by decide +kernel
theorem d_R_takeHole_100 : decode M_R_takeHole.2.1 100 = .ok (.iconst 0, 1) := by decide +kernel
theorem d_R_takeHole_101 : decode M_R_takeHole.2.1 101 = .ok (.aload_n 1, 1) := by decide +kernel
theorem d_R_takeHole_102 : decode M_R_takeHole.2.1 102 = .ok (.getfield 74, 3) := by decide +kernel
theorem d_R_takeHole_105 : decode M_R_takeHole.2.1 105 = .ok (.iload 5, 2) := by decide +kernel
theorem d_R_takeHole_107 : decode M_R_takeHole.2.1 107 = .ok (.invokestatic 59, 3) := by decide +kernel
theorem d_R_takeHole_110 : decode M_R_takeHole.2.1 110 = .ok (.invokestatic 51, 3) := by decide +kernel
theorem d_R_takeHole_113 : decode M_R_takeHole.2.1 113 = .ok (.invokevirtual 55, 3) := by decide +kernel
theorem d_R_takeHole_116 : decode M_R_takeHole.2.1 116 = .ok (.iinc 4 1, 3) := by decide +kernel
theorem d_R_takeHole_119 : decode M_R_takeHole.2.1 119 = .ok (.goto (-39), 3) := by decide +kernel
theorem d_R_takeHole_122 : decode M_R_takeHole.2.1 122 = .ok (.return_, 1) := by decide +kernel
theorem d_R_risingOrder_0 : decode M_R_risingOrder.2.1 0 = .ok (.iconst 0, 1) := by decide +kernel
theorem d_R_risingOrder_1 : decode M_R_risingOrder.2.1 1 = .ok (.istore_n 1, 1) := by decide +kernel
theorem d_R_risingOrder_2 : decode M_R_risingOrder.2.1 2 = .ok (.iconst 0, 1) := by decide +kernel
theorem d_R_risingOrder_3 : decode M_R_risingOrder.2.1 3 = .ok (.istore_n 2, 1) := by decide +kernel
theorem d_R_risingOrder_4 : decode M_R_risingOrder.2.1 4 = .ok (.iload_n 2, 1) := by decide +kernel
theorem d_R_risingOrder_5 : decode M_R_risingOrder.2.1 5 = .ok (.aload_n 0, 1) := by decide +kernel
theorem d_R_risingOrder_6 : decode M_R_risingOrder.2.1 6 = .ok (.getfield 71, 3) := by decide +kernel
theorem d_R_risingOrder_9 : decode M_R_risingOrder.2.1 9 = .ok (.if_icmp .ge 60, 3) := by decide +kernel
theorem d_R_risingOrder_12 : decode M_R_risingOrder.2.1 12 = .ok (.iconst 0, 1) := by decide +kernel
theorem d_R_risingOrder_13 : decode M_R_risingOrder.2.1 13 = .ok (.istore_n 3, 1) := by decide +kernel
theorem d_R_risingOrder_14 : decode M_R_risingOrder.2.1 14 = .ok (.iconst 0, 1) := by decide +kernel
theorem d_R_risingOrder_15 : decode M_R_risingOrder.2.1 15 = .ok (.istore 4, 2) := by decide +kernel
theorem d_R_risingOrder_17 : decode M_R_risingOrder.2.1 17 = .ok (.iload 4, 2) := by decide +kernel
theorem d_R_risingOrder_19 : decode M_R_risingOrder.2.1 19 = .ok (.aload_n 0, 1) := by decide +kernel
theorem d_R_risingOrder_20 : decode M_R_risingOrder.2.1 20 = .ok (.getfield 71, 3) := by decide +kernel
theorem d_R_risingOrder_23 : decode M_R_risingOrder.2.1 23 = .ok (.if_icmp .ge 32, 3) := by decide +kernel
theorem d_R_risingOrder_26 : decode M_R_risingOrder.2.1 26 = .ok (.aload_n 0, 1) := by decide +kernel
theorem d_R_risingOrder_27 : decode M_R_risingOrder.2.1 27 = .ok (.getfield 74, 3) := by decide +kernel
theorem d_R_risingOrder_30 : decode M_R_risingOrder.2.1 30 = .ok (.iload 4, 2) := by decide +kernel
theorem d_R_risingOrder_32 : decode M_R_risingOrder.2.1 32 = .ok (.invokestatic 59, 3) := by decide +kernel
theorem d_R_risingOrder_35 : decode M_R_risingOrder.2.1 35 = .ok (.aload_n 0, 1) := by decide +kernel
theorem d_R_risingOrder_36 : decode M_R_risingOrder.2.1 36 = .ok (.getfield 74, 3) := by decide +kernel
theorem d_R_risingOrder_39 : decode M_R_risingOrder.2.1 39 = .ok (.iload_n 2, 1) := by decide +kernel
theorem d_R_risingOrder_40 : decode M_R_risingOrder.2.1 40 = .ok (.invokestatic 59, 3) := by decide +kernel
theorem d_R_risingOrder_43 : decode M_R_risingOrder.2.1 43 = .ok (.if_icmp .ge 6, 3) := by decide +kernel
theorem d_R_risingOrder_46 : decode M_R_risingOrder.2.1 46 = .ok (.iinc 3 1, 3) := by decide +kernel
theorem d_R_risingOrder_49 : decode M_R_risingOrder.2.1 49 = .ok (.iinc 4 1, 3) := by decide +kernel
theorem d_R_risingOrder_52 : decode M_R_risingOrder.2.1 52 = .ok (.goto (-35), 3) := by decide +kernel
theorem d_R_risingOrder_55 : decode M_R_risingOrder.2.1 55 = .ok (.iload_n 1, 1) := by decide +kernel
theorem d_R_risingOrder_56 : decode M_R_risingOrder.2.1 56 = .ok (.iload_n 2, 1) := by decide +kernel
theorem d_R_risingOrder_57 : decode M_R_risingOrder.2.1 57 = .ok (.iconst 2, 1) := by decide +kernel
theorem d_R_risingOrder_58 : decode M_R_risingOrder.2.1 58 = .ok (.iload_n 3, 1) := by decide +kernel
theorem d_R_risingOrder_59 : decode M_R_risingOrder.2.1 59 = .ok (.imul, 1) := by decide +kernel
theorem d_R_risingOrder_60 : decode M_R_risingOrder.2.1 60 = .ok (.ishl, 1) := by decide +kernel
theorem d_R_risingOrder_61 : decode M_R_risingOrder.2.1 61 = .ok (.ior, 1) := by decide +kernel
theorem d_R_risingOrder_62 : decode M_R_risingOrder.2.1 62 = .ok (.istore_n 1, 1) := by decide +kernel
theorem d_R_risingOrder_63 : decode M_R_risingOrder.2.1 63 = .ok (.iinc 2 1, 3) := by decide +kernel
theorem d_R_risingOrder_66 : decode M_R_risingOrder.2.1 66 = .ok (.goto (-62), 3) := by decide +kernel
theorem d_R_risingOrder_69 : decode M_R_risingOrder.2.1 69 = .ok (.iload_n 1, 1) := by decide +kernel
theorem d_R_risingOrder_70 : decode M_R_risingOrder.2.1 70 = .ok (.ireturn, 1) := by decide +kernel
theorem d_R_append_0 : decode M_R_append.2.1 0 = .ok (.aload_n 0, 1) := by decide +kernel
theorem d_R_append_1 : decode M_R_append.2.1 1 = .ok (.getfield 21, 3) := by decide +kernel
theorem d_R_append_4 : decode M_R_append.2.1 4 = .ok (.aload_n 0, 1) := by decide +kernel
theorem d_R_append_5 : decode M_R_append.2.1 5 = .ok (.getfield 9, 3) := by decide +kernel
theorem d_R_append_8 : decode M_R_append.2.1 8 = .ok (.arraylength, 1) := by decide +kernel
theorem d_R_append_9 : decode M_R_append.2.1 9 = .ok (.if_icmp .lt 32, 3) := by decide +kernel
theorem d_R_append_12 : decode M_R_append.2.1 12 = .ok (.aload_n 0, 1) := by decide +kernel
theorem d_R_append_13 : decode M_R_append.2.1 13 = .ok (.getfield 9, 3) := by decide +kernel
theorem d_R_append_16 : decode M_R_append.2.1 16 = .ok (.arraylength, 1) := by decide +kernel
theorem d_R_append_17 : decode M_R_append.2.1 17 = .ok (.sipush 12000, 3) := by decide +kernel
theorem d_R_append_20 : decode M_R_append.2.1 20 = .ok (.if_icmp .ge 21, 3) := by decide +kernel
theorem d_R_append_23 : decode M_R_append.2.1 23 = .ok (.aload_n 0, 1) := by decide +kernel
theorem d_R_append_24 : decode M_R_append.2.1 24 = .ok (.aload_n 0, 1) := by decide +kernel
theorem d_R_append_25 : decode M_R_append.2.1 25 = .ok (.getfield 9, 3) := by decide +kernel
theorem d_R_append_28 : decode M_R_append.2.1 28 = .ok (.iconst 2, 1) := by decide +kernel
theorem d_R_append_29 : decode M_R_append.2.1 29 = .ok (.aload_n 0, 1) := by decide +kernel
theorem d_R_append_30 : decode M_R_append.2.1 30 = .ok (.getfield 9, 3) := by decide +kernel
theorem d_R_append_33 : decode M_R_append.2.1 33 = .ok (.arraylength, 1) := by decide +kernel
theorem d_R_append_34 : decode M_R_append.2.1 34 = .ok (.imul, 1) := by decide +kernel
theorem d_R_append_35 : decode M_R_append.2.1 35 = .ok (.invokestatic 77, 3) := by decide +kernel
theorem d_R_append_38 : decode M_R_append.2.1 38 = .ok (.putfield 9, 3) := by decide +kernel
theorem d_R_append_41 : decode M_R_append.2.1 41 = .ok (.aload_n 0, 1) := by decide +kernel
theorem d_R_append_42 : decode M_R_append.2.1 42 = .ok (.getfield 9, 3) := by decide +kernel
theorem d_R_append_45 : decode M_R_append.2.1 45 = .ok (.aload_n 0, 1) := by decide +kernel
theorem d_R_append_46 : decode M_R_append.2.1 46 = .ok (.getfield 21, 3) := by decide +kernel
theorem d_R_append_49 : decode M_R_append.2.1 49 = .ok (.iload_n 1, 1) := by decide +kernel
theorem d_R_append_50 : decode M_R_append.2.1 50 = .ok (.invokestatic 63, 3) := by decide +kernel
theorem d_R_append_53 : decode M_R_append.2.1 53 = .ok (.aload_n 0, 1) := by decide +kernel
theorem d_R_append_54 : decode M_R_append.2.1 54 = .ok (.dup, 1) := by decide +kernel
theorem d_R_append_55 : decode M_R_append.2.1 55 = .ok (.getfield 21, 3) := by decide +kernel
theorem d_R_append_58 : decode M_R_append.2.1 58 = .ok (.iconst 1, 1) := by decide +kernel
theorem d_R_append_59 : decode M_R_append.2.1 59 = .ok (.iadd, 1) := by decide +kernel
theorem d_R_append_60 : decode M_R_append.2.1 60 = .ok (.putfield 21, 3) := by decide +kernel
theorem d_R_append_63 : decode M_R_append.2.1 63 = .ok (.return_, 1) := by decide +kernel
