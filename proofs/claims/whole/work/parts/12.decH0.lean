theorem d_H_init_0 : decode M_H_init.2.1 0 = .ok (.aload_n 0, 1) := by decide +kernel
theorem d_H_init_1 : decode M_H_init.2.1 1 = .ok (.invokespecial 3, 3) := by decide +kernel
theorem d_H_init_4 : decode M_H_init.2.1 4 = .ok (.new 9, 3) := by decide +kernel
theorem d_H_init_7 : decode M_H_init.2.1 7 = .ok (.dup, 1) := by decide +kernel
theorem d_H_init_8 : decode M_H_init.2.1 8 = .ok (.invokespecial 11, 3) := by decide +kernel
theorem d_H_init_11 : decode M_H_init.2.1 11 = .ok (.astore_n 1, 1) := by decide +kernel
theorem d_H_init_12 : decode M_H_init.2.1 12 = .ok (.aload_n 0, 1) := by decide +kernel
theorem d_H_init_13 : decode M_H_init.2.1 13 = .ok (.new 12, 3) := by decide +kernel
theorem d_H_init_16 : decode M_H_init.2.1 16 = .ok (.dup, 1) := by decide +kernel
theorem d_H_init_17 : decode M_H_init.2.1 17 = .ok (.invokespecial 14, 3) := by decide +kernel
theorem d_H_init_20 : decode M_H_init.2.1 20 = .ok (.putfield 15, 3) := by decide +kernel
theorem d_H_init_23 : decode M_H_init.2.1 23 = .ok (.aload_n 0, 1) := by decide +kernel
theorem d_H_init_24 : decode M_H_init.2.1 24 = .ok (.new 19, 3) := by decide +kernel
theorem d_H_init_27 : decode M_H_init.2.1 27 = .ok (.dup, 1) := by decide +kernel
theorem d_H_init_28 : decode M_H_init.2.1 28 = .ok (.aload_n 1, 1) := by decide +kernel
theorem d_H_init_29 : decode M_H_init.2.1 29 = .ok (.invokespecial 21, 3) := by decide +kernel
theorem d_H_init_32 : decode M_H_init.2.1 32 = .ok (.putfield 24, 3) := by decide +kernel
theorem d_H_init_35 : decode M_H_init.2.1 35 = .ok (.aload_n 0, 1) := by decide +kernel
theorem d_H_init_36 : decode M_H_init.2.1 36 = .ok (.bipush 8, 2) := by decide +kernel
theorem d_H_init_38 : decode M_H_init.2.1 38 = .ok (.anewarray 28, 3) := by decide +kernel
theorem d_H_init_41 : decode M_H_init.2.1 41 = .ok (.putfield 30, 3) := by decide +kernel
theorem d_H_init_44 : decode M_H_init.2.1 44 = .ok (.iconst 0, 1) := by decide +kernel
theorem d_H_init_45 : decode M_H_init.2.1 45 = .ok (.istore_n 2, 1) := by decide +kernel
theorem d_H_init_46 : decode M_H_init.2.1 46 = .ok (.iload_n 2, 1) := by decide +kernel
theorem d_H_init_47 : decode M_H_init.2.1 47 = .ok (.aload_n 0, 1) := by decide +kernel
theorem d_H_init_48 : decode M_H_init.2.1 48 = .ok (.getfield 30, 3) := by decide +kernel
theorem d_H_init_51 : decode M_H_init.2.1 51 = .ok (.arraylength, 1) := by decide +kernel
theorem d_H_init_52 : decode M_H_init.2.1 52 = .ok (.if_icmp .ge 28, 3) := by decide +kernel
theorem d_H_init_55 : decode M_H_init.2.1 55 = .ok (.aload_n 0, 1) := by decide +kernel
theorem d_H_init_56 : decode M_H_init.2.1 56 = .ok (.getfield 30, 3) := by decide +kernel
theorem d_H_init_59 : decode M_H_init.2.1 59 = .ok (.iload_n 2, 1) := by decide +kernel
theorem d_H_init_60 : decode M_H_init.2.1 60 = .ok (.new 28, 3) := by decide +kernel
theorem d_H_init_63 : decode M_H_init.2.1 63 = .ok (.dup, 1) := by decide +kernel
theorem d_H_init_64 : decode M_H_init.2.1 64 = .ok (.aload_n 1, 1) := by decide +kernel
theorem d_H_init_65 : decode M_H_init.2.1 65 = .ok (.iload_n 2, 1) := by decide +kernel
theorem d_H_init_66 : decode M_H_init.2.1 66 = .ok (.sipush 150, 3) := by decide +kernel
theorem d_H_init_69 : decode M_H_init.2.1 69 = .ok (.imul, 1) := by decide +kernel
theorem d_H_init_70 : decode M_H_init.2.1 70 = .ok (.invokespecial 34, 3) := by decide +kernel
theorem d_H_init_73 : decode M_H_init.2.1 73 = .ok (.aastore, 1) := by decide +kernel
theorem d_H_init_74 : decode M_H_init.2.1 74 = .ok (.iinc 2 1, 3) := by decide +kernel
theorem d_H_init_77 : decode M_H_init.2.1 77 = .ok (.goto (-31), 3) := by decide +kernel
theorem d_H_init_80 : decode M_H_init.2.1 80 = .ok (.aload_n 0, 1) := by decide +kernel
theorem d_H_init_81 : decode M_H_init.2.1 81 = .ok (.new 37, 3) := by decide +kernel
theorem d_H_init_84 : decode M_H_init.2.1 84 = .ok (.dup, 1) := by decide +kernel
theorem d_H_init_85 : decode M_H_init.2.1 85 = .ok (.aload_n 1, 1) := by decide +kernel
theorem d_H_init_86 : decode M_H_init.2.1 86 = .ok (.aload_n 0, 1) := by decide +kernel
theorem d_H_init_87 : decode M_H_init.2.1 87 = .ok (.getfield 24, 3) := by decide +kernel
theorem d_H_init_90 : decode M_H_init.2.1 90 = .ok (.invokespecial 39, 3) := by decide +kernel
theorem d_H_init_93 : decode M_H_init.2.1 93 = .ok (.putfield 42, 3) := by decide +kernel
theorem d_H_init_96 : decode M_H_init.2.1 96 = .ok (.aload_n 0, 1) := by decide +kernel
theorem d_H_init_97 : decode M_H_init.2.1 97 = .ok (.new 37, 3) := by decide +kernel
theorem d_H_init_100 : decode M_H_init.2.1 100 = .ok (.dup, 1) := by decide +kernel
theorem d_H_init_101 : decode M_H_init.2.1 101 = .ok (.aload_n 1, 1) := by decide +kernel
theorem d_H_init_102 : decode M_H_init.2.1 102 = .ok (.aload_n 0, 1) := by decide +kernel
theorem d_H_init_103 : decode M_H_init.2.1 103 = .ok (.getfield 24, 3) := by decide +kernel
theorem d_H_init_106 : decode M_H_init.2.1 106 = .ok (.invokespecial 39, 3) := by decide +kernel
theorem d_H_init_109 : decode M_H_init.2.1 109 = .ok (.putfield 46, 3) := by decide +kernel
theorem d_H_init_112 : decode M_H_init.2.1 112 = .ok (.aload_n 0, 1) := by decide +kernel
theorem d_H_init_113 : decode M_H_init.2.1 113 = .ok (.new 49, 3) := by decide +kernel
theorem d_H_init_116 : decode M_H_init.2.1 116 = .ok (.dup, 1) := by decide +kernel
theorem d_H_init_117 : decode M_H_init.2.1 117 = .ok (.aload_n 1, 1) := by decide +kernel
theorem d_H_init_118 : decode M_H_init.2.1 118 = .ok (.aload_n 0, 1) := by decide +kernel
theorem d_H_init_119 : decode M_H_init.2.1 119 = .ok (.getfield 24, 3) := by decide +kernel
theorem d_H_init_122 : decode M_H_init.2.1 122 = .ok (.aload_n 0, 1) := by decide +kernel
theorem d_H_init_123 : decode M_H_init.2.1 123 = .ok (.getfield 15, 3) := by decide +kernel
theorem d_H_init_126 : decode M_H_init.2.1 126 = .ok (.aload_n 0, 1) := by decide +kernel
theorem d_H_init_127 : decode M_H_init.2.1 127 = .ok (.getfield 42, 3) := by decide +kernel
theorem d_H_init_130 : decode M_H_init.2.1 130 = .ok (.aload_n 0, 1) := by decide +kernel
theorem d_H_init_131 : decode M_H_init.2.1 131 = .ok (.getfield 46, 3) := by decide +kernel
theorem d_H_init_134 : decode M_H_init.2.1 134 = .ok (.invokespecial 51, 3) := by decide +kernel
theorem d_H_init_137 : decode M_H_init.2.1 137 = .ok (.putfield 54, 3) := by decide +kernel
theorem d_H_init_140 : decode M_H_init.2.1 140 = .ok (.aload_n 0, 1) := by decide +kernel
theorem d_H_init_141 : decode M_H_init.2.1 141 = .ok (.new 58, 3) := by decide +kernel
theorem d_H_init_144 : decode M_H_init.2.1 144 = .ok (.dup, 1) := by decide +kernel
theorem d_H_init_145 : decode M_H_init.2.1 145 = .ok (.invokespecial 60, 3) := by decide +kernel
theorem d_H_init_148 : decode M_H_init.2.1 148 = .ok (.putfield 61, 3) := by decide +kernel
theorem d_H_init_151 : decode M_H_init.2.1 151 = .ok (.return_, 1) := by decide +kernel
theorem d_H_empty_0 : decode M_H_empty.2.1 0 = .ok (.iconst 0, 1) := by decide +kernel
theorem d_H_empty_1 : decode M_H_empty.2.1 1 = .ok (.istore_n 1, 1) := by decide +kernel
theorem d_H_empty_2 : decode M_H_empty.2.1 2 = .ok (.iconst 0, 1) := by decide +kernel
theorem d_H_empty_3 : decode M_H_empty.2.1 3 = .ok (.istore_n 2, 1) := by decide +kernel
theorem d_H_empty_4 : decode M_H_empty.2.1 4 = .ok (.iload_n 2, 1) := by decide +kernel
theorem d_H_empty_5 : decode M_H_empty.2.1 5 = .ok (.aload_n 0, 1) := by decide +kernel
theorem d_H_empty_6 : decode M_H_empty.2.1 6 = .ok (.getfield 24, 3) := by decide +kernel
theorem d_H_empty_9 : decode M_H_empty.2.1 9 = .ok (.getfield 204, 3) := by decide +kernel
theorem d_H_empty_12 : decode M_H_empty.2.1 12 = .ok (.if_icmp .ge 23, 3) := by decide +kernel
theorem d_H_empty_15 : decode M_H_empty.2.1 15 = .ok (.aload_n 0, 1) := by decide +kernel
theorem d_H_empty_16 : decode M_H_empty.2.1 16 = .ok (.getfield 24, 3) := by decide +kernel
theorem d_H_empty_19 : decode M_H_empty.2.1 19 = .ok (.iload_n 2, 1) := by decide +kernel
theorem d_H_empty_20 : decode M_H_empty.2.1 20 = .ok (.invokevirtual 189, 3) := by decide +kernel
theorem d_H_empty_23 : decode M_H_empty.2.1 23 = .ok (.ifCond .ne 6, 3) := by decide +kernel
theorem d_H_empty_26 : decode M_H_empty.2.1 26 = .ok (.iinc 1 1, 3) := by decide +kernel
theorem d_H_empty_29 : decode M_H_empty.2.1 29 = .ok (.iinc 2 1, 3) := by decide +kernel
theorem d_H_empty_32 : decode M_H_empty.2.1 32 = .ok (.goto (-28), 3) := by decide +kernel
theorem d_H_empty_35 : decode M_H_empty.2.1 35 = .ok (.aload_n 0, 1) := by decide +kernel
theorem d_H_empty_36 : decode M_H_empty.2.1 36 = .ok (.getfield 24, 3) := by decide +kernel
theorem d_H_empty_39 : decode M_H_empty.2.1 39 = .ok (.iconst 0, 1) := by decide +kernel
theorem d_H_empty_40 : decode M_H_empty.2.1 40 = .ok (.iconst 0, 1) := by decide +kernel
theorem d_H_empty_41 : decode M_H_empty.2.1 41 = .ok (.invokevirtual 145, 3) := by decide +kernel
theorem d_H_empty_44 : decode M_H_empty.2.1 44 = .ok (.iload_n 1, 1) := by decide +kernel
theorem d_H_empty_45 : decode M_H_empty.2.1 45 = .ok (.ireturn, 1) := by decide +kernel
theorem d_H_at_0 : decode M_H_at.2.1 0 = .ok (.iload_n 1, 1) := by decide +kernel
theorem d_H_at_1 : decode M_H_at.2.1 1 = .ok (.ifCond .lt 15, 3) := by decide +kernel
theorem d_H_at_4 : decode M_H_at.2.1 4 = .ok (.iload_n 1, 1) := by decide +kernel
theorem d_H_at_5 : decode M_H_at.2.1 5 = .ok (.aload_n 0, 1) := by decide +kernel
theorem d_H_at_6 : decode M_H_at.2.1 6 = .ok (.arraylength, 1) := by decide +kernel
theorem d_H_at_7 : decode M_H_at.2.1 7 = .ok (.if_icmp .ge 9, 3) := by decide +kernel
theorem d_H_at_10 : decode M_H_at.2.1 10 = .ok (.aload_n 0, 1) := by decide +kernel
theorem d_H_at_11 : decode M_H_at.2.1 11 = .ok (.iload_n 1, 1) := by decide +kernel
theorem d_H_at_12 : decode M_H_at.2.1 12 = .ok (.iaload, 1) := by decide +kernel
theorem d_H_at_13 : decode M_H_at.2.1 13 = .ok (.goto 4, 3) := by decide +kernel
theorem d_H_at_16 : decode M_H_at.2.1 16 = .ok (.iconst 0, 1) := by decide +kernel
theorem d_H_at_17 : decode M_H_at.2.1 17 = .ok (.ireturn, 1) := by decide +kernel
theorem d_H_set_0 : decode M_H_set.2.1 0 = .ok (.iload_n 1, 1) := by decide +kernel
theorem d_H_set_1 : decode M_H_set.2.1 1 = .ok (.ifCond .lt 13, 3) := by decide +kernel
theorem d_H_set_4 : decode M_H_set.2.1 4 = .ok (.iload_n 1, 1) := by decide +kernel
theorem d_H_set_5 : decode M_H_set.2.1 5 = .ok (.aload_n 0, 1) := by decide +kernel
theorem d_H_set_6 : decode M_H_set.2.1 6 = .ok (.arraylength, 1) := by decide +kernel
theorem d_H_set_7 : decode M_H_set.2.1 7 = .ok (.if_icmp .ge 7, 3) := by decide +kernel
theorem d_H_set_10 : decode M_H_set.2.1 10 = .ok (.aload_n 0, 1) := by decide +kernel
theorem d_H_set_11 : decode M_H_set.2.1 11 = .ok (.iload_n 1, 1) := by decide +kernel
theorem d_H_set_12 : decode M_H_set.2.1 12 = .ok (.iload_n 2, 1) := by decide +kernel
theorem d_H_set_13 : decode M_H_set.2.1 13 = .ok (.iastore, 1) := by decide +kernel
theorem d_H_set_14 : decode M_H_set.2.1 14 = .ok (.return_, 1) := by decide +kernel
theorem d_H_count_0 : decode M_H_count.2.1 0 = .ok (.iload_n 1, 1) := by decide +kernel
theorem d_H_count_1 : decode M_H_count.2.1 1 = .ok (.tableswitch 105 0 7 #[47, 55, 63, 71, 79, 87, 95, 100], 47) := by decide +kernel
theorem d_H_count_48 : decode M_H_count.2.1 48 = .ok (.aload_n 0, 1) := by decide +kernel
theorem d_H_count_49 : decode M_H_count.2.1 49 = .ok (.getfield 15, 3) := by decide +kernel
theorem d_H_count_52 : decode M_H_count.2.1 52 = .ok (.getfield 207, 3) := by decide +kernel
theorem d_H_count_55 : decode M_H_count.2.1 55 = .ok (.ireturn, 1) := by decide +kernel
theorem d_H_count_56 : decode M_H_count.2.1 56 = .ok (.aload_n 0, 1) := by decide +kernel
theorem d_H_count_57 : decode M_H_count.2.1 57 = .ok (.getfield 24, 3) := by decide +kernel
theorem d_H_count_60 : decode M_H_count.2.1 60 = .ok (.getfield 204, 3) := by decide +kernel
theorem d_H_count_63 : decode M_H_count.2.1 63 = .ok (.ireturn, 1) := by decide +kernel
theorem d_H_count_64 : decode M_H_count.2.1 64 = .ok (.aload_n 0, 1) := by decide +kernel
theorem d_H_count_65 : decode M_H_count.2.1 65 = .ok (.getfield 24, 3) := by decide +kernel
theorem d_H_count_68 : decode M_H_count.2.1 68 = .ok (.getfield 136, 3) := by decide +kernel
theorem d_H_count_71 : decode M_H_count.2.1 71 = .ok (.ireturn, 1) := by decide +kernel
theorem d_H_count_72 : decode M_H_count.2.1 72 = .ok (.aload_n 0, 1) := by decide +kernel
theorem d_H_count_73 : decode M_H_count.2.1 73 = .ok (.getfield 24, 3) := by decide +kernel
theorem d_H_count_76 : decode M_H_count.2.1 76 = .ok (.getfield 132, 3) := by decide +kernel
theorem d_H_count_79 : decode M_H_count.2.1 79 = .ok (.ireturn, 1) := by decide +kernel
theorem d_H_count_80 : decode M_H_count.2.1 80 = .ok (.aload_n 0, 1) := by decide +kernel
theorem d_H_count_81 : decode M_H_count.2.1 81 = .ok (.getfield 61, 3) := by decide +kernel
theorem d_H_count_84 : decode M_H_count.2.1 84 = .ok (.getfield 155, 3) := by decide +kernel
theorem d_H_count_87 : decode M_H_count.2.1 87 = .ok (.ireturn, 1) := by decide +kernel
theorem d_H_count_88 : decode M_H_count.2.1 88 = .ok (.aload_n 0, 1) := by decide +kernel
theorem d_H_count_89 : decode M_H_count.2.1 89 = .ok (.getfield 61, 3) := by decide +kernel
theorem d_H_count_92 : decode M_H_count.2.1 92 = .ok (.getfield 208, 3) := by decide +kernel
theorem d_H_count_95 : decode M_H_count.2.1 95 = .ok (.ireturn, 1) := by decide +kernel
theorem d_H_count_96 : decode M_H_count.2.1 96 = .ok (.aload_n 0, 1) := by decide +kernel
theorem d_H_count_97 : decode M_H_count.2.1 97 = .ok (.getfield 142, 3) := by decide +kernel
theorem d_H_count_100 : decode M_H_count.2.1 100 = .ok (.ireturn, 1) := by decide +kernel
theorem d_H_count_101 : decode M_H_count.2.1 101 = .ok (.aload_n 0, 1) := by decide +kernel
theorem d_H_count_102 : decode M_H_count.2.1 102 = .ok (.getfield 148, 3) := by decide +kernel
theorem d_H_count_105 : decode M_H_count.2.1 105 = .ok (.ireturn, 1) := by decide +kernel
theorem d_H_count_106 : decode M_H_count.2.1 106 = .ok (.iconst (-1), 1) := by decide +kernel
theorem d_H_count_107 : decode M_H_count.2.1 107 = .ok (.ireturn, 1) := by decide +kernel
theorem d_H_operation_0 : decode M_H_operation.2.1 0 = .ok (.iload_n 1, 1) := by decide +kernel
theorem d_H_operation_1 : decode M_H_operation.2.1 1 = .ok (.invokestatic 65, 3) := by decide +kernel
theorem d_H_operation_4 : decode M_H_operation.2.1 4 = .ok (.ifCond .eq 17, 3) := by decide +kernel
theorem d_H_operation_7 : decode M_H_operation.2.1 7 = .ok (.iload_n 2, 1) := by decide +kernel
theorem d_H_operation_8 : decode M_H_operation.2.1 8 = .ok (.invokestatic 65, 3) := by decide +kernel
theorem d_H_operation_11 : decode M_H_operation.2.1 11 = .ok (.ifCond .eq 10, 3) := by decide +kernel
theorem d_H_operation_14 : decode M_H_operation.2.1 14 = .ok (.iload_n 3, 1) := by decide +kernel
theorem d_H_operation_15 : decode M_H_operation.2.1 15 = .ok (.invokestatic 65, 3) := by decide +kernel
theorem d_H_operation_18 : decode M_H_operation.2.1 18 = .ok (.ifCond .ne 13, 3) := by decide +kernel
theorem d_H_operation_21 : decode M_H_operation.2.1 21 = .ok (.new 69, 3) := by decide +kernel
theorem d_H_operation_24 : decode M_H_operation.2.1 24 = .ok (.dup, 1) := by decide +kernel
theorem d_H_operation_25 : decode M_H_operation.2.1 25 = .ok (.ldc 71, 2) := by decide +kernel
theorem d_H_operation_27 : decode M_H_operation.2.1 27 = .ok (.invokespecial 73, 3) := by decide +kernel
theorem d_H_operation_30 : decode M_H_operation.2.1 30 = .ok (.athrow, 1) := by decide +kernel
theorem d_H_operation_31 : decode M_H_operation.2.1 31 = .ok (.iload_n 1, 1) := by decide +kernel
theorem d_H_operation_32 : decode M_H_operation.2.1 32 = .ok (.iconst (-1), 1) := by decide +kernel
theorem d_H_operation_33 : decode M_H_operation.2.1 33 = .ok (.if_icmp .ne 8, 3) := by decide +kernel
theorem d_H_operation_36 : decode M_H_operation.2.1 36 = .ok (.iload_n 2, 1) := by decide +kernel
theorem d_H_operation_37 : decode M_H_operation.2.1 37 = .ok (.iconst (-1), 1) := by decide +kernel
theorem d_H_operation_38 : decode M_H_operation.2.1 38 = .ok (.if_icmp .ne 13, 3) := by decide +kernel
theorem d_H_operation_41 : decode M_H_operation.2.1 41 = .ok (.iload_n 2, 1) := by decide +kernel
theorem d_H_operation_42 : decode M_H_operation.2.1 42 = .ok (.iconst (-1), 1) := by decide +kernel
theorem d_H_operation_43 : decode M_H_operation.2.1 43 = .ok (.if_icmp .ne 18, 3) := by decide +kernel
theorem d_H_operation_46 : decode M_H_operation.2.1 46 = .ok (.iload_n 3, 1) := by decide +kernel
theorem d_H_operation_47 : decode M_H_operation.2.1 47 = .ok (.iconst (-1), 1) := by decide +kernel
theorem d_H_operation_48 : decode M_H_operation.2.1 48 = .ok (.if_icmp .eq 13, 3) := by decide +kernel
theorem d_H_operation_51 : decode M_H_operation.2.1 51 = .ok (.new 69, 3) := by decide +kernel
theorem d_H_operation_54 : decode M_H_operation.2.1 54 = .ok (.dup, 1) := by decide +kernel
theorem d_H_operation_55 : decode M_H_operation.2.1 55 = .ok (.ldc 76, 2) := by decide +kernel
theorem d_H_operation_57 : decode M_H_operation.2.1 57 = .ok (.invokespecial 73, 3) := by decide +kernel
theorem d_H_operation_60 : decode M_H_operation.2.1 60 = .ok (.athrow, 1) := by decide +kernel
theorem d_H_operation_61 : decode M_H_operation.2.1 61 = .ok (.aload_n 0, 1) := by decide +kernel
theorem d_H_operation_62 : decode M_H_operation.2.1 62 = .ok (.getfield 15, 3) := by decide +kernel
theorem d_H_operation_65 : decode M_H_operation.2.1 65 = .ok (.iload_n 1, 1) := by decide +kernel
theorem d_H_operation_66 : decode M_H_operation.2.1 66 = .ok (.iload_n 2, 1) := by decide +kernel
theorem d_H_operation_67 : decode M_H_operation.2.1 67 = .ok (.iload_n 3, 1) := by decide +kernel
theorem d_H_operation_68 : decode M_H_operation.2.1 68 = .ok (.invokevirtual 78, 3) := by decide +kernel
theorem d_H_operation_71 : decode M_H_operation.2.1 71 = .ok (.ireturn, 1) := by decide +kernel
theorem d_H_mayBind_0 : decode M_H_mayBind.2.1 0 = .ok (.iload_n 0, 1) := by decide +kernel
theorem d_H_mayBind_1 : decode M_H_mayBind.2.1 1 = .ok (.iconst (-1), 1) := by decide +kernel
theorem d_H_mayBind_2 : decode M_H_mayBind.2.1 2 = .ok (.if_icmp .lt 12, 3) := by decide +kernel
theorem d_H_mayBind_5 : decode M_H_mayBind.2.1 5 = .ok (.iload_n 0, 1) := by decide +kernel
theorem d_H_mayBind_6 : decode M_H_mayBind.2.1 6 = .ok (.iconst 2, 1) := by decide +kernel
theorem d_H_mayBind_7 : decode M_H_mayBind.2.1 7 = .ok (.if_icmp .gt 7, 3) := by decide +kernel
theorem d_H_mayBind_10 : decode M_H_mayBind.2.1 10 = .ok (.iconst 1, 1) := by decide +kernel
theorem d_H_mayBind_11 : decode M_H_mayBind.2.1 11 = .ok (.goto 4, 3) := by decide +kernel
theorem d_H_mayBind_14 : decode M_H_mayBind.2.1 14 = .ok (.iconst 0, 1) := by decide +kernel
theorem d_H_mayBind_15 : decode M_H_mayBind.2.1 15 = .ok (.ireturn, 1) := by decide +kernel
theorem d_H_hole_0 : decode M_H_hole.2.1 0 = .ok (.iload_n 1, 1) := by decide +kernel
theorem d_H_hole_1 : decode M_H_hole.2.1 1 = .ok (.ifCond .lt 8, 3) := by decide +kernel
theorem d_H_hole_4 : decode M_H_hole.2.1 4 = .ok (.iload_n 1, 1) := by decide +kernel
theorem d_H_hole_5 : decode M_H_hole.2.1 5 = .ok (.iconst 4, 1) := by decide +kernel
theorem d_H_hole_6 : decode M_H_hole.2.1 6 = .ok (.if_icmp .le 13, 3) := by decide +kernel
theorem d_H_hole_9 : decode M_H_hole.2.1 9 = .ok (.new 69, 3) := by decide +kernel
theorem d_H_hole_12 : decode M_H_hole.2.1 12 = .ok (.dup, 1) := by decide +kernel
theorem d_H_hole_13 : decode M_H_hole.2.1 13 = .ok (.ldc 82, 2) := by decide +kernel
theorem d_H_hole_15 : decode M_H_hole.2.1 15 = .ok (.invokespecial 73, 3) := by decide +kernel
theorem d_H_hole_18 : decode M_H_hole.2.1 18 = .ok (.athrow, 1) := by decide +kernel
theorem d_H_hole_19 : decode M_H_hole.2.1 19 = .ok (.aload_n 0, 1) := by decide +kernel
theorem d_H_hole_20 : decode M_H_hole.2.1 20 = .ok (.getfield 24, 3) := by decide +kernel
theorem d_H_hole_23 : decode M_H_hole.2.1 23 = .ok (.iload_n 1, 1) := by decide +kernel
theorem d_H_hole_24 : decode M_H_hole.2.1 24 = .ok (.invokevirtual 84, 3) := by decide +kernel
theorem d_H_hole_27 : decode M_H_hole.2.1 27 = .ok (.ireturn, 1) := by decide +kernel
theorem d_H_begin_0 : decode M_H_begin.2.1 0 = .ok (.aload_n 0, 1) := by decide +kernel
theorem d_H_begin_1 : decode M_H_begin.2.1 1 = .ok (.iload_n 1, 1) := by decide +kernel
theorem d_H_begin_2 : decode M_H_begin.2.1 2 = .ok (.invokevirtual 87, 3) := by decide +kernel
theorem d_H_begin_5 : decode M_H_begin.2.1 5 = .ok (.astore_n 3, 1) := by decide +kernel
theorem d_H_begin_6 : decode M_H_begin.2.1 6 = .ok (.iload_n 2, 1) := by decide +kernel
theorem d_H_begin_7 : decode M_H_begin.2.1 7 = .ok (.ifCond .lt 9, 3) := by decide +kernel
theorem d_H_begin_10 : decode M_H_begin.2.1 10 = .ok (.iload_n 2, 1) := by decide +kernel
theorem d_H_begin_11 : decode M_H_begin.2.1 11 = .ok (.bipush 6, 2) := by decide +kernel
theorem d_H_begin_13 : decode M_H_begin.2.1 13 = .ok (.if_icmp .le 13, 3) := by decide +kernel
theorem d_H_begin_16 : decode M_H_begin.2.1 16 = .ok (.new 69, 3) := by decide +kernel
theorem d_H_begin_19 : decode M_H_begin.2.1 19 = .ok (.dup, 1) := by decide +kernel
theorem d_H_begin_20 : decode M_H_begin.2.1 20 = .ok (.ldc 91, 2) := by decide +kernel
theorem d_H_begin_22 : decode M_H_begin.2.1 22 = .ok (.invokespecial 73, 3) := by decide +kernel
theorem d_H_begin_25 : decode M_H_begin.2.1 25 = .ok (.athrow, 1) := by decide +kernel
theorem d_H_begin_26 : decode M_H_begin.2.1 26 = .ok (.aload_n 3, 1) := by decide +kernel
theorem d_H_begin_27 : decode M_H_begin.2.1 27 = .ok (.iload_n 2, 1) := by decide +kernel
theorem d_H_begin_28 : decode M_H_begin.2.1 28 = .ok (.invokevirtual 93, 3) := by decide +kernel
theorem d_H_begin_31 : decode M_H_begin.2.1 31 = .ok (.aload_n 3, 1) := by decide +kernel
theorem d_H_begin_32 : decode M_H_begin.2.1 32 = .ok (.invokevirtual 97, 3) := by decide +kernel
theorem d_H_begin_35 : decode M_H_begin.2.1 35 = .ok (.ireturn, 1) := by decide +kernel
theorem d_H_slotAt_0 : decode M_H_slotAt.2.1 0 = .ok (.iload_n 1, 1) := by decide +kernel
theorem d_H_slotAt_1 : decode M_H_slotAt.2.1 1 = .ok (.ifCond .lt 21, 3) := by decide +kernel
theorem d_H_slotAt_4 : decode M_H_slotAt.2.1 4 = .ok (.iload_n 1, 1) := by decide +kernel
theorem d_H_slotAt_5 : decode M_H_slotAt.2.1 5 = .ok (.aload_n 0, 1) := by decide +kernel
theorem d_H_slotAt_6 : decode M_H_slotAt.2.1 6 = .ok (.getfield 30, 3) := by decide +kernel
theorem d_H_slotAt_9 : decode M_H_slotAt.2.1 9 = .ok (.arraylength, 1) := by decide +kernel
theorem d_H_slotAt_10 : decode M_H_slotAt.2.1 10 = .ok (.if_icmp .ge 12, 3) := by decide +kernel
theorem d_H_slotAt_13 : decode M_H_slotAt.2.1 13 = .ok (.aload_n 0, 1) := by decide +kernel
theorem d_H_slotAt_14 : decode M_H_slotAt.2.1 14 = .ok (.getfield 30, 3) := by decide +kernel
theorem d_H_slotAt_17 : decode M_H_slotAt.2.1 17 = .ok (.iload_n 1, 1) := by decide +kernel
theorem d_H_slotAt_18 : decode M_H_slotAt.2.1 18 = .ok (.aaload, 1) := by decide +kernel
theorem d_H_slotAt_19 : decode M_H_slotAt.2.1 19 = .ok (.goto 4, 3) := by decide +kernel
theorem d_H_slotAt_22 : decode M_H_slotAt.2.1 22 = .ok (.aconst_null, 1) := by decide +kernel
theorem d_H_slotAt_23 : decode M_H_slotAt.2.1 23 = .ok (.astore_n 2, 1) := by decide +kernel
theorem d_H_slotAt_24 : decode M_H_slotAt.2.1 24 = .ok (.aload_n 2, 1) := by decide +kernel
theorem d_H_slotAt_25 : decode M_H_slotAt.2.1 25 = .ok (.ifnonnull 13, 3) := by decide +kernel
theorem d_H_slotAt_28 : decode M_H_slotAt.2.1 28 = .ok (.new 69, 3) := by decide +kernel
theorem d_H_slotAt_31 : decode M_H_slotAt.2.1 31 = .ok (.dup, 1) := by decide +kernel
theorem d_H_slotAt_32 : decode M_H_slotAt.2.1 32 = .ok (.ldc 211, 2) := by decide +kernel
theorem d_H_slotAt_34 : decode M_H_slotAt.2.1 34 = .ok (.invokespecial 73, 3) := by decide +kernel
theorem d_H_slotAt_37 : decode M_H_slotAt.2.1 37 = .ok (.athrow, 1) := by decide +kernel
theorem d_H_slotAt_38 : decode M_H_slotAt.2.1 38 = .ok (.aload_n 2, 1) := by decide +kernel
theorem d_H_slotAt_39 : decode M_H_slotAt.2.1 39 = .ok (.areturn, 1) := by decide +kernel
theorem d_H_put_0 : decode M_H_put.2.1 0 = .ok (.aload_n 0, 1) := by decide +kernel
theorem d_H_put_1 : decode M_H_put.2.1 1 = .ok (.iload_n 1, 1) := by decide +kernel
theorem d_H_put_2 : decode M_H_put.2.1 2 = .ok (.invokevirtual 87, 3) := by decide +kernel
theorem d_H_put_5 : decode M_H_put.2.1 5 = .ok (.astore 4, 2) := by decide +kernel
theorem d_H_put_7 : decode M_H_put.2.1 7 = .ok (.aload 4, 2) := by decide +kernel
theorem d_H_put_9 : decode M_H_put.2.1 9 = .ok (.invokevirtual 97, 3) := by decide +kernel
theorem d_H_put_12 : decode M_H_put.2.1 12 = .ok (.ifCond .ne 13, 3) := by decide +kernel
theorem d_H_put_15 : decode M_H_put.2.1 15 = .ok (.new 101, 3) := by decide +kernel
theorem d_H_put_18 : decode M_H_put.2.1 18 = .ok (.dup, 1) := by decide +kernel
theorem d_H_put_19 : decode M_H_put.2.1 19 = .ok (.ldc 103, 2) := by decide +kernel
theorem d_H_put_21 : decode M_H_put.2.1 21 = .ok (.invokespecial 105, 3) := by decide +kernel
theorem d_H_put_24 : decode M_H_put.2.1 24 = .ok (.athrow, 1) := by decide +kernel
theorem d_H_put_25 : decode M_H_put.2.1 25 = .ok (.aload_n 0, 1) := by decide +kernel
theorem d_H_put_26 : decode M_H_put.2.1 26 = .ok (.aload 4, 2) := by decide +kernel
theorem d_H_put_28 : decode M_H_put.2.1 28 = .ok (.iload_n 2, 1) := by decide +kernel
theorem d_H_put_29 : decode M_H_put.2.1 29 = .ok (.iload_n 3, 1) := by decide +kernel
theorem d_H_put_30 : decode M_H_put.2.1 30 = .ok (.invokevirtual 106, 3) := by decide +kernel
theorem d_H_put_33 : decode M_H_put.2.1 33 = .ok (.ifCond .ne 13, 3) := by decide +kernel
theorem d_H_put_36 : decode M_H_put.2.1 36 = .ok (.new 69, 3) := by decide +kernel
theorem d_H_put_39 : decode M_H_put.2.1 39 = .ok (.dup, 1) := by decide +kernel
theorem d_H_put_40 : decode M_H_put.2.1 40 = .ok (.ldc 110, 2) := by decide +kernel
theorem d_H_put_42 : decode M_H_put.2.1 42 = .ok (.invokespecial 73, 3) := by decide +kernel
theorem d_H_put_45 : decode M_H_put.2.1 45 = .ok (.athrow, 1) := by decide +kernel
theorem d_H_put_46 : decode M_H_put.2.1 46 = .ok (.aload_n 0, 1) := by decide +kernel
theorem d_H_put_47 : decode M_H_put.2.1 47 = .ok (.aload 4, 2) := by decide +kernel
theorem d_H_put_49 : decode M_H_put.2.1 49 = .ok (.iload_n 2, 1) := by decide +kernel
theorem d_H_put_50 : decode M_H_put.2.1 50 = .ok (.iload_n 3, 1) := by decide +kernel
theorem d_H_put_51 : decode M_H_put.2.1 51 = .ok (.invokevirtual 112, 3) := by decide +kernel
theorem d_H_put_54 : decode M_H_put.2.1 54 = .ok (.ifCond .ne 5, 3) := by decide +kernel
theorem d_H_put_57 : decode M_H_put.2.1 57 = .ok (.iconst (-1), 1) := by decide +kernel
theorem d_H_put_58 : decode M_H_put.2.1 58 = .ok (.ireturn, 1) := by decide +kernel
theorem d_H_put_59 : decode M_H_put.2.1 59 = .ok (.iload_n 2, 1) := by decide +kernel
theorem d_H_put_60 : decode M_H_put.2.1 60 = .ok (.ifCond .ne 12, 3) := by decide +kernel
theorem d_H_put_63 : decode M_H_put.2.1 63 = .ok (.aload 4, 2) := by decide +kernel
theorem d_H_put_65 : decode M_H_put.2.1 65 = .ok (.iload_n 3, 1) := by decide +kernel
theorem d_H_put_66 : decode M_H_put.2.1 66 = .ok (.invokevirtual 115, 3) := by decide +kernel
theorem d_H_put_69 : decode M_H_put.2.1 69 = .ok (.goto 35, 3) := by decide +kernel
theorem d_H_put_72 : decode M_H_put.2.1 72 = .ok (.iload_n 2, 1) := by decide +kernel
theorem d_H_put_73 : decode M_H_put.2.1 73 = .ok (.iconst 1, 1) := by decide +kernel
theorem d_H_put_74 : decode M_H_put.2.1 74 = .ok (.if_icmp .ne 16, 3) := by decide +kernel
theorem d_H_put_77 : decode M_H_put.2.1 77 = .ok (.aload 4, 2) := by decide +kernel
theorem d_H_put_79 : decode M_H_put.2.1 79 = .ok (.iload_n 3, 1) := by decide +kernel
theorem d_H_put_80 : decode M_H_put.2.1 80 = .ok (.aload_n 0, 1) := by decide +kernel
theorem d_H_put_81 : decode M_H_put.2.1 81 = .ok (.getfield 15, 3) := by decide +kernel
theorem d_H_put_84 : decode M_H_put.2.1 84 = .ok (.invokevirtual 118, 3) := by decide +kernel
theorem d_H_put_87 : decode M_H_put.2.1 87 = .ok (.goto 17, 3) := by decide +kernel
theorem d_H_put_90 : decode M_H_put.2.1 90 = .ok (.aload 4, 2) := by decide +kernel
theorem d_H_put_92 : decode M_H_put.2.1 92 = .ok (.iload_n 3, 1) := by decide +kernel
theorem d_H_put_93 : decode M_H_put.2.1 93 = .ok (.aload_n 0, 1) := by decide +kernel
theorem d_H_put_94 : decode M_H_put.2.1 94 = .ok (.getfield 24, 3) := by decide +kernel
theorem d_H_put_97 : decode M_H_put.2.1 97 = .ok (.iload_n 3, 1) := by decide +kernel
theorem d_H_put_98 : decode M_H_put.2.1 98 = .ok (.invokevirtual 122, 3) := by decide +kernel
theorem d_H_put_101 : decode M_H_put.2.1 101 = .ok (.invokevirtual 125, 3) := by decide +kernel
theorem d_H_put_104 : decode M_H_put.2.1 104 = .ok (.aload 4, 2) := by decide +kernel
theorem d_H_put_106 : decode M_H_put.2.1 106 = .ok (.invokevirtual 97, 3) := by decide +kernel
theorem d_H_put_109 : decode M_H_put.2.1 109 = .ok (.ireturn, 1) := by decide +kernel
theorem d_H_mayStand_0 : decode M_H_mayStand.2.1 0 = .ok (.iload_n 2, 1) := by decide +kernel
theorem d_H_mayStand_1 : decode M_H_mayStand.2.1 1 = .ok (.tableswitch 89 0 2 #[27, 33, 61], 27) := by decide +kernel
theorem d_H_mayStand_28 : decode M_H_mayStand.2.1 28 = .ok (.aload_n 1, 1) := by decide +kernel
theorem d_H_mayStand_29 : decode M_H_mayStand.2.1 29 = .ok (.iload_n 3, 1) := by decide +kernel
theorem d_H_mayStand_30 : decode M_H_mayStand.2.1 30 = .ok (.invokevirtual 213, 3) := by decide +kernel
theorem d_H_mayStand_33 : decode M_H_mayStand.2.1 33 = .ok (.ireturn, 1) := by decide +kernel
theorem d_H_mayStand_34 : decode M_H_mayStand.2.1 34 = .ok (.aload_n 1, 1) := by decide +kernel
theorem d_H_mayStand_35 : decode M_H_mayStand.2.1 35 = .ok (.invokevirtual 216, 3) := by decide +kernel
theorem d_H_mayStand_38 : decode M_H_mayStand.2.1 38 = .ok (.ifCond .ne 22, 3) := by decide +kernel
theorem d_H_mayStand_41 : decode M_H_mayStand.2.1 41 = .ok (.iload_n 3, 1) := by decide +kernel
theorem d_H_mayStand_42 : decode M_H_mayStand.2.1 42 = .ok (.ifCond .lt 18, 3) := by decide +kernel
theorem d_H_mayStand_45 : decode M_H_mayStand.2.1 45 = .ok (.iload_n 3, 1) := by decide +kernel
theorem d_H_mayStand_46 : decode M_H_mayStand.2.1 46 = .ok (.aload_n 0, 1) := by decide +kernel
theorem d_H_mayStand_47 : decode M_H_mayStand.2.1 47 = .ok (.getfield 15, 3) := by decide +kernel
theorem d_H_mayStand_50 : decode M_H_mayStand.2.1 50 = .ok (.getfield 207, 3) := by decide +kernel
theorem d_H_mayStand_53 : decode M_H_mayStand.2.1 53 = .ok (.if_icmp .ge 7, 3) := by decide +kernel
theorem d_H_mayStand_56 : decode M_H_mayStand.2.1 56 = .ok (.iconst 1, 1) := by decide +kernel
theorem d_H_mayStand_57 : decode M_H_mayStand.2.1 57 = .ok (.goto 4, 3) := by decide +kernel
theorem d_H_mayStand_60 : decode M_H_mayStand.2.1 60 = .ok (.iconst 0, 1) := by decide +kernel
theorem d_H_mayStand_61 : decode M_H_mayStand.2.1 61 = .ok (.ireturn, 1) := by decide +kernel
theorem d_H_mayStand_62 : decode M_H_mayStand.2.1 62 = .ok (.aload_n 1, 1) := by decide +kernel
theorem d_H_mayStand_63 : decode M_H_mayStand.2.1 63 = .ok (.invokevirtual 216, 3) := by decide +kernel
theorem d_H_mayStand_66 : decode M_H_mayStand.2.1 66 = .ok (.ifCond .ne 22, 3) := by decide +kernel
theorem d_H_mayStand_69 : decode M_H_mayStand.2.1 69 = .ok (.iload_n 3, 1) := by decide +kernel
theorem d_H_mayStand_70 : decode M_H_mayStand.2.1 70 = .ok (.ifCond .lt 18, 3) := by decide +kernel
theorem d_H_mayStand_73 : decode M_H_mayStand.2.1 73 = .ok (.iload_n 3, 1) := by decide +kernel
theorem d_H_mayStand_74 : decode M_H_mayStand.2.1 74 = .ok (.aload_n 0, 1) := by decide +kernel
theorem d_H_mayStand_75 : decode M_H_mayStand.2.1 75 = .ok (.getfield 24, 3) := by decide +kernel
theorem d_H_mayStand_78 : decode M_H_mayStand.2.1 78 = .ok (.getfield 204, 3) := by decide +kernel
theorem d_H_mayStand_81 : decode M_H_mayStand.2.1 81 = .ok (.if_icmp .ge 7, 3) := by decide +kernel
theorem d_H_mayStand_84 : decode M_H_mayStand.2.1 84 = .ok (.iconst 1, 1) := by decide +kernel
theorem d_H_mayStand_85 : decode M_H_mayStand.2.1 85 = .ok (.goto 4, 3) := by decide +kernel
theorem d_H_mayStand_88 : decode M_H_mayStand.2.1 88 = .ok (.iconst 0, 1) := by decide +kernel
theorem d_H_mayStand_89 : decode M_H_mayStand.2.1 89 = .ok (.ireturn, 1) := by decide +kernel
theorem d_H_mayStand_90 : decode M_H_mayStand.2.1 90 = .ok (.iconst 0, 1) := by decide +kernel
theorem d_H_mayStand_91 : decode M_H_mayStand.2.1 91 = .ok (.ireturn, 1) := by decide +kernel
theorem d_H_numberOf_0 : decode M_H_numberOf.2.1 0 = .ok (.iload_n 0, 1) := by decide +kernel
theorem d_H_numberOf_1 : decode M_H_numberOf.2.1 1 = .ok (.iconst 2, 1) := by decide +kernel
theorem d_H_numberOf_2 : decode M_H_numberOf.2.1 2 = .ok (.ishr, 1) := by decide +kernel
theorem d_H_numberOf_3 : decode M_H_numberOf.2.1 3 = .ok (.ireturn, 1) := by decide +kernel
theorem d_H_hasRoom_0 : decode M_H_hasRoom.2.1 0 = .ok (.aload_n 1, 1) := by decide +kernel
theorem d_H_hasRoom_1 : decode M_H_hasRoom.2.1 1 = .ok (.invokevirtual 216, 3) := by decide +kernel
theorem d_H_hasRoom_4 : decode M_H_hasRoom.2.1 4 = .ok (.ifCond .eq 5, 3) := by decide +kernel
theorem d_H_hasRoom_7 : decode M_H_hasRoom.2.1 7 = .ok (.iconst 1, 1) := by decide +kernel
theorem d_H_hasRoom_8 : decode M_H_hasRoom.2.1 8 = .ok (.ireturn, 1) := by decide +kernel
theorem d_H_hasRoom_9 : decode M_H_hasRoom.2.1 9 = .ok (.aload_n 1, 1) := by decide +kernel
theorem d_H_hasRoom_10 : decode M_H_hasRoom.2.1 10 = .ok (.getfield 219, 3) := by decide +kernel
theorem d_H_hasRoom_13 : decode M_H_hasRoom.2.1 13 = .ok (.bipush 30, 2) := by decide +kernel
theorem d_H_hasRoom_15 : decode M_H_hasRoom.2.1 15 = .ok (.if_icmp .lt 5, 3) := by decide +kernel
theorem d_H_hasRoom_18 : decode M_H_hasRoom.2.1 18 = .ok (.iconst 0, 1) := by decide +kernel
theorem d_H_hasRoom_19 : decode M_H_hasRoom.2.1 19 = .ok (.ireturn, 1) := by decide +kernel
theorem d_H_hasRoom_20 : decode M_H_hasRoom.2.1 20 = .ok (.iload_n 2, 1) := by decide +kernel
theorem d_H_hasRoom_21 : decode M_H_hasRoom.2.1 21 = .ok (.iconst 1, 1) := by decide +kernel
theorem d_H_hasRoom_22 : decode M_H_hasRoom.2.1 22 = .ok (.if_icmp .ne 21, 3) := by decide +kernel
theorem d_H_hasRoom_25 : decode M_H_hasRoom.2.1 25 = .ok (.aload_n 1, 1) := by decide +kernel
theorem d_H_hasRoom_26 : decode M_H_hasRoom.2.1 26 = .ok (.invokevirtual 222, 3) := by decide +kernel
theorem d_H_hasRoom_29 : decode M_H_hasRoom.2.1 29 = .ok (.aload_n 0, 1) := by decide +kernel
theorem d_H_hasRoom_30 : decode M_H_hasRoom.2.1 30 = .ok (.getfield 15, 3) := by decide +kernel
theorem d_H_hasRoom_33 : decode M_H_hasRoom.2.1 33 = .ok (.iload_n 3, 1) := by decide +kernel
theorem d_H_hasRoom_34 : decode M_H_hasRoom.2.1 34 = .ok (.invokevirtual 225, 3) := by decide +kernel
theorem d_H_hasRoom_37 : decode M_H_hasRoom.2.1 37 = .ok (.iadd, 1) := by decide +kernel
theorem d_H_hasRoom_38 : decode M_H_hasRoom.2.1 38 = .ok (.bipush 12, 2) := by decide +kernel
theorem d_H_hasRoom_40 : decode M_H_hasRoom.2.1 40 = .ok (.if_icmp .gt 7, 3) := by decide +kernel
theorem d_H_hasRoom_43 : decode M_H_hasRoom.2.1 43 = .ok (.iconst 1, 1) := by decide +kernel
theorem d_H_hasRoom_44 : decode M_H_hasRoom.2.1 44 = .ok (.goto 4, 3) := by decide +kernel
theorem d_H_hasRoom_47 : decode M_H_hasRoom.2.1 47 = .ok (.iconst 0, 1) := by decide +kernel
theorem d_H_hasRoom_48 : decode M_H_hasRoom.2.1 48 = .ok (.ireturn, 1) := by decide +kernel
theorem d_H_codeOf_0 : decode M_H_codeOf.2.1 0 = .ok (.iconst 4, 1) := by decide +kernel
theorem d_H_codeOf_1 : decode M_H_codeOf.2.1 1 = .ok (.iload_n 1, 1) := by decide +kernel
theorem d_H_codeOf_2 : decode M_H_codeOf.2.1 2 = .ok (.imul, 1) := by decide +kernel
theorem d_H_codeOf_3 : decode M_H_codeOf.2.1 3 = .ok (.iload_n 0, 1) := by decide +kernel
theorem d_H_codeOf_4 : decode M_H_codeOf.2.1 4 = .ok (.iadd, 1) := by decide +kernel
theorem d_H_codeOf_5 : decode M_H_codeOf.2.1 5 = .ok (.ireturn, 1) := by decide +kernel
theorem d_H_unify_0 : decode M_H_unify.2.1 0 = .ok (.aload_n 0, 1) := by decide +kernel
theorem d_H_unify_1 : decode M_H_unify.2.1 1 = .ok (.iload_n 1, 1) := by decide +kernel
theorem d_H_unify_2 : decode M_H_unify.2.1 2 = .ok (.iload_n 2, 1) := by decide +kernel
theorem d_H_unify_3 : decode M_H_unify.2.1 3 = .ok (.invokevirtual 129, 3) := by decide +kernel
theorem d_H_unify_6 : decode M_H_unify.2.1 6 = .ok (.aload_n 0, 1) := by decide +kernel
theorem d_H_unify_7 : decode M_H_unify.2.1 7 = .ok (.getfield 24, 3) := by decide +kernel
theorem d_H_unify_10 : decode M_H_unify.2.1 10 = .ok (.getfield 132, 3) := by decide +kernel
theorem d_H_unify_13 : decode M_H_unify.2.1 13 = .ok (.istore_n 3, 1) := by decide +kernel
theorem d_H_unify_14 : decode M_H_unify.2.1 14 = .ok (.aload_n 0, 1) := by decide +kernel
theorem d_H_unify_15 : decode M_H_unify.2.1 15 = .ok (.getfield 24, 3) := by decide +kernel
theorem d_H_unify_18 : decode M_H_unify.2.1 18 = .ok (.getfield 136, 3) := by decide +kernel
theorem d_H_unify_21 : decode M_H_unify.2.1 21 = .ok (.istore 4, 2) := by decide +kernel
theorem d_H_unify_23 : decode M_H_unify.2.1 23 = .ok (.aload_n 0, 1) := by decide +kernel
theorem d_H_unify_24 : decode M_H_unify.2.1 24 = .ok (.getfield 54, 3) := by decide +kernel
theorem d_H_unify_27 : decode M_H_unify.2.1 27 = .ok (.invokevirtual 139, 3) := by decide +kernel
theorem d_H_unify_30 : decode M_H_unify.2.1 30 = .ok (.istore 5, 2) := by decide +kernel
theorem d_H_unify_32 : decode M_H_unify.2.1 32 = .ok (.iload 5, 2) := by decide +kernel
theorem d_H_unify_34 : decode M_H_unify.2.1 34 = .ok (.ifCond .ne 16, 3) := by decide +kernel
theorem d_H_unify_37 : decode M_H_unify.2.1 37 = .ok (.aload_n 0, 1) := by decide +kernel
theorem d_H_unify_38 : decode M_H_unify.2.1 38 = .ok (.dup, 1) := by decide +kernel
theorem d_H_unify_39 : decode M_H_unify.2.1 39 = .ok (.getfield 142, 3) := by decide +kernel
theorem d_H_unify_42 : decode M_H_unify.2.1 42 = .ok (.iconst 1, 1) := by decide +kernel
theorem d_H_unify_43 : decode M_H_unify.2.1 43 = .ok (.iadd, 1) := by decide +kernel
theorem d_H_unify_44 : decode M_H_unify.2.1 44 = .ok (.putfield 142, 3) := by decide +kernel
theorem d_H_unify_47 : decode M_H_unify.2.1 47 = .ok (.goto 23, 3) := by decide +kernel
theorem d_H_unify_50 : decode M_H_unify.2.1 50 = .ok (.aload_n 0, 1) := by decide +kernel
theorem d_H_unify_51 : decode M_H_unify.2.1 51 = .ok (.getfield 24, 3) := by decide +kernel
theorem d_H_unify_54 : decode M_H_unify.2.1 54 = .ok (.iload_n 3, 1) := by decide +kernel
theorem d_H_unify_55 : decode M_H_unify.2.1 55 = .ok (.iload 4, 2) := by decide +kernel
theorem d_H_unify_57 : decode M_H_unify.2.1 57 = .ok (.invokevirtual 145, 3) := by decide +kernel
theorem d_H_unify_60 : decode M_H_unify.2.1 60 = .ok (.aload_n 0, 1) := by decide +kernel
theorem d_H_unify_61 : decode M_H_unify.2.1 61 = .ok (.dup, 1) := by decide +kernel
theorem d_H_unify_62 : decode M_H_unify.2.1 62 = .ok (.getfield 148, 3) := by decide +kernel
theorem d_H_unify_65 : decode M_H_unify.2.1 65 = .ok (.iconst 1, 1) := by decide +kernel
theorem d_H_unify_66 : decode M_H_unify.2.1 66 = .ok (.iadd, 1) := by decide +kernel
theorem d_H_unify_67 : decode M_H_unify.2.1 67 = .ok (.putfield 148, 3) := by decide +kernel
theorem d_H_unify_70 : decode M_H_unify.2.1 70 = .ok (.iload 5, 2) := by decide +kernel
theorem d_H_unify_72 : decode M_H_unify.2.1 72 = .ok (.ireturn, 1) := by decide +kernel
theorem d_H_startBoth_0 : decode M_H_startBoth.2.1 0 = .ok (.aload_n 0, 1) := by decide +kernel
theorem d_H_startBoth_1 : decode M_H_startBoth.2.1 1 = .ok (.iload_n 1, 1) := by decide +kernel
theorem d_H_startBoth_2 : decode M_H_startBoth.2.1 2 = .ok (.invokevirtual 87, 3) := by decide +kernel
theorem d_H_startBoth_5 : decode M_H_startBoth.2.1 5 = .ok (.astore_n 3, 1) := by decide +kernel
theorem d_H_startBoth_6 : decode M_H_startBoth.2.1 6 = .ok (.aload_n 0, 1) := by decide +kernel
theorem d_H_startBoth_7 : decode M_H_startBoth.2.1 7 = .ok (.iload_n 2, 1) := by decide +kernel
theorem d_H_startBoth_8 : decode M_H_startBoth.2.1 8 = .ok (.invokevirtual 87, 3) := by decide +kernel
theorem d_H_startBoth_11 : decode M_H_startBoth.2.1 11 = .ok (.astore 4, 2) := by decide +kernel
theorem d_H_startBoth_13 : decode M_H_startBoth.2.1 13 = .ok (.aload_n 3, 1) := by decide +kernel
theorem d_H_startBoth_14 : decode M_H_startBoth.2.1 14 = .ok (.invokevirtual 228, 3) := by decide +kernel
theorem d_H_startBoth_17 : decode M_H_startBoth.2.1 17 = .ok (.ifCond .eq 11, 3) := by decide +kernel
theorem d_H_startBoth_20 : decode M_H_startBoth.2.1 20 = .ok (.aload 4, 2) := by decide +kernel
theorem d_H_startBoth_22 : decode M_H_startBoth.2.1 22 = .ok (.invokevirtual 228, 3) := by decide +kernel
theorem d_H_startBoth_25 : decode M_H_startBoth.2.1 25 = .ok (.ifCond .ne 13, 3) := by decide +kernel
theorem d_H_startBoth_28 : decode M_H_startBoth.2.1 28 = .ok (.new 101, 3) := by decide +kernel
theorem d_H_startBoth_31 : decode M_H_startBoth.2.1 31 = .ok (.dup, 1) := by decide +kernel
theorem d_H_startBoth_32 : decode M_H_startBoth.2.1 32 = .ok (.ldc 231, 2) := by decide +kernel
theorem d_H_startBoth_34 : decode M_H_startBoth.2.1 34 = .ok (.invokespecial 105, 3) := by decide +kernel
theorem d_H_startBoth_37 : decode M_H_startBoth.2.1 37 = .ok (.athrow, 1) := by decide +kernel
theorem d_H_startBoth_38 : decode M_H_startBoth.2.1 38 = .ok (.aload_n 3, 1) := by decide +kernel
theorem d_H_startBoth_39 : decode M_H_startBoth.2.1 39 = .ok (.getfield 233, 3) := by decide +kernel
theorem d_H_startBoth_42 : decode M_H_startBoth.2.1 42 = .ok (.aload 4, 2) := by decide +kernel
theorem d_H_startBoth_44 : decode M_H_startBoth.2.1 44 = .ok (.getfield 233, 3) := by decide +kernel
theorem d_H_startBoth_47 : decode M_H_startBoth.2.1 47 = .ok (.if_icmp .eq 13, 3) := by decide +kernel
theorem d_H_startBoth_50 : decode M_H_startBoth.2.1 50 = .ok (.new 101, 3) := by decide +kernel
theorem d_H_startBoth_53 : decode M_H_startBoth.2.1 53 = .ok (.dup, 1) := by decide +kernel
theorem d_H_startBoth_54 : decode M_H_startBoth.2.1 54 = .ok (.ldc 236, 2) := by decide +kernel
theorem d_H_startBoth_56 : decode M_H_startBoth.2.1 56 = .ok (.invokespecial 105, 3) := by decide +kernel
theorem d_H_startBoth_59 : decode M_H_startBoth.2.1 59 = .ok (.athrow, 1) := by decide +kernel
theorem d_H_startBoth_60 : decode M_H_startBoth.2.1 60 = .ok (.aload_n 0, 1) := by decide +kernel
theorem d_H_startBoth_61 : decode M_H_startBoth.2.1 61 = .ok (.getfield 42, 3) := by decide +kernel
theorem d_H_startBoth_64 : decode M_H_startBoth.2.1 64 = .ok (.aload_n 3, 1) := by decide +kernel
theorem d_H_startBoth_65 : decode M_H_startBoth.2.1 65 = .ok (.getfield 238, 3) := by decide +kernel
theorem d_H_startBoth_68 : decode M_H_startBoth.2.1 68 = .ok (.aload_n 3, 1) := by decide +kernel
theorem d_H_startBoth_69 : decode M_H_startBoth.2.1 69 = .ok (.getfield 238, 3) := by decide +kernel
theorem d_H_startBoth_72 : decode M_H_startBoth.2.1 72 = .ok (.aload_n 3, 1) := by decide +kernel
theorem d_H_startBoth_73 : decode M_H_startBoth.2.1 73 = .ok (.getfield 240, 3) := by decide +kernel
theorem d_H_startBoth_76 : decode M_H_startBoth.2.1 76 = .ok (.iadd, 1) := by decide +kernel
theorem d_H_startBoth_77 : decode M_H_startBoth.2.1 77 = .ok (.invokevirtual 198, 3) := by decide +kernel
theorem d_H_startBoth_80 : decode M_H_startBoth.2.1 80 = .ok (.aload_n 0, 1) := by decide +kernel
theorem d_H_startBoth_81 : decode M_H_startBoth.2.1 81 = .ok (.getfield 46, 3) := by decide +kernel
theorem d_H_startBoth_84 : decode M_H_startBoth.2.1 84 = .ok (.aload 4, 2) := by decide +kernel
theorem d_H_startBoth_86 : decode M_H_startBoth.2.1 86 = .ok (.getfield 238, 3) := by decide +kernel
theorem d_H_startBoth_89 : decode M_H_startBoth.2.1 89 = .ok (.aload 4, 2) := by decide +kernel
theorem d_H_startBoth_91 : decode M_H_startBoth.2.1 91 = .ok (.getfield 238, 3) := by decide +kernel
theorem d_H_startBoth_94 : decode M_H_startBoth.2.1 94 = .ok (.aload 4, 2) := by decide +kernel
theorem d_H_startBoth_96 : decode M_H_startBoth.2.1 96 = .ok (.getfield 240, 3) := by decide +kernel
theorem d_H_startBoth_99 : decode M_H_startBoth.2.1 99 = .ok (.iadd, 1) := by decide +kernel
theorem d_H_startBoth_100 : decode M_H_startBoth.2.1 100 = .ok (.invokevirtual 198, 3) := by decide +kernel
theorem d_H_startBoth_103 : decode M_H_startBoth.2.1 103 = .ok (.return_, 1) := by decide +kernel
theorem d_H_sortOf_0 : decode M_H_sortOf.2.1 0 = .ok (.iload_n 0, 1) := by decide +kernel
theorem d_H_sortOf_1 : decode M_H_sortOf.2.1 1 = .ok (.iconst 3, 1) := by decide +kernel
theorem d_H_sortOf_2 : decode M_H_sortOf.2.1 2 = .ok (.iand, 1) := by decide +kernel
theorem d_H_sortOf_3 : decode M_H_sortOf.2.1 3 = .ok (.ireturn, 1) := by decide +kernel
theorem d_H_read_0 : decode M_H_read.2.1 0 = .ok (.aload_n 0, 1) := by decide +kernel
theorem d_H_read_1 : decode M_H_read.2.1 1 = .ok (.iload_n 1, 1) := by decide +kernel
theorem d_H_read_2 : decode M_H_read.2.1 2 = .ok (.iload_n 1, 1) := by decide +kernel
theorem d_H_read_3 : decode M_H_read.2.1 3 = .ok (.invokevirtual 129, 3) := by decide +kernel
theorem d_H_read_6 : decode M_H_read.2.1 6 = .ok (.aload_n 0, 1) := by decide +kernel
theorem d_H_read_7 : decode M_H_read.2.1 7 = .ok (.getfield 61, 3) := by decide +kernel
theorem d_H_read_10 : decode M_H_read.2.1 10 = .ok (.aload_n 0, 1) := by decide +kernel
theorem d_H_read_11 : decode M_H_read.2.1 11 = .ok (.getfield 42, 3) := by decide +kernel
theorem d_H_read_14 : decode M_H_read.2.1 14 = .ok (.invokevirtual 151, 3) := by decide +kernel
theorem d_H_read_17 : decode M_H_read.2.1 17 = .ok (.aload_n 0, 1) := by decide +kernel
theorem d_H_read_18 : decode M_H_read.2.1 18 = .ok (.getfield 61, 3) := by decide +kernel
theorem d_H_read_21 : decode M_H_read.2.1 21 = .ok (.getfield 155, 3) := by decide +kernel
theorem d_H_read_24 : decode M_H_read.2.1 24 = .ok (.ireturn, 1) := by decide +kernel
theorem d_H_item_0 : decode M_H_item.2.1 0 = .ok (.iload_n 1, 1) := by decide +kernel
theorem d_H_item_1 : decode M_H_item.2.1 1 = .ok (.ifCond .lt 14, 3) := by decide +kernel
theorem d_H_item_4 : decode M_H_item.2.1 4 = .ok (.iload_n 1, 1) := by decide +kernel
theorem d_H_item_5 : decode M_H_item.2.1 5 = .ok (.aload_n 0, 1) := by decide +kernel
theorem d_H_item_6 : decode M_H_item.2.1 6 = .ok (.getfield 61, 3) := by decide +kernel
theorem d_H_item_9 : decode M_H_item.2.1 9 = .ok (.getfield 155, 3) := by decide +kernel
theorem d_H_item_12 : decode M_H_item.2.1 12 = .ok (.if_icmp .lt 13, 3) := by decide +kernel
theorem d_H_item_15 : decode M_H_item.2.1 15 = .ok (.new 158, 3) := by decide +kernel
theorem d_H_item_18 : decode M_H_item.2.1 18 = .ok (.dup, 1) := by decide +kernel
theorem d_H_item_19 : decode M_H_item.2.1 19 = .ok (.ldc 160, 2) := by decide +kernel
theorem d_H_item_21 : decode M_H_item.2.1 21 = .ok (.invokespecial 162, 3) := by decide +kernel
theorem d_H_item_24 : decode M_H_item.2.1 24 = .ok (.athrow, 1) := by decide +kernel
theorem d_H_item_25 : decode M_H_item.2.1 25 = .ok (.aload_n 0, 1) := by decide +kernel
theorem d_H_item_26 : decode M_H_item.2.1 26 = .ok (.getfield 61, 3) := by decide +kernel
theorem d_H_item_29 : decode M_H_item.2.1 29 = .ok (.getfield 163, 3) := by decide +kernel
theorem d_H_item_32 : decode M_H_item.2.1 32 = .ok (.iload_n 1, 1) := by decide +kernel
theorem d_H_item_33 : decode M_H_item.2.1 33 = .ok (.invokestatic 167, 3) := by decide +kernel
theorem d_H_item_36 : decode M_H_item.2.1 36 = .ok (.ireturn, 1) := by decide +kernel
theorem d_H_isSame_0 : decode M_H_isSame.2.1 0 = .ok (.aload_n 0, 1) := by decide +kernel
theorem d_H_isSame_1 : decode M_H_isSame.2.1 1 = .ok (.iload_n 1, 1) := by decide +kernel
theorem d_H_isSame_2 : decode M_H_isSame.2.1 2 = .ok (.iload_n 2, 1) := by decide +kernel
theorem d_H_isSame_3 : decode M_H_isSame.2.1 3 = .ok (.invokevirtual 129, 3) := by decide +kernel
theorem d_H_isSame_6 : decode M_H_isSame.2.1 6 = .ok (.iconst 0, 1) := by decide +kernel
theorem d_H_isSame_7 : decode M_H_isSame.2.1 7 = .ok (.istore_n 3, 1) := by decide +kernel
theorem d_H_isSame_8 : decode M_H_isSame.2.1 8 = .ok (.iload_n 3, 1) := by decide +kernel
theorem d_H_isSame_9 : decode M_H_isSame.2.1 9 = .ok (.ldc 171, 2) := by decide +kernel
theorem d_H_isSame_11 : decode M_H_isSame.2.1 11 = .ok (.if_icmp .ge 55, 3) := by decide +kernel
theorem d_H_isSame_14 : decode M_H_isSame.2.1 14 = .ok (.aload_n 0, 1) := by decide +kernel
theorem d_H_isSame_15 : decode M_H_isSame.2.1 15 = .ok (.getfield 42, 3) := by decide +kernel
theorem d_H_isSame_18 : decode M_H_isSame.2.1 18 = .ok (.invokevirtual 172, 3) := by decide +kernel
theorem d_H_isSame_21 : decode M_H_isSame.2.1 21 = .ok (.istore 4, 2) := by decide +kernel
theorem d_H_isSame_23 : decode M_H_isSame.2.1 23 = .ok (.iload 4, 2) := by decide +kernel
theorem d_H_isSame_25 : decode M_H_isSame.2.1 25 = .ok (.aload_n 0, 1) := by decide +kernel
theorem d_H_isSame_26 : decode M_H_isSame.2.1 26 = .ok (.getfield 46, 3) := by decide +kernel
theorem d_H_isSame_29 : decode M_H_isSame.2.1 29 = .ok (.invokevirtual 172, 3) := by decide +kernel
theorem d_H_isSame_32 : decode M_H_isSame.2.1 32 = .ok (.if_icmp .eq 5, 3) := by decide +kernel
theorem d_H_isSame_35 : decode M_H_isSame.2.1 35 = .ok (.iconst 0, 1) := by decide +kernel
theorem d_H_isSame_36 : decode M_H_isSame.2.1 36 = .ok (.ireturn, 1) := by decide +kernel
theorem d_H_isSame_37 : decode M_H_isSame.2.1 37 = .ok (.iload 4, 2) := by decide +kernel
theorem d_H_isSame_39 : decode M_H_isSame.2.1 39 = .ok (.ifCond .ne 5, 3) := by decide +kernel
theorem d_H_isSame_42 : decode M_H_isSame.2.1 42 = .ok (.iconst 1, 1) := by decide +kernel
theorem d_H_isSame_43 : decode M_H_isSame.2.1 43 = .ok (.ireturn, 1) := by decide +kernel
theorem d_H_isSame_44 : decode M_H_isSame.2.1 44 = .ok (.aload_n 0, 1) := by decide +kernel
theorem d_H_isSame_45 : decode M_H_isSame.2.1 45 = .ok (.getfield 42, 3) := by decide +kernel
theorem d_H_isSame_48 : decode M_H_isSame.2.1 48 = .ok (.aload_n 0, 1) := by decide +kernel
theorem d_H_isSame_49 : decode M_H_isSame.2.1 49 = .ok (.getfield 46, 3) := by decide +kernel
theorem d_H_isSame_52 : decode M_H_isSame.2.1 52 = .ok (.invokevirtual 176, 3) := by decide +kernel
theorem d_H_isSame_55 : decode M_H_isSame.2.1 55 = .ok (.ifCond .ne 5, 3) := by decide +kernel
theorem d_H_isSame_58 : decode M_H_isSame.2.1 58 = .ok (.iconst 0, 1) := by decide +kernel
theorem d_H_isSame_59 : decode M_H_isSame.2.1 59 = .ok (.ireturn, 1) := by decide +kernel
theorem d_H_isSame_60 : decode M_H_isSame.2.1 60 = .ok (.iinc 3 1, 3) := by decide +kernel
theorem d_H_isSame_63 : decode M_H_isSame.2.1 63 = .ok (.goto (-55), 3) := by decide +kernel
theorem d_H_isSame_66 : decode M_H_isSame.2.1 66 = .ok (.iconst 0, 1) := by decide +kernel
theorem d_H_isSame_67 : decode M_H_isSame.2.1 67 = .ok (.ireturn, 1) := by decide +kernel
theorem d_H_size_0 : decode M_H_size.2.1 0 = .ok (.aload_n 0, 1) := by decide +kernel
theorem d_H_size_1 : decode M_H_size.2.1 1 = .ok (.iload_n 1, 1) := by decide +kernel
theorem d_H_size_2 : decode M_H_size.2.1 2 = .ok (.invokevirtual 180, 3) := by decide +kernel
theorem d_H_size_5 : decode M_H_size.2.1 5 = .ok (.aload_n 0, 1) := by decide +kernel
theorem d_H_size_6 : decode M_H_size.2.1 6 = .ok (.getfield 24, 3) := by decide +kernel
theorem d_H_size_9 : decode M_H_size.2.1 9 = .ok (.invokevirtual 183, 3) := by decide +kernel
theorem d_H_size_12 : decode M_H_size.2.1 12 = .ok (.pop, 1) := by decide +kernel
theorem d_H_size_13 : decode M_H_size.2.1 13 = .ok (.aload_n 0, 1) := by decide +kernel
theorem d_H_size_14 : decode M_H_size.2.1 14 = .ok (.getfield 24, 3) := by decide +kernel
theorem d_H_size_17 : decode M_H_size.2.1 17 = .ok (.getfield 186, 3) := by decide +kernel
theorem d_H_size_20 : decode M_H_size.2.1 20 = .ok (.iload_n 1, 1) := by decide +kernel
theorem d_H_size_21 : decode M_H_size.2.1 21 = .ok (.invokestatic 167, 3) := by decide +kernel
theorem d_H_size_24 : decode M_H_size.2.1 24 = .ok (.ireturn, 1) := by decide +kernel
theorem d_H_refuseUntold_0 : decode M_H_refuseUntold.2.1 0 = .ok (.iload_n 1, 1) := by decide +kernel
theorem d_H_refuseUntold_1 : decode M_H_refuseUntold.2.1 1 = .ok (.ifCond .lt 14, 3) := by decide +kernel
theorem d_H_refuseUntold_4 : decode M_H_refuseUntold.2.1 4 = .ok (.iload_n 1, 1) := by decide +kernel
theorem d_H_refuseUntold_5 : decode M_H_refuseUntold.2.1 5 = .ok (.aload_n 0, 1) := by decide +kernel
theorem d_H_refuseUntold_6 : decode M_H_refuseUntold.2.1 6 = .ok (.getfield 24, 3) := by decide +kernel
theorem d_H_refuseUntold_9 : decode M_H_refuseUntold.2.1 9 = .ok (.getfield 204, 3) := by decide +kernel
theorem d_H_refuseUntold_12 : decode M_H_refuseUntold.2.1 12 = .ok (.if_icmp .lt 13, 3) := by decide +kernel
theorem d_H_refuseUntold_15 : decode M_H_refuseUntold.2.1 15 = .ok (.new 69, 3) := by decide +kernel
theorem d_H_refuseUntold_18 : decode M_H_refuseUntold.2.1 18 = .ok (.dup, 1) := by decide +kernel
theorem d_H_refuseUntold_19 : decode M_H_refuseUntold.2.1 19 = .ok (.ldc 241, 2) := by decide +kernel
theorem d_H_refuseUntold_21 : decode M_H_refuseUntold.2.1 21 = .ok (.invokespecial 73, 3) := by decide +kernel
theorem d_H_refuseUntold_24 : decode M_H_refuseUntold.2.1 24 = .ok (.athrow, 1) := by decide +kernel
theorem d_H_refuseUntold_25 : decode M_H_refuseUntold.2.1 25 = .ok (.return_, 1) := by decide +kernel
theorem d_H_uses_0 : decode M_H_uses.2.1 0 = .ok (.aload_n 0, 1) := by decide +kernel
theorem d_H_uses_1 : decode M_H_uses.2.1 1 = .ok (.iload_n 1, 1) := by decide +kernel
theorem d_H_uses_2 : decode M_H_uses.2.1 2 = .ok (.invokevirtual 180, 3) := by decide +kernel
theorem d_H_uses_5 : decode M_H_uses.2.1 5 = .ok (.aload_n 0, 1) := by decide +kernel
theorem d_H_uses_6 : decode M_H_uses.2.1 6 = .ok (.getfield 24, 3) := by decide +kernel
theorem d_H_uses_9 : decode M_H_uses.2.1 9 = .ok (.iload_n 1, 1) := by decide +kernel
theorem d_H_uses_10 : decode M_H_uses.2.1 10 = .ok (.invokevirtual 189, 3) := by decide +kernel
theorem d_H_uses_13 : decode M_H_uses.2.1 13 = .ok (.ifCond .eq 16, 3) := by decide +kernel
theorem d_H_uses_16 : decode M_H_uses.2.1 16 = .ok (.iconst 1, 1) := by decide +kernel
theorem d_H_uses_17 : decode M_H_uses.2.1 17 = .ok (.aload_n 0, 1) := by decide +kernel
theorem d_H_uses_18 : decode M_H_uses.2.1 18 = .ok (.getfield 24, 3) := by decide +kernel
theorem d_H_uses_21 : decode M_H_uses.2.1 21 = .ok (.iload_n 1, 1) := by decide +kernel
theorem d_H_uses_22 : decode M_H_uses.2.1 22 = .ok (.invokevirtual 122, 3) := by decide +kernel
theorem d_H_uses_25 : decode M_H_uses.2.1 25 = .ok (.ishl, 1) := by decide +kernel
theorem d_H_uses_26 : decode M_H_uses.2.1 26 = .ok (.iconst 1, 1) := by decide +kernel
theorem d_H_uses_27 : decode M_H_uses.2.1 27 = .ok (.isub, 1) := by decide +kernel
theorem d_H_uses_28 : decode M_H_uses.2.1 28 = .ok (.ireturn, 1) := by decide +kernel
theorem d_H_uses_29 : decode M_H_uses.2.1 29 = .ok (.aload_n 0, 1) := by decide +kernel
theorem d_H_uses_30 : decode M_H_uses.2.1 30 = .ok (.getfield 42, 3) := by decide +kernel
theorem d_H_uses_33 : decode M_H_uses.2.1 33 = .ok (.aload_n 0, 1) := by decide +kernel
theorem d_H_uses_34 : decode M_H_uses.2.1 34 = .ok (.getfield 24, 3) := by decide +kernel
theorem d_H_uses_37 : decode M_H_uses.2.1 37 = .ok (.getfield 192, 3) := by decide +kernel
theorem d_H_uses_40 : decode M_H_uses.2.1 40 = .ok (.iload_n 1, 1) := by decide +kernel
theorem d_H_uses_41 : decode M_H_uses.2.1 41 = .ok (.invokestatic 167, 3) := by decide +kernel
theorem d_H_uses_44 : decode M_H_uses.2.1 44 = .ok (.aload_n 0, 1) := by decide +kernel
theorem d_H_uses_45 : decode M_H_uses.2.1 45 = .ok (.getfield 24, 3) := by decide +kernel
theorem d_H_uses_48 : decode M_H_uses.2.1 48 = .ok (.getfield 195, 3) := by decide +kernel
theorem d_H_uses_51 : decode M_H_uses.2.1 51 = .ok (.iload_n 1, 1) := by decide +kernel
theorem d_H_uses_52 : decode M_H_uses.2.1 52 = .ok (.invokestatic 167, 3) := by decide +kernel
theorem d_H_uses_55 : decode M_H_uses.2.1 55 = .ok (.invokevirtual 198, 3) := by decide +kernel
theorem d_H_uses_58 : decode M_H_uses.2.1 58 = .ok (.iconst 0, 1) := by decide +kernel
theorem d_H_uses_59 : decode M_H_uses.2.1 59 = .ok (.istore_n 2, 1) := by decide +kernel
theorem d_H_uses_60 : decode M_H_uses.2.1 60 = .ok (.iconst 0, 1) := by decide +kernel
theorem d_H_uses_61 : decode M_H_uses.2.1 61 = .ok (.istore_n 3, 1) := by decide +kernel
theorem d_H_uses_62 : decode M_H_uses.2.1 62 = .ok (.iload_n 3, 1) := by decide +kernel
theorem d_H_uses_63 : decode M_H_uses.2.1 63 = .ok (.ldc 171, 2) := by decide +kernel
theorem d_H_uses_65 : decode M_H_uses.2.1 65 = .ok (.if_icmp .ge 29, 3) := by decide +kernel
theorem d_H_uses_68 : decode M_H_uses.2.1 68 = .ok (.aload_n 0, 1) := by decide +kernel
theorem d_H_uses_69 : decode M_H_uses.2.1 69 = .ok (.getfield 42, 3) := by decide +kernel
theorem d_H_uses_72 : decode M_H_uses.2.1 72 = .ok (.invokevirtual 172, 3) := by decide +kernel
theorem d_H_uses_75 : decode M_H_uses.2.1 75 = .ok (.ifCond .eq 19, 3) := by decide +kernel
theorem d_H_uses_78 : decode M_H_uses.2.1 78 = .ok (.iload_n 2, 1) := by decide +kernel
theorem d_H_uses_79 : decode M_H_uses.2.1 79 = .ok (.aload_n 0, 1) := by decide +kernel
theorem d_H_uses_80 : decode M_H_uses.2.1 80 = .ok (.getfield 42, 3) := by decide +kernel
theorem d_H_uses_83 : decode M_H_uses.2.1 83 = .ok (.invokevirtual 201, 3) := by decide +kernel
theorem d_H_uses_86 : decode M_H_uses.2.1 86 = .ok (.ior, 1) := by decide +kernel
theorem d_H_uses_87 : decode M_H_uses.2.1 87 = .ok (.istore_n 2, 1) := by decide +kernel
theorem d_H_uses_88 : decode M_H_uses.2.1 88 = .ok (.iinc 3 1, 3) := by decide +kernel
theorem d_H_uses_91 : decode M_H_uses.2.1 91 = .ok (.goto (-29), 3) := by decide +kernel
theorem d_H_uses_94 : decode M_H_uses.2.1 94 = .ok (.iload_n 2, 1) := by decide +kernel
theorem d_H_uses_95 : decode M_H_uses.2.1 95 = .ok (.ireturn, 1) := by decide +kernel
