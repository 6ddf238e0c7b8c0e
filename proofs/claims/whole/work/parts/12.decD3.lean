theorem d_D_fullSize_48 : decode M_D_fullSize.2.1 48 = .ok (.getfield 60, 3) := by decide +kernel
theorem d_D_fullSize_51 : decode M_D_fullSize.2.1 51 = .ok (.aload_n 0, 1) := by decide +kernel
theorem d_D_fullSize_52 : decode M_D_fullSize.2.1 52 = .ok (.aload_n 0, 1) := by decide +kernel
theorem d_D_fullSize_53 : decode M_D_fullSize.2.1 53 = .ok (.getfield 60, 3) := by decide +kernel
theorem d_D_fullSize_56 : decode M_D_fullSize.2.1 56 = .ok (.aload_n 0, 1) := by decide +kernel
theorem d_D_fullSize_57 : decode M_D_fullSize.2.1 57 = .ok (.getfield 19, 3) := by decide +kernel
theorem d_D_fullSize_60 : decode M_D_fullSize.2.1 60 = .ok (.iload_n 1, 1) := by decide +kernel
theorem d_D_fullSize_61 : decode M_D_fullSize.2.1 61 = .ok (.iaload, 1) := by decide +kernel
theorem d_D_fullSize_62 : decode M_D_fullSize.2.1 62 = .ok (.invokevirtual 141, 3) := by decide +kernel
theorem d_D_fullSize_65 : decode M_D_fullSize.2.1 65 = .ok (.aload_n 0, 1) := by decide +kernel
theorem d_D_fullSize_66 : decode M_D_fullSize.2.1 66 = .ok (.getfield 16, 3) := by decide +kernel
theorem d_D_fullSize_69 : decode M_D_fullSize.2.1 69 = .ok (.invokestatic 147, 3) := by decide +kernel
theorem d_D_fullSize_72 : decode M_D_fullSize.2.1 72 = .ok (.ireturn, 1) := by decide +kernel
theorem d_D_parts_0 : decode M_D_parts.2.1 0 = .ok (.aload_n 0, 1) := by decide +kernel
theorem d_D_parts_1 : decode M_D_parts.2.1 1 = .ok (.getfield 7, 3) := by decide +kernel
theorem d_D_parts_4 : decode M_D_parts.2.1 4 = .ok (.iload_n 1, 1) := by decide +kernel
theorem d_D_parts_5 : decode M_D_parts.2.1 5 = .ok (.iaload, 1) := by decide +kernel
theorem d_D_parts_6 : decode M_D_parts.2.1 6 = .ok (.istore_n 2, 1) := by decide +kernel
theorem d_D_parts_7 : decode M_D_parts.2.1 7 = .ok (.iload_n 2, 1) := by decide +kernel
theorem d_D_parts_8 : decode M_D_parts.2.1 8 = .ok (.istore_n 3, 1) := by decide +kernel
theorem d_D_parts_9 : decode M_D_parts.2.1 9 = .ok (.iload_n 3, 1) := by decide +kernel
theorem d_D_parts_10 : decode M_D_parts.2.1 10 = .ok (.ifCond .le 90, 3) := by decide +kernel
theorem d_D_parts_13 : decode M_D_parts.2.1 13 = .ok (.iconst 1, 1) := by decide +kernel
theorem d_D_parts_14 : decode M_D_parts.2.1 14 = .ok (.istore 4, 2) := by decide +kernel
theorem d_D_parts_16 : decode M_D_parts.2.1 16 = .ok (.iconst 1, 1) := by decide +kernel
theorem d_D_parts_17 : decode M_D_parts.2.1 17 = .ok (.istore 5, 2) := by decide +kernel
theorem d_D_parts_19 : decode M_D_parts.2.1 19 = .ok (.iconst 1, 1) := by decide +kernel
theorem d_D_parts_20 : decode M_D_parts.2.1 20 = .ok (.istore 6, 2) := by decide +kernel
theorem d_D_parts_22 : decode M_D_parts.2.1 22 = .ok (.iload 6, 2) := by decide +kernel
theorem d_D_parts_24 : decode M_D_parts.2.1 24 = .ok (.iload_n 3, 1) := by decide +kernel
theorem d_D_parts_25 : decode M_D_parts.2.1 25 = .ok (.if_icmp .ge 33, 3) := by decide +kernel
theorem d_D_parts_28 : decode M_D_parts.2.1 28 = .ok (.aload_n 0, 1) := by decide +kernel
theorem d_D_parts_29 : decode M_D_parts.2.1 29 = .ok (.aload_n 0, 1) := by decide +kernel
theorem d_D_parts_30 : decode M_D_parts.2.1 30 = .ok (.getfield 57, 3) := by decide +kernel
theorem d_D_parts_33 : decode M_D_parts.2.1 33 = .ok (.iload 4, 2) := by decide +kernel
theorem d_D_parts_35 : decode M_D_parts.2.1 35 = .ok (.invokevirtual 174, 3) := by decide +kernel
theorem d_D_parts_38 : decode M_D_parts.2.1 38 = .ok (.istore 4, 2) := by decide +kernel
theorem d_D_parts_40 : decode M_D_parts.2.1 40 = .ok (.aload_n 0, 1) := by decide +kernel
theorem d_D_parts_41 : decode M_D_parts.2.1 41 = .ok (.aload_n 0, 1) := by decide +kernel
theorem d_D_parts_42 : decode M_D_parts.2.1 42 = .ok (.getfield 60, 3) := by decide +kernel
theorem d_D_parts_45 : decode M_D_parts.2.1 45 = .ok (.iload 5, 2) := by decide +kernel
theorem d_D_parts_47 : decode M_D_parts.2.1 47 = .ok (.invokevirtual 174, 3) := by decide +kernel
theorem d_D_parts_50 : decode M_D_parts.2.1 50 = .ok (.istore 5, 2) := by decide +kernel
theorem d_D_parts_52 : decode M_D_parts.2.1 52 = .ok (.iinc 6 1, 3) := by decide +kernel
theorem d_D_parts_55 : decode M_D_parts.2.1 55 = .ok (.goto (-33), 3) := by decide +kernel
theorem d_D_parts_58 : decode M_D_parts.2.1 58 = .ok (.aload_n 0, 1) := by decide +kernel
theorem d_D_parts_59 : decode M_D_parts.2.1 59 = .ok (.aload_n 0, 1) := by decide +kernel
theorem d_D_parts_60 : decode M_D_parts.2.1 60 = .ok (.getfield 57, 3) := by decide +kernel
theorem d_D_parts_63 : decode M_D_parts.2.1 63 = .ok (.iload 4, 2) := by decide +kernel
theorem d_D_parts_65 : decode M_D_parts.2.1 65 = .ok (.aload_n 0, 1) := by decide +kernel
theorem d_D_parts_66 : decode M_D_parts.2.1 66 = .ok (.aload_n 0, 1) := by decide +kernel
theorem d_D_parts_67 : decode M_D_parts.2.1 67 = .ok (.getfield 57, 3) := by decide +kernel
theorem d_D_parts_70 : decode M_D_parts.2.1 70 = .ok (.iload 4, 2) := by decide +kernel
theorem d_D_parts_72 : decode M_D_parts.2.1 72 = .ok (.invokevirtual 174, 3) := by decide +kernel
theorem d_D_parts_75 : decode M_D_parts.2.1 75 = .ok (.aload_n 0, 1) := by decide +kernel
theorem d_D_parts_76 : decode M_D_parts.2.1 76 = .ok (.getfield 60, 3) := by decide +kernel
theorem d_D_parts_79 : decode M_D_parts.2.1 79 = .ok (.iload 5, 2) := by decide +kernel
theorem d_D_parts_81 : decode M_D_parts.2.1 81 = .ok (.aload_n 0, 1) := by decide +kernel
theorem d_D_parts_82 : decode M_D_parts.2.1 82 = .ok (.aload_n 0, 1) := by decide +kernel
theorem d_D_parts_83 : decode M_D_parts.2.1 83 = .ok (.getfield 60, 3) := by decide +kernel
theorem d_D_parts_86 : decode M_D_parts.2.1 86 = .ok (.iload 5, 2) := by decide +kernel
theorem d_D_parts_88 : decode M_D_parts.2.1 88 = .ok (.invokevirtual 174, 3) := by decide +kernel
theorem d_D_parts_91 : decode M_D_parts.2.1 91 = .ok (.invokevirtual 177, 3) := by decide +kernel
theorem d_D_parts_94 : decode M_D_parts.2.1 94 = .ok (.iinc 3 (-1), 3) := by decide +kernel
theorem d_D_parts_97 : decode M_D_parts.2.1 97 = .ok (.goto (-88), 3) := by decide +kernel
theorem d_D_parts_100 : decode M_D_parts.2.1 100 = .ok (.iconst 0, 1) := by decide +kernel
theorem d_D_parts_101 : decode M_D_parts.2.1 101 = .ok (.ireturn, 1) := by decide +kernel
theorem d_D_partEnd_0 : decode M_D_partEnd.2.1 0 = .ok (.iconst 1, 1) := by decide +kernel
theorem d_D_partEnd_1 : decode M_D_partEnd.2.1 1 = .ok (.istore_n 3, 1) := by decide +kernel
theorem d_D_partEnd_2 : decode M_D_partEnd.2.1 2 = .ok (.iload_n 2, 1) := by decide +kernel
theorem d_D_partEnd_3 : decode M_D_partEnd.2.1 3 = .ok (.istore 4, 2) := by decide +kernel
theorem d_D_partEnd_5 : decode M_D_partEnd.2.1 5 = .ok (.iload_n 3, 1) := by decide +kernel
theorem d_D_partEnd_6 : decode M_D_partEnd.2.1 6 = .ok (.ifCond .le 70, 3) := by decide +kernel
theorem d_D_partEnd_9 : decode M_D_partEnd.2.1 9 = .ok (.aload_n 1, 1) := by decide +kernel
theorem d_D_partEnd_10 : decode M_D_partEnd.2.1 10 = .ok (.iload 4, 2) := by decide +kernel
theorem d_D_partEnd_12 : decode M_D_partEnd.2.1 12 = .ok (.iaload, 1) := by decide +kernel
theorem d_D_partEnd_13 : decode M_D_partEnd.2.1 13 = .ok (.iconst 2, 1) := by decide +kernel
theorem d_D_partEnd_14 : decode M_D_partEnd.2.1 14 = .ok (.ishr, 1) := by decide +kernel
theorem d_D_partEnd_15 : decode M_D_partEnd.2.1 15 = .ok (.istore 5, 2) := by decide +kernel
theorem d_D_partEnd_17 : decode M_D_partEnd.2.1 17 = .ok (.iload_n 3, 1) := by decide +kernel
theorem d_D_partEnd_18 : decode M_D_partEnd.2.1 18 = .ok (.aload_n 1, 1) := by decide +kernel
theorem d_D_partEnd_19 : decode M_D_partEnd.2.1 19 = .ok (.iload 4, 2) := by decide +kernel
theorem d_D_partEnd_21 : decode M_D_partEnd.2.1 21 = .ok (.iaload, 1) := by decide +kernel
theorem d_D_partEnd_22 : decode M_D_partEnd.2.1 22 = .ok (.invokestatic 129, 3) := by decide +kernel
theorem d_D_partEnd_25 : decode M_D_partEnd.2.1 25 = .ok (.iconst 1, 1) := by decide +kernel
theorem d_D_partEnd_26 : decode M_D_partEnd.2.1 26 = .ok (.if_icmp .ne 15, 3) := by decide +kernel
theorem d_D_partEnd_29 : decode M_D_partEnd.2.1 29 = .ok (.aload_n 0, 1) := by decide +kernel
theorem d_D_partEnd_30 : decode M_D_partEnd.2.1 30 = .ok (.getfield 7, 3) := by decide +kernel
theorem d_D_partEnd_33 : decode M_D_partEnd.2.1 33 = .ok (.iload 5, 2) := by decide +kernel
theorem d_D_partEnd_35 : decode M_D_partEnd.2.1 35 = .ok (.iaload, 1) := by decide +kernel
theorem d_D_partEnd_36 : decode M_D_partEnd.2.1 36 = .ok (.iconst 1, 1) := by decide +kernel
theorem d_D_partEnd_37 : decode M_D_partEnd.2.1 37 = .ok (.isub, 1) := by decide +kernel
theorem d_D_partEnd_38 : decode M_D_partEnd.2.1 38 = .ok (.goto 4, 3) := by decide +kernel
theorem d_D_partEnd_41 : decode M_D_partEnd.2.1 41 = .ok (.iconst (-1), 1) := by decide +kernel
theorem d_D_partEnd_42 : decode M_D_partEnd.2.1 42 = .ok (.iadd, 1) := by decide +kernel
theorem d_D_partEnd_43 : decode M_D_partEnd.2.1 43 = .ok (.istore_n 3, 1) := by decide +kernel
theorem d_D_partEnd_44 : decode M_D_partEnd.2.1 44 = .ok (.iload 4, 2) := by decide +kernel
theorem d_D_partEnd_46 : decode M_D_partEnd.2.1 46 = .ok (.aload_n 1, 1) := by decide +kernel
theorem d_D_partEnd_47 : decode M_D_partEnd.2.1 47 = .ok (.iload 4, 2) := by decide +kernel
theorem d_D_partEnd_49 : decode M_D_partEnd.2.1 49 = .ok (.iaload, 1) := by decide +kernel
theorem d_D_partEnd_50 : decode M_D_partEnd.2.1 50 = .ok (.invokestatic 129, 3) := by decide +kernel
theorem d_D_partEnd_53 : decode M_D_partEnd.2.1 53 = .ok (.iconst 2, 1) := by decide +kernel
theorem d_D_partEnd_54 : decode M_D_partEnd.2.1 54 = .ok (.if_icmp .ne 15, 3) := by decide +kernel
theorem d_D_partEnd_57 : decode M_D_partEnd.2.1 57 = .ok (.iconst 1, 1) := by decide +kernel
theorem d_D_partEnd_58 : decode M_D_partEnd.2.1 58 = .ok (.aload_n 0, 1) := by decide +kernel
theorem d_D_partEnd_59 : decode M_D_partEnd.2.1 59 = .ok (.getfield 16, 3) := by decide +kernel
theorem d_D_partEnd_62 : decode M_D_partEnd.2.1 62 = .ok (.iload 5, 2) := by decide +kernel
theorem d_D_partEnd_64 : decode M_D_partEnd.2.1 64 = .ok (.iaload, 1) := by decide +kernel
theorem d_D_partEnd_65 : decode M_D_partEnd.2.1 65 = .ok (.iadd, 1) := by decide +kernel
theorem d_D_partEnd_66 : decode M_D_partEnd.2.1 66 = .ok (.goto 4, 3) := by decide +kernel
theorem d_D_partEnd_69 : decode M_D_partEnd.2.1 69 = .ok (.iconst 1, 1) := by decide +kernel
theorem d_D_partEnd_70 : decode M_D_partEnd.2.1 70 = .ok (.iadd, 1) := by decide +kernel
theorem d_D_partEnd_71 : decode M_D_partEnd.2.1 71 = .ok (.istore 4, 2) := by decide +kernel
theorem d_D_partEnd_73 : decode M_D_partEnd.2.1 73 = .ok (.goto (-68), 3) := by decide +kernel
theorem d_D_partEnd_76 : decode M_D_partEnd.2.1 76 = .ok (.iload 4, 2) := by decide +kernel
theorem d_D_partEnd_78 : decode M_D_partEnd.2.1 78 = .ok (.ireturn, 1) := by decide +kernel
theorem d_D_read_0 : decode M_D_read.2.1 0 = .ok (.aload_n 0, 1) := by decide +kernel
theorem d_D_read_1 : decode M_D_read.2.1 1 = .ok (.iload_n 1, 1) := by decide +kernel
theorem d_D_read_2 : decode M_D_read.2.1 2 = .ok (.iload_n 1, 1) := by decide +kernel
theorem d_D_read_3 : decode M_D_read.2.1 3 = .ok (.invokevirtual 205, 3) := by decide +kernel
theorem d_D_read_6 : decode M_D_read.2.1 6 = .ok (.ifCond .eq 5, 3) := by decide +kernel
theorem d_D_read_9 : decode M_D_read.2.1 9 = .ok (.iconst 0, 1) := by decide +kernel
theorem d_D_read_10 : decode M_D_read.2.1 10 = .ok (.ireturn, 1) := by decide +kernel
theorem d_D_read_11 : decode M_D_read.2.1 11 = .ok (.aload_n 0, 1) := by decide +kernel
theorem d_D_read_12 : decode M_D_read.2.1 12 = .ok (.aload_n 0, 1) := by decide +kernel
theorem d_D_read_13 : decode M_D_read.2.1 13 = .ok (.aload_n 0, 1) := by decide +kernel
theorem d_D_read_14 : decode M_D_read.2.1 14 = .ok (.getfield 57, 3) := by decide +kernel
theorem d_D_read_17 : decode M_D_read.2.1 17 = .ok (.iload_n 1, 1) := by decide +kernel
theorem d_D_read_18 : decode M_D_read.2.1 18 = .ok (.invokevirtual 209, 3) := by decide +kernel
theorem d_D_read_21 : decode M_D_read.2.1 21 = .ok (.putfield 154, 3) := by decide +kernel
theorem d_D_read_24 : decode M_D_read.2.1 24 = .ok (.iconst 0, 1) := by decide +kernel
theorem d_D_read_25 : decode M_D_read.2.1 25 = .ok (.istore_n 2, 1) := by decide +kernel
theorem d_D_read_26 : decode M_D_read.2.1 26 = .ok (.iload_n 2, 1) := by decide +kernel
theorem d_D_read_27 : decode M_D_read.2.1 27 = .ok (.sipush 324, 3) := by decide +kernel
theorem d_D_read_30 : decode M_D_read.2.1 30 = .ok (.if_icmp .ge 16, 3) := by decide +kernel
theorem d_D_read_33 : decode M_D_read.2.1 33 = .ok (.aload_n 0, 1) := by decide +kernel
theorem d_D_read_34 : decode M_D_read.2.1 34 = .ok (.getfield 94, 3) := by decide +kernel
theorem d_D_read_37 : decode M_D_read.2.1 37 = .ok (.iload_n 2, 1) := by decide +kernel
theorem d_D_read_38 : decode M_D_read.2.1 38 = .ok (.iconst (-1), 1) := by decide +kernel
theorem d_D_read_39 : decode M_D_read.2.1 39 = .ok (.iastore, 1) := by decide +kernel
theorem d_D_read_40 : decode M_D_read.2.1 40 = .ok (.iinc 2 1, 3) := by decide +kernel
theorem d_D_read_43 : decode M_D_read.2.1 43 = .ok (.goto (-17), 3) := by decide +kernel
theorem d_D_read_46 : decode M_D_read.2.1 46 = .ok (.aload_n 0, 1) := by decide +kernel
theorem d_D_read_47 : decode M_D_read.2.1 47 = .ok (.iconst 0, 1) := by decide +kernel
theorem d_D_read_48 : decode M_D_read.2.1 48 = .ok (.putfield 221, 3) := by decide +kernel
theorem d_D_read_51 : decode M_D_read.2.1 51 = .ok (.aload_n 0, 1) := by decide +kernel
theorem d_D_read_52 : decode M_D_read.2.1 52 = .ok (.aload_n 0, 1) := by decide +kernel
theorem d_D_read_53 : decode M_D_read.2.1 53 = .ok (.getfield 154, 3) := by decide +kernel
theorem d_D_read_56 : decode M_D_read.2.1 56 = .ok (.putfield 224, 3) := by decide +kernel
theorem d_D_read_59 : decode M_D_read.2.1 59 = .ok (.iconst 0, 1) := by decide +kernel
theorem d_D_read_60 : decode M_D_read.2.1 60 = .ok (.istore_n 2, 1) := by decide +kernel
theorem d_D_read_61 : decode M_D_read.2.1 61 = .ok (.iload_n 2, 1) := by decide +kernel
theorem d_D_read_62 : decode M_D_read.2.1 62 = .ok (.aload_n 0, 1) := by decide +kernel
theorem d_D_read_63 : decode M_D_read.2.1 63 = .ok (.getfield 154, 3) := by decide +kernel
theorem d_D_read_66 : decode M_D_read.2.1 66 = .ok (.if_icmp .ge 163, 3) := by decide +kernel
theorem d_D_read_69 : decode M_D_read.2.1 69 = .ok (.aload_n 0, 1) := by decide +kernel
theorem d_D_read_70 : decode M_D_read.2.1 70 = .ok (.getfield 91, 3) := by decide +kernel
theorem d_D_read_73 : decode M_D_read.2.1 73 = .ok (.iload_n 2, 1) := by decide +kernel
theorem d_D_read_74 : decode M_D_read.2.1 74 = .ok (.aload_n 0, 1) := by decide +kernel
theorem d_D_read_75 : decode M_D_read.2.1 75 = .ok (.getfield 57, 3) := by decide +kernel
theorem d_D_read_78 : decode M_D_read.2.1 78 = .ok (.iload_n 2, 1) := by decide +kernel
theorem d_D_read_79 : decode M_D_read.2.1 79 = .ok (.iaload, 1) := by decide +kernel
theorem d_D_read_80 : decode M_D_read.2.1 80 = .ok (.iastore, 1) := by decide +kernel
theorem d_D_read_81 : decode M_D_read.2.1 81 = .ok (.aload_n 0, 1) := by decide +kernel
theorem d_D_read_82 : decode M_D_read.2.1 82 = .ok (.getfield 57, 3) := by decide +kernel
theorem d_D_read_85 : decode M_D_read.2.1 85 = .ok (.iload_n 2, 1) := by decide +kernel
theorem d_D_read_86 : decode M_D_read.2.1 86 = .ok (.iaload, 1) := by decide +kernel
theorem d_D_read_87 : decode M_D_read.2.1 87 = .ok (.iconst 2, 1) := by decide +kernel
theorem d_D_read_88 : decode M_D_read.2.1 88 = .ok (.ishr, 1) := by decide +kernel
theorem d_D_read_89 : decode M_D_read.2.1 89 = .ok (.istore_n 3, 1) := by decide +kernel
theorem d_D_read_90 : decode M_D_read.2.1 90 = .ok (.aload_n 0, 1) := by decide +kernel
theorem d_D_read_91 : decode M_D_read.2.1 91 = .ok (.getfield 57, 3) := by decide +kernel
theorem d_D_read_94 : decode M_D_read.2.1 94 = .ok (.iload_n 2, 1) := by decide +kernel
theorem d_D_read_95 : decode M_D_read.2.1 95 = .ok (.iaload, 1) := by decide +kernel
theorem d_D_read_96 : decode M_D_read.2.1 96 = .ok (.invokestatic 129, 3) := by decide +kernel
theorem d_D_read_99 : decode M_D_read.2.1 99 = .ok (.iconst 2, 1) := by decide +kernel
theorem d_D_read_100 : decode M_D_read.2.1 100 = .ok (.if_icmp .eq 6, 3) := by decide +kernel
theorem d_D_read_103 : decode M_D_read.2.1 103 = .ok (.goto 120, 3) := by decide +kernel
theorem d_D_read_106 : decode M_D_read.2.1 106 = .ok (.aload_n 0, 1) := by decide +kernel
theorem d_D_read_107 : decode M_D_read.2.1 107 = .ok (.getfield 94, 3) := by decide +kernel
theorem d_D_read_110 : decode M_D_read.2.1 110 = .ok (.iload_n 3, 1) := by decide +kernel
theorem d_D_read_111 : decode M_D_read.2.1 111 = .ok (.iaload, 1) := by decide +kernel
theorem d_D_read_112 : decode M_D_read.2.1 112 = .ok (.ifCond .ge 35, 3) := by decide +kernel
theorem d_D_read_115 : decode M_D_read.2.1 115 = .ok (.aload_n 0, 1) := by decide +kernel
theorem d_D_read_116 : decode M_D_read.2.1 116 = .ok (.getfield 94, 3) := by decide +kernel
theorem d_D_read_119 : decode M_D_read.2.1 119 = .ok (.iload_n 3, 1) := by decide +kernel
theorem d_D_read_120 : decode M_D_read.2.1 120 = .ok (.aload_n 0, 1) := by decide +kernel
theorem d_D_read_121 : decode M_D_read.2.1 121 = .ok (.getfield 221, 3) := by decide +kernel
theorem d_D_read_124 : decode M_D_read.2.1 124 = .ok (.iastore, 1) := by decide +kernel
theorem d_D_read_125 : decode M_D_read.2.1 125 = .ok (.aload_n 0, 1) := by decide +kernel
theorem d_D_read_126 : decode M_D_read.2.1 126 = .ok (.dup, 1) := by decide +kernel
theorem d_D_read_127 : decode M_D_read.2.1 127 = .ok (.getfield 221, 3) := by decide +kernel
theorem d_D_read_130 : decode M_D_read.2.1 130 = .ok (.iconst 1, 1) := by decide +kernel
theorem d_D_read_131 : decode M_D_read.2.1 131 = .ok (.iadd, 1) := by decide +kernel
theorem d_D_read_132 : decode M_D_read.2.1 132 = .ok (.putfield 221, 3) := by decide +kernel
theorem d_D_read_135 : decode M_D_read.2.1 135 = .ok (.aload_n 0, 1) := by decide +kernel
theorem d_D_read_136 : decode M_D_read.2.1 136 = .ok (.iload_n 3, 1) := by decide +kernel
theorem d_D_read_137 : decode M_D_read.2.1 137 = .ok (.aload_n 0, 1) := by decide +kernel
theorem d_D_read_138 : decode M_D_read.2.1 138 = .ok (.getfield 57, 3) := by decide +kernel
theorem d_D_read_141 : decode M_D_read.2.1 141 = .ok (.iload_n 2, 1) := by decide +kernel
theorem d_D_read_142 : decode M_D_read.2.1 142 = .ok (.iconst 1, 1) := by decide +kernel
theorem d_D_read_143 : decode M_D_read.2.1 143 = .ok (.iadd, 1) := by decide +kernel
theorem d_D_read_144 : decode M_D_read.2.1 144 = .ok (.invokevirtual 227, 3) := by decide +kernel
theorem d_D_read_147 : decode M_D_read.2.1 147 = .ok (.aload_n 0, 1) := by decide +kernel
theorem d_D_read_148 : decode M_D_read.2.1 148 = .ok (.getfield 91, 3) := by decide +kernel
theorem d_D_read_151 : decode M_D_read.2.1 151 = .ok (.iload_n 2, 1) := by decide +kernel
theorem d_D_read_152 : decode M_D_read.2.1 152 = .ok (.iconst 4, 1) := by decide +kernel
theorem d_D_read_153 : decode M_D_read.2.1 153 = .ok (.aload_n 0, 1) := by decide +kernel
theorem d_D_read_154 : decode M_D_read.2.1 154 = .ok (.getfield 94, 3) := by decide +kernel
theorem d_D_read_157 : decode M_D_read.2.1 157 = .ok (.iload_n 3, 1) := by decide +kernel
theorem d_D_read_158 : decode M_D_read.2.1 158 = .ok (.iaload, 1) := by decide +kernel
theorem d_D_read_159 : decode M_D_read.2.1 159 = .ok (.imul, 1) := by decide +kernel
theorem d_D_read_160 : decode M_D_read.2.1 160 = .ok (.iconst 2, 1) := by decide +kernel
theorem d_D_read_161 : decode M_D_read.2.1 161 = .ok (.iadd, 1) := by decide +kernel
theorem d_D_read_162 : decode M_D_read.2.1 162 = .ok (.iastore, 1) := by decide +kernel
theorem d_D_read_163 : decode M_D_read.2.1 163 = .ok (.iconst 0, 1) := by decide +kernel
theorem d_D_read_164 : decode M_D_read.2.1 164 = .ok (.istore 4, 2) := by decide +kernel
theorem d_D_read_166 : decode M_D_read.2.1 166 = .ok (.iload 4, 2) := by decide +kernel
theorem d_D_read_168 : decode M_D_read.2.1 168 = .ok (.aload_n 0, 1) := by decide +kernel
theorem d_D_read_169 : decode M_D_read.2.1 169 = .ok (.getfield 16, 3) := by decide +kernel
theorem d_D_read_172 : decode M_D_read.2.1 172 = .ok (.iload_n 3, 1) := by decide +kernel
theorem d_D_read_173 : decode M_D_read.2.1 173 = .ok (.iaload, 1) := by decide +kernel
theorem d_D_read_174 : decode M_D_read.2.1 174 = .ok (.if_icmp .ge 40, 3) := by decide +kernel
theorem d_D_read_177 : decode M_D_read.2.1 177 = .ok (.aload_n 0, 1) := by decide +kernel
theorem d_D_read_178 : decode M_D_read.2.1 178 = .ok (.getfield 91, 3) := by decide +kernel
theorem d_D_read_181 : decode M_D_read.2.1 181 = .ok (.iload_n 2, 1) := by decide +kernel
theorem d_D_read_182 : decode M_D_read.2.1 182 = .ok (.iconst 1, 1) := by decide +kernel
theorem d_D_read_183 : decode M_D_read.2.1 183 = .ok (.iadd, 1) := by decide +kernel
theorem d_D_read_184 : decode M_D_read.2.1 184 = .ok (.iload 4, 2) := by decide +kernel
theorem d_D_read_186 : decode M_D_read.2.1 186 = .ok (.iadd, 1) := by decide +kernel
theorem d_D_read_187 : decode M_D_read.2.1 187 = .ok (.aload_n 0, 1) := by decide +kernel
theorem d_D_read_188 : decode M_D_read.2.1 188 = .ok (.getfield 57, 3) := by decide +kernel
theorem d_D_read_191 : decode M_D_read.2.1 191 = .ok (.iload_n 2, 1) := by decide +kernel
theorem d_D_read_192 : decode M_D_read.2.1 192 = .ok (.iconst 1, 1) := by decide +kernel
theorem d_D_read_193 : decode M_D_read.2.1 193 = .ok (.iadd, 1) := by decide +kernel
theorem d_D_read_194 : decode M_D_read.2.1 194 = .ok (.aload_n 0, 1) := by decide +kernel
theorem d_D_read_195 : decode M_D_read.2.1 195 = .ok (.getfield 97, 3) := by decide +kernel
theorem d_D_read_198 : decode M_D_read.2.1 198 = .ok (.iconst 4, 1) := by decide +kernel
theorem d_D_read_199 : decode M_D_read.2.1 199 = .ok (.iload_n 3, 1) := by decide +kernel
theorem d_D_read_200 : decode M_D_read.2.1 200 = .ok (.imul, 1) := by decide +kernel
theorem d_D_read_201 : decode M_D_read.2.1 201 = .ok (.iload 4, 2) := by decide +kernel
theorem d_D_read_203 : decode M_D_read.2.1 203 = .ok (.iadd, 1) := by decide +kernel
theorem d_D_read_204 : decode M_D_read.2.1 204 = .ok (.iaload, 1) := by decide +kernel
theorem d_D_read_205 : decode M_D_read.2.1 205 = .ok (.iadd, 1) := by decide +kernel
theorem d_D_read_206 : decode M_D_read.2.1 206 = .ok (.iaload, 1) := by decide +kernel
theorem d_D_read_207 : decode M_D_read.2.1 207 = .ok (.iastore, 1) := by decide +kernel
theorem d_D_read_208 : decode M_D_read.2.1 208 = .ok (.iinc 4 1, 3) := by decide +kernel
theorem d_D_read_211 : decode M_D_read.2.1 211 = .ok (.goto (-45), 3) := by decide +kernel
theorem d_D_read_214 : decode M_D_read.2.1 214 = .ok (.iload_n 2, 1) := by decide +kernel
theorem d_D_read_215 : decode M_D_read.2.1 215 = .ok (.aload_n 0, 1) := by decide +kernel
theorem d_D_read_216 : decode M_D_read.2.1 216 = .ok (.getfield 16, 3) := by decide +kernel
theorem d_D_read_219 : decode M_D_read.2.1 219 = .ok (.iload_n 3, 1) := by decide +kernel
theorem d_D_read_220 : decode M_D_read.2.1 220 = .ok (.iaload, 1) := by decide +kernel
theorem d_D_read_221 : decode M_D_read.2.1 221 = .ok (.iadd, 1) := by decide +kernel
theorem d_D_read_222 : decode M_D_read.2.1 222 = .ok (.istore_n 2, 1) := by decide +kernel
theorem d_D_read_223 : decode M_D_read.2.1 223 = .ok (.iinc 2 1, 3) := by decide +kernel
theorem d_D_read_226 : decode M_D_read.2.1 226 = .ok (.goto (-165), 3) := by decide +kernel
theorem d_D_read_229 : decode M_D_read.2.1 229 = .ok (.aload_n 0, 1) := by decide +kernel
theorem d_D_read_230 : decode M_D_read.2.1 230 = .ok (.getfield 224, 3) := by decide +kernel
theorem d_D_read_233 : decode M_D_read.2.1 233 = .ok (.ireturn, 1) := by decide +kernel
theorem d_D_rank_0 : decode M_D_rank.2.1 0 = .ok (.iconst 0, 1) := by decide +kernel
theorem d_D_rank_1 : decode M_D_rank.2.1 1 = .ok (.istore 4, 2) := by decide +kernel
theorem d_D_rank_3 : decode M_D_rank.2.1 3 = .ok (.iload 4, 2) := by decide +kernel
theorem d_D_rank_5 : decode M_D_rank.2.1 5 = .ok (.aload_n 0, 1) := by decide +kernel
theorem d_D_rank_6 : decode M_D_rank.2.1 6 = .ok (.getfield 16, 3) := by decide +kernel
theorem d_D_rank_9 : decode M_D_rank.2.1 9 = .ok (.iload_n 1, 1) := by decide +kernel
theorem d_D_rank_10 : decode M_D_rank.2.1 10 = .ok (.iaload, 1) := by decide +kernel
theorem d_D_rank_11 : decode M_D_rank.2.1 11 = .ok (.if_icmp .ge 70, 3) := by decide +kernel
theorem d_D_rank_14 : decode M_D_rank.2.1 14 = .ok (.iconst 0, 1) := by decide +kernel
theorem d_D_rank_15 : decode M_D_rank.2.1 15 = .ok (.istore 5, 2) := by decide +kernel
theorem d_D_rank_17 : decode M_D_rank.2.1 17 = .ok (.iconst 0, 1) := by decide +kernel
theorem d_D_rank_18 : decode M_D_rank.2.1 18 = .ok (.istore 6, 2) := by decide +kernel
theorem d_D_rank_20 : decode M_D_rank.2.1 20 = .ok (.iload 6, 2) := by decide +kernel
theorem d_D_rank_22 : decode M_D_rank.2.1 22 = .ok (.aload_n 0, 1) := by decide +kernel
theorem d_D_rank_23 : decode M_D_rank.2.1 23 = .ok (.getfield 16, 3) := by decide +kernel
theorem d_D_rank_26 : decode M_D_rank.2.1 26 = .ok (.iload_n 1, 1) := by decide +kernel
theorem d_D_rank_27 : decode M_D_rank.2.1 27 = .ok (.iaload, 1) := by decide +kernel
theorem d_D_rank_28 : decode M_D_rank.2.1 28 = .ok (.if_icmp .ge 34, 3) := by decide +kernel
theorem d_D_rank_31 : decode M_D_rank.2.1 31 = .ok (.iload 5, 2) := by decide +kernel
theorem d_D_rank_33 : decode M_D_rank.2.1 33 = .ok (.aload_n 2, 1) := by decide +kernel
theorem d_D_rank_34 : decode M_D_rank.2.1 34 = .ok (.iload_n 3, 1) := by decide +kernel
theorem d_D_rank_35 : decode M_D_rank.2.1 35 = .ok (.iload 6, 2) := by decide +kernel
theorem d_D_rank_37 : decode M_D_rank.2.1 37 = .ok (.iadd, 1) := by decide +kernel
theorem d_D_rank_38 : decode M_D_rank.2.1 38 = .ok (.iaload, 1) := by decide +kernel
theorem d_D_rank_39 : decode M_D_rank.2.1 39 = .ok (.aload_n 2, 1) := by decide +kernel
theorem d_D_rank_40 : decode M_D_rank.2.1 40 = .ok (.iload_n 3, 1) := by decide +kernel
theorem d_D_rank_41 : decode M_D_rank.2.1 41 = .ok (.iload 4, 2) := by decide +kernel
theorem d_D_rank_43 : decode M_D_rank.2.1 43 = .ok (.iadd, 1) := by decide +kernel
theorem d_D_rank_44 : decode M_D_rank.2.1 44 = .ok (.iaload, 1) := by decide +kernel
theorem d_D_rank_45 : decode M_D_rank.2.1 45 = .ok (.if_icmp .ge 7, 3) := by decide +kernel
theorem d_D_rank_48 : decode M_D_rank.2.1 48 = .ok (.iconst 1, 1) := by decide +kernel
theorem d_D_rank_49 : decode M_D_rank.2.1 49 = .ok (.goto 4, 3) := by decide +kernel
theorem d_D_rank_52 : decode M_D_rank.2.1 52 = .ok (.iconst 0, 1) := by decide +kernel
theorem d_D_rank_53 : decode M_D_rank.2.1 53 = .ok (.iadd, 1) := by decide +kernel
theorem d_D_rank_54 : decode M_D_rank.2.1 54 = .ok (.istore 5, 2) := by decide +kernel
theorem d_D_rank_56 : decode M_D_rank.2.1 56 = .ok (.iinc 6 1, 3) := by decide +kernel
theorem d_D_rank_59 : decode M_D_rank.2.1 59 = .ok (.goto (-39), 3) := by decide +kernel
theorem d_D_rank_62 : decode M_D_rank.2.1 62 = .ok (.aload_n 0, 1) := by decide +kernel
theorem d_D_rank_63 : decode M_D_rank.2.1 63 = .ok (.getfield 97, 3) := by decide +kernel
theorem d_D_rank_66 : decode M_D_rank.2.1 66 = .ok (.iconst 4, 1) := by decide +kernel
theorem d_D_rank_67 : decode M_D_rank.2.1 67 = .ok (.iload_n 1, 1) := by decide +kernel
theorem d_D_rank_68 : decode M_D_rank.2.1 68 = .ok (.imul, 1) := by decide +kernel
theorem d_D_rank_69 : decode M_D_rank.2.1 69 = .ok (.iload 5, 2) := by decide +kernel
theorem d_D_rank_71 : decode M_D_rank.2.1 71 = .ok (.iadd, 1) := by decide +kernel
theorem d_D_rank_72 : decode M_D_rank.2.1 72 = .ok (.iload 4, 2) := by decide +kernel
theorem d_D_rank_74 : decode M_D_rank.2.1 74 = .ok (.iastore, 1) := by decide +kernel
theorem d_D_rank_75 : decode M_D_rank.2.1 75 = .ok (.iinc 4 1, 3) := by decide +kernel
theorem d_D_rank_78 : decode M_D_rank.2.1 78 = .ok (.goto (-75), 3) := by decide +kernel
theorem d_D_rank_81 : decode M_D_rank.2.1 81 = .ok (.return_, 1) := by decide +kernel
theorem d_D_item_0 : decode M_D_item.2.1 0 = .ok (.aload_n 0, 1) := by decide +kernel
theorem d_D_item_1 : decode M_D_item.2.1 1 = .ok (.iload_n 1, 1) := by decide +kernel
theorem d_D_item_2 : decode M_D_item.2.1 2 = .ok (.ifCond .lt 11, 3) := by decide +kernel
theorem d_D_item_5 : decode M_D_item.2.1 5 = .ok (.iload_n 1, 1) := by decide +kernel
theorem d_D_item_6 : decode M_D_item.2.1 6 = .ok (.aload_n 0, 1) := by decide +kernel
theorem d_D_item_7 : decode M_D_item.2.1 7 = .ok (.getfield 224, 3) := by decide +kernel
theorem d_D_item_10 : decode M_D_item.2.1 10 = .ok (.if_icmp .lt 7, 3) := by decide +kernel
theorem d_D_item_13 : decode M_D_item.2.1 13 = .ok (.iconst 1, 1) := by decide +kernel
theorem d_D_item_14 : decode M_D_item.2.1 14 = .ok (.goto 4, 3) := by decide +kernel
theorem d_D_item_17 : decode M_D_item.2.1 17 = .ok (.iconst 0, 1) := by decide +kernel
theorem d_D_item_18 : decode M_D_item.2.1 18 = .ok (.iconst 0, 1) := by decide +kernel
theorem d_D_item_19 : decode M_D_item.2.1 19 = .ok (.invokevirtual 104, 3) := by decide +kernel
theorem d_D_item_22 : decode M_D_item.2.1 22 = .ok (.ifCond .eq 5, 3) := by decide +kernel
theorem d_D_item_25 : decode M_D_item.2.1 25 = .ok (.iconst 0, 1) := by decide +kernel
theorem d_D_item_26 : decode M_D_item.2.1 26 = .ok (.ireturn, 1) := by decide +kernel
theorem d_D_item_27 : decode M_D_item.2.1 27 = .ok (.aload_n 0, 1) := by decide +kernel
theorem d_D_item_28 : decode M_D_item.2.1 28 = .ok (.getfield 91, 3) := by decide +kernel
theorem d_D_item_31 : decode M_D_item.2.1 31 = .ok (.iload_n 1, 1) := by decide +kernel
theorem d_D_item_32 : decode M_D_item.2.1 32 = .ok (.iaload, 1) := by decide +kernel
theorem d_D_item_33 : decode M_D_item.2.1 33 = .ok (.ireturn, 1) := by decide +kernel
theorem d_D_isSame_0 : decode M_D_isSame.2.1 0 = .ok (.aload_n 0, 1) := by decide +kernel
theorem d_D_isSame_1 : decode M_D_isSame.2.1 1 = .ok (.iload_n 1, 1) := by decide +kernel
theorem d_D_isSame_2 : decode M_D_isSame.2.1 2 = .ok (.iload_n 2, 1) := by decide +kernel
theorem d_D_isSame_3 : decode M_D_isSame.2.1 3 = .ok (.invokevirtual 205, 3) := by decide +kernel
theorem d_D_isSame_6 : decode M_D_isSame.2.1 6 = .ok (.ifCond .eq 5, 3) := by decide +kernel
theorem d_D_isSame_9 : decode M_D_isSame.2.1 9 = .ok (.iconst 0, 1) := by decide +kernel
theorem d_D_isSame_10 : decode M_D_isSame.2.1 10 = .ok (.ireturn, 1) := by decide +kernel
theorem d_D_isSame_11 : decode M_D_isSame.2.1 11 = .ok (.aload_n 0, 1) := by decide +kernel
theorem d_D_isSame_12 : decode M_D_isSame.2.1 12 = .ok (.aload_n 0, 1) := by decide +kernel
theorem d_D_isSame_13 : decode M_D_isSame.2.1 13 = .ok (.aload_n 0, 1) := by decide +kernel
theorem d_D_isSame_14 : decode M_D_isSame.2.1 14 = .ok (.getfield 57, 3) := by decide +kernel
theorem d_D_isSame_17 : decode M_D_isSame.2.1 17 = .ok (.iload_n 1, 1) := by decide +kernel
theorem d_D_isSame_18 : decode M_D_isSame.2.1 18 = .ok (.invokevirtual 209, 3) := by decide +kernel
theorem d_D_isSame_21 : decode M_D_isSame.2.1 21 = .ok (.putfield 154, 3) := by decide +kernel
theorem d_D_isSame_24 : decode M_D_isSame.2.1 24 = .ok (.aload_n 0, 1) := by decide +kernel
theorem d_D_isSame_25 : decode M_D_isSame.2.1 25 = .ok (.aload_n 0, 1) := by decide +kernel
theorem d_D_isSame_26 : decode M_D_isSame.2.1 26 = .ok (.aload_n 0, 1) := by decide +kernel
theorem d_D_isSame_27 : decode M_D_isSame.2.1 27 = .ok (.getfield 60, 3) := by decide +kernel
theorem d_D_isSame_30 : decode M_D_isSame.2.1 30 = .ok (.iload_n 2, 1) := by decide +kernel
theorem d_D_isSame_31 : decode M_D_isSame.2.1 31 = .ok (.invokevirtual 209, 3) := by decide +kernel
theorem d_D_isSame_34 : decode M_D_isSame.2.1 34 = .ok (.putfield 157, 3) := by decide +kernel
theorem d_D_isSame_37 : decode M_D_isSame.2.1 37 = .ok (.aload_n 0, 1) := by decide +kernel
theorem d_D_isSame_38 : decode M_D_isSame.2.1 38 = .ok (.getfield 154, 3) := by decide +kernel
theorem d_D_isSame_41 : decode M_D_isSame.2.1 41 = .ok (.aload_n 0, 1) := by decide +kernel
theorem d_D_isSame_42 : decode M_D_isSame.2.1 42 = .ok (.getfield 157, 3) := by decide +kernel
theorem d_D_isSame_45 : decode M_D_isSame.2.1 45 = .ok (.if_icmp .ne 7, 3) := by decide +kernel
theorem d_D_isSame_48 : decode M_D_isSame.2.1 48 = .ok (.iconst 1, 1) := by decide +kernel
theorem d_D_isSame_49 : decode M_D_isSame.2.1 49 = .ok (.goto 4, 3) := by decide +kernel
theorem d_D_isSame_52 : decode M_D_isSame.2.1 52 = .ok (.iconst 0, 1) := by decide +kernel
theorem d_D_isSame_53 : decode M_D_isSame.2.1 53 = .ok (.istore_n 3, 1) := by decide +kernel
theorem d_D_isSame_54 : decode M_D_isSame.2.1 54 = .ok (.iconst 0, 1) := by decide +kernel
theorem d_D_isSame_55 : decode M_D_isSame.2.1 55 = .ok (.istore 4, 2) := by decide +kernel
theorem d_D_isSame_57 : decode M_D_isSame.2.1 57 = .ok (.iload 4, 2) := by decide +kernel
theorem d_D_isSame_59 : decode M_D_isSame.2.1 59 = .ok (.aload_n 0, 1) := by decide +kernel
theorem d_D_isSame_60 : decode M_D_isSame.2.1 60 = .ok (.getfield 154, 3) := by decide +kernel
theorem d_D_isSame_63 : decode M_D_isSame.2.1 63 = .ok (.if_icmp .ge 36, 3) := by decide +kernel
theorem d_D_isSame_66 : decode M_D_isSame.2.1 66 = .ok (.iload_n 3, 1) := by decide +kernel
theorem d_D_isSame_67 : decode M_D_isSame.2.1 67 = .ok (.ifCond .eq 32, 3) := by decide +kernel
theorem d_D_isSame_70 : decode M_D_isSame.2.1 70 = .ok (.aload_n 0, 1) := by decide +kernel
theorem d_D_isSame_71 : decode M_D_isSame.2.1 71 = .ok (.getfield 57, 3) := by decide +kernel
theorem d_D_isSame_74 : decode M_D_isSame.2.1 74 = .ok (.iload 4, 2) := by decide +kernel
theorem d_D_isSame_76 : decode M_D_isSame.2.1 76 = .ok (.iaload, 1) := by decide +kernel
theorem d_D_isSame_77 : decode M_D_isSame.2.1 77 = .ok (.aload_n 0, 1) := by decide +kernel
theorem d_D_isSame_78 : decode M_D_isSame.2.1 78 = .ok (.getfield 60, 3) := by decide +kernel
theorem d_D_isSame_81 : decode M_D_isSame.2.1 81 = .ok (.iload 4, 2) := by decide +kernel
theorem d_D_isSame_83 : decode M_D_isSame.2.1 83 = .ok (.iaload, 1) := by decide +kernel
theorem d_D_isSame_84 : decode M_D_isSame.2.1 84 = .ok (.if_icmp .ne 7, 3) := by decide +kernel
theorem d_D_isSame_87 : decode M_D_isSame.2.1 87 = .ok (.iconst 1, 1) := by decide +kernel
theorem d_D_isSame_88 : decode M_D_isSame.2.1 88 = .ok (.goto 4, 3) := by decide +kernel
theorem d_D_isSame_91 : decode M_D_isSame.2.1 91 = .ok (.iconst 0, 1) := by decide +kernel
theorem d_D_isSame_92 : decode M_D_isSame.2.1 92 = .ok (.istore_n 3, 1) := by decide +kernel
theorem d_D_isSame_93 : decode M_D_isSame.2.1 93 = .ok (.iinc 4 1, 3) := by decide +kernel
theorem d_D_isSame_96 : decode M_D_isSame.2.1 96 = .ok (.goto (-39), 3) := by decide +kernel
theorem d_D_isSame_99 : decode M_D_isSame.2.1 99 = .ok (.iload_n 3, 1) := by decide +kernel
theorem d_D_isSame_100 : decode M_D_isSame.2.1 100 = .ok (.ireturn, 1) := by decide +kernel
theorem d_D_size_0 : decode M_D_size.2.1 0 = .ok (.aload_n 0, 1) := by decide +kernel
theorem d_D_size_1 : decode M_D_size.2.1 1 = .ok (.iload_n 1, 1) := by decide +kernel
theorem d_D_size_2 : decode M_D_size.2.1 2 = .ok (.ifCond .lt 11, 3) := by decide +kernel
theorem d_D_size_5 : decode M_D_size.2.1 5 = .ok (.iload_n 1, 1) := by decide +kernel
theorem d_D_size_6 : decode M_D_size.2.1 6 = .ok (.aload_n 0, 1) := by decide +kernel
theorem d_D_size_7 : decode M_D_size.2.1 7 = .ok (.getfield 111, 3) := by decide +kernel
theorem d_D_size_10 : decode M_D_size.2.1 10 = .ok (.if_icmp .lt 7, 3) := by decide +kernel
theorem d_D_size_13 : decode M_D_size.2.1 13 = .ok (.iconst 1, 1) := by decide +kernel
theorem d_D_size_14 : decode M_D_size.2.1 14 = .ok (.goto 4, 3) := by decide +kernel
theorem d_D_size_17 : decode M_D_size.2.1 17 = .ok (.iconst 0, 1) := by decide +kernel
theorem d_D_size_18 : decode M_D_size.2.1 18 = .ok (.iconst 0, 1) := by decide +kernel
theorem d_D_size_19 : decode M_D_size.2.1 19 = .ok (.invokevirtual 104, 3) := by decide +kernel
theorem d_D_size_22 : decode M_D_size.2.1 22 = .ok (.ifCond .eq 5, 3) := by decide +kernel
theorem d_D_size_25 : decode M_D_size.2.1 25 = .ok (.iconst 0, 1) := by decide +kernel
theorem d_D_size_26 : decode M_D_size.2.1 26 = .ok (.ireturn, 1) := by decide +kernel
theorem d_D_size_27 : decode M_D_size.2.1 27 = .ok (.aload_n 0, 1) := by decide +kernel
theorem d_D_size_28 : decode M_D_size.2.1 28 = .ok (.iload_n 1, 1) := by decide +kernel
theorem d_D_size_29 : decode M_D_size.2.1 29 = .ok (.invokevirtual 199, 3) := by decide +kernel
theorem d_D_size_32 : decode M_D_size.2.1 32 = .ok (.ireturn, 1) := by decide +kernel
theorem d_D_uses_0 : decode M_D_uses.2.1 0 = .ok (.aload_n 0, 1) := by decide +kernel
theorem d_D_uses_1 : decode M_D_uses.2.1 1 = .ok (.iload_n 1, 1) := by decide +kernel
theorem d_D_uses_2 : decode M_D_uses.2.1 2 = .ok (.ifCond .lt 11, 3) := by decide +kernel
theorem d_D_uses_5 : decode M_D_uses.2.1 5 = .ok (.iload_n 1, 1) := by decide +kernel
theorem d_D_uses_6 : decode M_D_uses.2.1 6 = .ok (.aload_n 0, 1) := by decide +kernel
theorem d_D_uses_7 : decode M_D_uses.2.1 7 = .ok (.getfield 111, 3) := by decide +kernel
theorem d_D_uses_10 : decode M_D_uses.2.1 10 = .ok (.if_icmp .lt 7, 3) := by decide +kernel
theorem d_D_uses_13 : decode M_D_uses.2.1 13 = .ok (.iconst 1, 1) := by decide +kernel
theorem d_D_uses_14 : decode M_D_uses.2.1 14 = .ok (.goto 4, 3) := by decide +kernel
theorem d_D_uses_17 : decode M_D_uses.2.1 17 = .ok (.iconst 0, 1) := by decide +kernel
theorem d_D_uses_18 : decode M_D_uses.2.1 18 = .ok (.iconst 0, 1) := by decide +kernel
theorem d_D_uses_19 : decode M_D_uses.2.1 19 = .ok (.invokevirtual 104, 3) := by decide +kernel
theorem d_D_uses_22 : decode M_D_uses.2.1 22 = .ok (.ifCond .eq 5, 3) := by decide +kernel
theorem d_D_uses_25 : decode M_D_uses.2.1 25 = .ok (.iconst 0, 1) := by decide +kernel
theorem d_D_uses_26 : decode M_D_uses.2.1 26 = .ok (.ireturn, 1) := by decide +kernel
theorem d_D_uses_27 : decode M_D_uses.2.1 27 = .ok (.aload_n 0, 1) := by decide +kernel
theorem d_D_uses_28 : decode M_D_uses.2.1 28 = .ok (.getfield 26, 3) := by decide +kernel
theorem d_D_uses_31 : decode M_D_uses.2.1 31 = .ok (.iload_n 1, 1) := by decide +kernel
theorem d_D_uses_32 : decode M_D_uses.2.1 32 = .ok (.baload, 1) := by decide +kernel
theorem d_D_uses_33 : decode M_D_uses.2.1 33 = .ok (.ifCond .ne 14, 3) := by decide +kernel
theorem d_D_uses_36 : decode M_D_uses.2.1 36 = .ok (.iconst 1, 1) := by decide +kernel
theorem d_D_uses_37 : decode M_D_uses.2.1 37 = .ok (.aload_n 0, 1) := by decide +kernel
theorem d_D_uses_38 : decode M_D_uses.2.1 38 = .ok (.getfield 16, 3) := by decide +kernel
theorem d_D_uses_41 : decode M_D_uses.2.1 41 = .ok (.iload_n 1, 1) := by decide +kernel
theorem d_D_uses_42 : decode M_D_uses.2.1 42 = .ok (.iaload, 1) := by decide +kernel
theorem d_D_uses_43 : decode M_D_uses.2.1 43 = .ok (.ishl, 1) := by decide +kernel
theorem d_D_uses_44 : decode M_D_uses.2.1 44 = .ok (.iconst 1, 1) := by decide +kernel
theorem d_D_uses_45 : decode M_D_uses.2.1 45 = .ok (.isub, 1) := by decide +kernel
theorem d_D_uses_46 : decode M_D_uses.2.1 46 = .ok (.ireturn, 1) := by decide +kernel
theorem d_D_uses_47 : decode M_D_uses.2.1 47 = .ok (.iconst 0, 1) := by decide +kernel
theorem d_D_uses_48 : decode M_D_uses.2.1 48 = .ok (.istore_n 2, 1) := by decide +kernel
theorem d_D_uses_49 : decode M_D_uses.2.1 49 = .ok (.iload_n 2, 1) := by decide +kernel
theorem d_D_uses_50 : decode M_D_uses.2.1 50 = .ok (.aload_n 0, 1) := by decide +kernel
theorem d_D_uses_51 : decode M_D_uses.2.1 51 = .ok (.getfield 19, 3) := by decide +kernel
theorem d_D_uses_54 : decode M_D_uses.2.1 54 = .ok (.iload_n 1, 1) := by decide +kernel
theorem d_D_uses_55 : decode M_D_uses.2.1 55 = .ok (.iaload, 1) := by decide +kernel
theorem d_D_uses_56 : decode M_D_uses.2.1 56 = .ok (.if_icmp .ge 27, 3) := by decide +kernel
theorem d_D_uses_59 : decode M_D_uses.2.1 59 = .ok (.aload_n 0, 1) := by decide +kernel
theorem d_D_uses_60 : decode M_D_uses.2.1 60 = .ok (.getfield 60, 3) := by decide +kernel
theorem d_D_uses_63 : decode M_D_uses.2.1 63 = .ok (.iload_n 2, 1) := by decide +kernel
theorem d_D_uses_64 : decode M_D_uses.2.1 64 = .ok (.aload_n 0, 1) := by decide +kernel
theorem d_D_uses_65 : decode M_D_uses.2.1 65 = .ok (.getfield 23, 3) := by decide +kernel
theorem d_D_uses_68 : decode M_D_uses.2.1 68 = .ok (.sipush 400, 3) := by decide +kernel
theorem d_D_uses_71 : decode M_D_uses.2.1 71 = .ok (.iload_n 1, 1) := by decide +kernel
theorem d_D_uses_72 : decode M_D_uses.2.1 72 = .ok (.imul, 1) := by decide +kernel
theorem d_D_uses_73 : decode M_D_uses.2.1 73 = .ok (.iload_n 2, 1) := by decide +kernel
theorem d_D_uses_74 : decode M_D_uses.2.1 74 = .ok (.iadd, 1) := by decide +kernel
theorem d_D_uses_75 : decode M_D_uses.2.1 75 = .ok (.iaload, 1) := by decide +kernel
theorem d_D_uses_76 : decode M_D_uses.2.1 76 = .ok (.iastore, 1) := by decide +kernel
theorem d_D_uses_77 : decode M_D_uses.2.1 77 = .ok (.iinc 2 1, 3) := by decide +kernel
theorem d_D_uses_80 : decode M_D_uses.2.1 80 = .ok (.goto (-31), 3) := by decide +kernel
theorem d_D_uses_83 : decode M_D_uses.2.1 83 = .ok (.aload_n 0, 1) := by decide +kernel
theorem d_D_uses_84 : decode M_D_uses.2.1 84 = .ok (.aload_n 0, 1) := by decide +kernel
theorem d_D_uses_85 : decode M_D_uses.2.1 85 = .ok (.aload_n 0, 1) := by decide +kernel
theorem d_D_uses_86 : decode M_D_uses.2.1 86 = .ok (.getfield 60, 3) := by decide +kernel
theorem d_D_uses_89 : decode M_D_uses.2.1 89 = .ok (.aload_n 0, 1) := by decide +kernel
theorem d_D_uses_90 : decode M_D_uses.2.1 90 = .ok (.getfield 19, 3) := by decide +kernel
theorem d_D_uses_93 : decode M_D_uses.2.1 93 = .ok (.iload_n 1, 1) := by decide +kernel
theorem d_D_uses_94 : decode M_D_uses.2.1 94 = .ok (.iaload, 1) := by decide +kernel
theorem d_D_uses_95 : decode M_D_uses.2.1 95 = .ok (.invokevirtual 141, 3) := by decide +kernel
theorem d_D_uses_98 : decode M_D_uses.2.1 98 = .ok (.putfield 157, 3) := by decide +kernel
theorem d_D_uses_101 : decode M_D_uses.2.1 101 = .ok (.aload_n 0, 1) := by decide +kernel
theorem d_D_uses_102 : decode M_D_uses.2.1 102 = .ok (.aload_n 0, 1) := by decide +kernel
theorem d_D_uses_103 : decode M_D_uses.2.1 103 = .ok (.getfield 60, 3) := by decide +kernel
theorem d_D_uses_106 : decode M_D_uses.2.1 106 = .ok (.iconst 0, 1) := by decide +kernel
theorem d_D_uses_107 : decode M_D_uses.2.1 107 = .ok (.aload_n 0, 1) := by decide +kernel
theorem d_D_uses_108 : decode M_D_uses.2.1 108 = .ok (.getfield 157, 3) := by decide +kernel
theorem d_D_uses_111 : decode M_D_uses.2.1 111 = .ok (.invokevirtual 133, 3) := by decide +kernel
theorem d_D_uses_114 : decode M_D_uses.2.1 114 = .ok (.iconst 0, 1) := by decide +kernel
theorem d_D_uses_115 : decode M_D_uses.2.1 115 = .ok (.istore_n 2, 1) := by decide +kernel
theorem d_D_uses_116 : decode M_D_uses.2.1 116 = .ok (.iconst 0, 1) := by decide +kernel
theorem d_D_uses_117 : decode M_D_uses.2.1 117 = .ok (.istore_n 3, 1) := by decide +kernel
theorem d_D_uses_118 : decode M_D_uses.2.1 118 = .ok (.iload_n 3, 1) := by decide +kernel
theorem d_D_uses_119 : decode M_D_uses.2.1 119 = .ok (.aload_n 0, 1) := by decide +kernel
theorem d_D_uses_120 : decode M_D_uses.2.1 120 = .ok (.getfield 157, 3) := by decide +kernel
theorem d_D_uses_123 : decode M_D_uses.2.1 123 = .ok (.if_icmp .ge 50, 3) := by decide +kernel
theorem d_D_uses_126 : decode M_D_uses.2.1 126 = .ok (.aload_n 0, 1) := by decide +kernel
theorem d_D_uses_127 : decode M_D_uses.2.1 127 = .ok (.getfield 60, 3) := by decide +kernel
theorem d_D_uses_130 : decode M_D_uses.2.1 130 = .ok (.iload_n 3, 1) := by decide +kernel
theorem d_D_uses_131 : decode M_D_uses.2.1 131 = .ok (.iaload, 1) := by decide +kernel
theorem d_D_uses_132 : decode M_D_uses.2.1 132 = .ok (.iconst 2, 1) := by decide +kernel
theorem d_D_uses_133 : decode M_D_uses.2.1 133 = .ok (.ishr, 1) := by decide +kernel
theorem d_D_uses_134 : decode M_D_uses.2.1 134 = .ok (.aload_n 0, 1) := by decide +kernel
theorem d_D_uses_135 : decode M_D_uses.2.1 135 = .ok (.getfield 66, 3) := by decide +kernel
theorem d_D_uses_138 : decode M_D_uses.2.1 138 = .ok (.iload_n 3, 1) := by decide +kernel
theorem d_D_uses_139 : decode M_D_uses.2.1 139 = .ok (.iaload, 1) := by decide +kernel
theorem d_D_uses_140 : decode M_D_uses.2.1 140 = .ok (.isub, 1) := by decide +kernel
theorem d_D_uses_141 : decode M_D_uses.2.1 141 = .ok (.istore 4, 2) := by decide +kernel
theorem d_D_uses_143 : decode M_D_uses.2.1 143 = .ok (.aload_n 0, 1) := by decide +kernel
theorem d_D_uses_144 : decode M_D_uses.2.1 144 = .ok (.getfield 60, 3) := by decide +kernel
theorem d_D_uses_147 : decode M_D_uses.2.1 147 = .ok (.iload_n 3, 1) := by decide +kernel
theorem d_D_uses_148 : decode M_D_uses.2.1 148 = .ok (.iaload, 1) := by decide +kernel
theorem d_D_uses_149 : decode M_D_uses.2.1 149 = .ok (.invokestatic 129, 3) := by decide +kernel
theorem d_D_uses_152 : decode M_D_uses.2.1 152 = .ok (.ifCond .ne 15, 3) := by decide +kernel
theorem d_D_uses_155 : decode M_D_uses.2.1 155 = .ok (.iload 4, 2) := by decide +kernel
theorem d_D_uses_157 : decode M_D_uses.2.1 157 = .ok (.ifCond .lt 10, 3) := by decide +kernel
theorem d_D_uses_160 : decode M_D_uses.2.1 160 = .ok (.iload_n 2, 1) := by decide +kernel
theorem d_D_uses_161 : decode M_D_uses.2.1 161 = .ok (.iconst 1, 1) := by decide +kernel
theorem d_D_uses_162 : decode M_D_uses.2.1 162 = .ok (.iload 4, 2) := by decide +kernel
theorem d_D_uses_164 : decode M_D_uses.2.1 164 = .ok (.ishl, 1) := by decide +kernel
theorem d_D_uses_165 : decode M_D_uses.2.1 165 = .ok (.ior, 1) := by decide +kernel
theorem d_D_uses_166 : decode M_D_uses.2.1 166 = .ok (.istore_n 2, 1) := by decide +kernel
theorem d_D_uses_167 : decode M_D_uses.2.1 167 = .ok (.iinc 3 1, 3) := by decide +kernel
theorem d_D_uses_170 : decode M_D_uses.2.1 170 = .ok (.goto (-52), 3) := by decide +kernel
theorem d_D_uses_173 : decode M_D_uses.2.1 173 = .ok (.iload_n 2, 1) := by decide +kernel
theorem d_D_uses_174 : decode M_D_uses.2.1 174 = .ok (.ireturn, 1) := by decide +kernel
theorem d_D_empty_0 : decode M_D_empty.2.1 0 = .ok (.aload_n 0, 1) := by decide +kernel
theorem d_D_empty_1 : decode M_D_empty.2.1 1 = .ok (.iconst 0, 1) := by decide +kernel
theorem d_D_empty_2 : decode M_D_empty.2.1 2 = .ok (.putfield 100, 3) := by decide +kernel
theorem d_D_empty_5 : decode M_D_empty.2.1 5 = .ok (.iconst 0, 1) := by decide +kernel
theorem d_D_empty_6 : decode M_D_empty.2.1 6 = .ok (.istore_n 1, 1) := by decide +kernel
theorem d_D_empty_7 : decode M_D_empty.2.1 7 = .ok (.iconst 0, 1) := by decide +kernel
theorem d_D_empty_8 : decode M_D_empty.2.1 8 = .ok (.istore_n 2, 1) := by decide +kernel
theorem d_D_empty_9 : decode M_D_empty.2.1 9 = .ok (.iload_n 2, 1) := by decide +kernel
theorem d_D_empty_10 : decode M_D_empty.2.1 10 = .ok (.aload_n 0, 1) := by decide +kernel
theorem d_D_empty_11 : decode M_D_empty.2.1 11 = .ok (.getfield 111, 3) := by decide +kernel
theorem d_D_empty_14 : decode M_D_empty.2.1 14 = .ok (.if_icmp .ge 26, 3) := by decide +kernel
theorem d_D_empty_17 : decode M_D_empty.2.1 17 = .ok (.iload_n 1, 1) := by decide +kernel
theorem d_D_empty_18 : decode M_D_empty.2.1 18 = .ok (.aload_n 0, 1) := by decide +kernel
theorem d_D_empty_19 : decode M_D_empty.2.1 19 = .ok (.getfield 26, 3) := by decide +kernel
theorem d_D_empty_22 : decode M_D_empty.2.1 22 = .ok (.iload_n 2, 1) := by decide +kernel
theorem d_D_empty_23 : decode M_D_empty.2.1 23 = .ok (.baload, 1) := by decide +kernel
theorem d_D_empty_24 : decode M_D_empty.2.1 24 = .ok (.ifCond .eq 7, 3) := by decide +kernel
theorem d_D_empty_27 : decode M_D_empty.2.1 27 = .ok (.iconst 1, 1) := by decide +kernel
theorem d_D_empty_28 : decode M_D_empty.2.1 28 = .ok (.goto 4, 3) := by decide +kernel
theorem d_D_empty_31 : decode M_D_empty.2.1 31 = .ok (.iconst 0, 1) := by decide +kernel
theorem d_D_empty_32 : decode M_D_empty.2.1 32 = .ok (.iadd, 1) := by decide +kernel
theorem d_D_empty_33 : decode M_D_empty.2.1 33 = .ok (.istore_n 1, 1) := by decide +kernel
theorem d_D_empty_34 : decode M_D_empty.2.1 34 = .ok (.iinc 2 1, 3) := by decide +kernel
theorem d_D_empty_37 : decode M_D_empty.2.1 37 = .ok (.goto (-28), 3) := by decide +kernel
theorem d_D_empty_40 : decode M_D_empty.2.1 40 = .ok (.iconst 0, 1) := by decide +kernel
theorem d_D_empty_41 : decode M_D_empty.2.1 41 = .ok (.istore_n 2, 1) := by decide +kernel
theorem d_D_empty_42 : decode M_D_empty.2.1 42 = .ok (.iload_n 2, 1) := by decide +kernel
theorem d_D_empty_43 : decode M_D_empty.2.1 43 = .ok (.sipush 324, 3) := by decide +kernel
theorem d_D_empty_46 : decode M_D_empty.2.1 46 = .ok (.if_icmp .ge 16, 3) := by decide +kernel
theorem d_D_empty_49 : decode M_D_empty.2.1 49 = .ok (.aload_n 0, 1) := by decide +kernel
theorem d_D_empty_50 : decode M_D_empty.2.1 50 = .ok (.getfield 26, 3) := by decide +kernel
theorem d_D_empty_53 : decode M_D_empty.2.1 53 = .ok (.iload_n 2, 1) := by decide +kernel
theorem d_D_empty_54 : decode M_D_empty.2.1 54 = .ok (.iconst 0, 1) := by decide +kernel
theorem d_D_empty_55 : decode M_D_empty.2.1 55 = .ok (.bastore, 1) := by decide +kernel
theorem d_D_empty_56 : decode M_D_empty.2.1 56 = .ok (.iinc 2 1, 3) := by decide +kernel
theorem d_D_empty_59 : decode M_D_empty.2.1 59 = .ok (.goto (-17), 3) := by decide +kernel
theorem d_D_empty_62 : decode M_D_empty.2.1 62 = .ok (.aload_n 0, 1) := by decide +kernel
theorem d_D_empty_63 : decode M_D_empty.2.1 63 = .ok (.iconst 0, 1) := by decide +kernel
theorem d_D_empty_64 : decode M_D_empty.2.1 64 = .ok (.putfield 144, 3) := by decide +kernel
theorem d_D_empty_67 : decode M_D_empty.2.1 67 = .ok (.iload_n 1, 1) := by decide +kernel
theorem d_D_empty_68 : decode M_D_empty.2.1 68 = .ok (.ireturn, 1) := by decide +kernel
theorem d_D_count_0 : decode M_D_count.2.1 0 = .ok (.aload_n 0, 1) := by decide +kernel
theorem d_D_count_1 : decode M_D_count.2.1 1 = .ok (.iconst 0, 1) := by decide +kernel
theorem d_D_count_2 : decode M_D_count.2.1 2 = .ok (.putfield 100, 3) := by decide +kernel
theorem d_D_count_5 : decode M_D_count.2.1 5 = .ok (.iconst 0, 1) := by decide +kernel
theorem d_D_count_6 : decode M_D_count.2.1 6 = .ok (.istore_n 2, 1) := by decide +kernel
theorem d_D_count_7 : decode M_D_count.2.1 7 = .ok (.iload_n 1, 1) := by decide +kernel
theorem d_D_count_8 : decode M_D_count.2.1 8 = .ok (.tableswitch 121 0 7 #[48, 53, 58, 63, 101, 106, 111, 116], 48) := by decide +kernel
theorem d_D_count_56 : decode M_D_count.2.1 56 = .ok (.aload_n 0, 1) := by decide +kernel
theorem d_D_count_57 : decode M_D_count.2.1 57 = .ok (.getfield 108, 3) := by decide +kernel
theorem d_D_count_60 : decode M_D_count.2.1 60 = .ok (.ireturn, 1) := by decide +kernel
theorem d_D_count_61 : decode M_D_count.2.1 61 = .ok (.aload_n 0, 1) := by decide +kernel
theorem d_D_count_62 : decode M_D_count.2.1 62 = .ok (.getfield 111, 3) := by decide +kernel
theorem d_D_count_65 : decode M_D_count.2.1 65 = .ok (.ireturn, 1) := by decide +kernel
theorem d_D_count_66 : decode M_D_count.2.1 66 = .ok (.aload_n 0, 1) := by decide +kernel
theorem d_D_count_67 : decode M_D_count.2.1 67 = .ok (.getfield 144, 3) := by decide +kernel
theorem d_D_count_70 : decode M_D_count.2.1 70 = .ok (.ireturn, 1) := by decide +kernel
theorem d_D_count_71 : decode M_D_count.2.1 71 = .ok (.iconst 0, 1) := by decide +kernel
theorem d_D_count_72 : decode M_D_count.2.1 72 = .ok (.istore_n 3, 1) := by decide +kernel
theorem d_D_count_73 : decode M_D_count.2.1 73 = .ok (.iload_n 3, 1) := by decide +kernel
theorem d_D_count_74 : decode M_D_count.2.1 74 = .ok (.bipush 24, 2) := by decide +kernel
theorem d_D_count_76 : decode M_D_count.2.1 76 = .ok (.aload_n 0, 1) := by decide +kernel
theorem d_D_count_77 : decode M_D_count.2.1 77 = .ok (.getfield 144, 3) := by decide +kernel
theorem d_D_count_80 : decode M_D_count.2.1 80 = .ok (.iadd, 1) := by decide +kernel
theorem d_D_count_81 : decode M_D_count.2.1 81 = .ok (.if_icmp .ge 26, 3) := by decide +kernel
theorem d_D_count_84 : decode M_D_count.2.1 84 = .ok (.iload_n 2, 1) := by decide +kernel
theorem d_D_count_85 : decode M_D_count.2.1 85 = .ok (.aload_n 0, 1) := by decide +kernel
theorem d_D_count_86 : decode M_D_count.2.1 86 = .ok (.getfield 26, 3) := by decide +kernel
theorem d_D_count_89 : decode M_D_count.2.1 89 = .ok (.iload_n 3, 1) := by decide +kernel
theorem d_D_count_90 : decode M_D_count.2.1 90 = .ok (.baload, 1) := by decide +kernel
theorem d_D_count_91 : decode M_D_count.2.1 91 = .ok (.ifCond .eq 7, 3) := by decide +kernel
theorem d_D_count_94 : decode M_D_count.2.1 94 = .ok (.iconst 1, 1) := by decide +kernel
theorem d_D_count_95 : decode M_D_count.2.1 95 = .ok (.goto 4, 3) := by decide +kernel
theorem d_D_count_98 : decode M_D_count.2.1 98 = .ok (.iconst 0, 1) := by decide +kernel
theorem d_D_count_99 : decode M_D_count.2.1 99 = .ok (.iadd, 1) := by decide +kernel
theorem d_D_count_100 : decode M_D_count.2.1 100 = .ok (.istore_n 2, 1) := by decide +kernel
theorem d_D_count_101 : decode M_D_count.2.1 101 = .ok (.iinc 3 1, 3) := by decide +kernel
theorem d_D_count_104 : decode M_D_count.2.1 104 = .ok (.goto (-31), 3) := by decide +kernel
theorem d_D_count_107 : decode M_D_count.2.1 107 = .ok (.iload_n 2, 1) := by decide +kernel
theorem d_D_count_108 : decode M_D_count.2.1 108 = .ok (.ireturn, 1) := by decide +kernel
theorem d_D_count_109 : decode M_D_count.2.1 109 = .ok (.aload_n 0, 1) := by decide +kernel
theorem d_D_count_110 : decode M_D_count.2.1 110 = .ok (.getfield 224, 3) := by decide +kernel
theorem d_D_count_113 : decode M_D_count.2.1 113 = .ok (.ireturn, 1) := by decide +kernel
theorem d_D_count_114 : decode M_D_count.2.1 114 = .ok (.aload_n 0, 1) := by decide +kernel
theorem d_D_count_115 : decode M_D_count.2.1 115 = .ok (.getfield 221, 3) := by decide +kernel
theorem d_D_count_118 : decode M_D_count.2.1 118 = .ok (.ireturn, 1) := by decide +kernel
theorem d_D_count_119 : decode M_D_count.2.1 119 = .ok (.aload_n 0, 1) := by decide +kernel
theorem d_D_count_120 : decode M_D_count.2.1 120 = .ok (.getfield 215, 3) := by decide +kernel
theorem d_D_count_123 : decode M_D_count.2.1 123 = .ok (.ireturn, 1) := by decide +kernel
theorem d_D_count_124 : decode M_D_count.2.1 124 = .ok (.aload_n 0, 1) := by decide +kernel
theorem d_D_count_125 : decode M_D_count.2.1 125 = .ok (.getfield 218, 3) := by decide +kernel
theorem d_D_count_128 : decode M_D_count.2.1 128 = .ok (.ireturn, 1) := by decide +kernel
theorem d_D_count_129 : decode M_D_count.2.1 129 = .ok (.iconst (-1), 1) := by decide +kernel
theorem d_D_count_130 : decode M_D_count.2.1 130 = .ok (.ireturn, 1) := by decide +kernel
