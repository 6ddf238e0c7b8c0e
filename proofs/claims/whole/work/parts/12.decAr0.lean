theorem d_Ar_copyOf_0 : decode M_Ar_copyOf.2.1 0 = .ok (.iload_n 1, 1) := by decide +kernel
theorem d_Ar_copyOf_1 : decode M_Ar_copyOf.2.1 1 = .ok (.aload_n 0, 1) := by decide +kernel
theorem d_Ar_copyOf_2 : decode M_Ar_copyOf.2.1 2 = .ok (.arraylength, 1) := by decide +kernel
theorem d_Ar_copyOf_3 : decode M_Ar_copyOf.2.1 3 = .ok (.if_icmp .ne 11, 3) := by decide +kernel
theorem d_Ar_copyOf_6 : decode M_Ar_copyOf.2.1 6 = .ok (.aload_n 0, 1) := by decide +kernel
theorem d_Ar_copyOf_7 : decode M_Ar_copyOf.2.1 7 = .ok (.invokevirtual 316, 3) := by decide +kernel
theorem d_Ar_copyOf_10 : decode M_Ar_copyOf.2.1 10 = .ok (.checkcast 317, 3) := by decide +kernel
theorem d_Ar_copyOf_13 : decode M_Ar_copyOf.2.1 13 = .ok (.areturn, 1) := by decide +kernel
theorem d_Ar_copyOf_14 : decode M_Ar_copyOf.2.1 14 = .ok (.iload_n 1, 1) := by decide +kernel
theorem d_Ar_copyOf_15 : decode M_Ar_copyOf.2.1 15 = .ok (.newarray .int, 2) := by decide +kernel
theorem d_Ar_copyOf_17 : decode M_Ar_copyOf.2.1 17 = .ok (.astore_n 2, 1) := by decide +kernel
theorem d_Ar_copyOf_18 : decode M_Ar_copyOf.2.1 18 = .ok (.aload_n 0, 1) := by decide +kernel
theorem d_Ar_copyOf_19 : decode M_Ar_copyOf.2.1 19 = .ok (.iconst 0, 1) := by decide +kernel
theorem d_Ar_copyOf_20 : decode M_Ar_copyOf.2.1 20 = .ok (.aload_n 2, 1) := by decide +kernel
theorem d_Ar_copyOf_21 : decode M_Ar_copyOf.2.1 21 = .ok (.iconst 0, 1) := by decide +kernel
theorem d_Ar_copyOf_22 : decode M_Ar_copyOf.2.1 22 = .ok (.aload_n 0, 1) := by decide +kernel
theorem d_Ar_copyOf_23 : decode M_Ar_copyOf.2.1 23 = .ok (.arraylength, 1) := by decide +kernel
theorem d_Ar_copyOf_24 : decode M_Ar_copyOf.2.1 24 = .ok (.iload_n 1, 1) := by decide +kernel
theorem d_Ar_copyOf_25 : decode M_Ar_copyOf.2.1 25 = .ok (.invokestatic 304, 3) := by decide +kernel
theorem d_Ar_copyOf_28 : decode M_Ar_copyOf.2.1 28 = .ok (.invokestatic 150, 3) := by decide +kernel
theorem d_Ar_copyOf_31 : decode M_Ar_copyOf.2.1 31 = .ok (.aload_n 2, 1) := by decide +kernel
theorem d_Ar_copyOf_32 : decode M_Ar_copyOf.2.1 32 = .ok (.areturn, 1) := by decide +kernel
theorem d_Ar_fill_0 : decode M_Ar_fill.2.1 0 = .ok (.iconst 0, 1) := by decide +kernel
theorem d_Ar_fill_1 : decode M_Ar_fill.2.1 1 = .ok (.istore_n 2, 1) := by decide +kernel
theorem d_Ar_fill_2 : decode M_Ar_fill.2.1 2 = .ok (.aload_n 0, 1) := by decide +kernel
theorem d_Ar_fill_3 : decode M_Ar_fill.2.1 3 = .ok (.arraylength, 1) := by decide +kernel
theorem d_Ar_fill_4 : decode M_Ar_fill.2.1 4 = .ok (.istore_n 3, 1) := by decide +kernel
theorem d_Ar_fill_5 : decode M_Ar_fill.2.1 5 = .ok (.iload_n 2, 1) := by decide +kernel
theorem d_Ar_fill_6 : decode M_Ar_fill.2.1 6 = .ok (.iload_n 3, 1) := by decide +kernel
theorem d_Ar_fill_7 : decode M_Ar_fill.2.1 7 = .ok (.if_icmp .ge 13, 3) := by decide +kernel
theorem d_Ar_fill_10 : decode M_Ar_fill.2.1 10 = .ok (.aload_n 0, 1) := by decide +kernel
theorem d_Ar_fill_11 : decode M_Ar_fill.2.1 11 = .ok (.iload_n 2, 1) := by decide +kernel
theorem d_Ar_fill_12 : decode M_Ar_fill.2.1 12 = .ok (.iload_n 1, 1) := by decide +kernel
theorem d_Ar_fill_13 : decode M_Ar_fill.2.1 13 = .ok (.iastore, 1) := by decide +kernel
theorem d_Ar_fill_14 : decode M_Ar_fill.2.1 14 = .ok (.iinc 2 1, 3) := by decide +kernel
theorem d_Ar_fill_17 : decode M_Ar_fill.2.1 17 = .ok (.goto (-12), 3) := by decide +kernel
theorem d_Ar_fill_20 : decode M_Ar_fill.2.1 20 = .ok (.return_, 1) := by decide +kernel
