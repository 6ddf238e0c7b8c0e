theorem d_G_init_0 : decode M_G_init.2.1 0 = .ok (.aload_n 0, 1) := by decide +kernel
theorem d_G_init_1 : decode M_G_init.2.1 1 = .ok (.invokespecial 3, 3) := by decide +kernel
theorem d_G_init_4 : decode M_G_init.2.1 4 = .ok (.aload_n 0, 1) := by decide +kernel
theorem d_G_init_5 : decode M_G_init.2.1 5 = .ok (.sipush 324, 3) := by decide +kernel
theorem d_G_init_8 : decode M_G_init.2.1 8 = .ok (.newarray .int, 2) := by decide +kernel
theorem d_G_init_10 : decode M_G_init.2.1 10 = .ok (.putfield 9, 3) := by decide +kernel
theorem d_G_init_13 : decode M_G_init.2.1 13 = .ok (.aload_n 0, 1) := by decide +kernel
theorem d_G_init_14 : decode M_G_init.2.1 14 = .ok (.sipush 324, 3) := by decide +kernel
theorem d_G_init_17 : decode M_G_init.2.1 17 = .ok (.newarray .int, 2) := by decide +kernel
theorem d_G_init_19 : decode M_G_init.2.1 19 = .ok (.putfield 15, 3) := by decide +kernel
theorem d_G_init_22 : decode M_G_init.2.1 22 = .ok (.aload_n 0, 1) := by decide +kernel
theorem d_G_init_23 : decode M_G_init.2.1 23 = .ok (.sipush 324, 3) := by decide +kernel
theorem d_G_init_26 : decode M_G_init.2.1 26 = .ok (.newarray .int, 2) := by decide +kernel
theorem d_G_init_28 : decode M_G_init.2.1 28 = .ok (.putfield 18, 3) := by decide +kernel
theorem d_G_init_31 : decode M_G_init.2.1 31 = .ok (.aload_n 0, 1) := by decide +kernel
theorem d_G_init_32 : decode M_G_init.2.1 32 = .ok (.sipush 324, 3) := by decide +kernel
theorem d_G_init_35 : decode M_G_init.2.1 35 = .ok (.newarray .int, 2) := by decide +kernel
theorem d_G_init_37 : decode M_G_init.2.1 37 = .ok (.putfield 21, 3) := by decide +kernel
theorem d_G_init_40 : decode M_G_init.2.1 40 = .ok (.aload_n 0, 1) := by decide +kernel
theorem d_G_init_41 : decode M_G_init.2.1 41 = .ok (.sipush 324, 3) := by decide +kernel
theorem d_G_init_44 : decode M_G_init.2.1 44 = .ok (.newarray .int, 2) := by decide +kernel
theorem d_G_init_46 : decode M_G_init.2.1 46 = .ok (.putfield 24, 3) := by decide +kernel
theorem d_G_init_49 : decode M_G_init.2.1 49 = .ok (.aload_n 0, 1) := by decide +kernel
theorem d_G_init_50 : decode M_G_init.2.1 50 = .ok (.aload_n 1, 1) := by decide +kernel
theorem d_G_init_51 : decode M_G_init.2.1 51 = .ok (.putfield 27, 3) := by decide +kernel
theorem d_G_init_54 : decode M_G_init.2.1 54 = .ok (.return_, 1) := by decide +kernel
theorem d_G_isOpen_0 : decode M_G_isOpen.2.1 0 = .ok (.aload_n 0, 1) := by decide +kernel
theorem d_G_isOpen_1 : decode M_G_isOpen.2.1 1 = .ok (.getfield 15, 3) := by decide +kernel
theorem d_G_isOpen_4 : decode M_G_isOpen.2.1 4 = .ok (.iload_n 1, 1) := by decide +kernel
theorem d_G_isOpen_5 : decode M_G_isOpen.2.1 5 = .ok (.invokestatic 42, 3) := by decide +kernel
theorem d_G_isOpen_8 : decode M_G_isOpen.2.1 8 = .ok (.ifCond .ne 7, 3) := by decide +kernel
theorem d_G_isOpen_11 : decode M_G_isOpen.2.1 11 = .ok (.iconst 1, 1) := by decide +kernel
theorem d_G_isOpen_12 : decode M_G_isOpen.2.1 12 = .ok (.goto 4, 3) := by decide +kernel
theorem d_G_isOpen_15 : decode M_G_isOpen.2.1 15 = .ok (.iconst 0, 1) := by decide +kernel
theorem d_G_isOpen_16 : decode M_G_isOpen.2.1 16 = .ok (.ireturn, 1) := by decide +kernel
theorem d_G_undoTo_0 : decode M_G_undoTo.2.1 0 = .ok (.aload_n 0, 1) := by decide +kernel
theorem d_G_undoTo_1 : decode M_G_undoTo.2.1 1 = .ok (.getfield 66, 3) := by decide +kernel
theorem d_G_undoTo_4 : decode M_G_undoTo.2.1 4 = .ok (.iconst 1, 1) := by decide +kernel
theorem d_G_undoTo_5 : decode M_G_undoTo.2.1 5 = .ok (.isub, 1) := by decide +kernel
theorem d_G_undoTo_6 : decode M_G_undoTo.2.1 6 = .ok (.istore_n 3, 1) := by decide +kernel
theorem d_G_undoTo_7 : decode M_G_undoTo.2.1 7 = .ok (.iload_n 3, 1) := by decide +kernel
theorem d_G_undoTo_8 : decode M_G_undoTo.2.1 8 = .ok (.iload_n 1, 1) := by decide +kernel
theorem d_G_undoTo_9 : decode M_G_undoTo.2.1 9 = .ok (.if_icmp .lt 45, 3) := by decide +kernel
theorem d_G_undoTo_12 : decode M_G_undoTo.2.1 12 = .ok (.aload_n 0, 1) := by decide +kernel
theorem d_G_undoTo_13 : decode M_G_undoTo.2.1 13 = .ok (.getfield 24, 3) := by decide +kernel
theorem d_G_undoTo_16 : decode M_G_undoTo.2.1 16 = .ok (.iload_n 3, 1) := by decide +kernel
theorem d_G_undoTo_17 : decode M_G_undoTo.2.1 17 = .ok (.invokestatic 42, 3) := by decide +kernel
theorem d_G_undoTo_20 : decode M_G_undoTo.2.1 20 = .ok (.istore 4, 2) := by decide +kernel
theorem d_G_undoTo_22 : decode M_G_undoTo.2.1 22 = .ok (.aload_n 0, 1) := by decide +kernel
theorem d_G_undoTo_23 : decode M_G_undoTo.2.1 23 = .ok (.getfield 27, 3) := by decide +kernel
theorem d_G_undoTo_26 : decode M_G_undoTo.2.1 26 = .ok (.aload_n 0, 1) := by decide +kernel
theorem d_G_undoTo_27 : decode M_G_undoTo.2.1 27 = .ok (.getfield 15, 3) := by decide +kernel
theorem d_G_undoTo_30 : decode M_G_undoTo.2.1 30 = .ok (.iload 4, 2) := by decide +kernel
theorem d_G_undoTo_32 : decode M_G_undoTo.2.1 32 = .ok (.invokestatic 42, 3) := by decide +kernel
theorem d_G_undoTo_35 : decode M_G_undoTo.2.1 35 = .ok (.putfield 46, 3) := by decide +kernel
theorem d_G_undoTo_38 : decode M_G_undoTo.2.1 38 = .ok (.aload_n 0, 1) := by decide +kernel
theorem d_G_undoTo_39 : decode M_G_undoTo.2.1 39 = .ok (.getfield 15, 3) := by decide +kernel
theorem d_G_undoTo_42 : decode M_G_undoTo.2.1 42 = .ok (.iload 4, 2) := by decide +kernel
theorem d_G_undoTo_44 : decode M_G_undoTo.2.1 44 = .ok (.iconst 0, 1) := by decide +kernel
theorem d_G_undoTo_45 : decode M_G_undoTo.2.1 45 = .ok (.invokestatic 35, 3) := by decide +kernel
theorem d_G_undoTo_48 : decode M_G_undoTo.2.1 48 = .ok (.iinc 3 (-1), 3) := by decide +kernel
theorem d_G_undoTo_51 : decode M_G_undoTo.2.1 51 = .ok (.goto (-44), 3) := by decide +kernel
theorem d_G_undoTo_54 : decode M_G_undoTo.2.1 54 = .ok (.aload_n 0, 1) := by decide +kernel
theorem d_G_undoTo_55 : decode M_G_undoTo.2.1 55 = .ok (.iload_n 1, 1) := by decide +kernel
theorem d_G_undoTo_56 : decode M_G_undoTo.2.1 56 = .ok (.putfield 66, 3) := by decide +kernel
theorem d_G_undoTo_59 : decode M_G_undoTo.2.1 59 = .ok (.aload_n 0, 1) := by decide +kernel
theorem d_G_undoTo_60 : decode M_G_undoTo.2.1 60 = .ok (.iload_n 2, 1) := by decide +kernel
theorem d_G_undoTo_61 : decode M_G_undoTo.2.1 61 = .ok (.putfield 39, 3) := by decide +kernel
theorem d_G_undoTo_64 : decode M_G_undoTo.2.1 64 = .ok (.return_, 1) := by decide +kernel
theorem d_G_tell_0 : decode M_G_tell.2.1 0 = .ok (.aload_n 0, 1) := by decide +kernel
theorem d_G_tell_1 : decode M_G_tell.2.1 1 = .ok (.getfield 31, 3) := by decide +kernel
theorem d_G_tell_4 : decode M_G_tell.2.1 4 = .ok (.bipush 24, 2) := by decide +kernel
theorem d_G_tell_6 : decode M_G_tell.2.1 6 = .ok (.if_icmp .lt 5, 3) := by decide +kernel
theorem d_G_tell_9 : decode M_G_tell.2.1 9 = .ok (.iconst (-1), 1) := by decide +kernel
theorem d_G_tell_10 : decode M_G_tell.2.1 10 = .ok (.ireturn, 1) := by decide +kernel
theorem d_G_tell_11 : decode M_G_tell.2.1 11 = .ok (.aload_n 0, 1) := by decide +kernel
theorem d_G_tell_12 : decode M_G_tell.2.1 12 = .ok (.getfield 9, 3) := by decide +kernel
theorem d_G_tell_15 : decode M_G_tell.2.1 15 = .ok (.aload_n 0, 1) := by decide +kernel
theorem d_G_tell_16 : decode M_G_tell.2.1 16 = .ok (.getfield 31, 3) := by decide +kernel
theorem d_G_tell_19 : decode M_G_tell.2.1 19 = .ok (.iload_n 1, 1) := by decide +kernel
theorem d_G_tell_20 : decode M_G_tell.2.1 20 = .ok (.invokestatic 35, 3) := by decide +kernel
theorem d_G_tell_23 : decode M_G_tell.2.1 23 = .ok (.aload_n 0, 1) := by decide +kernel
theorem d_G_tell_24 : decode M_G_tell.2.1 24 = .ok (.dup, 1) := by decide +kernel
theorem d_G_tell_25 : decode M_G_tell.2.1 25 = .ok (.getfield 31, 3) := by decide +kernel
theorem d_G_tell_28 : decode M_G_tell.2.1 28 = .ok (.iconst 1, 1) := by decide +kernel
theorem d_G_tell_29 : decode M_G_tell.2.1 29 = .ok (.iadd, 1) := by decide +kernel
theorem d_G_tell_30 : decode M_G_tell.2.1 30 = .ok (.putfield 31, 3) := by decide +kernel
theorem d_G_tell_33 : decode M_G_tell.2.1 33 = .ok (.aload_n 0, 1) := by decide +kernel
theorem d_G_tell_34 : decode M_G_tell.2.1 34 = .ok (.getfield 31, 3) := by decide +kernel
theorem d_G_tell_37 : decode M_G_tell.2.1 37 = .ok (.iconst 1, 1) := by decide +kernel
theorem d_G_tell_38 : decode M_G_tell.2.1 38 = .ok (.isub, 1) := by decide +kernel
theorem d_G_tell_39 : decode M_G_tell.2.1 39 = .ok (.ireturn, 1) := by decide +kernel
theorem d_G_parametersOf_0 : decode M_G_parametersOf.2.1 0 = .ok (.aload_n 0, 1) := by decide +kernel
theorem d_G_parametersOf_1 : decode M_G_parametersOf.2.1 1 = .ok (.getfield 9, 3) := by decide +kernel
theorem d_G_parametersOf_4 : decode M_G_parametersOf.2.1 4 = .ok (.iload_n 1, 1) := by decide +kernel
theorem d_G_parametersOf_5 : decode M_G_parametersOf.2.1 5 = .ok (.invokestatic 42, 3) := by decide +kernel
theorem d_G_parametersOf_8 : decode M_G_parametersOf.2.1 8 = .ok (.ireturn, 1) := by decide +kernel
theorem d_G_makeNew_0 : decode M_G_makeNew.2.1 0 = .ok (.aload_n 0, 1) := by decide +kernel
theorem d_G_makeNew_1 : decode M_G_makeNew.2.1 1 = .ok (.getfield 31, 3) := by decide +kernel
theorem d_G_makeNew_4 : decode M_G_makeNew.2.1 4 = .ok (.aload_n 0, 1) := by decide +kernel
theorem d_G_makeNew_5 : decode M_G_makeNew.2.1 5 = .ok (.getfield 39, 3) := by decide +kernel
theorem d_G_makeNew_8 : decode M_G_makeNew.2.1 8 = .ok (.iadd, 1) := by decide +kernel
theorem d_G_makeNew_9 : decode M_G_makeNew.2.1 9 = .ok (.sipush 300, 3) := by decide +kernel
theorem d_G_makeNew_12 : decode M_G_makeNew.2.1 12 = .ok (.if_icmp .lt 5, 3) := by decide +kernel
theorem d_G_makeNew_15 : decode M_G_makeNew.2.1 15 = .ok (.iconst (-1), 1) := by decide +kernel
theorem d_G_makeNew_16 : decode M_G_makeNew.2.1 16 = .ok (.ireturn, 1) := by decide +kernel
theorem d_G_makeNew_17 : decode M_G_makeNew.2.1 17 = .ok (.bipush 24, 2) := by decide +kernel
theorem d_G_makeNew_19 : decode M_G_makeNew.2.1 19 = .ok (.aload_n 0, 1) := by decide +kernel
theorem d_G_makeNew_20 : decode M_G_makeNew.2.1 20 = .ok (.getfield 39, 3) := by decide +kernel
theorem d_G_makeNew_23 : decode M_G_makeNew.2.1 23 = .ok (.iadd, 1) := by decide +kernel
theorem d_G_makeNew_24 : decode M_G_makeNew.2.1 24 = .ok (.istore_n 2, 1) := by decide +kernel
theorem d_G_makeNew_25 : decode M_G_makeNew.2.1 25 = .ok (.aload_n 0, 1) := by decide +kernel
theorem d_G_makeNew_26 : decode M_G_makeNew.2.1 26 = .ok (.getfield 9, 3) := by decide +kernel
theorem d_G_makeNew_29 : decode M_G_makeNew.2.1 29 = .ok (.iload_n 2, 1) := by decide +kernel
theorem d_G_makeNew_30 : decode M_G_makeNew.2.1 30 = .ok (.iload_n 1, 1) := by decide +kernel
theorem d_G_makeNew_31 : decode M_G_makeNew.2.1 31 = .ok (.invokestatic 35, 3) := by decide +kernel
theorem d_G_makeNew_34 : decode M_G_makeNew.2.1 34 = .ok (.aload_n 0, 1) := by decide +kernel
theorem d_G_makeNew_35 : decode M_G_makeNew.2.1 35 = .ok (.dup, 1) := by decide +kernel
theorem d_G_makeNew_36 : decode M_G_makeNew.2.1 36 = .ok (.getfield 39, 3) := by decide +kernel
theorem d_G_makeNew_39 : decode M_G_makeNew.2.1 39 = .ok (.iconst 1, 1) := by decide +kernel
theorem d_G_makeNew_40 : decode M_G_makeNew.2.1 40 = .ok (.iadd, 1) := by decide +kernel
theorem d_G_makeNew_41 : decode M_G_makeNew.2.1 41 = .ok (.putfield 39, 3) := by decide +kernel
theorem d_G_makeNew_44 : decode M_G_makeNew.2.1 44 = .ok (.iload_n 2, 1) := by decide +kernel
theorem d_G_makeNew_45 : decode M_G_makeNew.2.1 45 = .ok (.ireturn, 1) := by decide +kernel
theorem d_G_fillWithHole_0 : decode M_G_fillWithHole.2.1 0 = .ok (.iload_n 2, 1) := by decide +kernel
theorem d_G_fillWithHole_1 : decode M_G_fillWithHole.2.1 1 = .ok (.iconst (-1), 1) := by decide +kernel
theorem d_G_fillWithHole_2 : decode M_G_fillWithHole.2.1 2 = .ok (.if_icmp .ne 5, 3) := by decide +kernel
theorem d_G_fillWithHole_5 : decode M_G_fillWithHole.2.1 5 = .ok (.iconst 0, 1) := by decide +kernel
theorem d_G_fillWithHole_6 : decode M_G_fillWithHole.2.1 6 = .ok (.ireturn, 1) := by decide +kernel
theorem d_G_fillWithHole_7 : decode M_G_fillWithHole.2.1 7 = .ok (.aload_n 0, 1) := by decide +kernel
theorem d_G_fillWithHole_8 : decode M_G_fillWithHole.2.1 8 = .ok (.getfield 27, 3) := by decide +kernel
theorem d_G_fillWithHole_11 : decode M_G_fillWithHole.2.1 11 = .ok (.getfield 46, 3) := by decide +kernel
theorem d_G_fillWithHole_14 : decode M_G_fillWithHole.2.1 14 = .ok (.istore 4, 2) := by decide +kernel
theorem d_G_fillWithHole_16 : decode M_G_fillWithHole.2.1 16 = .ok (.aload_n 0, 1) := by decide +kernel
theorem d_G_fillWithHole_17 : decode M_G_fillWithHole.2.1 17 = .ok (.getfield 27, 3) := by decide +kernel
theorem d_G_fillWithHole_20 : decode M_G_fillWithHole.2.1 20 = .ok (.iconst 2, 1) := by decide +kernel
theorem d_G_fillWithHole_21 : decode M_G_fillWithHole.2.1 21 = .ok (.iload_n 2, 1) := by decide +kernel
theorem d_G_fillWithHole_22 : decode M_G_fillWithHole.2.1 22 = .ok (.invokestatic 51, 3) := by decide +kernel
theorem d_G_fillWithHole_25 : decode M_G_fillWithHole.2.1 25 = .ok (.iconst 0, 1) := by decide +kernel
theorem d_G_fillWithHole_26 : decode M_G_fillWithHole.2.1 26 = .ok (.invokevirtual 55, 3) := by decide +kernel
theorem d_G_fillWithHole_29 : decode M_G_fillWithHole.2.1 29 = .ok (.aload_n 0, 1) := by decide +kernel
theorem d_G_fillWithHole_30 : decode M_G_fillWithHole.2.1 30 = .ok (.iload_n 2, 1) := by decide +kernel
theorem d_G_fillWithHole_31 : decode M_G_fillWithHole.2.1 31 = .ok (.invokevirtual 59, 3) := by decide +kernel
theorem d_G_fillWithHole_34 : decode M_G_fillWithHole.2.1 34 = .ok (.istore 5, 2) := by decide +kernel
theorem d_G_fillWithHole_36 : decode M_G_fillWithHole.2.1 36 = .ok (.iconst 0, 1) := by decide +kernel
theorem d_G_fillWithHole_37 : decode M_G_fillWithHole.2.1 37 = .ok (.istore 6, 2) := by decide +kernel
theorem d_G_fillWithHole_39 : decode M_G_fillWithHole.2.1 39 = .ok (.iload 6, 2) := by decide +kernel
theorem d_G_fillWithHole_41 : decode M_G_fillWithHole.2.1 41 = .ok (.iload 5, 2) := by decide +kernel
theorem d_G_fillWithHole_43 : decode M_G_fillWithHole.2.1 43 = .ok (.if_icmp .ge 27, 3) := by decide +kernel
theorem d_G_fillWithHole_46 : decode M_G_fillWithHole.2.1 46 = .ok (.aload_n 0, 1) := by decide +kernel
theorem d_G_fillWithHole_47 : decode M_G_fillWithHole.2.1 47 = .ok (.getfield 27, 3) := by decide +kernel
theorem d_G_fillWithHole_50 : decode M_G_fillWithHole.2.1 50 = .ok (.iconst 0, 1) := by decide +kernel
theorem d_G_fillWithHole_51 : decode M_G_fillWithHole.2.1 51 = .ok (.aload_n 3, 1) := by decide +kernel
theorem d_G_fillWithHole_52 : decode M_G_fillWithHole.2.1 52 = .ok (.iload 6, 2) := by decide +kernel
theorem d_G_fillWithHole_54 : decode M_G_fillWithHole.2.1 54 = .ok (.invokestatic 42, 3) := by decide +kernel
theorem d_G_fillWithHole_57 : decode M_G_fillWithHole.2.1 57 = .ok (.invokestatic 51, 3) := by decide +kernel
theorem d_G_fillWithHole_60 : decode M_G_fillWithHole.2.1 60 = .ok (.iconst 0, 1) := by decide +kernel
theorem d_G_fillWithHole_61 : decode M_G_fillWithHole.2.1 61 = .ok (.invokevirtual 55, 3) := by decide +kernel
theorem d_G_fillWithHole_64 : decode M_G_fillWithHole.2.1 64 = .ok (.iinc 6 1, 3) := by decide +kernel
theorem d_G_fillWithHole_67 : decode M_G_fillWithHole.2.1 67 = .ok (.goto (-28), 3) := by decide +kernel
theorem d_G_fillWithHole_70 : decode M_G_fillWithHole.2.1 70 = .ok (.aload_n 0, 1) := by decide +kernel
theorem d_G_fillWithHole_71 : decode M_G_fillWithHole.2.1 71 = .ok (.iload_n 1, 1) := by decide +kernel
theorem d_G_fillWithHole_72 : decode M_G_fillWithHole.2.1 72 = .ok (.iload 4, 2) := by decide +kernel
theorem d_G_fillWithHole_74 : decode M_G_fillWithHole.2.1 74 = .ok (.invokevirtual 63, 3) := by decide +kernel
theorem d_G_fillWithHole_77 : decode M_G_fillWithHole.2.1 77 = .ok (.iconst 1, 1) := by decide +kernel
theorem d_G_fillWithHole_78 : decode M_G_fillWithHole.2.1 78 = .ok (.ireturn, 1) := by decide +kernel
theorem d_G_fillFrom_0 : decode M_G_fillFrom.2.1 0 = .ok (.aload_n 0, 1) := by decide +kernel
theorem d_G_fillFrom_1 : decode M_G_fillFrom.2.1 1 = .ok (.getfield 15, 3) := by decide +kernel
theorem d_G_fillFrom_4 : decode M_G_fillFrom.2.1 4 = .ok (.iload_n 1, 1) := by decide +kernel
theorem d_G_fillFrom_5 : decode M_G_fillFrom.2.1 5 = .ok (.iload_n 2, 1) := by decide +kernel
theorem d_G_fillFrom_6 : decode M_G_fillFrom.2.1 6 = .ok (.invokestatic 35, 3) := by decide +kernel
theorem d_G_fillFrom_9 : decode M_G_fillFrom.2.1 9 = .ok (.aload_n 0, 1) := by decide +kernel
theorem d_G_fillFrom_10 : decode M_G_fillFrom.2.1 10 = .ok (.getfield 18, 3) := by decide +kernel
theorem d_G_fillFrom_13 : decode M_G_fillFrom.2.1 13 = .ok (.iload_n 1, 1) := by decide +kernel
theorem d_G_fillFrom_14 : decode M_G_fillFrom.2.1 14 = .ok (.aload_n 0, 1) := by decide +kernel
theorem d_G_fillFrom_15 : decode M_G_fillFrom.2.1 15 = .ok (.getfield 27, 3) := by decide +kernel
theorem d_G_fillFrom_18 : decode M_G_fillFrom.2.1 18 = .ok (.getfield 46, 3) := by decide +kernel
theorem d_G_fillFrom_21 : decode M_G_fillFrom.2.1 21 = .ok (.invokestatic 35, 3) := by decide +kernel
theorem d_G_fillFrom_24 : decode M_G_fillFrom.2.1 24 = .ok (.aload_n 0, 1) := by decide +kernel
theorem d_G_fillFrom_25 : decode M_G_fillFrom.2.1 25 = .ok (.getfield 24, 3) := by decide +kernel
theorem d_G_fillFrom_28 : decode M_G_fillFrom.2.1 28 = .ok (.aload_n 0, 1) := by decide +kernel
theorem d_G_fillFrom_29 : decode M_G_fillFrom.2.1 29 = .ok (.getfield 66, 3) := by decide +kernel
theorem d_G_fillFrom_32 : decode M_G_fillFrom.2.1 32 = .ok (.iload_n 1, 1) := by decide +kernel
theorem d_G_fillFrom_33 : decode M_G_fillFrom.2.1 33 = .ok (.invokestatic 35, 3) := by decide +kernel
theorem d_G_fillFrom_36 : decode M_G_fillFrom.2.1 36 = .ok (.aload_n 0, 1) := by decide +kernel
theorem d_G_fillFrom_37 : decode M_G_fillFrom.2.1 37 = .ok (.dup, 1) := by decide +kernel
theorem d_G_fillFrom_38 : decode M_G_fillFrom.2.1 38 = .ok (.getfield 66, 3) := by decide +kernel
theorem d_G_fillFrom_41 : decode M_G_fillFrom.2.1 41 = .ok (.iconst 1, 1) := by decide +kernel
theorem d_G_fillFrom_42 : decode M_G_fillFrom.2.1 42 = .ok (.iadd, 1) := by decide +kernel
theorem d_G_fillFrom_43 : decode M_G_fillFrom.2.1 43 = .ok (.putfield 66, 3) := by decide +kernel
theorem d_G_fillFrom_46 : decode M_G_fillFrom.2.1 46 = .ok (.return_, 1) := by decide +kernel
theorem d_G_measureAll_0 : decode M_G_measureAll.2.1 0 = .ok (.aload_n 0, 1) := by decide +kernel
theorem d_G_measureAll_1 : decode M_G_measureAll.2.1 1 = .ok (.getfield 21, 3) := by decide +kernel
theorem d_G_measureAll_4 : decode M_G_measureAll.2.1 4 = .ok (.iconst 1, 1) := by decide +kernel
theorem d_G_measureAll_5 : decode M_G_measureAll.2.1 5 = .ok (.invokestatic 69, 3) := by decide +kernel
theorem d_G_measureAll_8 : decode M_G_measureAll.2.1 8 = .ok (.iconst 1, 1) := by decide +kernel
theorem d_G_measureAll_9 : decode M_G_measureAll.2.1 9 = .ok (.istore_n 1, 1) := by decide +kernel
theorem d_G_measureAll_10 : decode M_G_measureAll.2.1 10 = .ok (.aload_n 0, 1) := by decide +kernel
theorem d_G_measureAll_11 : decode M_G_measureAll.2.1 11 = .ok (.getfield 66, 3) := by decide +kernel
theorem d_G_measureAll_14 : decode M_G_measureAll.2.1 14 = .ok (.iconst 1, 1) := by decide +kernel
theorem d_G_measureAll_15 : decode M_G_measureAll.2.1 15 = .ok (.isub, 1) := by decide +kernel
theorem d_G_measureAll_16 : decode M_G_measureAll.2.1 16 = .ok (.istore_n 2, 1) := by decide +kernel
theorem d_G_measureAll_17 : decode M_G_measureAll.2.1 17 = .ok (.iload_n 2, 1) := by decide +kernel
theorem d_G_measureAll_18 : decode M_G_measureAll.2.1 18 = .ok (.ifCond .lt 57, 3) := by decide +kernel
theorem d_G_measureAll_21 : decode M_G_measureAll.2.1 21 = .ok (.aload_n 0, 1) := by decide +kernel
theorem d_G_measureAll_22 : decode M_G_measureAll.2.1 22 = .ok (.getfield 24, 3) := by decide +kernel
theorem d_G_measureAll_25 : decode M_G_measureAll.2.1 25 = .ok (.iload_n 2, 1) := by decide +kernel
theorem d_G_measureAll_26 : decode M_G_measureAll.2.1 26 = .ok (.invokestatic 42, 3) := by decide +kernel
theorem d_G_measureAll_29 : decode M_G_measureAll.2.1 29 = .ok (.istore_n 3, 1) := by decide +kernel
theorem d_G_measureAll_30 : decode M_G_measureAll.2.1 30 = .ok (.aload_n 0, 1) := by decide +kernel
theorem d_G_measureAll_31 : decode M_G_measureAll.2.1 31 = .ok (.aload_n 0, 1) := by decide +kernel
theorem d_G_measureAll_32 : decode M_G_measureAll.2.1 32 = .ok (.getfield 15, 3) := by decide +kernel
theorem d_G_measureAll_35 : decode M_G_measureAll.2.1 35 = .ok (.iload_n 3, 1) := by decide +kernel
theorem d_G_measureAll_36 : decode M_G_measureAll.2.1 36 = .ok (.invokestatic 42, 3) := by decide +kernel
theorem d_G_measureAll_39 : decode M_G_measureAll.2.1 39 = .ok (.aload_n 0, 1) := by decide +kernel
theorem d_G_measureAll_40 : decode M_G_measureAll.2.1 40 = .ok (.getfield 18, 3) := by decide +kernel
theorem d_G_measureAll_43 : decode M_G_measureAll.2.1 43 = .ok (.iload_n 3, 1) := by decide +kernel
theorem d_G_measureAll_44 : decode M_G_measureAll.2.1 44 = .ok (.invokestatic 42, 3) := by decide +kernel
theorem d_G_measureAll_47 : decode M_G_measureAll.2.1 47 = .ok (.invokevirtual 75, 3) := by decide +kernel
theorem d_G_measureAll_50 : decode M_G_measureAll.2.1 50 = .ok (.istore 4, 2) := by decide +kernel
theorem d_G_measureAll_52 : decode M_G_measureAll.2.1 52 = .ok (.aload_n 0, 1) := by decide +kernel
theorem d_G_measureAll_53 : decode M_G_measureAll.2.1 53 = .ok (.getfield 21, 3) := by decide +kernel
theorem d_G_measureAll_56 : decode M_G_measureAll.2.1 56 = .ok (.iload_n 3, 1) := by decide +kernel
theorem d_G_measureAll_57 : decode M_G_measureAll.2.1 57 = .ok (.iload 4, 2) := by decide +kernel
theorem d_G_measureAll_59 : decode M_G_measureAll.2.1 59 = .ok (.invokestatic 35, 3) := by decide +kernel
theorem d_G_measureAll_62 : decode M_G_measureAll.2.1 62 = .ok (.iload_n 1, 1) := by decide +kernel
theorem d_G_measureAll_63 : decode M_G_measureAll.2.1 63 = .ok (.iload 4, 2) := by decide +kernel
theorem d_G_measureAll_65 : decode M_G_measureAll.2.1 65 = .ok (.invokestatic 78, 3) := by decide +kernel
theorem d_G_measureAll_68 : decode M_G_measureAll.2.1 68 = .ok (.istore_n 1, 1) := by decide +kernel
theorem d_G_measureAll_69 : decode M_G_measureAll.2.1 69 = .ok (.iinc 2 (-1), 3) := by decide +kernel
theorem d_G_measureAll_72 : decode M_G_measureAll.2.1 72 = .ok (.goto (-55), 3) := by decide +kernel
theorem d_G_measureAll_75 : decode M_G_measureAll.2.1 75 = .ok (.iload_n 1, 1) := by decide +kernel
theorem d_G_measureAll_76 : decode M_G_measureAll.2.1 76 = .ok (.ireturn, 1) := by decide +kernel
theorem d_G_sumFrom_0 : decode M_G_sumFrom.2.1 0 = .ok (.iconst 0, 1) := by decide +kernel
theorem d_G_sumFrom_1 : decode M_G_sumFrom.2.1 1 = .ok (.istore_n 3, 1) := by decide +kernel
theorem d_G_sumFrom_2 : decode M_G_sumFrom.2.1 2 = .ok (.iload_n 1, 1) := by decide +kernel
theorem d_G_sumFrom_3 : decode M_G_sumFrom.2.1 3 = .ok (.istore 4, 2) := by decide +kernel
theorem d_G_sumFrom_5 : decode M_G_sumFrom.2.1 5 = .ok (.iload 4, 2) := by decide +kernel
theorem d_G_sumFrom_7 : decode M_G_sumFrom.2.1 7 = .ok (.iload_n 2, 1) := by decide +kernel
theorem d_G_sumFrom_8 : decode M_G_sumFrom.2.1 8 = .ok (.if_icmp .ge 65, 3) := by decide +kernel
theorem d_G_sumFrom_11 : decode M_G_sumFrom.2.1 11 = .ok (.aload_n 0, 1) := by decide +kernel
theorem d_G_sumFrom_12 : decode M_G_sumFrom.2.1 12 = .ok (.getfield 27, 3) := by decide +kernel
theorem d_G_sumFrom_15 : decode M_G_sumFrom.2.1 15 = .ok (.iload 4, 2) := by decide +kernel
theorem d_G_sumFrom_17 : decode M_G_sumFrom.2.1 17 = .ok (.invokevirtual 83, 3) := by decide +kernel
theorem d_G_sumFrom_20 : decode M_G_sumFrom.2.1 20 = .ok (.istore 5, 2) := by decide +kernel
theorem d_G_sumFrom_22 : decode M_G_sumFrom.2.1 22 = .ok (.iload 5, 2) := by decide +kernel
theorem d_G_sumFrom_24 : decode M_G_sumFrom.2.1 24 = .ok (.invokestatic 86, 3) := by decide +kernel
theorem d_G_sumFrom_27 : decode M_G_sumFrom.2.1 27 = .ok (.iconst 2, 1) := by decide +kernel
theorem d_G_sumFrom_28 : decode M_G_sumFrom.2.1 28 = .ok (.if_icmp .ne 36, 3) := by decide +kernel
theorem d_G_sumFrom_31 : decode M_G_sumFrom.2.1 31 = .ok (.iload 5, 2) := by decide +kernel
theorem d_G_sumFrom_33 : decode M_G_sumFrom.2.1 33 = .ok (.invokestatic 89, 3) := by decide +kernel
theorem d_G_sumFrom_36 : decode M_G_sumFrom.2.1 36 = .ok (.istore 6, 2) := by decide +kernel
theorem d_G_sumFrom_38 : decode M_G_sumFrom.2.1 38 = .ok (.iload_n 3, 1) := by decide +kernel
theorem d_G_sumFrom_39 : decode M_G_sumFrom.2.1 39 = .ok (.aload_n 0, 1) := by decide +kernel
theorem d_G_sumFrom_40 : decode M_G_sumFrom.2.1 40 = .ok (.getfield 21, 3) := by decide +kernel
theorem d_G_sumFrom_43 : decode M_G_sumFrom.2.1 43 = .ok (.iload 6, 2) := by decide +kernel
theorem d_G_sumFrom_45 : decode M_G_sumFrom.2.1 45 = .ok (.invokestatic 42, 3) := by decide +kernel
theorem d_G_sumFrom_48 : decode M_G_sumFrom.2.1 48 = .ok (.iadd, 1) := by decide +kernel
theorem d_G_sumFrom_49 : decode M_G_sumFrom.2.1 49 = .ok (.istore_n 3, 1) := by decide +kernel
theorem d_G_sumFrom_50 : decode M_G_sumFrom.2.1 50 = .ok (.iload 4, 2) := by decide +kernel
theorem d_G_sumFrom_52 : decode M_G_sumFrom.2.1 52 = .ok (.aload_n 0, 1) := by decide +kernel
theorem d_G_sumFrom_53 : decode M_G_sumFrom.2.1 53 = .ok (.iload 6, 2) := by decide +kernel
theorem d_G_sumFrom_55 : decode M_G_sumFrom.2.1 55 = .ok (.invokevirtual 59, 3) := by decide +kernel
theorem d_G_sumFrom_58 : decode M_G_sumFrom.2.1 58 = .ok (.iadd, 1) := by decide +kernel
theorem d_G_sumFrom_59 : decode M_G_sumFrom.2.1 59 = .ok (.istore 4, 2) := by decide +kernel
theorem d_G_sumFrom_61 : decode M_G_sumFrom.2.1 61 = .ok (.goto 6, 3) := by decide +kernel
theorem d_G_sumFrom_64 : decode M_G_sumFrom.2.1 64 = .ok (.iinc 3 1, 3) := by decide +kernel
theorem d_G_sumFrom_67 : decode M_G_sumFrom.2.1 67 = .ok (.iinc 4 1, 3) := by decide +kernel
theorem d_G_sumFrom_70 : decode M_G_sumFrom.2.1 70 = .ok (.goto (-65), 3) := by decide +kernel
theorem d_G_sumFrom_73 : decode M_G_sumFrom.2.1 73 = .ok (.iload_n 3, 1) := by decide +kernel
theorem d_G_sumFrom_74 : decode M_G_sumFrom.2.1 74 = .ok (.ireturn, 1) := by decide +kernel
