theorem d_L_operation_0 : decode M_L_operation.2.1 0 = .ok (.aload 4, 2) := by decide +kernel
theorem d_L_operation_2 : decode M_L_operation.2.1 2 = .ok (.iconst 0, 1) := by decide +kernel
theorem d_L_operation_3 : decode M_L_operation.2.1 3 = .ok (.aload_n 0, 1) := by decide +kernel
theorem d_L_operation_4 : decode M_L_operation.2.1 4 = .ok (.iload_n 1, 1) := by decide +kernel
theorem d_L_operation_5 : decode M_L_operation.2.1 5 = .ok (.iload_n 2, 1) := by decide +kernel
theorem d_L_operation_6 : decode M_L_operation.2.1 6 = .ok (.iload_n 3, 1) := by decide +kernel
theorem d_L_operation_7 : decode M_L_operation.2.1 7 = .ok (.invokevirtual 7, 3) := by decide +kernel
theorem d_L_operation_10 : decode M_L_operation.2.1 10 = .ok (.i2l, 1) := by decide +kernel
theorem d_L_operation_11 : decode M_L_operation.2.1 11 = .ok (.lastore, 1) := by decide +kernel
theorem d_L_operation_12 : decode M_L_operation.2.1 12 = .ok (.goto 7, 3) := by decide +kernel
theorem d_L_operation_15 : decode M_L_operation.2.1 15 = .ok (.astore 5, 2) := by decide +kernel
theorem d_L_operation_17 : decode M_L_operation.2.1 17 = .ok (.iconst 1, 1) := by decide +kernel
theorem d_L_operation_18 : decode M_L_operation.2.1 18 = .ok (.ireturn, 1) := by decide +kernel
theorem d_L_operation_19 : decode M_L_operation.2.1 19 = .ok (.iconst 0, 1) := by decide +kernel
theorem d_L_operation_20 : decode M_L_operation.2.1 20 = .ok (.ireturn, 1) := by decide +kernel
theorem d_L_hole_0 : decode M_L_hole.2.1 0 = .ok (.aload_n 2, 1) := by decide +kernel
theorem d_L_hole_1 : decode M_L_hole.2.1 1 = .ok (.iconst 0, 1) := by decide +kernel
theorem d_L_hole_2 : decode M_L_hole.2.1 2 = .ok (.aload_n 0, 1) := by decide +kernel
theorem d_L_hole_3 : decode M_L_hole.2.1 3 = .ok (.iload_n 1, 1) := by decide +kernel
theorem d_L_hole_4 : decode M_L_hole.2.1 4 = .ok (.invokevirtual 15, 3) := by decide +kernel
theorem d_L_hole_7 : decode M_L_hole.2.1 7 = .ok (.i2l, 1) := by decide +kernel
theorem d_L_hole_8 : decode M_L_hole.2.1 8 = .ok (.lastore, 1) := by decide +kernel
theorem d_L_hole_9 : decode M_L_hole.2.1 9 = .ok (.goto 6, 3) := by decide +kernel
theorem d_L_hole_12 : decode M_L_hole.2.1 12 = .ok (.astore_n 3, 1) := by decide +kernel
theorem d_L_hole_13 : decode M_L_hole.2.1 13 = .ok (.iconst 1, 1) := by decide +kernel
theorem d_L_hole_14 : decode M_L_hole.2.1 14 = .ok (.ireturn, 1) := by decide +kernel
theorem d_L_hole_15 : decode M_L_hole.2.1 15 = .ok (.iconst 0, 1) := by decide +kernel
theorem d_L_hole_16 : decode M_L_hole.2.1 16 = .ok (.ireturn, 1) := by decide +kernel
theorem d_L_begin_0 : decode M_L_begin.2.1 0 = .ok (.aload_n 3, 1) := by decide +kernel
theorem d_L_begin_1 : decode M_L_begin.2.1 1 = .ok (.iconst 0, 1) := by decide +kernel
theorem d_L_begin_2 : decode M_L_begin.2.1 2 = .ok (.aload_n 0, 1) := by decide +kernel
theorem d_L_begin_3 : decode M_L_begin.2.1 3 = .ok (.iload_n 1, 1) := by decide +kernel
theorem d_L_begin_4 : decode M_L_begin.2.1 4 = .ok (.iload_n 2, 1) := by decide +kernel
theorem d_L_begin_5 : decode M_L_begin.2.1 5 = .ok (.invokevirtual 19, 3) := by decide +kernel
theorem d_L_begin_8 : decode M_L_begin.2.1 8 = .ok (.i2l, 1) := by decide +kernel
theorem d_L_begin_9 : decode M_L_begin.2.1 9 = .ok (.lastore, 1) := by decide +kernel
theorem d_L_begin_10 : decode M_L_begin.2.1 10 = .ok (.goto 7, 3) := by decide +kernel
theorem d_L_begin_13 : decode M_L_begin.2.1 13 = .ok (.astore 4, 2) := by decide +kernel
theorem d_L_begin_15 : decode M_L_begin.2.1 15 = .ok (.iconst 1, 1) := by decide +kernel
theorem d_L_begin_16 : decode M_L_begin.2.1 16 = .ok (.ireturn, 1) := by decide +kernel
theorem d_L_begin_17 : decode M_L_begin.2.1 17 = .ok (.iconst 0, 1) := by decide +kernel
theorem d_L_begin_18 : decode M_L_begin.2.1 18 = .ok (.ireturn, 1) := by decide +kernel
theorem d_L_put_0 : decode M_L_put.2.1 0 = .ok (.aload 4, 2) := by decide +kernel
theorem d_L_put_2 : decode M_L_put.2.1 2 = .ok (.iconst 0, 1) := by decide +kernel
theorem d_L_put_3 : decode M_L_put.2.1 3 = .ok (.aload_n 0, 1) := by decide +kernel
theorem d_L_put_4 : decode M_L_put.2.1 4 = .ok (.iload_n 1, 1) := by decide +kernel
theorem d_L_put_5 : decode M_L_put.2.1 5 = .ok (.iload_n 2, 1) := by decide +kernel
theorem d_L_put_6 : decode M_L_put.2.1 6 = .ok (.iload_n 3, 1) := by decide +kernel
theorem d_L_put_7 : decode M_L_put.2.1 7 = .ok (.invokevirtual 23, 3) := by decide +kernel
theorem d_L_put_10 : decode M_L_put.2.1 10 = .ok (.i2l, 1) := by decide +kernel
theorem d_L_put_11 : decode M_L_put.2.1 11 = .ok (.lastore, 1) := by decide +kernel
theorem d_L_put_12 : decode M_L_put.2.1 12 = .ok (.goto 11, 3) := by decide +kernel
theorem d_L_put_15 : decode M_L_put.2.1 15 = .ok (.astore 5, 2) := by decide +kernel
theorem d_L_put_17 : decode M_L_put.2.1 17 = .ok (.iconst 1, 1) := by decide +kernel
theorem d_L_put_18 : decode M_L_put.2.1 18 = .ok (.ireturn, 1) := by decide +kernel
theorem d_L_put_19 : decode M_L_put.2.1 19 = .ok (.astore 5, 2) := by decide +kernel
theorem d_L_put_21 : decode M_L_put.2.1 21 = .ok (.iconst 2, 1) := by decide +kernel
theorem d_L_put_22 : decode M_L_put.2.1 22 = .ok (.ireturn, 1) := by decide +kernel
theorem d_L_put_23 : decode M_L_put.2.1 23 = .ok (.iconst 0, 1) := by decide +kernel
theorem d_L_put_24 : decode M_L_put.2.1 24 = .ok (.ireturn, 1) := by decide +kernel
theorem d_L_unify_0 : decode M_L_unify.2.1 0 = .ok (.aload_n 3, 1) := by decide +kernel
theorem d_L_unify_1 : decode M_L_unify.2.1 1 = .ok (.iconst 0, 1) := by decide +kernel
theorem d_L_unify_2 : decode M_L_unify.2.1 2 = .ok (.aload_n 0, 1) := by decide +kernel
theorem d_L_unify_3 : decode M_L_unify.2.1 3 = .ok (.iload_n 1, 1) := by decide +kernel
theorem d_L_unify_4 : decode M_L_unify.2.1 4 = .ok (.iload_n 2, 1) := by decide +kernel
theorem d_L_unify_5 : decode M_L_unify.2.1 5 = .ok (.invokevirtual 28, 3) := by decide +kernel
theorem d_L_unify_8 : decode M_L_unify.2.1 8 = .ok (.i2l, 1) := by decide +kernel
theorem d_L_unify_9 : decode M_L_unify.2.1 9 = .ok (.lastore, 1) := by decide +kernel
theorem d_L_unify_10 : decode M_L_unify.2.1 10 = .ok (.goto 11, 3) := by decide +kernel
theorem d_L_unify_13 : decode M_L_unify.2.1 13 = .ok (.astore 4, 2) := by decide +kernel
theorem d_L_unify_15 : decode M_L_unify.2.1 15 = .ok (.iconst 1, 1) := by decide +kernel
theorem d_L_unify_16 : decode M_L_unify.2.1 16 = .ok (.ireturn, 1) := by decide +kernel
theorem d_L_unify_17 : decode M_L_unify.2.1 17 = .ok (.astore 4, 2) := by decide +kernel
theorem d_L_unify_19 : decode M_L_unify.2.1 19 = .ok (.iconst 2, 1) := by decide +kernel
theorem d_L_unify_20 : decode M_L_unify.2.1 20 = .ok (.ireturn, 1) := by decide +kernel
theorem d_L_unify_21 : decode M_L_unify.2.1 21 = .ok (.iconst 0, 1) := by decide +kernel
theorem d_L_unify_22 : decode M_L_unify.2.1 22 = .ok (.ireturn, 1) := by decide +kernel
theorem d_L_read_0 : decode M_L_read.2.1 0 = .ok (.aload_n 2, 1) := by decide +kernel
theorem d_L_read_1 : decode M_L_read.2.1 1 = .ok (.iconst 0, 1) := by decide +kernel
theorem d_L_read_2 : decode M_L_read.2.1 2 = .ok (.aload_n 0, 1) := by decide +kernel
theorem d_L_read_3 : decode M_L_read.2.1 3 = .ok (.iload_n 1, 1) := by decide +kernel
theorem d_L_read_4 : decode M_L_read.2.1 4 = .ok (.invokevirtual 31, 3) := by decide +kernel
theorem d_L_read_7 : decode M_L_read.2.1 7 = .ok (.i2l, 1) := by decide +kernel
theorem d_L_read_8 : decode M_L_read.2.1 8 = .ok (.lastore, 1) := by decide +kernel
theorem d_L_read_9 : decode M_L_read.2.1 9 = .ok (.goto 9, 3) := by decide +kernel
theorem d_L_read_12 : decode M_L_read.2.1 12 = .ok (.astore_n 3, 1) := by decide +kernel
theorem d_L_read_13 : decode M_L_read.2.1 13 = .ok (.iconst 1, 1) := by decide +kernel
theorem d_L_read_14 : decode M_L_read.2.1 14 = .ok (.ireturn, 1) := by decide +kernel
theorem d_L_read_15 : decode M_L_read.2.1 15 = .ok (.astore_n 3, 1) := by decide +kernel
theorem d_L_read_16 : decode M_L_read.2.1 16 = .ok (.iconst 2, 1) := by decide +kernel
theorem d_L_read_17 : decode M_L_read.2.1 17 = .ok (.ireturn, 1) := by decide +kernel
theorem d_L_read_18 : decode M_L_read.2.1 18 = .ok (.iconst 0, 1) := by decide +kernel
theorem d_L_read_19 : decode M_L_read.2.1 19 = .ok (.ireturn, 1) := by decide +kernel
theorem d_L_item_0 : decode M_L_item.2.1 0 = .ok (.aload_n 2, 1) := by decide +kernel
theorem d_L_item_1 : decode M_L_item.2.1 1 = .ok (.iconst 0, 1) := by decide +kernel
theorem d_L_item_2 : decode M_L_item.2.1 2 = .ok (.aload_n 0, 1) := by decide +kernel
theorem d_L_item_3 : decode M_L_item.2.1 3 = .ok (.iload_n 1, 1) := by decide +kernel
theorem d_L_item_4 : decode M_L_item.2.1 4 = .ok (.invokevirtual 34, 3) := by decide +kernel
theorem d_L_item_7 : decode M_L_item.2.1 7 = .ok (.i2l, 1) := by decide +kernel
theorem d_L_item_8 : decode M_L_item.2.1 8 = .ok (.lastore, 1) := by decide +kernel
theorem d_L_item_9 : decode M_L_item.2.1 9 = .ok (.goto 6, 3) := by decide +kernel
theorem d_L_item_12 : decode M_L_item.2.1 12 = .ok (.astore_n 3, 1) := by decide +kernel
theorem d_L_item_13 : decode M_L_item.2.1 13 = .ok (.iconst 1, 1) := by decide +kernel
theorem d_L_item_14 : decode M_L_item.2.1 14 = .ok (.ireturn, 1) := by decide +kernel
theorem d_L_item_15 : decode M_L_item.2.1 15 = .ok (.iconst 0, 1) := by decide +kernel
theorem d_L_item_16 : decode M_L_item.2.1 16 = .ok (.ireturn, 1) := by decide +kernel
theorem d_L_isSame_0 : decode M_L_isSame.2.1 0 = .ok (.aload_n 3, 1) := by decide +kernel
theorem d_L_isSame_1 : decode M_L_isSame.2.1 1 = .ok (.iconst 0, 1) := by decide +kernel
theorem d_L_isSame_2 : decode M_L_isSame.2.1 2 = .ok (.aload_n 0, 1) := by decide +kernel
theorem d_L_isSame_3 : decode M_L_isSame.2.1 3 = .ok (.iload_n 1, 1) := by decide +kernel
theorem d_L_isSame_4 : decode M_L_isSame.2.1 4 = .ok (.iload_n 2, 1) := by decide +kernel
theorem d_L_isSame_5 : decode M_L_isSame.2.1 5 = .ok (.invokevirtual 39, 3) := by decide +kernel
theorem d_L_isSame_8 : decode M_L_isSame.2.1 8 = .ok (.ifCond .eq 7, 3) := by decide +kernel
theorem d_L_isSame_11 : decode M_L_isSame.2.1 11 = .ok (.lconst 1, 1) := by decide +kernel
theorem d_L_isSame_12 : decode M_L_isSame.2.1 12 = .ok (.goto 4, 3) := by decide +kernel
theorem d_L_isSame_15 : decode M_L_isSame.2.1 15 = .ok (.lconst 0, 1) := by decide +kernel
theorem d_L_isSame_16 : decode M_L_isSame.2.1 16 = .ok (.lastore, 1) := by decide +kernel
theorem d_L_isSame_17 : decode M_L_isSame.2.1 17 = .ok (.goto 11, 3) := by decide +kernel
theorem d_L_isSame_20 : decode M_L_isSame.2.1 20 = .ok (.astore 4, 2) := by decide +kernel
theorem d_L_isSame_22 : decode M_L_isSame.2.1 22 = .ok (.iconst 1, 1) := by decide +kernel
theorem d_L_isSame_23 : decode M_L_isSame.2.1 23 = .ok (.ireturn, 1) := by decide +kernel
theorem d_L_isSame_24 : decode M_L_isSame.2.1 24 = .ok (.astore 4, 2) := by decide +kernel
theorem d_L_isSame_26 : decode M_L_isSame.2.1 26 = .ok (.iconst 2, 1) := by decide +kernel
theorem d_L_isSame_27 : decode M_L_isSame.2.1 27 = .ok (.ireturn, 1) := by decide +kernel
theorem d_L_isSame_28 : decode M_L_isSame.2.1 28 = .ok (.iconst 0, 1) := by decide +kernel
theorem d_L_isSame_29 : decode M_L_isSame.2.1 29 = .ok (.ireturn, 1) := by decide +kernel
theorem d_L_size_0 : decode M_L_size.2.1 0 = .ok (.aload_n 2, 1) := by decide +kernel
theorem d_L_size_1 : decode M_L_size.2.1 1 = .ok (.iconst 0, 1) := by decide +kernel
theorem d_L_size_2 : decode M_L_size.2.1 2 = .ok (.aload_n 0, 1) := by decide +kernel
theorem d_L_size_3 : decode M_L_size.2.1 3 = .ok (.iload_n 1, 1) := by decide +kernel
theorem d_L_size_4 : decode M_L_size.2.1 4 = .ok (.invokevirtual 43, 3) := by decide +kernel
theorem d_L_size_7 : decode M_L_size.2.1 7 = .ok (.i2l, 1) := by decide +kernel
theorem d_L_size_8 : decode M_L_size.2.1 8 = .ok (.lastore, 1) := by decide +kernel
theorem d_L_size_9 : decode M_L_size.2.1 9 = .ok (.goto 6, 3) := by decide +kernel
theorem d_L_size_12 : decode M_L_size.2.1 12 = .ok (.astore_n 3, 1) := by decide +kernel
theorem d_L_size_13 : decode M_L_size.2.1 13 = .ok (.iconst 1, 1) := by decide +kernel
theorem d_L_size_14 : decode M_L_size.2.1 14 = .ok (.ireturn, 1) := by decide +kernel
theorem d_L_size_15 : decode M_L_size.2.1 15 = .ok (.iconst 0, 1) := by decide +kernel
theorem d_L_size_16 : decode M_L_size.2.1 16 = .ok (.ireturn, 1) := by decide +kernel
theorem d_L_uses_0 : decode M_L_uses.2.1 0 = .ok (.aload_n 2, 1) := by decide +kernel
theorem d_L_uses_1 : decode M_L_uses.2.1 1 = .ok (.iconst 0, 1) := by decide +kernel
theorem d_L_uses_2 : decode M_L_uses.2.1 2 = .ok (.aload_n 0, 1) := by decide +kernel
theorem d_L_uses_3 : decode M_L_uses.2.1 3 = .ok (.iload_n 1, 1) := by decide +kernel
theorem d_L_uses_4 : decode M_L_uses.2.1 4 = .ok (.invokevirtual 46, 3) := by decide +kernel
theorem d_L_uses_7 : decode M_L_uses.2.1 7 = .ok (.i2l, 1) := by decide +kernel
theorem d_L_uses_8 : decode M_L_uses.2.1 8 = .ok (.lastore, 1) := by decide +kernel
theorem d_L_uses_9 : decode M_L_uses.2.1 9 = .ok (.goto 6, 3) := by decide +kernel
theorem d_L_uses_12 : decode M_L_uses.2.1 12 = .ok (.astore_n 3, 1) := by decide +kernel
theorem d_L_uses_13 : decode M_L_uses.2.1 13 = .ok (.iconst 1, 1) := by decide +kernel
theorem d_L_uses_14 : decode M_L_uses.2.1 14 = .ok (.ireturn, 1) := by decide +kernel
theorem d_L_uses_15 : decode M_L_uses.2.1 15 = .ok (.iconst 0, 1) := by decide +kernel
theorem d_L_uses_16 : decode M_L_uses.2.1 16 = .ok (.ireturn, 1) := by decide +kernel
