theorem d_D_unify_30 : decode M_D_unify.2.1 30 = .ok (.baload, 1) := by decide +kernel
theorem d_D_unify_31 : decode M_D_unify.2.1 31 = .ok (.bastore, 1) := by decide +kernel
theorem d_D_unify_32 : decode M_D_unify.2.1 32 = .ok (.iinc 3 1, 3) := by decide +kernel
theorem d_D_unify_35 : decode M_D_unify.2.1 35 = .ok (.goto (-22), 3) := by decide +kernel
theorem d_D_unify_38 : decode M_D_unify.2.1 38 = .ok (.aload_n 0, 1) := by decide +kernel
theorem d_D_unify_39 : decode M_D_unify.2.1 39 = .ok (.getfield 144, 3) := by decide +kernel
theorem d_D_unify_42 : decode M_D_unify.2.1 42 = .ok (.istore_n 3, 1) := by decide +kernel
theorem d_D_unify_43 : decode M_D_unify.2.1 43 = .ok (.aload_n 0, 1) := by decide +kernel
theorem d_D_unify_44 : decode M_D_unify.2.1 44 = .ok (.aload_n 0, 1) := by decide +kernel
theorem d_D_unify_45 : decode M_D_unify.2.1 45 = .ok (.aload_n 0, 1) := by decide +kernel
theorem d_D_unify_46 : decode M_D_unify.2.1 46 = .ok (.getfield 57, 3) := by decide +kernel
theorem d_D_unify_49 : decode M_D_unify.2.1 49 = .ok (.iload_n 1, 1) := by decide +kernel
theorem d_D_unify_50 : decode M_D_unify.2.1 50 = .ok (.invokevirtual 209, 3) := by decide +kernel
theorem d_D_unify_53 : decode M_D_unify.2.1 53 = .ok (.putfield 154, 3) := by decide +kernel
theorem d_D_unify_56 : decode M_D_unify.2.1 56 = .ok (.aload_n 0, 1) := by decide +kernel
theorem d_D_unify_57 : decode M_D_unify.2.1 57 = .ok (.aload_n 0, 1) := by decide +kernel
theorem d_D_unify_58 : decode M_D_unify.2.1 58 = .ok (.aload_n 0, 1) := by decide +kernel
theorem d_D_unify_59 : decode M_D_unify.2.1 59 = .ok (.getfield 60, 3) := by decide +kernel
theorem d_D_unify_62 : decode M_D_unify.2.1 62 = .ok (.iload_n 2, 1) := by decide +kernel
theorem d_D_unify_63 : decode M_D_unify.2.1 63 = .ok (.invokevirtual 209, 3) := by decide +kernel
theorem d_D_unify_66 : decode M_D_unify.2.1 66 = .ok (.putfield 157, 3) := by decide +kernel
theorem d_D_unify_69 : decode M_D_unify.2.1 69 = .ok (.aload_n 0, 1) := by decide +kernel
theorem d_D_unify_70 : decode M_D_unify.2.1 70 = .ok (.iconst 0, 1) := by decide +kernel
theorem d_D_unify_71 : decode M_D_unify.2.1 71 = .ok (.putfield 151, 3) := by decide +kernel
theorem d_D_unify_74 : decode M_D_unify.2.1 74 = .ok (.aload_n 0, 1) := by decide +kernel
theorem d_D_unify_75 : decode M_D_unify.2.1 75 = .ok (.aload_n 0, 1) := by decide +kernel
theorem d_D_unify_76 : decode M_D_unify.2.1 76 = .ok (.getfield 57, 3) := by decide +kernel
theorem d_D_unify_79 : decode M_D_unify.2.1 79 = .ok (.iconst 0, 1) := by decide +kernel
theorem d_D_unify_80 : decode M_D_unify.2.1 80 = .ok (.aload_n 0, 1) := by decide +kernel
theorem d_D_unify_81 : decode M_D_unify.2.1 81 = .ok (.getfield 154, 3) := by decide +kernel
theorem d_D_unify_84 : decode M_D_unify.2.1 84 = .ok (.aload_n 0, 1) := by decide +kernel
theorem d_D_unify_85 : decode M_D_unify.2.1 85 = .ok (.getfield 60, 3) := by decide +kernel
theorem d_D_unify_88 : decode M_D_unify.2.1 88 = .ok (.iconst 0, 1) := by decide +kernel
theorem d_D_unify_89 : decode M_D_unify.2.1 89 = .ok (.aload_n 0, 1) := by decide +kernel
theorem d_D_unify_90 : decode M_D_unify.2.1 90 = .ok (.getfield 157, 3) := by decide +kernel
theorem d_D_unify_93 : decode M_D_unify.2.1 93 = .ok (.invokevirtual 177, 3) := by decide +kernel
theorem d_D_unify_96 : decode M_D_unify.2.1 96 = .ok (.iconst 0, 1) := by decide +kernel
theorem d_D_unify_97 : decode M_D_unify.2.1 97 = .ok (.istore 4, 2) := by decide +kernel
theorem d_D_unify_99 : decode M_D_unify.2.1 99 = .ok (.aload_n 0, 1) := by decide +kernel
theorem d_D_unify_100 : decode M_D_unify.2.1 100 = .ok (.getfield 151, 3) := by decide +kernel
theorem d_D_unify_103 : decode M_D_unify.2.1 103 = .ok (.ifCond .le 17, 3) := by decide +kernel
theorem d_D_unify_106 : decode M_D_unify.2.1 106 = .ok (.iload 4, 2) := by decide +kernel
theorem d_D_unify_108 : decode M_D_unify.2.1 108 = .ok (.ifCond .ne 12, 3) := by decide +kernel
theorem d_D_unify_111 : decode M_D_unify.2.1 111 = .ok (.aload_n 0, 1) := by decide +kernel
theorem d_D_unify_112 : decode M_D_unify.2.1 112 = .ok (.invokevirtual 212, 3) := by decide +kernel
theorem d_D_unify_115 : decode M_D_unify.2.1 115 = .ok (.istore 4, 2) := by decide +kernel
theorem d_D_unify_117 : decode M_D_unify.2.1 117 = .ok (.goto (-18), 3) := by decide +kernel
theorem d_D_unify_120 : decode M_D_unify.2.1 120 = .ok (.iload 4, 2) := by decide +kernel
theorem d_D_unify_122 : decode M_D_unify.2.1 122 = .ok (.ifCond .le 39, 3) := by decide +kernel
theorem d_D_unify_125 : decode M_D_unify.2.1 125 = .ok (.iconst 0, 1) := by decide +kernel
theorem d_D_unify_126 : decode M_D_unify.2.1 126 = .ok (.istore 5, 2) := by decide +kernel
theorem d_D_unify_128 : decode M_D_unify.2.1 128 = .ok (.iload 5, 2) := by decide +kernel
theorem d_D_unify_130 : decode M_D_unify.2.1 130 = .ok (.sipush 324, 3) := by decide +kernel
theorem d_D_unify_133 : decode M_D_unify.2.1 133 = .ok (.if_icmp .ge 23, 3) := by decide +kernel
theorem d_D_unify_136 : decode M_D_unify.2.1 136 = .ok (.aload_n 0, 1) := by decide +kernel
theorem d_D_unify_137 : decode M_D_unify.2.1 137 = .ok (.getfield 26, 3) := by decide +kernel
theorem d_D_unify_140 : decode M_D_unify.2.1 140 = .ok (.iload 5, 2) := by decide +kernel
theorem d_D_unify_142 : decode M_D_unify.2.1 142 = .ok (.aload_n 0, 1) := by decide +kernel
theorem d_D_unify_143 : decode M_D_unify.2.1 143 = .ok (.getfield 30, 3) := by decide +kernel
theorem d_D_unify_146 : decode M_D_unify.2.1 146 = .ok (.iload 5, 2) := by decide +kernel
theorem d_D_unify_148 : decode M_D_unify.2.1 148 = .ok (.baload, 1) := by decide +kernel
theorem d_D_unify_149 : decode M_D_unify.2.1 149 = .ok (.bastore, 1) := by decide +kernel
theorem d_D_unify_150 : decode M_D_unify.2.1 150 = .ok (.iinc 5 1, 3) := by decide +kernel
theorem d_D_unify_153 : decode M_D_unify.2.1 153 = .ok (.goto (-25), 3) := by decide +kernel
theorem d_D_unify_156 : decode M_D_unify.2.1 156 = .ok (.aload_n 0, 1) := by decide +kernel
theorem d_D_unify_157 : decode M_D_unify.2.1 157 = .ok (.iload_n 3, 1) := by decide +kernel
theorem d_D_unify_158 : decode M_D_unify.2.1 158 = .ok (.putfield 144, 3) := by decide +kernel
theorem d_D_unify_161 : decode M_D_unify.2.1 161 = .ok (.aload_n 0, 1) := by decide +kernel
theorem d_D_unify_162 : decode M_D_unify.2.1 162 = .ok (.iload 4, 2) := by decide +kernel
theorem d_D_unify_164 : decode M_D_unify.2.1 164 = .ok (.ifCond .ne 12, 3) := by decide +kernel
theorem d_D_unify_167 : decode M_D_unify.2.1 167 = .ok (.aload_n 0, 1) := by decide +kernel
theorem d_D_unify_168 : decode M_D_unify.2.1 168 = .ok (.getfield 215, 3) := by decide +kernel
theorem d_D_unify_171 : decode M_D_unify.2.1 171 = .ok (.iconst 1, 1) := by decide +kernel
theorem d_D_unify_172 : decode M_D_unify.2.1 172 = .ok (.iadd, 1) := by decide +kernel
theorem d_D_unify_173 : decode M_D_unify.2.1 173 = .ok (.goto 7, 3) := by decide +kernel
theorem d_D_unify_176 : decode M_D_unify.2.1 176 = .ok (.aload_n 0, 1) := by decide +kernel
theorem d_D_unify_177 : decode M_D_unify.2.1 177 = .ok (.getfield 215, 3) := by decide +kernel
theorem d_D_unify_180 : decode M_D_unify.2.1 180 = .ok (.putfield 215, 3) := by decide +kernel
theorem d_D_unify_183 : decode M_D_unify.2.1 183 = .ok (.aload_n 0, 1) := by decide +kernel
theorem d_D_unify_184 : decode M_D_unify.2.1 184 = .ok (.iload 4, 2) := by decide +kernel
theorem d_D_unify_186 : decode M_D_unify.2.1 186 = .ok (.ifCond .ne 10, 3) := by decide +kernel
theorem d_D_unify_189 : decode M_D_unify.2.1 189 = .ok (.aload_n 0, 1) := by decide +kernel
theorem d_D_unify_190 : decode M_D_unify.2.1 190 = .ok (.getfield 218, 3) := by decide +kernel
theorem d_D_unify_193 : decode M_D_unify.2.1 193 = .ok (.goto 9, 3) := by decide +kernel
theorem d_D_unify_196 : decode M_D_unify.2.1 196 = .ok (.aload_n 0, 1) := by decide +kernel
theorem d_D_unify_197 : decode M_D_unify.2.1 197 = .ok (.getfield 218, 3) := by decide +kernel
theorem d_D_unify_200 : decode M_D_unify.2.1 200 = .ok (.iconst 1, 1) := by decide +kernel
theorem d_D_unify_201 : decode M_D_unify.2.1 201 = .ok (.iadd, 1) := by decide +kernel
theorem d_D_unify_202 : decode M_D_unify.2.1 202 = .ok (.putfield 218, 3) := by decide +kernel
theorem d_D_unify_205 : decode M_D_unify.2.1 205 = .ok (.iload 4, 2) := by decide +kernel
theorem d_D_unify_207 : decode M_D_unify.2.1 207 = .ok (.ireturn, 1) := by decide +kernel
theorem d_D_refuses_0 : decode M_D_refuses.2.1 0 = .ok (.iload_n 1, 1) := by decide +kernel
theorem d_D_refuses_1 : decode M_D_refuses.2.1 1 = .ok (.invokestatic 114, 3) := by decide +kernel
theorem d_D_refuses_4 : decode M_D_refuses.2.1 4 = .ok (.ifCond .eq 14, 3) := by decide +kernel
theorem d_D_refuses_7 : decode M_D_refuses.2.1 7 = .ok (.iload_n 2, 1) := by decide +kernel
theorem d_D_refuses_8 : decode M_D_refuses.2.1 8 = .ok (.invokestatic 114, 3) := by decide +kernel
theorem d_D_refuses_11 : decode M_D_refuses.2.1 11 = .ok (.ifCond .eq 7, 3) := by decide +kernel
theorem d_D_refuses_14 : decode M_D_refuses.2.1 14 = .ok (.iconst 1, 1) := by decide +kernel
theorem d_D_refuses_15 : decode M_D_refuses.2.1 15 = .ok (.goto 4, 3) := by decide +kernel
theorem d_D_refuses_18 : decode M_D_refuses.2.1 18 = .ok (.iconst 0, 1) := by decide +kernel
theorem d_D_refuses_19 : decode M_D_refuses.2.1 19 = .ok (.istore_n 3, 1) := by decide +kernel
theorem d_D_refuses_20 : decode M_D_refuses.2.1 20 = .ok (.aload_n 0, 1) := by decide +kernel
theorem d_D_refuses_21 : decode M_D_refuses.2.1 21 = .ok (.iload_n 3, 1) := by decide +kernel
theorem d_D_refuses_22 : decode M_D_refuses.2.1 22 = .ok (.ifCond .ne 7, 3) := by decide +kernel
theorem d_D_refuses_25 : decode M_D_refuses.2.1 25 = .ok (.iconst 1, 1) := by decide +kernel
theorem d_D_refuses_26 : decode M_D_refuses.2.1 26 = .ok (.goto 4, 3) := by decide +kernel
theorem d_D_refuses_29 : decode M_D_refuses.2.1 29 = .ok (.iconst 0, 1) := by decide +kernel
theorem d_D_refuses_30 : decode M_D_refuses.2.1 30 = .ok (.iload_n 3, 1) := by decide +kernel
theorem d_D_refuses_31 : decode M_D_refuses.2.1 31 = .ok (.ifCond .eq 38, 3) := by decide +kernel
theorem d_D_refuses_34 : decode M_D_refuses.2.1 34 = .ok (.aload_n 0, 1) := by decide +kernel
theorem d_D_refuses_35 : decode M_D_refuses.2.1 35 = .ok (.iload_n 1, 1) := by decide +kernel
theorem d_D_refuses_36 : decode M_D_refuses.2.1 36 = .ok (.invokevirtual 202, 3) := by decide +kernel
theorem d_D_refuses_39 : decode M_D_refuses.2.1 39 = .ok (.ifCond .eq 26, 3) := by decide +kernel
theorem d_D_refuses_42 : decode M_D_refuses.2.1 42 = .ok (.aload_n 0, 1) := by decide +kernel
theorem d_D_refuses_43 : decode M_D_refuses.2.1 43 = .ok (.iload_n 2, 1) := by decide +kernel
theorem d_D_refuses_44 : decode M_D_refuses.2.1 44 = .ok (.invokevirtual 202, 3) := by decide +kernel
theorem d_D_refuses_47 : decode M_D_refuses.2.1 47 = .ok (.ifCond .eq 18, 3) := by decide +kernel
theorem d_D_refuses_50 : decode M_D_refuses.2.1 50 = .ok (.aload_n 0, 1) := by decide +kernel
theorem d_D_refuses_51 : decode M_D_refuses.2.1 51 = .ok (.getfield 42, 3) := by decide +kernel
theorem d_D_refuses_54 : decode M_D_refuses.2.1 54 = .ok (.iload_n 1, 1) := by decide +kernel
theorem d_D_refuses_55 : decode M_D_refuses.2.1 55 = .ok (.iaload, 1) := by decide +kernel
theorem d_D_refuses_56 : decode M_D_refuses.2.1 56 = .ok (.aload_n 0, 1) := by decide +kernel
theorem d_D_refuses_57 : decode M_D_refuses.2.1 57 = .ok (.getfield 42, 3) := by decide +kernel
theorem d_D_refuses_60 : decode M_D_refuses.2.1 60 = .ok (.iload_n 2, 1) := by decide +kernel
theorem d_D_refuses_61 : decode M_D_refuses.2.1 61 = .ok (.iaload, 1) := by decide +kernel
theorem d_D_refuses_62 : decode M_D_refuses.2.1 62 = .ok (.if_icmp .eq 7, 3) := by decide +kernel
theorem d_D_refuses_65 : decode M_D_refuses.2.1 65 = .ok (.iconst 1, 1) := by decide +kernel
theorem d_D_refuses_66 : decode M_D_refuses.2.1 66 = .ok (.goto 4, 3) := by decide +kernel
theorem d_D_refuses_69 : decode M_D_refuses.2.1 69 = .ok (.iconst 0, 1) := by decide +kernel
theorem d_D_refuses_70 : decode M_D_refuses.2.1 70 = .ok (.invokevirtual 104, 3) := by decide +kernel
theorem d_D_refuses_73 : decode M_D_refuses.2.1 73 = .ok (.ireturn, 1) := by decide +kernel
theorem d_D_isWhole_0 : decode M_D_isWhole.2.1 0 = .ok (.aload_n 0, 1) := by decide +kernel
theorem d_D_isWhole_1 : decode M_D_isWhole.2.1 1 = .ok (.getfield 54, 3) := by decide +kernel
theorem d_D_isWhole_4 : decode M_D_isWhole.2.1 4 = .ok (.iload_n 1, 1) := by decide +kernel
theorem d_D_isWhole_5 : decode M_D_isWhole.2.1 5 = .ok (.baload, 1) := by decide +kernel
theorem d_D_isWhole_6 : decode M_D_isWhole.2.1 6 = .ok (.ifCond .eq 16, 3) := by decide +kernel
theorem d_D_isWhole_9 : decode M_D_isWhole.2.1 9 = .ok (.aload_n 0, 1) := by decide +kernel
theorem d_D_isWhole_10 : decode M_D_isWhole.2.1 10 = .ok (.getfield 45, 3) := by decide +kernel
theorem d_D_isWhole_13 : decode M_D_isWhole.2.1 13 = .ok (.iload_n 1, 1) := by decide +kernel
theorem d_D_isWhole_14 : decode M_D_isWhole.2.1 14 = .ok (.iaload, 1) := by decide +kernel
theorem d_D_isWhole_15 : decode M_D_isWhole.2.1 15 = .ok (.ifCond .ne 7, 3) := by decide +kernel
theorem d_D_isWhole_18 : decode M_D_isWhole.2.1 18 = .ok (.iconst 1, 1) := by decide +kernel
theorem d_D_isWhole_19 : decode M_D_isWhole.2.1 19 = .ok (.goto 4, 3) := by decide +kernel
theorem d_D_isWhole_22 : decode M_D_isWhole.2.1 22 = .ok (.iconst 0, 1) := by decide +kernel
theorem d_D_isWhole_23 : decode M_D_isWhole.2.1 23 = .ok (.ireturn, 1) := by decide +kernel
theorem d_D_slot_0 : decode M_D_slot.2.1 0 = .ok (.iconst 0, 1) := by decide +kernel
theorem d_D_slot_1 : decode M_D_slot.2.1 1 = .ok (.istore_n 3, 1) := by decide +kernel
theorem d_D_slot_2 : decode M_D_slot.2.1 2 = .ok (.iload_n 3, 1) := by decide +kernel
theorem d_D_slot_3 : decode M_D_slot.2.1 3 = .ok (.aload_n 0, 1) := by decide +kernel
theorem d_D_slot_4 : decode M_D_slot.2.1 4 = .ok (.getfield 36, 3) := by decide +kernel
theorem d_D_slot_7 : decode M_D_slot.2.1 7 = .ok (.iload_n 2, 1) := by decide +kernel
theorem d_D_slot_8 : decode M_D_slot.2.1 8 = .ok (.iaload, 1) := by decide +kernel
theorem d_D_slot_9 : decode M_D_slot.2.1 9 = .ok (.if_icmp .ge 24, 3) := by decide +kernel
theorem d_D_slot_12 : decode M_D_slot.2.1 12 = .ok (.aload_n 1, 1) := by decide +kernel
theorem d_D_slot_13 : decode M_D_slot.2.1 13 = .ok (.iload_n 3, 1) := by decide +kernel
theorem d_D_slot_14 : decode M_D_slot.2.1 14 = .ok (.aload_n 0, 1) := by decide +kernel
theorem d_D_slot_15 : decode M_D_slot.2.1 15 = .ok (.getfield 33, 3) := by decide +kernel
theorem d_D_slot_18 : decode M_D_slot.2.1 18 = .ok (.sipush 160, 3) := by decide +kernel
theorem d_D_slot_21 : decode M_D_slot.2.1 21 = .ok (.iload_n 2, 1) := by decide +kernel
theorem d_D_slot_22 : decode M_D_slot.2.1 22 = .ok (.imul, 1) := by decide +kernel
theorem d_D_slot_23 : decode M_D_slot.2.1 23 = .ok (.iload_n 3, 1) := by decide +kernel
theorem d_D_slot_24 : decode M_D_slot.2.1 24 = .ok (.iadd, 1) := by decide +kernel
theorem d_D_slot_25 : decode M_D_slot.2.1 25 = .ok (.iaload, 1) := by decide +kernel
theorem d_D_slot_26 : decode M_D_slot.2.1 26 = .ok (.iastore, 1) := by decide +kernel
theorem d_D_slot_27 : decode M_D_slot.2.1 27 = .ok (.iinc 3 1, 3) := by decide +kernel
theorem d_D_slot_30 : decode M_D_slot.2.1 30 = .ok (.goto (-28), 3) := by decide +kernel
theorem d_D_slot_33 : decode M_D_slot.2.1 33 = .ok (.aload_n 0, 1) := by decide +kernel
theorem d_D_slot_34 : decode M_D_slot.2.1 34 = .ok (.aload_n 1, 1) := by decide +kernel
theorem d_D_slot_35 : decode M_D_slot.2.1 35 = .ok (.aload_n 0, 1) := by decide +kernel
theorem d_D_slot_36 : decode M_D_slot.2.1 36 = .ok (.getfield 36, 3) := by decide +kernel
theorem d_D_slot_39 : decode M_D_slot.2.1 39 = .ok (.iload_n 2, 1) := by decide +kernel
theorem d_D_slot_40 : decode M_D_slot.2.1 40 = .ok (.iaload, 1) := by decide +kernel
theorem d_D_slot_41 : decode M_D_slot.2.1 41 = .ok (.invokevirtual 141, 3) := by decide +kernel
theorem d_D_slot_44 : decode M_D_slot.2.1 44 = .ok (.ireturn, 1) := by decide +kernel
theorem d_D_write_0 : decode M_D_write.2.1 0 = .ok (.iload_n 2, 1) := by decide +kernel
theorem d_D_write_1 : decode M_D_write.2.1 1 = .ok (.istore_n 3, 1) := by decide +kernel
theorem d_D_write_2 : decode M_D_write.2.1 2 = .ok (.aload_n 0, 1) := by decide +kernel
theorem d_D_write_3 : decode M_D_write.2.1 3 = .ok (.aload_n 1, 1) := by decide +kernel
theorem d_D_write_4 : decode M_D_write.2.1 4 = .ok (.iload_n 3, 1) := by decide +kernel
theorem d_D_write_5 : decode M_D_write.2.1 5 = .ok (.invokevirtual 137, 3) := by decide +kernel
theorem d_D_write_8 : decode M_D_write.2.1 8 = .ok (.istore 4, 2) := by decide +kernel
theorem d_D_write_10 : decode M_D_write.2.1 10 = .ok (.iload 4, 2) := by decide +kernel
theorem d_D_write_12 : decode M_D_write.2.1 12 = .ok (.ifCond .lt 44, 3) := by decide +kernel
theorem d_D_write_15 : decode M_D_write.2.1 15 = .ok (.iconst 0, 1) := by decide +kernel
theorem d_D_write_16 : decode M_D_write.2.1 16 = .ok (.istore 5, 2) := by decide +kernel
theorem d_D_write_18 : decode M_D_write.2.1 18 = .ok (.iload 5, 2) := by decide +kernel
theorem d_D_write_20 : decode M_D_write.2.1 20 = .ok (.iload 4, 2) := by decide +kernel
theorem d_D_write_22 : decode M_D_write.2.1 22 = .ok (.if_icmp .ge 20, 3) := by decide +kernel
theorem d_D_write_25 : decode M_D_write.2.1 25 = .ok (.aload_n 1, 1) := by decide +kernel
theorem d_D_write_26 : decode M_D_write.2.1 26 = .ok (.iload 5, 2) := by decide +kernel
theorem d_D_write_28 : decode M_D_write.2.1 28 = .ok (.aload_n 0, 1) := by decide +kernel
theorem d_D_write_29 : decode M_D_write.2.1 29 = .ok (.getfield 63, 3) := by decide +kernel
theorem d_D_write_32 : decode M_D_write.2.1 32 = .ok (.iload 5, 2) := by decide +kernel
theorem d_D_write_34 : decode M_D_write.2.1 34 = .ok (.iaload, 1) := by decide +kernel
theorem d_D_write_35 : decode M_D_write.2.1 35 = .ok (.iastore, 1) := by decide +kernel
theorem d_D_write_36 : decode M_D_write.2.1 36 = .ok (.iinc 5 1, 3) := by decide +kernel
theorem d_D_write_39 : decode M_D_write.2.1 39 = .ok (.goto (-21), 3) := by decide +kernel
theorem d_D_write_42 : decode M_D_write.2.1 42 = .ok (.iload 4, 2) := by decide +kernel
theorem d_D_write_44 : decode M_D_write.2.1 44 = .ok (.istore_n 3, 1) := by decide +kernel
theorem d_D_write_45 : decode M_D_write.2.1 45 = .ok (.aload_n 0, 1) := by decide +kernel
theorem d_D_write_46 : decode M_D_write.2.1 46 = .ok (.aload_n 1, 1) := by decide +kernel
theorem d_D_write_47 : decode M_D_write.2.1 47 = .ok (.iload_n 3, 1) := by decide +kernel
theorem d_D_write_48 : decode M_D_write.2.1 48 = .ok (.invokevirtual 137, 3) := by decide +kernel
theorem d_D_write_51 : decode M_D_write.2.1 51 = .ok (.istore 4, 2) := by decide +kernel
theorem d_D_write_53 : decode M_D_write.2.1 53 = .ok (.goto (-43), 3) := by decide +kernel
theorem d_D_write_56 : decode M_D_write.2.1 56 = .ok (.iload_n 3, 1) := by decide +kernel
theorem d_D_write_57 : decode M_D_write.2.1 57 = .ok (.ireturn, 1) := by decide +kernel
theorem d_D_again_0 : decode M_D_again.2.1 0 = .ok (.iconst 0, 1) := by decide +kernel
theorem d_D_again_1 : decode M_D_again.2.1 1 = .ok (.istore_n 3, 1) := by decide +kernel
theorem d_D_again_2 : decode M_D_again.2.1 2 = .ok (.iconst 0, 1) := by decide +kernel
theorem d_D_again_3 : decode M_D_again.2.1 3 = .ok (.istore 4, 2) := by decide +kernel
theorem d_D_again_5 : decode M_D_again.2.1 5 = .ok (.iconst 0, 1) := by decide +kernel
theorem d_D_again_6 : decode M_D_again.2.1 6 = .ok (.istore 5, 2) := by decide +kernel
theorem d_D_again_8 : decode M_D_again.2.1 8 = .ok (.iload 5, 2) := by decide +kernel
theorem d_D_again_10 : decode M_D_again.2.1 10 = .ok (.iload_n 2, 1) := by decide +kernel
theorem d_D_again_11 : decode M_D_again.2.1 11 = .ok (.if_icmp .ge 291, 3) := by decide +kernel
theorem d_D_again_14 : decode M_D_again.2.1 14 = .ok (.aload_n 1, 1) := by decide +kernel
theorem d_D_again_15 : decode M_D_again.2.1 15 = .ok (.iload 5, 2) := by decide +kernel
theorem d_D_again_17 : decode M_D_again.2.1 17 = .ok (.iaload, 1) := by decide +kernel
theorem d_D_again_18 : decode M_D_again.2.1 18 = .ok (.iconst 2, 1) := by decide +kernel
theorem d_D_again_19 : decode M_D_again.2.1 19 = .ok (.ishr, 1) := by decide +kernel
theorem d_D_again_20 : decode M_D_again.2.1 20 = .ok (.istore 6, 2) := by decide +kernel
theorem d_D_again_22 : decode M_D_again.2.1 22 = .ok (.aload_n 1, 1) := by decide +kernel
theorem d_D_again_23 : decode M_D_again.2.1 23 = .ok (.iload 5, 2) := by decide +kernel
theorem d_D_again_25 : decode M_D_again.2.1 25 = .ok (.iaload, 1) := by decide +kernel
theorem d_D_again_26 : decode M_D_again.2.1 26 = .ok (.invokestatic 129, 3) := by decide +kernel
theorem d_D_again_29 : decode M_D_again.2.1 29 = .ok (.iconst 2, 1) := by decide +kernel
theorem d_D_again_30 : decode M_D_again.2.1 30 = .ok (.if_icmp .ne 13, 3) := by decide +kernel
theorem d_D_again_33 : decode M_D_again.2.1 33 = .ok (.aload_n 0, 1) := by decide +kernel
theorem d_D_again_34 : decode M_D_again.2.1 34 = .ok (.getfield 26, 3) := by decide +kernel
theorem d_D_again_37 : decode M_D_again.2.1 37 = .ok (.iload 6, 2) := by decide +kernel
theorem d_D_again_39 : decode M_D_again.2.1 39 = .ok (.baload, 1) := by decide +kernel
theorem d_D_again_40 : decode M_D_again.2.1 40 = .ok (.ifCond .ne 121, 3) := by decide +kernel
theorem d_D_again_43 : decode M_D_again.2.1 43 = .ok (.aload_n 0, 1) := by decide +kernel
theorem d_D_again_44 : decode M_D_again.2.1 44 = .ok (.getfield 63, 3) := by decide +kernel
theorem d_D_again_47 : decode M_D_again.2.1 47 = .ok (.iload_n 3, 1) := by decide +kernel
theorem d_D_again_48 : decode M_D_again.2.1 48 = .ok (.aload_n 1, 1) := by decide +kernel
theorem d_D_again_49 : decode M_D_again.2.1 49 = .ok (.iload 5, 2) := by decide +kernel
theorem d_D_again_51 : decode M_D_again.2.1 51 = .ok (.iaload, 1) := by decide +kernel
theorem d_D_again_52 : decode M_D_again.2.1 52 = .ok (.iastore, 1) := by decide +kernel
theorem d_D_again_53 : decode M_D_again.2.1 53 = .ok (.iinc 3 1, 3) := by decide +kernel
theorem d_D_again_56 : decode M_D_again.2.1 56 = .ok (.iconst 0, 1) := by decide +kernel
theorem d_D_again_57 : decode M_D_again.2.1 57 = .ok (.istore 7, 2) := by decide +kernel
theorem d_D_again_59 : decode M_D_again.2.1 59 = .ok (.aload_n 1, 1) := by decide +kernel
theorem d_D_again_60 : decode M_D_again.2.1 60 = .ok (.iload 5, 2) := by decide +kernel
theorem d_D_again_62 : decode M_D_again.2.1 62 = .ok (.iaload, 1) := by decide +kernel
theorem d_D_again_63 : decode M_D_again.2.1 63 = .ok (.invokestatic 129, 3) := by decide +kernel
theorem d_D_again_66 : decode M_D_again.2.1 66 = .ok (.iconst 2, 1) := by decide +kernel
theorem d_D_again_67 : decode M_D_again.2.1 67 = .ok (.if_icmp .ne 39, 3) := by decide +kernel
theorem d_D_again_70 : decode M_D_again.2.1 70 = .ok (.iload 7, 2) := by decide +kernel
theorem d_D_again_72 : decode M_D_again.2.1 72 = .ok (.aload_n 0, 1) := by decide +kernel
theorem d_D_again_73 : decode M_D_again.2.1 73 = .ok (.getfield 16, 3) := by decide +kernel
theorem d_D_again_76 : decode M_D_again.2.1 76 = .ok (.iload 6, 2) := by decide +kernel
theorem d_D_again_78 : decode M_D_again.2.1 78 = .ok (.iaload, 1) := by decide +kernel
theorem d_D_again_79 : decode M_D_again.2.1 79 = .ok (.if_icmp .ge 27, 3) := by decide +kernel
theorem d_D_again_82 : decode M_D_again.2.1 82 = .ok (.aload_n 0, 1) := by decide +kernel
theorem d_D_again_83 : decode M_D_again.2.1 83 = .ok (.getfield 63, 3) := by decide +kernel
theorem d_D_again_86 : decode M_D_again.2.1 86 = .ok (.iload_n 3, 1) := by decide +kernel
theorem d_D_again_87 : decode M_D_again.2.1 87 = .ok (.iload 7, 2) := by decide +kernel
theorem d_D_again_89 : decode M_D_again.2.1 89 = .ok (.iadd, 1) := by decide +kernel
theorem d_D_again_90 : decode M_D_again.2.1 90 = .ok (.aload_n 1, 1) := by decide +kernel
theorem d_D_again_91 : decode M_D_again.2.1 91 = .ok (.iload 5, 2) := by decide +kernel
theorem d_D_again_93 : decode M_D_again.2.1 93 = .ok (.iconst 1, 1) := by decide +kernel
theorem d_D_again_94 : decode M_D_again.2.1 94 = .ok (.iadd, 1) := by decide +kernel
theorem d_D_again_95 : decode M_D_again.2.1 95 = .ok (.iload 7, 2) := by decide +kernel
theorem d_D_again_97 : decode M_D_again.2.1 97 = .ok (.iadd, 1) := by decide +kernel
theorem d_D_again_98 : decode M_D_again.2.1 98 = .ok (.iaload, 1) := by decide +kernel
theorem d_D_again_99 : decode M_D_again.2.1 99 = .ok (.iastore, 1) := by decide +kernel
theorem d_D_again_100 : decode M_D_again.2.1 100 = .ok (.iinc 7 1, 3) := by decide +kernel
theorem d_D_again_103 : decode M_D_again.2.1 103 = .ok (.goto (-44), 3) := by decide +kernel
theorem d_D_again_106 : decode M_D_again.2.1 106 = .ok (.iload_n 3, 1) := by decide +kernel
theorem d_D_again_107 : decode M_D_again.2.1 107 = .ok (.aload_n 1, 1) := by decide +kernel
theorem d_D_again_108 : decode M_D_again.2.1 108 = .ok (.iload 5, 2) := by decide +kernel
theorem d_D_again_110 : decode M_D_again.2.1 110 = .ok (.iaload, 1) := by decide +kernel
theorem d_D_again_111 : decode M_D_again.2.1 111 = .ok (.invokestatic 129, 3) := by decide +kernel
theorem d_D_again_114 : decode M_D_again.2.1 114 = .ok (.iconst 2, 1) := by decide +kernel
theorem d_D_again_115 : decode M_D_again.2.1 115 = .ok (.if_icmp .ne 13, 3) := by decide +kernel
theorem d_D_again_118 : decode M_D_again.2.1 118 = .ok (.aload_n 0, 1) := by decide +kernel
theorem d_D_again_119 : decode M_D_again.2.1 119 = .ok (.getfield 16, 3) := by decide +kernel
theorem d_D_again_122 : decode M_D_again.2.1 122 = .ok (.iload 6, 2) := by decide +kernel
theorem d_D_again_124 : decode M_D_again.2.1 124 = .ok (.iaload, 1) := by decide +kernel
theorem d_D_again_125 : decode M_D_again.2.1 125 = .ok (.goto 4, 3) := by decide +kernel
theorem d_D_again_128 : decode M_D_again.2.1 128 = .ok (.iconst 0, 1) := by decide +kernel
theorem d_D_again_129 : decode M_D_again.2.1 129 = .ok (.iadd, 1) := by decide +kernel
theorem d_D_again_130 : decode M_D_again.2.1 130 = .ok (.istore_n 3, 1) := by decide +kernel
theorem d_D_again_131 : decode M_D_again.2.1 131 = .ok (.iload 5, 2) := by decide +kernel
theorem d_D_again_133 : decode M_D_again.2.1 133 = .ok (.aload_n 1, 1) := by decide +kernel
theorem d_D_again_134 : decode M_D_again.2.1 134 = .ok (.iload 5, 2) := by decide +kernel
theorem d_D_again_136 : decode M_D_again.2.1 136 = .ok (.iaload, 1) := by decide +kernel
theorem d_D_again_137 : decode M_D_again.2.1 137 = .ok (.invokestatic 129, 3) := by decide +kernel
theorem d_D_again_140 : decode M_D_again.2.1 140 = .ok (.iconst 2, 1) := by decide +kernel
theorem d_D_again_141 : decode M_D_again.2.1 141 = .ok (.if_icmp .ne 13, 3) := by decide +kernel
theorem d_D_again_144 : decode M_D_again.2.1 144 = .ok (.aload_n 0, 1) := by decide +kernel
theorem d_D_again_145 : decode M_D_again.2.1 145 = .ok (.getfield 16, 3) := by decide +kernel
theorem d_D_again_148 : decode M_D_again.2.1 148 = .ok (.iload 6, 2) := by decide +kernel
theorem d_D_again_150 : decode M_D_again.2.1 150 = .ok (.iaload, 1) := by decide +kernel
theorem d_D_again_151 : decode M_D_again.2.1 151 = .ok (.goto 4, 3) := by decide +kernel
theorem d_D_again_154 : decode M_D_again.2.1 154 = .ok (.iconst 0, 1) := by decide +kernel
theorem d_D_again_155 : decode M_D_again.2.1 155 = .ok (.iadd, 1) := by decide +kernel
theorem d_D_again_156 : decode M_D_again.2.1 156 = .ok (.istore 5, 2) := by decide +kernel
theorem d_D_again_158 : decode M_D_again.2.1 158 = .ok (.goto 138, 3) := by decide +kernel
theorem d_D_again_161 : decode M_D_again.2.1 161 = .ok (.iconst 1, 1) := by decide +kernel
theorem d_D_again_162 : decode M_D_again.2.1 162 = .ok (.istore 4, 2) := by decide +kernel
theorem d_D_again_164 : decode M_D_again.2.1 164 = .ok (.aload_n 0, 1) := by decide +kernel
theorem d_D_again_165 : decode M_D_again.2.1 165 = .ok (.aload_n 0, 1) := by decide +kernel
theorem d_D_again_166 : decode M_D_again.2.1 166 = .ok (.getfield 23, 3) := by decide +kernel
theorem d_D_again_169 : decode M_D_again.2.1 169 = .ok (.sipush 400, 3) := by decide +kernel
theorem d_D_again_172 : decode M_D_again.2.1 172 = .ok (.iload 6, 2) := by decide +kernel
theorem d_D_again_174 : decode M_D_again.2.1 174 = .ok (.imul, 1) := by decide +kernel
theorem d_D_again_175 : decode M_D_again.2.1 175 = .ok (.aload_n 0, 1) := by decide +kernel
theorem d_D_again_176 : decode M_D_again.2.1 176 = .ok (.getfield 19, 3) := by decide +kernel
theorem d_D_again_179 : decode M_D_again.2.1 179 = .ok (.iload 6, 2) := by decide +kernel
theorem d_D_again_181 : decode M_D_again.2.1 181 = .ok (.iaload, 1) := by decide +kernel
theorem d_D_again_182 : decode M_D_again.2.1 182 = .ok (.invokevirtual 133, 3) := by decide +kernel
theorem d_D_again_185 : decode M_D_again.2.1 185 = .ok (.iconst 0, 1) := by decide +kernel
theorem d_D_again_186 : decode M_D_again.2.1 186 = .ok (.istore 7, 2) := by decide +kernel
theorem d_D_again_188 : decode M_D_again.2.1 188 = .ok (.iload 7, 2) := by decide +kernel
theorem d_D_again_190 : decode M_D_again.2.1 190 = .ok (.aload_n 0, 1) := by decide +kernel
theorem d_D_again_191 : decode M_D_again.2.1 191 = .ok (.getfield 19, 3) := by decide +kernel
theorem d_D_again_194 : decode M_D_again.2.1 194 = .ok (.iload 6, 2) := by decide +kernel
theorem d_D_again_196 : decode M_D_again.2.1 196 = .ok (.iaload, 1) := by decide +kernel
theorem d_D_again_197 : decode M_D_again.2.1 197 = .ok (.if_icmp .ge 87, 3) := by decide +kernel
theorem d_D_again_200 : decode M_D_again.2.1 200 = .ok (.aload_n 0, 1) := by decide +kernel
theorem d_D_again_201 : decode M_D_again.2.1 201 = .ok (.getfield 23, 3) := by decide +kernel
theorem d_D_again_204 : decode M_D_again.2.1 204 = .ok (.sipush 400, 3) := by decide +kernel
theorem d_D_again_207 : decode M_D_again.2.1 207 = .ok (.iload 6, 2) := by decide +kernel
theorem d_D_again_209 : decode M_D_again.2.1 209 = .ok (.imul, 1) := by decide +kernel
theorem d_D_again_210 : decode M_D_again.2.1 210 = .ok (.iload 7, 2) := by decide +kernel
theorem d_D_again_212 : decode M_D_again.2.1 212 = .ok (.iadd, 1) := by decide +kernel
theorem d_D_again_213 : decode M_D_again.2.1 213 = .ok (.iaload, 1) := by decide +kernel
theorem d_D_again_214 : decode M_D_again.2.1 214 = .ok (.istore 8, 2) := by decide +kernel
theorem d_D_again_216 : decode M_D_again.2.1 216 = .ok (.iload 8, 2) := by decide +kernel
theorem d_D_again_218 : decode M_D_again.2.1 218 = .ok (.iconst 2, 1) := by decide +kernel
theorem d_D_again_219 : decode M_D_again.2.1 219 = .ok (.ishr, 1) := by decide +kernel
theorem d_D_again_220 : decode M_D_again.2.1 220 = .ok (.aload_n 0, 1) := by decide +kernel
theorem d_D_again_221 : decode M_D_again.2.1 221 = .ok (.getfield 66, 3) := by decide +kernel
theorem d_D_again_224 : decode M_D_again.2.1 224 = .ok (.iload 7, 2) := by decide +kernel
theorem d_D_again_226 : decode M_D_again.2.1 226 = .ok (.iaload, 1) := by decide +kernel
theorem d_D_again_227 : decode M_D_again.2.1 227 = .ok (.isub, 1) := by decide +kernel
theorem d_D_again_228 : decode M_D_again.2.1 228 = .ok (.istore 9, 2) := by decide +kernel
theorem d_D_again_230 : decode M_D_again.2.1 230 = .ok (.aload_n 0, 1) := by decide +kernel
theorem d_D_again_231 : decode M_D_again.2.1 231 = .ok (.getfield 63, 3) := by decide +kernel
theorem d_D_again_234 : decode M_D_again.2.1 234 = .ok (.iload_n 3, 1) := by decide +kernel
theorem d_D_again_235 : decode M_D_again.2.1 235 = .ok (.iload 8, 2) := by decide +kernel
theorem d_D_again_237 : decode M_D_again.2.1 237 = .ok (.invokestatic 129, 3) := by decide +kernel
theorem d_D_again_240 : decode M_D_again.2.1 240 = .ok (.ifCond .ne 8, 3) := by decide +kernel
theorem d_D_again_243 : decode M_D_again.2.1 243 = .ok (.iload 9, 2) := by decide +kernel
theorem d_D_again_245 : decode M_D_again.2.1 245 = .ok (.ifCond .ge 8, 3) := by decide +kernel
theorem d_D_again_248 : decode M_D_again.2.1 248 = .ok (.iload 8, 2) := by decide +kernel
theorem d_D_again_250 : decode M_D_again.2.1 250 = .ok (.goto 24, 3) := by decide +kernel
theorem d_D_again_253 : decode M_D_again.2.1 253 = .ok (.iconst 4, 1) := by decide +kernel
theorem d_D_again_254 : decode M_D_again.2.1 254 = .ok (.aload_n 1, 1) := by decide +kernel
theorem d_D_again_255 : decode M_D_again.2.1 255 = .ok (.iload 5, 2) := by decide +kernel
theorem d_D_again_257 : decode M_D_again.2.1 257 = .ok (.iconst 1, 1) := by decide +kernel
theorem d_D_again_258 : decode M_D_again.2.1 258 = .ok (.iadd, 1) := by decide +kernel
theorem d_D_again_259 : decode M_D_again.2.1 259 = .ok (.iload 9, 2) := by decide +kernel
theorem d_D_again_261 : decode M_D_again.2.1 261 = .ok (.iadd, 1) := by decide +kernel
theorem d_D_again_262 : decode M_D_again.2.1 262 = .ok (.iaload, 1) := by decide +kernel
theorem d_D_again_263 : decode M_D_again.2.1 263 = .ok (.iconst 2, 1) := by decide +kernel
theorem d_D_again_264 : decode M_D_again.2.1 264 = .ok (.ishr, 1) := by decide +kernel
theorem d_D_again_265 : decode M_D_again.2.1 265 = .ok (.aload_n 0, 1) := by decide +kernel
theorem d_D_again_266 : decode M_D_again.2.1 266 = .ok (.getfield 66, 3) := by decide +kernel
theorem d_D_again_269 : decode M_D_again.2.1 269 = .ok (.iload 7, 2) := by decide +kernel
theorem d_D_again_271 : decode M_D_again.2.1 271 = .ok (.iaload, 1) := by decide +kernel
theorem d_D_again_272 : decode M_D_again.2.1 272 = .ok (.iadd, 1) := by decide +kernel
theorem d_D_again_273 : decode M_D_again.2.1 273 = .ok (.imul, 1) := by decide +kernel
theorem d_D_again_274 : decode M_D_again.2.1 274 = .ok (.iastore, 1) := by decide +kernel
theorem d_D_again_275 : decode M_D_again.2.1 275 = .ok (.iinc 3 1, 3) := by decide +kernel
theorem d_D_again_278 : decode M_D_again.2.1 278 = .ok (.iinc 7 1, 3) := by decide +kernel
theorem d_D_again_281 : decode M_D_again.2.1 281 = .ok (.goto (-93), 3) := by decide +kernel
theorem d_D_again_284 : decode M_D_again.2.1 284 = .ok (.iload 5, 2) := by decide +kernel
theorem d_D_again_286 : decode M_D_again.2.1 286 = .ok (.aload_n 0, 1) := by decide +kernel
theorem d_D_again_287 : decode M_D_again.2.1 287 = .ok (.getfield 16, 3) := by decide +kernel
theorem d_D_again_290 : decode M_D_again.2.1 290 = .ok (.iload 6, 2) := by decide +kernel
theorem d_D_again_292 : decode M_D_again.2.1 292 = .ok (.iaload, 1) := by decide +kernel
theorem d_D_again_293 : decode M_D_again.2.1 293 = .ok (.iadd, 1) := by decide +kernel
theorem d_D_again_294 : decode M_D_again.2.1 294 = .ok (.istore 5, 2) := by decide +kernel
theorem d_D_again_296 : decode M_D_again.2.1 296 = .ok (.iinc 5 1, 3) := by decide +kernel
theorem d_D_again_299 : decode M_D_again.2.1 299 = .ok (.goto (-291), 3) := by decide +kernel
theorem d_D_again_302 : decode M_D_again.2.1 302 = .ok (.iload 4, 2) := by decide +kernel
theorem d_D_again_304 : decode M_D_again.2.1 304 = .ok (.ifCond .eq 7, 3) := by decide +kernel
theorem d_D_again_307 : decode M_D_again.2.1 307 = .ok (.iload_n 3, 1) := by decide +kernel
theorem d_D_again_308 : decode M_D_again.2.1 308 = .ok (.goto 4, 3) := by decide +kernel
theorem d_D_again_311 : decode M_D_again.2.1 311 = .ok (.iconst (-1), 1) := by decide +kernel
theorem d_D_again_312 : decode M_D_again.2.1 312 = .ok (.ireturn, 1) := by decide +kernel
theorem d_D_sort_0 : decode M_D_sort.2.1 0 = .ok (.iload_n 0, 1) := by decide +kernel
theorem d_D_sort_1 : decode M_D_sort.2.1 1 = .ok (.iconst 3, 1) := by decide +kernel
theorem d_D_sort_2 : decode M_D_sort.2.1 2 = .ok (.iand, 1) := by decide +kernel
theorem d_D_sort_3 : decode M_D_sort.2.1 3 = .ok (.ireturn, 1) := by decide +kernel
theorem d_D_measure_0 : decode M_D_measure.2.1 0 = .ok (.iconst 1, 1) := by decide +kernel
theorem d_D_measure_1 : decode M_D_measure.2.1 1 = .ok (.istore 4, 2) := by decide +kernel
theorem d_D_measure_3 : decode M_D_measure.2.1 3 = .ok (.aload_n 0, 1) := by decide +kernel
theorem d_D_measure_4 : decode M_D_measure.2.1 4 = .ok (.getfield 69, 3) := by decide +kernel
theorem d_D_measure_7 : decode M_D_measure.2.1 7 = .ok (.iconst 0, 1) := by decide +kernel
theorem d_D_measure_8 : decode M_D_measure.2.1 8 = .ok (.iconst 0, 1) := by decide +kernel
theorem d_D_measure_9 : decode M_D_measure.2.1 9 = .ok (.iastore, 1) := by decide +kernel
theorem d_D_measure_10 : decode M_D_measure.2.1 10 = .ok (.iconst 0, 1) := by decide +kernel
theorem d_D_measure_11 : decode M_D_measure.2.1 11 = .ok (.istore 5, 2) := by decide +kernel
theorem d_D_measure_13 : decode M_D_measure.2.1 13 = .ok (.iload 5, 2) := by decide +kernel
theorem d_D_measure_15 : decode M_D_measure.2.1 15 = .ok (.iload_n 3, 1) := by decide +kernel
theorem d_D_measure_16 : decode M_D_measure.2.1 16 = .ok (.if_icmp .ge 159, 3) := by decide +kernel
theorem d_D_measure_19 : decode M_D_measure.2.1 19 = .ok (.aload_n 1, 1) := by decide +kernel
theorem d_D_measure_20 : decode M_D_measure.2.1 20 = .ok (.iload_n 2, 1) := by decide +kernel
theorem d_D_measure_21 : decode M_D_measure.2.1 21 = .ok (.iload 5, 2) := by decide +kernel
theorem d_D_measure_23 : decode M_D_measure.2.1 23 = .ok (.iadd, 1) := by decide +kernel
theorem d_D_measure_24 : decode M_D_measure.2.1 24 = .ok (.iaload, 1) := by decide +kernel
theorem d_D_measure_25 : decode M_D_measure.2.1 25 = .ok (.istore 6, 2) := by decide +kernel
theorem d_D_measure_27 : decode M_D_measure.2.1 27 = .ok (.iinc 4 (-1), 3) := by decide +kernel
theorem d_D_measure_30 : decode M_D_measure.2.1 30 = .ok (.aload_n 0, 1) := by decide +kernel
theorem d_D_measure_31 : decode M_D_measure.2.1 31 = .ok (.getfield 69, 3) := by decide +kernel
theorem d_D_measure_34 : decode M_D_measure.2.1 34 = .ok (.iload 4, 2) := by decide +kernel
theorem d_D_measure_36 : decode M_D_measure.2.1 36 = .ok (.iaload, 1) := by decide +kernel
theorem d_D_measure_37 : decode M_D_measure.2.1 37 = .ok (.istore 7, 2) := by decide +kernel
theorem d_D_measure_39 : decode M_D_measure.2.1 39 = .ok (.aload_n 0, 1) := by decide +kernel
theorem d_D_measure_40 : decode M_D_measure.2.1 40 = .ok (.getfield 66, 3) := by decide +kernel
theorem d_D_measure_43 : decode M_D_measure.2.1 43 = .ok (.iload 5, 2) := by decide +kernel
theorem d_D_measure_45 : decode M_D_measure.2.1 45 = .ok (.iload 7, 2) := by decide +kernel
theorem d_D_measure_47 : decode M_D_measure.2.1 47 = .ok (.iastore, 1) := by decide +kernel
theorem d_D_measure_48 : decode M_D_measure.2.1 48 = .ok (.iload 6, 2) := by decide +kernel
theorem d_D_measure_50 : decode M_D_measure.2.1 50 = .ok (.iconst 2, 1) := by decide +kernel
theorem d_D_measure_51 : decode M_D_measure.2.1 51 = .ok (.ishr, 1) := by decide +kernel
theorem d_D_measure_52 : decode M_D_measure.2.1 52 = .ok (.istore 8, 2) := by decide +kernel
theorem d_D_measure_54 : decode M_D_measure.2.1 54 = .ok (.iload 6, 2) := by decide +kernel
theorem d_D_measure_56 : decode M_D_measure.2.1 56 = .ok (.invokestatic 129, 3) := by decide +kernel
theorem d_D_measure_59 : decode M_D_measure.2.1 59 = .ok (.iconst 1, 1) := by decide +kernel
theorem d_D_measure_60 : decode M_D_measure.2.1 60 = .ok (.if_icmp .ne 50, 3) := by decide +kernel
theorem d_D_measure_63 : decode M_D_measure.2.1 63 = .ok (.aload_n 0, 1) := by decide +kernel
theorem d_D_measure_64 : decode M_D_measure.2.1 64 = .ok (.getfield 7, 3) := by decide +kernel
theorem d_D_measure_67 : decode M_D_measure.2.1 67 = .ok (.iload 8, 2) := by decide +kernel
theorem d_D_measure_69 : decode M_D_measure.2.1 69 = .ok (.iaload, 1) := by decide +kernel
theorem d_D_measure_70 : decode M_D_measure.2.1 70 = .ok (.iconst 1, 1) := by decide +kernel
theorem d_D_measure_71 : decode M_D_measure.2.1 71 = .ok (.isub, 1) := by decide +kernel
theorem d_D_measure_72 : decode M_D_measure.2.1 72 = .ok (.istore 9, 2) := by decide +kernel
theorem d_D_measure_74 : decode M_D_measure.2.1 74 = .ok (.iload 9, 2) := by decide +kernel
theorem d_D_measure_76 : decode M_D_measure.2.1 76 = .ok (.ifCond .lt 34, 3) := by decide +kernel
theorem d_D_measure_79 : decode M_D_measure.2.1 79 = .ok (.aload_n 0, 1) := by decide +kernel
theorem d_D_measure_80 : decode M_D_measure.2.1 80 = .ok (.getfield 69, 3) := by decide +kernel
theorem d_D_measure_83 : decode M_D_measure.2.1 83 = .ok (.iload 4, 2) := by decide +kernel
theorem d_D_measure_85 : decode M_D_measure.2.1 85 = .ok (.iload 7, 2) := by decide +kernel
theorem d_D_measure_87 : decode M_D_measure.2.1 87 = .ok (.aload_n 0, 1) := by decide +kernel
theorem d_D_measure_88 : decode M_D_measure.2.1 88 = .ok (.getfield 13, 3) := by decide +kernel
theorem d_D_measure_91 : decode M_D_measure.2.1 91 = .ok (.iconst 3, 1) := by decide +kernel
theorem d_D_measure_92 : decode M_D_measure.2.1 92 = .ok (.iload 8, 2) := by decide +kernel
theorem d_D_measure_94 : decode M_D_measure.2.1 94 = .ok (.imul, 1) := by decide +kernel
theorem d_D_measure_95 : decode M_D_measure.2.1 95 = .ok (.iload 9, 2) := by decide +kernel
theorem d_D_measure_97 : decode M_D_measure.2.1 97 = .ok (.iadd, 1) := by decide +kernel
theorem d_D_measure_98 : decode M_D_measure.2.1 98 = .ok (.iaload, 1) := by decide +kernel
theorem d_D_measure_99 : decode M_D_measure.2.1 99 = .ok (.iadd, 1) := by decide +kernel
theorem d_D_measure_100 : decode M_D_measure.2.1 100 = .ok (.iastore, 1) := by decide +kernel
theorem d_D_measure_101 : decode M_D_measure.2.1 101 = .ok (.iinc 4 1, 3) := by decide +kernel
theorem d_D_measure_104 : decode M_D_measure.2.1 104 = .ok (.iinc 9 (-1), 3) := by decide +kernel
theorem d_D_measure_107 : decode M_D_measure.2.1 107 = .ok (.goto (-33), 3) := by decide +kernel
theorem d_D_measure_110 : decode M_D_measure.2.1 110 = .ok (.iload 6, 2) := by decide +kernel
theorem d_D_measure_112 : decode M_D_measure.2.1 112 = .ok (.invokestatic 129, 3) := by decide +kernel
theorem d_D_measure_115 : decode M_D_measure.2.1 115 = .ok (.iconst 2, 1) := by decide +kernel
theorem d_D_measure_116 : decode M_D_measure.2.1 116 = .ok (.if_icmp .eq 6, 3) := by decide +kernel
theorem d_D_measure_119 : decode M_D_measure.2.1 119 = .ok (.goto 50, 3) := by decide +kernel
theorem d_D_measure_122 : decode M_D_measure.2.1 122 = .ok (.iconst 0, 1) := by decide +kernel
theorem d_D_measure_123 : decode M_D_measure.2.1 123 = .ok (.istore 9, 2) := by decide +kernel
theorem d_D_measure_125 : decode M_D_measure.2.1 125 = .ok (.iload 9, 2) := by decide +kernel
theorem d_D_measure_127 : decode M_D_measure.2.1 127 = .ok (.aload_n 0, 1) := by decide +kernel
theorem d_D_measure_128 : decode M_D_measure.2.1 128 = .ok (.getfield 16, 3) := by decide +kernel
theorem d_D_measure_131 : decode M_D_measure.2.1 131 = .ok (.iload 8, 2) := by decide +kernel
theorem d_D_measure_133 : decode M_D_measure.2.1 133 = .ok (.iaload, 1) := by decide +kernel
theorem d_D_measure_134 : decode M_D_measure.2.1 134 = .ok (.if_icmp .ge 23, 3) := by decide +kernel
theorem d_D_measure_137 : decode M_D_measure.2.1 137 = .ok (.aload_n 0, 1) := by decide +kernel
theorem d_D_measure_138 : decode M_D_measure.2.1 138 = .ok (.getfield 66, 3) := by decide +kernel
theorem d_D_measure_141 : decode M_D_measure.2.1 141 = .ok (.iload 5, 2) := by decide +kernel
theorem d_D_measure_143 : decode M_D_measure.2.1 143 = .ok (.iconst 1, 1) := by decide +kernel
theorem d_D_measure_144 : decode M_D_measure.2.1 144 = .ok (.iadd, 1) := by decide +kernel
theorem d_D_measure_145 : decode M_D_measure.2.1 145 = .ok (.iload 9, 2) := by decide +kernel
theorem d_D_measure_147 : decode M_D_measure.2.1 147 = .ok (.iadd, 1) := by decide +kernel
theorem d_D_measure_148 : decode M_D_measure.2.1 148 = .ok (.iload 7, 2) := by decide +kernel
theorem d_D_measure_150 : decode M_D_measure.2.1 150 = .ok (.iastore, 1) := by decide +kernel
theorem d_D_measure_151 : decode M_D_measure.2.1 151 = .ok (.iinc 9 1, 3) := by decide +kernel
theorem d_D_measure_154 : decode M_D_measure.2.1 154 = .ok (.goto (-29), 3) := by decide +kernel
theorem d_D_measure_157 : decode M_D_measure.2.1 157 = .ok (.iload 5, 2) := by decide +kernel
theorem d_D_measure_159 : decode M_D_measure.2.1 159 = .ok (.aload_n 0, 1) := by decide +kernel
theorem d_D_measure_160 : decode M_D_measure.2.1 160 = .ok (.getfield 16, 3) := by decide +kernel
theorem d_D_measure_163 : decode M_D_measure.2.1 163 = .ok (.iload 8, 2) := by decide +kernel
theorem d_D_measure_165 : decode M_D_measure.2.1 165 = .ok (.iaload, 1) := by decide +kernel
theorem d_D_measure_166 : decode M_D_measure.2.1 166 = .ok (.iadd, 1) := by decide +kernel
theorem d_D_measure_167 : decode M_D_measure.2.1 167 = .ok (.istore 5, 2) := by decide +kernel
theorem d_D_measure_169 : decode M_D_measure.2.1 169 = .ok (.iinc 5 1, 3) := by decide +kernel
theorem d_D_measure_172 : decode M_D_measure.2.1 172 = .ok (.goto (-159), 3) := by decide +kernel
theorem d_D_measure_175 : decode M_D_measure.2.1 175 = .ok (.return_, 1) := by decide +kernel
theorem d_D_equation_0 : decode M_D_equation.2.1 0 = .ok (.aload_n 0, 1) := by decide +kernel
theorem d_D_equation_1 : decode M_D_equation.2.1 1 = .ok (.getfield 151, 3) := by decide +kernel
theorem d_D_equation_4 : decode M_D_equation.2.1 4 = .ok (.ifCond .ne 7, 3) := by decide +kernel
theorem d_D_equation_7 : decode M_D_equation.2.1 7 = .ok (.iconst 0, 1) := by decide +kernel
theorem d_D_equation_8 : decode M_D_equation.2.1 8 = .ok (.goto 14, 3) := by decide +kernel
theorem d_D_equation_11 : decode M_D_equation.2.1 11 = .ok (.aload_n 0, 1) := by decide +kernel
theorem d_D_equation_12 : decode M_D_equation.2.1 12 = .ok (.getfield 85, 3) := by decide +kernel
theorem d_D_equation_15 : decode M_D_equation.2.1 15 = .ok (.aload_n 0, 1) := by decide +kernel
theorem d_D_equation_16 : decode M_D_equation.2.1 16 = .ok (.getfield 151, 3) := by decide +kernel
theorem d_D_equation_19 : decode M_D_equation.2.1 19 = .ok (.iconst 1, 1) := by decide +kernel
theorem d_D_equation_20 : decode M_D_equation.2.1 20 = .ok (.isub, 1) := by decide +kernel
theorem d_D_equation_21 : decode M_D_equation.2.1 21 = .ok (.iaload, 1) := by decide +kernel
theorem d_D_equation_22 : decode M_D_equation.2.1 22 = .ok (.istore 7, 2) := by decide +kernel
theorem d_D_equation_24 : decode M_D_equation.2.1 24 = .ok (.aload_n 0, 1) := by decide +kernel
theorem d_D_equation_25 : decode M_D_equation.2.1 25 = .ok (.getfield 79, 3) := by decide +kernel
theorem d_D_equation_28 : decode M_D_equation.2.1 28 = .ok (.aload_n 0, 1) := by decide +kernel
theorem d_D_equation_29 : decode M_D_equation.2.1 29 = .ok (.getfield 151, 3) := by decide +kernel
theorem d_D_equation_32 : decode M_D_equation.2.1 32 = .ok (.iload 7, 2) := by decide +kernel
theorem d_D_equation_34 : decode M_D_equation.2.1 34 = .ok (.iastore, 1) := by decide +kernel
theorem d_D_equation_35 : decode M_D_equation.2.1 35 = .ok (.iload_n 2, 1) := by decide +kernel
theorem d_D_equation_36 : decode M_D_equation.2.1 36 = .ok (.istore 8, 2) := by decide +kernel
theorem d_D_equation_38 : decode M_D_equation.2.1 38 = .ok (.iload 8, 2) := by decide +kernel
theorem d_D_equation_40 : decode M_D_equation.2.1 40 = .ok (.iload_n 3, 1) := by decide +kernel
theorem d_D_equation_41 : decode M_D_equation.2.1 41 = .ok (.if_icmp .ge 25, 3) := by decide +kernel
theorem d_D_equation_44 : decode M_D_equation.2.1 44 = .ok (.aload_n 0, 1) := by decide +kernel
theorem d_D_equation_45 : decode M_D_equation.2.1 45 = .ok (.getfield 76, 3) := by decide +kernel
theorem d_D_equation_48 : decode M_D_equation.2.1 48 = .ok (.iload 7, 2) := by decide +kernel
theorem d_D_equation_50 : decode M_D_equation.2.1 50 = .ok (.iload 8, 2) := by decide +kernel
theorem d_D_equation_52 : decode M_D_equation.2.1 52 = .ok (.iadd, 1) := by decide +kernel
theorem d_D_equation_53 : decode M_D_equation.2.1 53 = .ok (.iload_n 2, 1) := by decide +kernel
theorem d_D_equation_54 : decode M_D_equation.2.1 54 = .ok (.isub, 1) := by decide +kernel
theorem d_D_equation_55 : decode M_D_equation.2.1 55 = .ok (.aload_n 1, 1) := by decide +kernel
theorem d_D_equation_56 : decode M_D_equation.2.1 56 = .ok (.iload 8, 2) := by decide +kernel
theorem d_D_equation_58 : decode M_D_equation.2.1 58 = .ok (.iaload, 1) := by decide +kernel
theorem d_D_equation_59 : decode M_D_equation.2.1 59 = .ok (.iastore, 1) := by decide +kernel
theorem d_D_equation_60 : decode M_D_equation.2.1 60 = .ok (.iinc 8 1, 3) := by decide +kernel
theorem d_D_equation_63 : decode M_D_equation.2.1 63 = .ok (.goto (-25), 3) := by decide +kernel
theorem d_D_equation_66 : decode M_D_equation.2.1 66 = .ok (.iload 7, 2) := by decide +kernel
theorem d_D_equation_68 : decode M_D_equation.2.1 68 = .ok (.iload_n 3, 1) := by decide +kernel
theorem d_D_equation_69 : decode M_D_equation.2.1 69 = .ok (.iload_n 2, 1) := by decide +kernel
theorem d_D_equation_70 : decode M_D_equation.2.1 70 = .ok (.isub, 1) := by decide +kernel
theorem d_D_equation_71 : decode M_D_equation.2.1 71 = .ok (.iadd, 1) := by decide +kernel
theorem d_D_equation_72 : decode M_D_equation.2.1 72 = .ok (.istore 7, 2) := by decide +kernel
theorem d_D_equation_74 : decode M_D_equation.2.1 74 = .ok (.aload_n 0, 1) := by decide +kernel
theorem d_D_equation_75 : decode M_D_equation.2.1 75 = .ok (.getfield 82, 3) := by decide +kernel
theorem d_D_equation_78 : decode M_D_equation.2.1 78 = .ok (.aload_n 0, 1) := by decide +kernel
theorem d_D_equation_79 : decode M_D_equation.2.1 79 = .ok (.getfield 151, 3) := by decide +kernel
theorem d_D_equation_82 : decode M_D_equation.2.1 82 = .ok (.iload 7, 2) := by decide +kernel
theorem d_D_equation_84 : decode M_D_equation.2.1 84 = .ok (.iastore, 1) := by decide +kernel
theorem d_D_equation_85 : decode M_D_equation.2.1 85 = .ok (.iload 5, 2) := by decide +kernel
theorem d_D_equation_87 : decode M_D_equation.2.1 87 = .ok (.istore 8, 2) := by decide +kernel
theorem d_D_equation_89 : decode M_D_equation.2.1 89 = .ok (.iload 8, 2) := by decide +kernel
theorem d_D_equation_91 : decode M_D_equation.2.1 91 = .ok (.iload 6, 2) := by decide +kernel
theorem d_D_equation_93 : decode M_D_equation.2.1 93 = .ok (.if_icmp .ge 27, 3) := by decide +kernel
theorem d_D_equation_96 : decode M_D_equation.2.1 96 = .ok (.aload_n 0, 1) := by decide +kernel
theorem d_D_equation_97 : decode M_D_equation.2.1 97 = .ok (.getfield 76, 3) := by decide +kernel
theorem d_D_equation_100 : decode M_D_equation.2.1 100 = .ok (.iload 7, 2) := by decide +kernel
theorem d_D_equation_102 : decode M_D_equation.2.1 102 = .ok (.iload 8, 2) := by decide +kernel
theorem d_D_equation_104 : decode M_D_equation.2.1 104 = .ok (.iadd, 1) := by decide +kernel
theorem d_D_equation_105 : decode M_D_equation.2.1 105 = .ok (.iload 5, 2) := by decide +kernel
theorem d_D_equation_107 : decode M_D_equation.2.1 107 = .ok (.isub, 1) := by decide +kernel
theorem d_D_equation_108 : decode M_D_equation.2.1 108 = .ok (.aload 4, 2) := by decide +kernel
theorem d_D_equation_110 : decode M_D_equation.2.1 110 = .ok (.iload 8, 2) := by decide +kernel
theorem d_D_equation_112 : decode M_D_equation.2.1 112 = .ok (.iaload, 1) := by decide +kernel
theorem d_D_equation_113 : decode M_D_equation.2.1 113 = .ok (.iastore, 1) := by decide +kernel
theorem d_D_equation_114 : decode M_D_equation.2.1 114 = .ok (.iinc 8 1, 3) := by decide +kernel
theorem d_D_equation_117 : decode M_D_equation.2.1 117 = .ok (.goto (-28), 3) := by decide +kernel
theorem d_D_equation_120 : decode M_D_equation.2.1 120 = .ok (.aload_n 0, 1) := by decide +kernel
theorem d_D_equation_121 : decode M_D_equation.2.1 121 = .ok (.getfield 85, 3) := by decide +kernel
theorem d_D_equation_124 : decode M_D_equation.2.1 124 = .ok (.aload_n 0, 1) := by decide +kernel
theorem d_D_equation_125 : decode M_D_equation.2.1 125 = .ok (.getfield 151, 3) := by decide +kernel
theorem d_D_equation_128 : decode M_D_equation.2.1 128 = .ok (.iload 7, 2) := by decide +kernel
theorem d_D_equation_130 : decode M_D_equation.2.1 130 = .ok (.iload 6, 2) := by decide +kernel
theorem d_D_equation_132 : decode M_D_equation.2.1 132 = .ok (.iadd, 1) := by decide +kernel
theorem d_D_equation_133 : decode M_D_equation.2.1 133 = .ok (.iload 5, 2) := by decide +kernel
theorem d_D_equation_135 : decode M_D_equation.2.1 135 = .ok (.isub, 1) := by decide +kernel
theorem d_D_equation_136 : decode M_D_equation.2.1 136 = .ok (.iastore, 1) := by decide +kernel
theorem d_D_equation_137 : decode M_D_equation.2.1 137 = .ok (.aload_n 0, 1) := by decide +kernel
theorem d_D_equation_138 : decode M_D_equation.2.1 138 = .ok (.dup, 1) := by decide +kernel
theorem d_D_equation_139 : decode M_D_equation.2.1 139 = .ok (.getfield 151, 3) := by decide +kernel
theorem d_D_equation_142 : decode M_D_equation.2.1 142 = .ok (.iconst 1, 1) := by decide +kernel
theorem d_D_equation_143 : decode M_D_equation.2.1 143 = .ok (.iadd, 1) := by decide +kernel
theorem d_D_equation_144 : decode M_D_equation.2.1 144 = .ok (.putfield 151, 3) := by decide +kernel
theorem d_D_equation_147 : decode M_D_equation.2.1 147 = .ok (.return_, 1) := by decide +kernel
theorem d_D_step_0 : decode M_D_step.2.1 0 = .ok (.aload_n 0, 1) := by decide +kernel
theorem d_D_step_1 : decode M_D_step.2.1 1 = .ok (.dup, 1) := by decide +kernel
theorem d_D_step_2 : decode M_D_step.2.1 2 = .ok (.getfield 151, 3) := by decide +kernel
theorem d_D_step_5 : decode M_D_step.2.1 5 = .ok (.iconst 1, 1) := by decide +kernel
theorem d_D_step_6 : decode M_D_step.2.1 6 = .ok (.isub, 1) := by decide +kernel
theorem d_D_step_7 : decode M_D_step.2.1 7 = .ok (.putfield 151, 3) := by decide +kernel
theorem d_D_step_10 : decode M_D_step.2.1 10 = .ok (.aload_n 0, 1) := by decide +kernel
theorem d_D_step_11 : decode M_D_step.2.1 11 = .ok (.getfield 151, 3) := by decide +kernel
theorem d_D_step_14 : decode M_D_step.2.1 14 = .ok (.istore_n 1, 1) := by decide +kernel
theorem d_D_step_15 : decode M_D_step.2.1 15 = .ok (.aload_n 0, 1) := by decide +kernel
theorem d_D_step_16 : decode M_D_step.2.1 16 = .ok (.aload_n 0, 1) := by decide +kernel
theorem d_D_step_17 : decode M_D_step.2.1 17 = .ok (.getfield 82, 3) := by decide +kernel
theorem d_D_step_20 : decode M_D_step.2.1 20 = .ok (.iload_n 1, 1) := by decide +kernel
theorem d_D_step_21 : decode M_D_step.2.1 21 = .ok (.iaload, 1) := by decide +kernel
theorem d_D_step_22 : decode M_D_step.2.1 22 = .ok (.aload_n 0, 1) := by decide +kernel
theorem d_D_step_23 : decode M_D_step.2.1 23 = .ok (.getfield 79, 3) := by decide +kernel
theorem d_D_step_26 : decode M_D_step.2.1 26 = .ok (.iload_n 1, 1) := by decide +kernel
theorem d_D_step_27 : decode M_D_step.2.1 27 = .ok (.iaload, 1) := by decide +kernel
theorem d_D_step_28 : decode M_D_step.2.1 28 = .ok (.isub, 1) := by decide +kernel
theorem d_D_step_29 : decode M_D_step.2.1 29 = .ok (.putfield 154, 3) := by decide +kernel
theorem d_D_step_32 : decode M_D_step.2.1 32 = .ok (.aload_n 0, 1) := by decide +kernel
theorem d_D_step_33 : decode M_D_step.2.1 33 = .ok (.aload_n 0, 1) := by decide +kernel
theorem d_D_step_34 : decode M_D_step.2.1 34 = .ok (.getfield 85, 3) := by decide +kernel
theorem d_D_step_37 : decode M_D_step.2.1 37 = .ok (.iload_n 1, 1) := by decide +kernel
theorem d_D_step_38 : decode M_D_step.2.1 38 = .ok (.iaload, 1) := by decide +kernel
theorem d_D_step_39 : decode M_D_step.2.1 39 = .ok (.aload_n 0, 1) := by decide +kernel
theorem d_D_step_40 : decode M_D_step.2.1 40 = .ok (.getfield 82, 3) := by decide +kernel
theorem d_D_step_43 : decode M_D_step.2.1 43 = .ok (.iload_n 1, 1) := by decide +kernel
theorem d_D_step_44 : decode M_D_step.2.1 44 = .ok (.iaload, 1) := by decide +kernel
theorem d_D_step_45 : decode M_D_step.2.1 45 = .ok (.isub, 1) := by decide +kernel
theorem d_D_step_46 : decode M_D_step.2.1 46 = .ok (.putfield 157, 3) := by decide +kernel
theorem d_D_step_49 : decode M_D_step.2.1 49 = .ok (.iconst 0, 1) := by decide +kernel
theorem d_D_step_50 : decode M_D_step.2.1 50 = .ok (.istore_n 2, 1) := by decide +kernel
theorem d_D_step_51 : decode M_D_step.2.1 51 = .ok (.iload_n 2, 1) := by decide +kernel
theorem d_D_step_52 : decode M_D_step.2.1 52 = .ok (.aload_n 0, 1) := by decide +kernel
theorem d_D_step_53 : decode M_D_step.2.1 53 = .ok (.getfield 154, 3) := by decide +kernel
theorem d_D_step_56 : decode M_D_step.2.1 56 = .ok (.if_icmp .ge 28, 3) := by decide +kernel
theorem d_D_step_59 : decode M_D_step.2.1 59 = .ok (.aload_n 0, 1) := by decide +kernel
theorem d_D_step_60 : decode M_D_step.2.1 60 = .ok (.getfield 57, 3) := by decide +kernel
theorem d_D_step_63 : decode M_D_step.2.1 63 = .ok (.iload_n 2, 1) := by decide +kernel
theorem d_D_step_64 : decode M_D_step.2.1 64 = .ok (.aload_n 0, 1) := by decide +kernel
theorem d_D_step_65 : decode M_D_step.2.1 65 = .ok (.getfield 76, 3) := by decide +kernel
theorem d_D_step_68 : decode M_D_step.2.1 68 = .ok (.aload_n 0, 1) := by decide +kernel
theorem d_D_step_69 : decode M_D_step.2.1 69 = .ok (.getfield 79, 3) := by decide +kernel
theorem d_D_step_72 : decode M_D_step.2.1 72 = .ok (.iload_n 1, 1) := by decide +kernel
theorem d_D_step_73 : decode M_D_step.2.1 73 = .ok (.iaload, 1) := by decide +kernel
theorem d_D_step_74 : decode M_D_step.2.1 74 = .ok (.iload_n 2, 1) := by decide +kernel
theorem d_D_step_75 : decode M_D_step.2.1 75 = .ok (.iadd, 1) := by decide +kernel
theorem d_D_step_76 : decode M_D_step.2.1 76 = .ok (.iaload, 1) := by decide +kernel
theorem d_D_step_77 : decode M_D_step.2.1 77 = .ok (.iastore, 1) := by decide +kernel
theorem d_D_step_78 : decode M_D_step.2.1 78 = .ok (.iinc 2 1, 3) := by decide +kernel
theorem d_D_step_81 : decode M_D_step.2.1 81 = .ok (.goto (-30), 3) := by decide +kernel
theorem d_D_step_84 : decode M_D_step.2.1 84 = .ok (.iconst 0, 1) := by decide +kernel
theorem d_D_step_85 : decode M_D_step.2.1 85 = .ok (.istore_n 2, 1) := by decide +kernel
theorem d_D_step_86 : decode M_D_step.2.1 86 = .ok (.iload_n 2, 1) := by decide +kernel
theorem d_D_step_87 : decode M_D_step.2.1 87 = .ok (.aload_n 0, 1) := by decide +kernel
theorem d_D_step_88 : decode M_D_step.2.1 88 = .ok (.getfield 157, 3) := by decide +kernel
theorem d_D_step_91 : decode M_D_step.2.1 91 = .ok (.if_icmp .ge 28, 3) := by decide +kernel
theorem d_D_step_94 : decode M_D_step.2.1 94 = .ok (.aload_n 0, 1) := by decide +kernel
theorem d_D_step_95 : decode M_D_step.2.1 95 = .ok (.getfield 60, 3) := by decide +kernel
theorem d_D_step_98 : decode M_D_step.2.1 98 = .ok (.iload_n 2, 1) := by decide +kernel
theorem d_D_step_99 : decode M_D_step.2.1 99 = .ok (.aload_n 0, 1) := by decide +kernel
theorem d_D_step_100 : decode M_D_step.2.1 100 = .ok (.getfield 76, 3) := by decide +kernel
theorem d_D_step_103 : decode M_D_step.2.1 103 = .ok (.aload_n 0, 1) := by decide +kernel
theorem d_D_step_104 : decode M_D_step.2.1 104 = .ok (.getfield 82, 3) := by decide +kernel
theorem d_D_step_107 : decode M_D_step.2.1 107 = .ok (.iload_n 1, 1) := by decide +kernel
theorem d_D_step_108 : decode M_D_step.2.1 108 = .ok (.iaload, 1) := by decide +kernel
theorem d_D_step_109 : decode M_D_step.2.1 109 = .ok (.iload_n 2, 1) := by decide +kernel
theorem d_D_step_110 : decode M_D_step.2.1 110 = .ok (.iadd, 1) := by decide +kernel
theorem d_D_step_111 : decode M_D_step.2.1 111 = .ok (.iaload, 1) := by decide +kernel
theorem d_D_step_112 : decode M_D_step.2.1 112 = .ok (.iastore, 1) := by decide +kernel
theorem d_D_step_113 : decode M_D_step.2.1 113 = .ok (.iinc 2 1, 3) := by decide +kernel
theorem d_D_step_116 : decode M_D_step.2.1 116 = .ok (.goto (-30), 3) := by decide +kernel
theorem d_D_step_119 : decode M_D_step.2.1 119 = .ok (.aload_n 0, 1) := by decide +kernel
theorem d_D_step_120 : decode M_D_step.2.1 120 = .ok (.aload_n 0, 1) := by decide +kernel
theorem d_D_step_121 : decode M_D_step.2.1 121 = .ok (.aload_n 0, 1) := by decide +kernel
theorem d_D_step_122 : decode M_D_step.2.1 122 = .ok (.getfield 57, 3) := by decide +kernel
theorem d_D_step_125 : decode M_D_step.2.1 125 = .ok (.aload_n 0, 1) := by decide +kernel
theorem d_D_step_126 : decode M_D_step.2.1 126 = .ok (.getfield 154, 3) := by decide +kernel
theorem d_D_step_129 : decode M_D_step.2.1 129 = .ok (.invokevirtual 141, 3) := by decide +kernel
theorem d_D_step_132 : decode M_D_step.2.1 132 = .ok (.putfield 154, 3) := by decide +kernel
theorem d_D_step_135 : decode M_D_step.2.1 135 = .ok (.aload_n 0, 1) := by decide +kernel
theorem d_D_step_136 : decode M_D_step.2.1 136 = .ok (.aload_n 0, 1) := by decide +kernel
theorem d_D_step_137 : decode M_D_step.2.1 137 = .ok (.aload_n 0, 1) := by decide +kernel
theorem d_D_step_138 : decode M_D_step.2.1 138 = .ok (.getfield 60, 3) := by decide +kernel
theorem d_D_step_141 : decode M_D_step.2.1 141 = .ok (.aload_n 0, 1) := by decide +kernel
theorem d_D_step_142 : decode M_D_step.2.1 142 = .ok (.getfield 157, 3) := by decide +kernel
theorem d_D_step_145 : decode M_D_step.2.1 145 = .ok (.invokevirtual 141, 3) := by decide +kernel
theorem d_D_step_148 : decode M_D_step.2.1 148 = .ok (.putfield 157, 3) := by decide +kernel
theorem d_D_step_151 : decode M_D_step.2.1 151 = .ok (.aload_n 0, 1) := by decide +kernel
theorem d_D_step_152 : decode M_D_step.2.1 152 = .ok (.getfield 57, 3) := by decide +kernel
theorem d_D_step_155 : decode M_D_step.2.1 155 = .ok (.iconst 0, 1) := by decide +kernel
theorem d_D_step_156 : decode M_D_step.2.1 156 = .ok (.iaload, 1) := by decide +kernel
theorem d_D_step_157 : decode M_D_step.2.1 157 = .ok (.invokestatic 129, 3) := by decide +kernel
theorem d_D_step_160 : decode M_D_step.2.1 160 = .ok (.iconst 2, 1) := by decide +kernel
theorem d_D_step_161 : decode M_D_step.2.1 161 = .ok (.if_icmp .ne 7, 3) := by decide +kernel
theorem d_D_step_164 : decode M_D_step.2.1 164 = .ok (.iconst 1, 1) := by decide +kernel
theorem d_D_step_165 : decode M_D_step.2.1 165 = .ok (.goto 4, 3) := by decide +kernel
theorem d_D_step_168 : decode M_D_step.2.1 168 = .ok (.iconst 0, 1) := by decide +kernel
theorem d_D_step_169 : decode M_D_step.2.1 169 = .ok (.istore_n 2, 1) := by decide +kernel
theorem d_D_step_170 : decode M_D_step.2.1 170 = .ok (.aload_n 0, 1) := by decide +kernel
theorem d_D_step_171 : decode M_D_step.2.1 171 = .ok (.getfield 60, 3) := by decide +kernel
theorem d_D_step_174 : decode M_D_step.2.1 174 = .ok (.iconst 0, 1) := by decide +kernel
theorem d_D_step_175 : decode M_D_step.2.1 175 = .ok (.iaload, 1) := by decide +kernel
theorem d_D_step_176 : decode M_D_step.2.1 176 = .ok (.invokestatic 129, 3) := by decide +kernel
theorem d_D_step_179 : decode M_D_step.2.1 179 = .ok (.iconst 2, 1) := by decide +kernel
theorem d_D_step_180 : decode M_D_step.2.1 180 = .ok (.if_icmp .ne 7, 3) := by decide +kernel
theorem d_D_step_183 : decode M_D_step.2.1 183 = .ok (.iconst 1, 1) := by decide +kernel
theorem d_D_step_184 : decode M_D_step.2.1 184 = .ok (.goto 4, 3) := by decide +kernel
theorem d_D_step_187 : decode M_D_step.2.1 187 = .ok (.iconst 0, 1) := by decide +kernel
theorem d_D_step_188 : decode M_D_step.2.1 188 = .ok (.istore_n 3, 1) := by decide +kernel
theorem d_D_step_189 : decode M_D_step.2.1 189 = .ok (.iload_n 2, 1) := by decide +kernel
theorem d_D_step_190 : decode M_D_step.2.1 190 = .ok (.ifCond .eq 34, 3) := by decide +kernel
theorem d_D_step_193 : decode M_D_step.2.1 193 = .ok (.iload_n 3, 1) := by decide +kernel
theorem d_D_step_194 : decode M_D_step.2.1 194 = .ok (.ifCond .eq 30, 3) := by decide +kernel
theorem d_D_step_197 : decode M_D_step.2.1 197 = .ok (.aload_n 0, 1) := by decide +kernel
theorem d_D_step_198 : decode M_D_step.2.1 198 = .ok (.getfield 57, 3) := by decide +kernel
theorem d_D_step_201 : decode M_D_step.2.1 201 = .ok (.iconst 0, 1) := by decide +kernel
theorem d_D_step_202 : decode M_D_step.2.1 202 = .ok (.iaload, 1) := by decide +kernel
theorem d_D_step_203 : decode M_D_step.2.1 203 = .ok (.aload_n 0, 1) := by decide +kernel
theorem d_D_step_204 : decode M_D_step.2.1 204 = .ok (.getfield 60, 3) := by decide +kernel
theorem d_D_step_207 : decode M_D_step.2.1 207 = .ok (.iconst 0, 1) := by decide +kernel
theorem d_D_step_208 : decode M_D_step.2.1 208 = .ok (.iaload, 1) := by decide +kernel
theorem d_D_step_209 : decode M_D_step.2.1 209 = .ok (.if_icmp .ne 10, 3) := by decide +kernel
theorem d_D_step_212 : decode M_D_step.2.1 212 = .ok (.aload_n 0, 1) := by decide +kernel
theorem d_D_step_213 : decode M_D_step.2.1 213 = .ok (.invokevirtual 160, 3) := by decide +kernel
theorem d_D_step_216 : decode M_D_step.2.1 216 = .ok (.goto 7, 3) := by decide +kernel
theorem d_D_step_219 : decode M_D_step.2.1 219 = .ok (.aload_n 0, 1) := by decide +kernel
theorem d_D_step_220 : decode M_D_step.2.1 220 = .ok (.invokevirtual 164, 3) := by decide +kernel
theorem d_D_step_223 : decode M_D_step.2.1 223 = .ok (.ireturn, 1) := by decide +kernel
