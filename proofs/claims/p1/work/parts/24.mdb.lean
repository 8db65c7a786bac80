/-! mdb: contracts, with the pure functions that they speak of (printed by wip/gen) -/
theorem d_MD_byteAt_0 : decode b_MD_byteAt 0 = .ok (.iload_n 1, 1) := by decide +kernel
theorem d_MD_byteAt_1 : decode b_MD_byteAt 1 = .ok (.iload_n 2, 1) := by decide +kernel
theorem d_MD_byteAt_2 : decode b_MD_byteAt 2 = .ok (.invokestatic 143, 3) := by decide +kernel
theorem d_MD_byteAt_5 : decode b_MD_byteAt 5 = .ok (.istore_n 3, 1) := by decide +kernel
theorem d_MD_byteAt_6 : decode b_MD_byteAt 6 = .ok (.aload_n 0, 1) := by decide +kernel
theorem d_MD_byteAt_7 : decode b_MD_byteAt 7 = .ok (.iload_n 3, 1) := by decide +kernel
theorem d_MD_byteAt_8 : decode b_MD_byteAt 8 = .ok (.ifCond .ge 7, 3) := by decide +kernel
theorem d_MD_byteAt_11 : decode b_MD_byteAt 11 = .ok (.iconst 1, 1) := by decide +kernel
theorem d_MD_byteAt_12 : decode b_MD_byteAt 12 = .ok (.goto 4, 3) := by decide +kernel
theorem d_MD_byteAt_15 : decode b_MD_byteAt 15 = .ok (.iconst 0, 1) := by decide +kernel
theorem d_MD_byteAt_16 : decode b_MD_byteAt 16 = .ok (.iconst 0, 1) := by decide +kernel
theorem d_MD_byteAt_17 : decode b_MD_byteAt 17 = .ok (.iconst 0, 1) := by decide +kernel
theorem d_MD_byteAt_18 : decode b_MD_byteAt 18 = .ok (.iconst 0, 1) := by decide +kernel
theorem d_MD_byteAt_19 : decode b_MD_byteAt 19 = .ok (.invokevirtual 117, 3) := by decide +kernel
theorem d_MD_byteAt_22 : decode b_MD_byteAt 22 = .ok (.ifCond .eq 5, 3) := by decide +kernel
theorem d_MD_byteAt_25 : decode b_MD_byteAt 25 = .ok (.iconst 0, 1) := by decide +kernel
theorem d_MD_byteAt_26 : decode b_MD_byteAt 26 = .ok (.ireturn, 1) := by decide +kernel
theorem d_MD_byteAt_27 : decode b_MD_byteAt 27 = .ok (.aload_n 0, 1) := by decide +kernel
theorem d_MD_byteAt_28 : decode b_MD_byteAt 28 = .ok (.getfield 7, 3) := by decide +kernel
theorem d_MD_byteAt_31 : decode b_MD_byteAt 31 = .ok (.iload_n 3, 1) := by decide +kernel
theorem d_MD_byteAt_32 : decode b_MD_byteAt 32 = .ok (.iaload, 1) := by decide +kernel
theorem d_MD_byteAt_33 : decode b_MD_byteAt 33 = .ok (.ireturn, 1) := by decide +kernel
theorem d_MD_poke_0 : decode b_MD_poke 0 = .ok (.iload_n 1, 1) := by decide +kernel
theorem d_MD_poke_1 : decode b_MD_poke 1 = .ok (.iload_n 2, 1) := by decide +kernel
theorem d_MD_poke_2 : decode b_MD_poke 2 = .ok (.invokestatic 143, 3) := by decide +kernel
theorem d_MD_poke_5 : decode b_MD_poke 5 = .ok (.istore 4, 2) := by decide +kernel
theorem d_MD_poke_7 : decode b_MD_poke 7 = .ok (.aload_n 0, 1) := by decide +kernel
theorem d_MD_poke_8 : decode b_MD_poke 8 = .ok (.iload 4, 2) := by decide +kernel
theorem d_MD_poke_10 : decode b_MD_poke 10 = .ok (.ifCond .ge 7, 3) := by decide +kernel
theorem d_MD_poke_13 : decode b_MD_poke 13 = .ok (.iconst 1, 1) := by decide +kernel
theorem d_MD_poke_14 : decode b_MD_poke 14 = .ok (.goto 4, 3) := by decide +kernel
theorem d_MD_poke_17 : decode b_MD_poke 17 = .ok (.iconst 0, 1) := by decide +kernel
theorem d_MD_poke_18 : decode b_MD_poke 18 = .ok (.iload_n 3, 1) := by decide +kernel
theorem d_MD_poke_19 : decode b_MD_poke 19 = .ok (.iconst 1, 1) := by decide +kernel
theorem d_MD_poke_20 : decode b_MD_poke 20 = .ok (.sipush 255, 3) := by decide +kernel
theorem d_MD_poke_23 : decode b_MD_poke 23 = .ok (.invokestatic 44, 3) := by decide +kernel
theorem d_MD_poke_26 : decode b_MD_poke 26 = .ok (.ifCond .ne 7, 3) := by decide +kernel
theorem d_MD_poke_29 : decode b_MD_poke 29 = .ok (.iconst 1, 1) := by decide +kernel
theorem d_MD_poke_30 : decode b_MD_poke 30 = .ok (.goto 4, 3) := by decide +kernel
theorem d_MD_poke_33 : decode b_MD_poke 33 = .ok (.iconst 0, 1) := by decide +kernel
theorem d_MD_poke_34 : decode b_MD_poke 34 = .ok (.iconst 0, 1) := by decide +kernel
theorem d_MD_poke_35 : decode b_MD_poke 35 = .ok (.iconst 0, 1) := by decide +kernel
theorem d_MD_poke_36 : decode b_MD_poke 36 = .ok (.invokevirtual 117, 3) := by decide +kernel
theorem d_MD_poke_39 : decode b_MD_poke 39 = .ok (.ifCond .eq 4, 3) := by decide +kernel
theorem d_MD_poke_42 : decode b_MD_poke 42 = .ok (.return_, 1) := by decide +kernel
theorem d_MD_poke_43 : decode b_MD_poke 43 = .ok (.aload_n 0, 1) := by decide +kernel
theorem d_MD_poke_44 : decode b_MD_poke 44 = .ok (.getfield 7, 3) := by decide +kernel
theorem d_MD_poke_47 : decode b_MD_poke 47 = .ok (.iload 4, 2) := by decide +kernel
theorem d_MD_poke_49 : decode b_MD_poke 49 = .ok (.dup2, 1) := by decide +kernel
theorem d_MD_poke_50 : decode b_MD_poke 50 = .ok (.iaload, 1) := by decide +kernel
theorem d_MD_poke_51 : decode b_MD_poke 51 = .ok (.iload_n 3, 1) := by decide +kernel
theorem d_MD_poke_52 : decode b_MD_poke 52 = .ok (.ixor, 1) := by decide +kernel
theorem d_MD_poke_53 : decode b_MD_poke 53 = .ok (.iastore, 1) := by decide +kernel
theorem d_MD_poke_54 : decode b_MD_poke 54 = .ok (.aload_n 0, 1) := by decide +kernel
theorem d_MD_poke_55 : decode b_MD_poke 55 = .ok (.iconst 1, 1) := by decide +kernel
theorem d_MD_poke_56 : decode b_MD_poke 56 = .ok (.putfield 111, 3) := by decide +kernel
theorem d_MD_poke_59 : decode b_MD_poke 59 = .ok (.return_, 1) := by decide +kernel
theorem d_MD_remove_0 : decode b_MD_remove 0 = .ok (.iload_n 1, 1) := by decide +kernel
theorem d_MD_remove_1 : decode b_MD_remove 1 = .ok (.iconst 0, 1) := by decide +kernel
theorem d_MD_remove_2 : decode b_MD_remove 2 = .ok (.bipush 11, 2) := by decide +kernel
theorem d_MD_remove_4 : decode b_MD_remove 4 = .ok (.invokestatic 44, 3) := by decide +kernel
theorem d_MD_remove_7 : decode b_MD_remove 7 = .ok (.ifCond .ne 7, 3) := by decide +kernel
theorem d_MD_remove_10 : decode b_MD_remove 10 = .ok (.iconst 1, 1) := by decide +kernel
theorem d_MD_remove_11 : decode b_MD_remove 11 = .ok (.goto 4, 3) := by decide +kernel
theorem d_MD_remove_14 : decode b_MD_remove 14 = .ok (.iconst 0, 1) := by decide +kernel
theorem d_MD_remove_15 : decode b_MD_remove 15 = .ok (.istore_n 2, 1) := by decide +kernel
theorem d_MD_remove_16 : decode b_MD_remove 16 = .ok (.aload_n 0, 1) := by decide +kernel
theorem d_MD_remove_17 : decode b_MD_remove 17 = .ok (.iload_n 2, 1) := by decide +kernel
theorem d_MD_remove_18 : decode b_MD_remove 18 = .ok (.aload_n 0, 1) := by decide +kernel
theorem d_MD_remove_19 : decode b_MD_remove 19 = .ok (.getfield 111, 3) := by decide +kernel
theorem d_MD_remove_22 : decode b_MD_remove 22 = .ok (.ifCond .ne 15, 3) := by decide +kernel
theorem d_MD_remove_25 : decode b_MD_remove 25 = .ok (.iload_n 2, 1) := by decide +kernel
theorem d_MD_remove_26 : decode b_MD_remove 26 = .ok (.ifCond .ne 15, 3) := by decide +kernel
theorem d_MD_remove_29 : decode b_MD_remove 29 = .ok (.aload_n 0, 1) := by decide +kernel
theorem d_MD_remove_30 : decode b_MD_remove 30 = .ok (.iload_n 1, 1) := by decide +kernel
theorem d_MD_remove_31 : decode b_MD_remove 31 = .ok (.invokevirtual 95, 3) := by decide +kernel
theorem d_MD_remove_34 : decode b_MD_remove 34 = .ok (.ifCond .ne 7, 3) := by decide +kernel
theorem d_MD_remove_37 : decode b_MD_remove 37 = .ok (.iconst 1, 1) := by decide +kernel
theorem d_MD_remove_38 : decode b_MD_remove 38 = .ok (.goto 4, 3) := by decide +kernel
theorem d_MD_remove_41 : decode b_MD_remove 41 = .ok (.iconst 0, 1) := by decide +kernel
theorem d_MD_remove_42 : decode b_MD_remove 42 = .ok (.iconst 0, 1) := by decide +kernel
theorem d_MD_remove_43 : decode b_MD_remove 43 = .ok (.iconst 0, 1) := by decide +kernel
theorem d_MD_remove_44 : decode b_MD_remove 44 = .ok (.invokevirtual 117, 3) := by decide +kernel
theorem d_MD_remove_47 : decode b_MD_remove 47 = .ok (.ifCond .eq 5, 3) := by decide +kernel
theorem d_MD_remove_50 : decode b_MD_remove 50 = .ok (.iconst 0, 1) := by decide +kernel
theorem d_MD_remove_51 : decode b_MD_remove 51 = .ok (.ireturn, 1) := by decide +kernel
theorem d_MD_remove_52 : decode b_MD_remove 52 = .ok (.aload_n 0, 1) := by decide +kernel
theorem d_MD_remove_53 : decode b_MD_remove 53 = .ok (.iconst 0, 1) := by decide +kernel
theorem d_MD_remove_54 : decode b_MD_remove 54 = .ok (.putfield 98, 3) := by decide +kernel
theorem d_MD_remove_57 : decode b_MD_remove 57 = .ok (.aload_n 0, 1) := by decide +kernel
theorem d_MD_remove_58 : decode b_MD_remove 58 = .ok (.iload_n 1, 1) := by decide +kernel
theorem d_MD_remove_59 : decode b_MD_remove 59 = .ok (.iconst 0, 1) := by decide +kernel
theorem d_MD_remove_60 : decode b_MD_remove 60 = .ok (.iconst 0, 1) := by decide +kernel
theorem d_MD_remove_61 : decode b_MD_remove 61 = .ok (.invokevirtual 129, 3) := by decide +kernel
theorem d_MD_remove_64 : decode b_MD_remove 64 = .ok (.aload_n 0, 1) := by decide +kernel
theorem d_MD_remove_65 : decode b_MD_remove 65 = .ok (.invokevirtual 133, 3) := by decide +kernel
theorem d_MD_remove_68 : decode b_MD_remove 68 = .ok (.ifCond .eq 7, 3) := by decide +kernel
theorem d_MD_remove_71 : decode b_MD_remove 71 = .ok (.iconst 0, 1) := by decide +kernel
theorem d_MD_remove_72 : decode b_MD_remove 72 = .ok (.goto 4, 3) := by decide +kernel
theorem d_MD_remove_75 : decode b_MD_remove 75 = .ok (.iconst (-1), 1) := by decide +kernel
theorem d_MD_remove_76 : decode b_MD_remove 76 = .ok (.ireturn, 1) := by decide +kernel
theorem d_MD_write_0 : decode b_MD_write 0 = .ok (.aload_n 0, 1) := by decide +kernel
theorem d_MD_write_1 : decode b_MD_write 1 = .ok (.getfield 114, 3) := by decide +kernel
theorem d_MD_write_4 : decode b_MD_write 4 = .ok (.bipush 25, 2) := by decide +kernel
theorem d_MD_write_6 : decode b_MD_write 6 = .ok (.iadd, 1) := by decide +kernel
theorem d_MD_write_7 : decode b_MD_write 7 = .ok (.iconst 1, 1) := by decide +kernel
theorem d_MD_write_8 : decode b_MD_write 8 = .ok (.isub, 1) := by decide +kernel
theorem d_MD_write_9 : decode b_MD_write 9 = .ok (.bipush 25, 2) := by decide +kernel
theorem d_MD_write_11 : decode b_MD_write 11 = .ok (.idiv, 1) := by decide +kernel
theorem d_MD_write_12 : decode b_MD_write 12 = .ok (.istore_n 3, 1) := by decide +kernel
theorem d_MD_write_13 : decode b_MD_write 13 = .ok (.aload_n 0, 1) := by decide +kernel
theorem d_MD_write_14 : decode b_MD_write 14 = .ok (.iconst 0, 1) := by decide +kernel
theorem d_MD_write_15 : decode b_MD_write 15 = .ok (.invokevirtual 123, 3) := by decide +kernel
theorem d_MD_write_18 : decode b_MD_write 18 = .ok (.iload_n 3, 1) := by decide +kernel
theorem d_MD_write_19 : decode b_MD_write 19 = .ok (.if_icmp .lt 7, 3) := by decide +kernel
theorem d_MD_write_22 : decode b_MD_write 22 = .ok (.iconst 1, 1) := by decide +kernel
theorem d_MD_write_23 : decode b_MD_write 23 = .ok (.goto 4, 3) := by decide +kernel
theorem d_MD_write_26 : decode b_MD_write 26 = .ok (.iconst 0, 1) := by decide +kernel
theorem d_MD_write_27 : decode b_MD_write 27 = .ok (.istore 4, 2) := by decide +kernel
theorem d_MD_write_29 : decode b_MD_write 29 = .ok (.aload_n 0, 1) := by decide +kernel
theorem d_MD_write_30 : decode b_MD_write 30 = .ok (.iload_n 1, 1) := by decide +kernel
theorem d_MD_write_31 : decode b_MD_write 31 = .ok (.iconst 0, 1) := by decide +kernel
theorem d_MD_write_32 : decode b_MD_write 32 = .ok (.bipush 11, 2) := by decide +kernel
theorem d_MD_write_34 : decode b_MD_write 34 = .ok (.invokestatic 44, 3) := by decide +kernel
theorem d_MD_write_37 : decode b_MD_write 37 = .ok (.ifCond .ne 7, 3) := by decide +kernel
theorem d_MD_write_40 : decode b_MD_write 40 = .ok (.iconst 1, 1) := by decide +kernel
theorem d_MD_write_41 : decode b_MD_write 41 = .ok (.goto 4, 3) := by decide +kernel
theorem d_MD_write_44 : decode b_MD_write 44 = .ok (.iconst 0, 1) := by decide +kernel
theorem d_MD_write_45 : decode b_MD_write 45 = .ok (.aload_n 0, 1) := by decide +kernel
theorem d_MD_write_46 : decode b_MD_write 46 = .ok (.getfield 111, 3) := by decide +kernel
theorem d_MD_write_49 : decode b_MD_write 49 = .ok (.ifCond .ne 10, 3) := by decide +kernel
theorem d_MD_write_52 : decode b_MD_write 52 = .ok (.aload_n 0, 1) := by decide +kernel
theorem d_MD_write_53 : decode b_MD_write 53 = .ok (.getfield 114, 3) := by decide +kernel
theorem d_MD_write_56 : decode b_MD_write 56 = .ok (.ifCond .ne 7, 3) := by decide +kernel
theorem d_MD_write_59 : decode b_MD_write 59 = .ok (.iconst 1, 1) := by decide +kernel
theorem d_MD_write_60 : decode b_MD_write 60 = .ok (.goto 4, 3) := by decide +kernel
theorem d_MD_write_63 : decode b_MD_write 63 = .ok (.iconst 0, 1) := by decide +kernel
theorem d_MD_write_64 : decode b_MD_write 64 = .ok (.iload_n 2, 1) := by decide +kernel
theorem d_MD_write_65 : decode b_MD_write 65 = .ok (.iconst 0, 1) := by decide +kernel
theorem d_MD_write_66 : decode b_MD_write 66 = .ok (.bipush 11, 2) := by decide +kernel
theorem d_MD_write_68 : decode b_MD_write 68 = .ok (.invokestatic 44, 3) := by decide +kernel
theorem d_MD_write_71 : decode b_MD_write 71 = .ok (.ifCond .ne 7, 3) := by decide +kernel
theorem d_MD_write_74 : decode b_MD_write 74 = .ok (.iconst 1, 1) := by decide +kernel
theorem d_MD_write_75 : decode b_MD_write 75 = .ok (.goto 4, 3) := by decide +kernel
theorem d_MD_write_78 : decode b_MD_write 78 = .ok (.iconst 0, 1) := by decide +kernel
theorem d_MD_write_79 : decode b_MD_write 79 = .ok (.iload 4, 2) := by decide +kernel
theorem d_MD_write_81 : decode b_MD_write 81 = .ok (.ifCond .ne 7, 3) := by decide +kernel
theorem d_MD_write_84 : decode b_MD_write 84 = .ok (.iconst 1, 1) := by decide +kernel
theorem d_MD_write_85 : decode b_MD_write 85 = .ok (.goto 4, 3) := by decide +kernel
theorem d_MD_write_88 : decode b_MD_write 88 = .ok (.iconst 0, 1) := by decide +kernel
theorem d_MD_write_89 : decode b_MD_write 89 = .ok (.invokevirtual 117, 3) := by decide +kernel
theorem d_MD_write_92 : decode b_MD_write 92 = .ok (.ifCond .eq 5, 3) := by decide +kernel
theorem d_MD_write_95 : decode b_MD_write 95 = .ok (.iconst 0, 1) := by decide +kernel
theorem d_MD_write_96 : decode b_MD_write 96 = .ok (.ireturn, 1) := by decide +kernel
theorem d_MD_write_97 : decode b_MD_write 97 = .ok (.iconst 0, 1) := by decide +kernel
theorem d_MD_write_98 : decode b_MD_write 98 = .ok (.istore 5, 2) := by decide +kernel
theorem d_MD_write_100 : decode b_MD_write 100 = .ok (.iload 5, 2) := by decide +kernel
theorem d_MD_write_102 : decode b_MD_write 102 = .ok (.aload_n 0, 1) := by decide +kernel
theorem d_MD_write_103 : decode b_MD_write 103 = .ok (.getfield 114, 3) := by decide +kernel
theorem d_MD_write_106 : decode b_MD_write 106 = .ok (.if_icmp .ge 23, 3) := by decide +kernel
theorem d_MD_write_109 : decode b_MD_write 109 = .ok (.aload_n 0, 1) := by decide +kernel
theorem d_MD_write_110 : decode b_MD_write 110 = .ok (.getfield 23, 3) := by decide +kernel
theorem d_MD_write_113 : decode b_MD_write 113 = .ok (.iload 5, 2) := by decide +kernel
theorem d_MD_write_115 : decode b_MD_write 115 = .ok (.aload_n 0, 1) := by decide +kernel
theorem d_MD_write_116 : decode b_MD_write 116 = .ok (.getfield 17, 3) := by decide +kernel
theorem d_MD_write_119 : decode b_MD_write 119 = .ok (.iload 5, 2) := by decide +kernel
theorem d_MD_write_121 : decode b_MD_write 121 = .ok (.iaload, 1) := by decide +kernel
theorem d_MD_write_122 : decode b_MD_write 122 = .ok (.iastore, 1) := by decide +kernel
theorem d_MD_write_123 : decode b_MD_write 123 = .ok (.iinc 5 1, 3) := by decide +kernel
theorem d_MD_write_126 : decode b_MD_write 126 = .ok (.goto (-26), 3) := by decide +kernel
theorem d_MD_write_129 : decode b_MD_write 129 = .ok (.aload_n 0, 1) := by decide +kernel
theorem d_MD_write_130 : decode b_MD_write 130 = .ok (.aload_n 0, 1) := by decide +kernel
theorem d_MD_write_131 : decode b_MD_write 131 = .ok (.getfield 114, 3) := by decide +kernel
theorem d_MD_write_134 : decode b_MD_write 134 = .ok (.putfield 73, 3) := by decide +kernel
theorem d_MD_write_137 : decode b_MD_write 137 = .ok (.aload_n 0, 1) := by decide +kernel
theorem d_MD_write_138 : decode b_MD_write 138 = .ok (.iconst 0, 1) := by decide +kernel
theorem d_MD_write_139 : decode b_MD_write 139 = .ok (.putfield 114, 3) := by decide +kernel
theorem d_MD_write_142 : decode b_MD_write 142 = .ok (.aload_n 0, 1) := by decide +kernel
theorem d_MD_write_143 : decode b_MD_write 143 = .ok (.iconst 0, 1) := by decide +kernel
theorem d_MD_write_144 : decode b_MD_write 144 = .ok (.putfield 98, 3) := by decide +kernel
theorem d_MD_write_147 : decode b_MD_write 147 = .ok (.aload_n 0, 1) := by decide +kernel
theorem d_MD_write_148 : decode b_MD_write 148 = .ok (.iconst 0, 1) := by decide +kernel
theorem d_MD_write_149 : decode b_MD_write 149 = .ok (.iload_n 2, 1) := by decide +kernel
theorem d_MD_write_150 : decode b_MD_write 150 = .ok (.invokevirtual 126, 3) := by decide +kernel
theorem d_MD_write_153 : decode b_MD_write 153 = .ok (.istore 5, 2) := by decide +kernel
theorem d_MD_write_155 : decode b_MD_write 155 = .ok (.aload_n 0, 1) := by decide +kernel
theorem d_MD_write_156 : decode b_MD_write 156 = .ok (.iload_n 1, 1) := by decide +kernel
theorem d_MD_write_157 : decode b_MD_write 157 = .ok (.iload 5, 2) := by decide +kernel
theorem d_MD_write_159 : decode b_MD_write 159 = .ok (.iconst 1, 1) := by decide +kernel
theorem d_MD_write_160 : decode b_MD_write 160 = .ok (.iadd, 1) := by decide +kernel
theorem d_MD_write_161 : decode b_MD_write 161 = .ok (.iconst 0, 1) := by decide +kernel
theorem d_MD_write_162 : decode b_MD_write 162 = .ok (.invokevirtual 129, 3) := by decide +kernel
theorem d_MD_write_165 : decode b_MD_write 165 = .ok (.aload_n 0, 1) := by decide +kernel
theorem d_MD_write_166 : decode b_MD_write 166 = .ok (.invokevirtual 133, 3) := by decide +kernel
theorem d_MD_write_169 : decode b_MD_write 169 = .ok (.ifCond .eq 7, 3) := by decide +kernel
theorem d_MD_write_172 : decode b_MD_write 172 = .ok (.iload_n 3, 1) := by decide +kernel
theorem d_MD_write_173 : decode b_MD_write 173 = .ok (.goto 4, 3) := by decide +kernel
theorem d_MD_write_176 : decode b_MD_write 176 = .ok (.iconst (-1), 1) := by decide +kernel
theorem d_MD_write_177 : decode b_MD_write 177 = .ok (.ireturn, 1) := by decide +kernel
theorem d_MD_move_0 : decode b_MD_move 0 = .ok (.aload_n 0, 1) := by decide +kernel
theorem d_MD_move_1 : decode b_MD_move 1 = .ok (.aload_n 0, 1) := by decide +kernel
theorem d_MD_move_2 : decode b_MD_move 2 = .ok (.getfield 111, 3) := by decide +kernel
theorem d_MD_move_5 : decode b_MD_move 5 = .ok (.iload_n 1, 1) := by decide +kernel
theorem d_MD_move_6 : decode b_MD_move 6 = .ok (.iconst 0, 1) := by decide +kernel
theorem d_MD_move_7 : decode b_MD_move 7 = .ok (.bipush 11, 2) := by decide +kernel
theorem d_MD_move_9 : decode b_MD_move 9 = .ok (.invokestatic 44, 3) := by decide +kernel
theorem d_MD_move_12 : decode b_MD_move 12 = .ok (.ifCond .ne 7, 3) := by decide +kernel
theorem d_MD_move_15 : decode b_MD_move 15 = .ok (.iconst 1, 1) := by decide +kernel
theorem d_MD_move_16 : decode b_MD_move 16 = .ok (.goto 4, 3) := by decide +kernel
theorem d_MD_move_19 : decode b_MD_move 19 = .ok (.iconst 0, 1) := by decide +kernel
theorem d_MD_move_20 : decode b_MD_move 20 = .ok (.iconst 0, 1) := by decide +kernel
theorem d_MD_move_21 : decode b_MD_move 21 = .ok (.iconst 0, 1) := by decide +kernel
theorem d_MD_move_22 : decode b_MD_move 22 = .ok (.invokevirtual 117, 3) := by decide +kernel
theorem d_MD_move_25 : decode b_MD_move 25 = .ok (.ifCond .eq 5, 3) := by decide +kernel
theorem d_MD_move_28 : decode b_MD_move 28 = .ok (.iconst 0, 1) := by decide +kernel
theorem d_MD_move_29 : decode b_MD_move 29 = .ok (.ireturn, 1) := by decide +kernel
theorem d_MD_move_30 : decode b_MD_move 30 = .ok (.iconst 0, 1) := by decide +kernel
theorem d_MD_move_31 : decode b_MD_move 31 = .ok (.istore_n 2, 1) := by decide +kernel
theorem d_MD_move_32 : decode b_MD_move 32 = .ok (.iconst 0, 1) := by decide +kernel
theorem d_MD_move_33 : decode b_MD_move 33 = .ok (.istore_n 3, 1) := by decide +kernel
theorem d_MD_move_34 : decode b_MD_move 34 = .ok (.iload_n 3, 1) := by decide +kernel
theorem d_MD_move_35 : decode b_MD_move 35 = .ok (.bipush 12, 2) := by decide +kernel
theorem d_MD_move_37 : decode b_MD_move 37 = .ok (.if_icmp .ge 115, 3) := by decide +kernel
theorem d_MD_move_40 : decode b_MD_move 40 = .ok (.aload_n 0, 1) := by decide +kernel
theorem d_MD_move_41 : decode b_MD_move 41 = .ok (.iload_n 3, 1) := by decide +kernel
theorem d_MD_move_42 : decode b_MD_move 42 = .ok (.invokevirtual 95, 3) := by decide +kernel
theorem d_MD_move_45 : decode b_MD_move 45 = .ok (.ifCond .eq 101, 3) := by decide +kernel
theorem d_MD_move_48 : decode b_MD_move 48 = .ok (.aload_n 0, 1) := by decide +kernel
theorem d_MD_move_49 : decode b_MD_move 49 = .ok (.iload_n 3, 1) := by decide +kernel
theorem d_MD_move_50 : decode b_MD_move 50 = .ok (.invokevirtual 67, 3) := by decide +kernel
theorem d_MD_move_53 : decode b_MD_move 53 = .ok (.ifCond .ne 93, 3) := by decide +kernel
theorem d_MD_move_56 : decode b_MD_move 56 = .ok (.aload_n 0, 1) := by decide +kernel
theorem d_MD_move_57 : decode b_MD_move 57 = .ok (.iload_n 3, 1) := by decide +kernel
theorem d_MD_move_58 : decode b_MD_move 58 = .ok (.invokevirtual 137, 3) := by decide +kernel
theorem d_MD_move_61 : decode b_MD_move 61 = .ok (.iload_n 1, 1) := by decide +kernel
theorem d_MD_move_62 : decode b_MD_move 62 = .ok (.if_icmp .ne 84, 3) := by decide +kernel
theorem d_MD_move_65 : decode b_MD_move 65 = .ok (.aload_n 0, 1) := by decide +kernel
theorem d_MD_move_66 : decode b_MD_move 66 = .ok (.iconst 1, 1) := by decide +kernel
theorem d_MD_move_67 : decode b_MD_move 67 = .ok (.invokevirtual 123, 3) := by decide +kernel
theorem d_MD_move_70 : decode b_MD_move 70 = .ok (.istore 4, 2) := by decide +kernel
theorem d_MD_move_72 : decode b_MD_move 72 = .ok (.aload_n 0, 1) := by decide +kernel
theorem d_MD_move_73 : decode b_MD_move 73 = .ok (.iload_n 3, 1) := by decide +kernel
theorem d_MD_move_74 : decode b_MD_move 74 = .ok (.invokevirtual 91, 3) := by decide +kernel
theorem d_MD_move_77 : decode b_MD_move 77 = .ok (.aload_n 0, 1) := by decide +kernel
theorem d_MD_move_78 : decode b_MD_move 78 = .ok (.iconst 0, 1) := by decide +kernel
theorem d_MD_move_79 : decode b_MD_move 79 = .ok (.iconst 0, 1) := by decide +kernel
theorem d_MD_move_80 : decode b_MD_move 80 = .ok (.iload 4, 2) := by decide +kernel
theorem d_MD_move_82 : decode b_MD_move 82 = .ok (.aload_n 0, 1) := by decide +kernel
theorem d_MD_move_83 : decode b_MD_move 83 = .ok (.getfield 73, 3) := by decide +kernel
theorem d_MD_move_86 : decode b_MD_move 86 = .ok (.bipush 25, 2) := by decide +kernel
theorem d_MD_move_88 : decode b_MD_move 88 = .ok (.iadd, 1) := by decide +kernel
theorem d_MD_move_89 : decode b_MD_move 89 = .ok (.iconst 1, 1) := by decide +kernel
theorem d_MD_move_90 : decode b_MD_move 90 = .ok (.isub, 1) := by decide +kernel
theorem d_MD_move_91 : decode b_MD_move 91 = .ok (.bipush 25, 2) := by decide +kernel
theorem d_MD_move_93 : decode b_MD_move 93 = .ok (.idiv, 1) := by decide +kernel
theorem d_MD_move_94 : decode b_MD_move 94 = .ok (.if_icmp .ge 7, 3) := by decide +kernel
theorem d_MD_move_97 : decode b_MD_move 97 = .ok (.iconst 1, 1) := by decide +kernel
theorem d_MD_move_98 : decode b_MD_move 98 = .ok (.goto 4, 3) := by decide +kernel
theorem d_MD_move_101 : decode b_MD_move 101 = .ok (.iconst 0, 1) := by decide +kernel
theorem d_MD_move_102 : decode b_MD_move 102 = .ok (.iconst 0, 1) := by decide +kernel
theorem d_MD_move_103 : decode b_MD_move 103 = .ok (.invokevirtual 117, 3) := by decide +kernel
theorem d_MD_move_106 : decode b_MD_move 106 = .ok (.ifCond .eq 5, 3) := by decide +kernel
theorem d_MD_move_109 : decode b_MD_move 109 = .ok (.iconst 0, 1) := by decide +kernel
theorem d_MD_move_110 : decode b_MD_move 110 = .ok (.ireturn, 1) := by decide +kernel
theorem d_MD_move_111 : decode b_MD_move 111 = .ok (.aload_n 0, 1) := by decide +kernel
theorem d_MD_move_112 : decode b_MD_move 112 = .ok (.iconst 0, 1) := by decide +kernel
theorem d_MD_move_113 : decode b_MD_move 113 = .ok (.putfield 98, 3) := by decide +kernel
theorem d_MD_move_116 : decode b_MD_move 116 = .ok (.aload_n 0, 1) := by decide +kernel
theorem d_MD_move_117 : decode b_MD_move 117 = .ok (.iconst 1, 1) := by decide +kernel
theorem d_MD_move_118 : decode b_MD_move 118 = .ok (.iload_n 1, 1) := by decide +kernel
theorem d_MD_move_119 : decode b_MD_move 119 = .ok (.invokevirtual 126, 3) := by decide +kernel
theorem d_MD_move_122 : decode b_MD_move 122 = .ok (.istore 5, 2) := by decide +kernel
theorem d_MD_move_124 : decode b_MD_move 124 = .ok (.aload_n 0, 1) := by decide +kernel
theorem d_MD_move_125 : decode b_MD_move 125 = .ok (.iload_n 3, 1) := by decide +kernel
theorem d_MD_move_126 : decode b_MD_move 126 = .ok (.iconst 0, 1) := by decide +kernel
theorem d_MD_move_127 : decode b_MD_move 127 = .ok (.iload 5, 2) := by decide +kernel
theorem d_MD_move_129 : decode b_MD_move 129 = .ok (.iconst 1, 1) := by decide +kernel
theorem d_MD_move_130 : decode b_MD_move 130 = .ok (.iadd, 1) := by decide +kernel
theorem d_MD_move_131 : decode b_MD_move 131 = .ok (.invokevirtual 129, 3) := by decide +kernel
theorem d_MD_move_134 : decode b_MD_move 134 = .ok (.aload_n 0, 1) := by decide +kernel
theorem d_MD_move_135 : decode b_MD_move 135 = .ok (.invokevirtual 133, 3) := by decide +kernel
theorem d_MD_move_138 : decode b_MD_move 138 = .ok (.ifCond .ne 5, 3) := by decide +kernel
theorem d_MD_move_141 : decode b_MD_move 141 = .ok (.iconst (-1), 1) := by decide +kernel
theorem d_MD_move_142 : decode b_MD_move 142 = .ok (.ireturn, 1) := by decide +kernel
theorem d_MD_move_143 : decode b_MD_move 143 = .ok (.iinc 2 1, 3) := by decide +kernel
theorem d_MD_move_146 : decode b_MD_move 146 = .ok (.iinc 3 1, 3) := by decide +kernel
theorem d_MD_move_149 : decode b_MD_move 149 = .ok (.goto (-115), 3) := by decide +kernel
theorem d_MD_move_152 : decode b_MD_move 152 = .ok (.iload_n 2, 1) := by decide +kernel
theorem d_MD_move_153 : decode b_MD_move 153 = .ok (.ireturn, 1) := by decide +kernel
theorem d_MD_feed_0 : decode b_MD_feed 0 = .ok (.iload_n 3, 1) := by decide +kernel
theorem d_MD_feed_1 : decode b_MD_feed 1 = .ok (.iconst 1, 1) := by decide +kernel
theorem d_MD_feed_2 : decode b_MD_feed 2 = .ok (.bipush 8, 2) := by decide +kernel
theorem d_MD_feed_4 : decode b_MD_feed 4 = .ok (.invokestatic 44, 3) := by decide +kernel
theorem d_MD_feed_7 : decode b_MD_feed 7 = .ok (.ifCond .ne 7, 3) := by decide +kernel
theorem d_MD_feed_10 : decode b_MD_feed 10 = .ok (.iconst 1, 1) := by decide +kernel
theorem d_MD_feed_11 : decode b_MD_feed 11 = .ok (.goto 4, 3) := by decide +kernel
theorem d_MD_feed_14 : decode b_MD_feed 14 = .ok (.iconst 0, 1) := by decide +kernel
theorem d_MD_feed_15 : decode b_MD_feed 15 = .ok (.istore 4, 2) := by decide +kernel
theorem d_MD_feed_17 : decode b_MD_feed 17 = .ok (.aload_n 0, 1) := by decide +kernel
theorem d_MD_feed_18 : decode b_MD_feed 18 = .ok (.iload 4, 2) := by decide +kernel
theorem d_MD_feed_20 : decode b_MD_feed 20 = .ok (.iload 4, 2) := by decide +kernel
theorem d_MD_feed_22 : decode b_MD_feed 22 = .ok (.ifCond .ne 18, 3) := by decide +kernel
theorem d_MD_feed_25 : decode b_MD_feed 25 = .ok (.aload_n 0, 1) := by decide +kernel
theorem d_MD_feed_26 : decode b_MD_feed 26 = .ok (.getfield 114, 3) := by decide +kernel
theorem d_MD_feed_29 : decode b_MD_feed 29 = .ok (.iload_n 3, 1) := by decide +kernel
theorem d_MD_feed_30 : decode b_MD_feed 30 = .ok (.iadd, 1) := by decide +kernel
theorem d_MD_feed_31 : decode b_MD_feed 31 = .ok (.bipush 60, 2) := by decide +kernel
theorem d_MD_feed_33 : decode b_MD_feed 33 = .ok (.if_icmp .le 7, 3) := by decide +kernel
theorem d_MD_feed_36 : decode b_MD_feed 36 = .ok (.iconst 1, 1) := by decide +kernel
theorem d_MD_feed_37 : decode b_MD_feed 37 = .ok (.goto 4, 3) := by decide +kernel
theorem d_MD_feed_40 : decode b_MD_feed 40 = .ok (.iconst 0, 1) := by decide +kernel
theorem d_MD_feed_41 : decode b_MD_feed 41 = .ok (.iconst 0, 1) := by decide +kernel
theorem d_MD_feed_42 : decode b_MD_feed 42 = .ok (.iconst 0, 1) := by decide +kernel
theorem d_MD_feed_43 : decode b_MD_feed 43 = .ok (.invokevirtual 117, 3) := by decide +kernel
theorem d_MD_feed_46 : decode b_MD_feed 46 = .ok (.ifCond .eq 5, 3) := by decide +kernel
theorem d_MD_feed_49 : decode b_MD_feed 49 = .ok (.iconst 0, 1) := by decide +kernel
theorem d_MD_feed_50 : decode b_MD_feed 50 = .ok (.ireturn, 1) := by decide +kernel
theorem d_MD_feed_51 : decode b_MD_feed 51 = .ok (.iload_n 3, 1) := by decide +kernel
theorem d_MD_feed_52 : decode b_MD_feed 52 = .ok (.iconst 1, 1) := by decide +kernel
theorem d_MD_feed_53 : decode b_MD_feed 53 = .ok (.isub, 1) := by decide +kernel
theorem d_MD_feed_54 : decode b_MD_feed 54 = .ok (.istore 5, 2) := by decide +kernel
theorem d_MD_feed_56 : decode b_MD_feed 56 = .ok (.iload 5, 2) := by decide +kernel
theorem d_MD_feed_58 : decode b_MD_feed 58 = .ok (.ifCond .lt 40, 3) := by decide +kernel
theorem d_MD_feed_61 : decode b_MD_feed 61 = .ok (.aload_n 0, 1) := by decide +kernel
theorem d_MD_feed_62 : decode b_MD_feed 62 = .ok (.getfield 17, 3) := by decide +kernel
theorem d_MD_feed_65 : decode b_MD_feed 65 = .ok (.aload_n 0, 1) := by decide +kernel
theorem d_MD_feed_66 : decode b_MD_feed 66 = .ok (.getfield 114, 3) := by decide +kernel
theorem d_MD_feed_69 : decode b_MD_feed 69 = .ok (.lload_n 1, 1) := by decide +kernel
theorem d_MD_feed_70 : decode b_MD_feed 70 = .ok (.bipush 8, 2) := by decide +kernel
theorem d_MD_feed_72 : decode b_MD_feed 72 = .ok (.iload 5, 2) := by decide +kernel
theorem d_MD_feed_74 : decode b_MD_feed 74 = .ok (.imul, 1) := by decide +kernel
theorem d_MD_feed_75 : decode b_MD_feed 75 = .ok (.lshr, 1) := by decide +kernel
theorem d_MD_feed_76 : decode b_MD_feed 76 = .ok (.ldc2_w 121, 3) := by decide +kernel
theorem d_MD_feed_79 : decode b_MD_feed 79 = .ok (.land, 1) := by decide +kernel
theorem d_MD_feed_80 : decode b_MD_feed 80 = .ok (.l2i, 1) := by decide +kernel
theorem d_MD_feed_81 : decode b_MD_feed 81 = .ok (.iastore, 1) := by decide +kernel
theorem d_MD_feed_82 : decode b_MD_feed 82 = .ok (.aload_n 0, 1) := by decide +kernel
theorem d_MD_feed_83 : decode b_MD_feed 83 = .ok (.dup, 1) := by decide +kernel
theorem d_MD_feed_84 : decode b_MD_feed 84 = .ok (.getfield 114, 3) := by decide +kernel
theorem d_MD_feed_87 : decode b_MD_feed 87 = .ok (.iconst 1, 1) := by decide +kernel
theorem d_MD_feed_88 : decode b_MD_feed 88 = .ok (.iadd, 1) := by decide +kernel
theorem d_MD_feed_89 : decode b_MD_feed 89 = .ok (.putfield 114, 3) := by decide +kernel
theorem d_MD_feed_92 : decode b_MD_feed 92 = .ok (.iinc 5 (-1), 3) := by decide +kernel
theorem d_MD_feed_95 : decode b_MD_feed 95 = .ok (.goto (-39), 3) := by decide +kernel
theorem d_MD_feed_98 : decode b_MD_feed 98 = .ok (.aload_n 0, 1) := by decide +kernel
theorem d_MD_feed_99 : decode b_MD_feed 99 = .ok (.getfield 114, 3) := by decide +kernel
theorem d_MD_feed_102 : decode b_MD_feed 102 = .ok (.ireturn, 1) := by decide +kernel
theorem f_MD_where_in {wt wi x : Int32} (h : x = f_MD_where wt wi) (h0 : 0 ≤ x) : vp_in x 1360 := by
  have key : ∀ (B : Nat) (b : Int32), b = nI B → B < 1000 → ¬ f_MD_in wi 0 b = 0 → ∃ j : Nat, j ≤ B ∧ wi = nI j := by
    intro B b hb hB h
    subst hb
    by_cases h1 : wi < 0
    · exact absurd (by simp only [f_MD_in, eq_true h1, ↓reduceIte]) h
    · by_cases h2 : nI B < wi
      · exact absurd (by simp only [f_MD_in, eq_false h1, eq_true h2, ↓reduceIte]) h
      · obtain ⟨j, hj, rfl⟩ := nI_of h1
        rw [nI_ltI (by omega) hj] at h2
        exact ⟨j, by omega, rfl⟩
  have neg : ¬ (0 : Int32) ≤ -1 := by decide
  subst h
  by_cases a : wt = 0
  · subst a
    by_cases k : f_MD_in wi 0 767 = 0
    · have e : f_MD_where 0 wi = -1 := by unfold f_MD_where; rw [if_pos rfl, if_pos k, if_neg (show ¬ (0 : Int32) = 1 by decide), if_neg (show ¬ (0 : Int32) = 2 by decide)]
      rw [e] at h0
      exact absurd h0 neg
    · have e : f_MD_where 0 wi = wi := by unfold f_MD_where; rw [if_pos rfl, if_neg k]
      rw [e]
      obtain ⟨j, hj, rfl⟩ := key 767 _ rfl (by omega) k
      exact vp_in_nI (by omega) (by omega)
  · by_cases b : wt = 1
    · subst b
      by_cases k : f_MD_in wi 0 511 = 0
      · have e : f_MD_where 1 wi = -1 := by unfold f_MD_where; rw [if_neg (show ¬ (1 : Int32) = 0 by decide), if_pos rfl, if_pos k, if_neg (show ¬ (1 : Int32) = 2 by decide)]
        rw [e] at h0
        exact absurd h0 neg
      · have e : f_MD_where 1 wi = 768 + wi := by unfold f_MD_where; rw [if_neg (show ¬ (1 : Int32) = 0 by decide), if_pos rfl, if_neg k]
        rw [e]
        obtain ⟨j, hj, rfl⟩ := key 511 _ rfl (by omega) k
        rw [show (768 : Int32) + nI j = nI (768 + j) from nI_add 768 j]
        exact vp_in_nI (by omega) (by omega)
    · by_cases c : wt = 2
      · subst c
        by_cases k : f_MD_in wi 0 79 = 0
        · have e : f_MD_where 2 wi = -1 := by unfold f_MD_where; rw [if_neg (show ¬ (2 : Int32) = 0 by decide), if_neg (show ¬ (2 : Int32) = 1 by decide), if_pos rfl, if_pos k]
          rw [e] at h0
          exact absurd h0 neg
        · have e : f_MD_where 2 wi = 1280 + wi := by unfold f_MD_where; rw [if_neg (show ¬ (2 : Int32) = 0 by decide), if_neg (show ¬ (2 : Int32) = 1 by decide), if_pos rfl, if_neg k]
          rw [e]
          obtain ⟨j, hj, rfl⟩ := key 79 _ rfl (by omega) k
          rw [show (1280 : Int32) + nI j = nI (1280 + j) from nI_add 1280 j]
          exact vp_in_nI (by omega) (by omega)
      · have e : f_MD_where wt wi = -1 := by unfold f_MD_where; rw [if_neg a, if_neg b, if_neg c]
        rw [e] at h0
        exact absurd h0 neg
theorem sf_in18 {x : Int32} (h : ¬ f_MD_in x 1 8 = 0) : ¬ x < 1 ∧ x ≤ 8 := by
  by_cases h1 : x < 1
  · exact absurd (by simp only [f_MD_in, eq_true h1, ↓reduceIte]) h
  · by_cases h2 : 8 < x
    · exact absurd (by simp only [f_MD_in, eq_false h1, eq_true h2, ↓reduceIte]) h
    · exact ⟨h1, Int32.not_lt.mp h2⟩
theorem sf_nat8 {x : Int32} {z : Nat} (hz : z = x.toNatClampNeg) (h : ¬ f_MD_in x 1 8 = 0) : x = nI z ∧ 1 ≤ z ∧ z ≤ 8 := by
  obtain ⟨-, j, rfl, hj⟩ := sf_feed1 (sf_in18 h).1
  have h8 := sf_feed8 (sf_in18 h).1 (sf_in18 h).2
  rw [nI_clamp hj] at hz h8
  subst hz
  exact ⟨rfl, by omega, h8⟩
def f_MD_byteAt (xB : Nat → Int32) (wt : Int32) (wi : Int32) : (Int32 × Int32) :=
  if 0 ≤ (f_MD_where wt wi) then
    ((xB (f_MD_where wt wi).toNatClampNeg), 0)
  else
    (0, 1)
set_option maxHeartbeats 1000000 in
set_option maxRecDepth 100000 in
/-- byteAt -/
theorem c_MD_byteAt (l : Launch) (D : va_G) (cI cZ cJ : ClassId) (q : Nat → Nat) (xth : Int32) (xB : Nat → Int32) (xsh : Int32) (xcu : Int32) (xtp : Nat → Int32) (xtd : Int32) (xpa : Nat → Int32) (xsp : Int32) (xwh : Int32) (xhe : Nat → Int32) (xho : Int32) (xtk : Nat → Int32) (xto : Nat → Int32) (xwa : Nat → Int32) (xmn : Int32) (wt : Int32) (wi : Int32) : sf_M (S := (Int32 × Int32)) l D classes (sf_tys cI cZ cJ) y_MD_byteAt (sf_ws y_MD_byteAt b_MD_byteAt 4 (some .int)) 2 44 [.ref (q 0), .int wt, .int wi] (md_w q cI cZ xth xB xsh xcu xtp xtd xpa xsp xwh xhe xho xtk xto xwa xmn) (fun r => some (.int r.1)) (fun r => r = f_MD_byteAt xB wt wi) (fun r => (md_w q cI cZ r.2 xB xsh xcu xtp xtd xpa xsp xwh xhe xho xtk xto xwa xmn)) := by
  refine sf_ofW (S := (Int32 × Int32)) (by decide) (Nat.le_of_ble_eq_true rfl) ?_
  intro p e s m below meth c A ls R args Q hR hArgs hQ hC0 hr hK hP hD hl
  obtain ⟨hx, hb, hml, hown, hts, hA, hlk⟩ := hC0
  have hS : va_S A s.heap s.heap [] := va_S.rf
  have hl : lv_has ls 4 [(0, .ref (q 0)), (1, .int wt), (2, .int wi)] := hl
  refine lv_iload_n hx hb d_MD_byteAt_0 rfl (lv_at hl 1 rfl) ?_
  refine lv_iload_n hx hb d_MD_byteAt_1 rfl (lv_at hl 2 rfl) ?_
  refine sf_callSr (S := Int32) (rest := []) ⟨hx, hb, hml, hown, hts⟩ (c_MD_where l D cI cZ cJ wt wi) (sf_cwS lk_MD_143 hts (fun _ h => h) (by rw [hR]; exact ⟨Nat.le_of_ble_eq_true rfl, Nat.le_of_ble_eq_true rfl⟩)) hK hP hD hS hA [] rfl rfl (fun _ => rfl) rfl rfl hl.1 (Nat.le_of_ble_eq_true rfl) d_MD_byteAt_2 ⟨Nat.zero_le _, Nat.zero_le _⟩ (fun u_1 H locs hu_1 hP hS => ?_)
  refine lv_istore_n (lv' := [(3, .int u_1), (0, .ref (q 0)), (1, .int wt), (2, .int wi)]) hx hb d_MD_byteAt_5 rfl hl (by decide) rfl (fun ls hl => ?_)
  refine lv_aload_n hx hb d_MD_byteAt_6 rfl (lv_at hl 1 rfl) ?_
  refine lv_iload_n hx hb d_MD_byteAt_7 rfl (lv_at hl 0 rfl) ?_
  refine lv_if_ge (tgt := 15) hx hb d_MD_byteAt_8 (by decide) (fun c_2 => ?_) (fun c_2 => ?_)
  · refine lv_iconst (v := 0) hx hb d_MD_byteAt_15 (by decide) ?_
    refine lv_iconst (v := 0) hx hb d_MD_byteAt_16 (by decide) ?_
    refine lv_iconst (v := 0) hx hb d_MD_byteAt_17 (by decide) ?_
    refine lv_iconst (v := 0) hx hb d_MD_byteAt_18 (by decide) ?_
    refine sf_callVw (S := Unit) (rest := []) ⟨hx, hb, hml, hown, hts⟩ (c_MD_throwing_0 l D cI cZ cJ q xth xB xsh xcu xtp xtd xpa xsp xwh xhe xho xtk xto xwa xmn) (sf_cwV lk_MD_117 hts (fun _ h => h) (by rw [hR]; exact ⟨Nat.le_of_ble_eq_true rfl, Nat.le_of_ble_eq_true rfl⟩)) hK hP hD hS hA (fun _ => by simp only [md_w_fst]) (ci := 3) (q0 := 0) rfl rfl rfl rfl rfl hl.1 (Nat.le_of_ble_eq_true rfl) d_MD_byteAt_19 ⟨Nat.zero_le _, Nat.zero_le _⟩ (fun u H locs hu hP hD hS => ?_)
    have hP : va_P D classes (md_w q cI cZ 0 xB xsh xcu xtp xtd xpa xsp xwh xhe xho xtk xto xwa xmn) H := hP
    have hD : va_D A (md_w q cI cZ 0 xB xsh xcu xtp xtd xpa xsp xwh xhe xho xtk xto xwa xmn) := hD
    refine lv_if_eq (tgt := 27) hx hb d_MD_byteAt_22 (by decide) (fun c_3 => ?_) (fun c_3 => absurd (by decide) c_3)
    refine lv_aload_n hx hb d_MD_byteAt_27 rfl (lv_at hl 1 rfl) ?_
    refine va_get (D := D) (ci := 3) (v := .ref (q 1)) (C := R_MD) (T := F_MD) (N := 15) hx hb hts i_MD hown hK hP 0 rfl rfl 1 (by decide) (hts _ wd_576) (fun _ h9 => h9) rfl d_MD_byteAt_28 ?_
    refine lv_iload_n hx hb d_MD_byteAt_31 rfl (lv_at hl 0 rfl) ?_
    refine va_iald hx hb hK hP 1 0 rfl rfl (f_MD_where_in hu_1 c_2) d_MD_byteAt_32 ?_
    rw [hQ]
    exact sf_iret ((xB u_1.toNatClampNeg), 0) hx hb hr hlk hS rfl rfl (by simp only [f_MD_byteAt, ← hu_1, eq_true c_2, ↓reduceIte]) hP d_MD_byteAt_33
  · refine lv_iconst (v := 1) hx hb d_MD_byteAt_11 (by decide) ?_
    refine lv_goto (tgt := 16) hx hb d_MD_byteAt_12 (by decide) ?_
    refine lv_iconst (v := 0) hx hb d_MD_byteAt_16 (by decide) ?_
    refine lv_iconst (v := 0) hx hb d_MD_byteAt_17 (by decide) ?_
    refine lv_iconst (v := 0) hx hb d_MD_byteAt_18 (by decide) ?_
    refine sf_callVw (S := Unit) (rest := []) ⟨hx, hb, hml, hown, hts⟩ (c_MD_throwing_1 l D cI cZ cJ q xth xB xsh xcu xtp xtd xpa xsp xwh xhe xho xtk xto xwa xmn 0 0 0) (sf_cwV lk_MD_117 hts (fun _ h => h) (by rw [hR]; exact ⟨Nat.le_of_ble_eq_true rfl, Nat.le_of_ble_eq_true rfl⟩)) hK hP hD hS hA (fun _ => by simp only [md_w_fst]) (ci := 3) (q0 := 0) rfl rfl rfl rfl rfl hl.1 (Nat.le_of_ble_eq_true rfl) d_MD_byteAt_19 ⟨Nat.zero_le _, Nat.zero_le _⟩ (fun u H locs hu hP hD hS => ?_)
    have hP : va_P D classes (md_w q cI cZ 1 xB xsh xcu xtp xtd xpa xsp xwh xhe xho xtk xto xwa xmn) H := hP
    have hD : va_D A (md_w q cI cZ 1 xB xsh xcu xtp xtd xpa xsp xwh xhe xho xtk xto xwa xmn) := hD
    refine lv_if_eq (tgt := 27) hx hb d_MD_byteAt_22 (by decide) (fun c_4 => absurd c_4 (by decide)) (fun c_4 => ?_)
    refine lv_iconst (v := 0) hx hb d_MD_byteAt_25 (by decide) ?_
    rw [hQ]
    exact sf_iret (0, 1) hx hb hr hlk hS rfl rfl (by simp only [f_MD_byteAt, ← hu_1, eq_false c_2, ↓reduceIte]) hP d_MD_byteAt_26
def f_MD_poke (xB : Nat → Int32) (xsh : Int32) (wt : Int32) (wi : Int32) (ma : Int32) : (Int32 × (Nat → Int32) × Int32) :=
  if 0 ≤ (f_MD_where wt wi) then
    if (f_MD_in ma 1 255) = 0 then
      (2, xB, xsh)
    else
      (0, (upd xB (f_MD_where wt wi).toNatClampNeg ((xB (f_MD_where wt wi).toNatClampNeg) ^^^ ma)), 1)
  else
    if (f_MD_in ma 1 255) = 0 then
      (1, xB, xsh)
    else
      (1, xB, xsh)
set_option maxHeartbeats 1000000 in
set_option maxRecDepth 100000 in
/-- poke -/
theorem c_MD_poke (l : Launch) (D : va_G) (cI cZ cJ : ClassId) (q : Nat → Nat) (xth : Int32) (xB : Nat → Int32) (xsh : Int32) (xcu : Int32) (xtp : Nat → Int32) (xtd : Int32) (xpa : Nat → Int32) (xsp : Int32) (xwh : Int32) (xhe : Nat → Int32) (xho : Int32) (xtk : Nat → Int32) (xto : Nat → Int32) (xwa : Nat → Int32) (xmn : Int32) (wt : Int32) (wi : Int32) (ma : Int32) : sf_M (S := (Int32 × (Nat → Int32) × Int32)) l D classes (sf_tys cI cZ cJ) y_MD_poke (sf_ws y_MD_poke b_MD_poke 5 none) 2 44 [.ref (q 0), .int wt, .int wi, .int ma] (md_w q cI cZ xth xB xsh xcu xtp xtd xpa xsp xwh xhe xho xtk xto xwa xmn) (fun _ => none) (fun r => r = f_MD_poke xB xsh wt wi ma) (fun r => (md_w q cI cZ r.1 r.2.1 r.2.2 xcu xtp xtd xpa xsp xwh xhe xho xtk xto xwa xmn)) := by
  refine sf_ofW (S := (Int32 × (Nat → Int32) × Int32)) (by decide) (Nat.le_of_ble_eq_true rfl) ?_
  intro p e s m below meth c A ls R args Q hR hArgs hQ hC0 hr hK hP hD hl
  obtain ⟨hx, hb, hml, hown, hts, hA, hlk⟩ := hC0
  have hS : va_S A s.heap s.heap [] := va_S.rf
  have hl : lv_has ls 5 [(0, .ref (q 0)), (1, .int wt), (2, .int wi), (3, .int ma)] := hl
  refine lv_iload_n hx hb d_MD_poke_0 rfl (lv_at hl 1 rfl) ?_
  refine lv_iload_n hx hb d_MD_poke_1 rfl (lv_at hl 2 rfl) ?_
  refine sf_callSr (S := Int32) (rest := []) ⟨hx, hb, hml, hown, hts⟩ (c_MD_where l D cI cZ cJ wt wi) (sf_cwS lk_MD_143 hts (fun _ h => h) (by rw [hR]; exact ⟨Nat.le_of_ble_eq_true rfl, Nat.le_of_ble_eq_true rfl⟩)) hK hP hD hS hA [] rfl rfl (fun _ => rfl) rfl rfl hl.1 (Nat.le_of_ble_eq_true rfl) d_MD_poke_2 ⟨Nat.zero_le _, Nat.zero_le _⟩ (fun u_1 H locs hu_1 hP hS => ?_)
  refine lv_istore (lv' := [(4, .int u_1), (0, .ref (q 0)), (1, .int wt), (2, .int wi), (3, .int ma)]) hx hb d_MD_poke_5 hl (by decide) rfl (fun ls hl => ?_)
  refine lv_aload_n hx hb d_MD_poke_7 rfl (lv_at hl 1 rfl) ?_
  refine lv_iload hx hb d_MD_poke_8 (lv_at hl 0 rfl) ?_
  refine lv_if_ge (tgt := 17) hx hb d_MD_poke_10 (by decide) (fun c_2 => ?_) (fun c_2 => ?_)
  · refine lv_iconst (v := 0) hx hb d_MD_poke_17 (by decide) ?_
    refine lv_iload_n hx hb d_MD_poke_18 rfl (lv_at hl 4 rfl) ?_
    refine lv_iconst (v := 1) hx hb d_MD_poke_19 (by decide) ?_
    refine lv_sipush (v := 255) hx hb d_MD_poke_20 (by decide) ?_
    refine sf_callSr (S := Int32) (rest := [.int 0, .ref (q 0)]) ⟨hx, hb, hml, hown, hts⟩ (c_MD_in l D cI cZ cJ ma 1 255) (sf_cwS lk_MD_44 hts (fun _ h => h) (by rw [hR]; exact ⟨Nat.le_of_ble_eq_true rfl, Nat.le_of_ble_eq_true rfl⟩)) hK hP hD hS hA [] rfl rfl (fun _ => rfl) rfl rfl hl.1 (Nat.le_of_ble_eq_true rfl) d_MD_poke_23 ⟨Nat.zero_le _, Nat.zero_le _⟩ (fun u_3 H locs hu_3 hP hS => ?_)
    refine lv_if_ne (tgt := 33) hx hb d_MD_poke_26 (by decide) (fun c_4 => ?_) (fun c_4 => ?_)
    · refine lv_iconst (v := 0) hx hb d_MD_poke_33 (by decide) ?_
      refine lv_iconst (v := 0) hx hb d_MD_poke_34 (by decide) ?_
      refine lv_iconst (v := 0) hx hb d_MD_poke_35 (by decide) ?_
      refine sf_callVw (S := Unit) (rest := []) ⟨hx, hb, hml, hown, hts⟩ (c_MD_throwing_0 l D cI cZ cJ q xth xB xsh xcu xtp xtd xpa xsp xwh xhe xho xtk xto xwa xmn) (sf_cwV lk_MD_117 hts (fun _ h => h) (by rw [hR]; exact ⟨Nat.le_of_ble_eq_true rfl, Nat.le_of_ble_eq_true rfl⟩)) hK hP hD hS hA (fun _ => by simp only [md_w_fst]) (ci := 3) (q0 := 0) rfl rfl rfl rfl rfl hl.1 (Nat.le_of_ble_eq_true rfl) d_MD_poke_36 ⟨Nat.zero_le _, Nat.zero_le _⟩ (fun u H locs hu hP hD hS => ?_)
      have hP : va_P D classes (md_w q cI cZ 0 xB xsh xcu xtp xtd xpa xsp xwh xhe xho xtk xto xwa xmn) H := hP
      have hD : va_D A (md_w q cI cZ 0 xB xsh xcu xtp xtd xpa xsp xwh xhe xho xtk xto xwa xmn) := hD
      refine lv_if_eq (tgt := 43) hx hb d_MD_poke_39 (by decide) (fun c_5 => ?_) (fun c_5 => absurd (by decide) c_5)
      refine lv_aload_n hx hb d_MD_poke_43 rfl (lv_at hl 1 rfl) ?_
      refine va_get (D := D) (ci := 3) (v := .ref (q 1)) (C := R_MD) (T := F_MD) (N := 15) hx hb hts i_MD hown hK hP 0 rfl rfl 1 (by decide) (hts _ wd_576) (fun _ h9 => h9) rfl d_MD_poke_44 ?_
      refine lv_iload hx hb d_MD_poke_47 (lv_at hl 0 rfl) ?_
      refine lv_dup2_11 hx hb d_MD_poke_49 rfl rfl ?_
      refine va_iald hx hb hK hP 1 0 rfl rfl (f_MD_where_in hu_1 c_2) d_MD_poke_50 ?_
      refine lv_iload_n hx hb d_MD_poke_51 rfl (lv_at hl 4 rfl) ?_
      refine lv_ixor hx hb d_MD_poke_52 ?_
      refine va_iast hx hb hK hP hD hS 1 0 rfl rfl (f_MD_where_in hu_1 c_2) d_MD_poke_53 (fun H locs hP hD hS => ?_)
      have hP : va_P D classes (md_w q cI cZ 0 (upd xB u_1.toNatClampNeg ((xB u_1.toNatClampNeg) ^^^ ma)) xsh xcu xtp xtd xpa xsp xwh xhe xho xtk xto xwa xmn) H := hP
      have hD : va_D A (md_w q cI cZ 0 (upd xB u_1.toNatClampNeg ((xB u_1.toNatClampNeg) ^^^ ma)) xsh xcu xtp xtd xpa xsp xwh xhe xho xtk xto xwa xmn) := hD
      refine lv_aload_n hx hb d_MD_poke_54 rfl (lv_at hl 1 rfl) ?_
      refine lv_iconst (v := 1) hx hb d_MD_poke_55 (by decide) ?_
      refine va_put (D := D) (ci := 3) (v := .int 1) (ty := .boolean) (C := R_MD) (T := F_MD) (N := 15) hx hb hts i_MD t_MD t_MD_ok n_MD hown hK hP hD hS 0 rfl rfl 2 (by decide) (hts _ wd_577) (fun _ h9 => h9) rfl (by decide +kernel) (sf_bp1).1 (sf_bp1).2 (Nat.le_of_ble_eq_true rfl) d_MD_poke_56 (fun H locs hP hD hS => ?_)
      have hP : va_P D classes (md_w q cI cZ 0 (upd xB u_1.toNatClampNeg ((xB u_1.toNatClampNeg) ^^^ ma)) 1 xcu xtp xtd xpa xsp xwh xhe xho xtk xto xwa xmn) H := hP
      have hD : va_D A (md_w q cI cZ 0 (upd xB u_1.toNatClampNeg ((xB u_1.toNatClampNeg) ^^^ ma)) 1 xcu xtp xtd xpa xsp xwh xhe xho xtk xto xwa xmn) := hD
      rw [hQ]
      exact sf_vret (0, (upd xB u_1.toNatClampNeg ((xB u_1.toNatClampNeg) ^^^ ma)), 1) hx hb hr hlk hS rfl (by simp only [f_MD_poke, ← hu_1, ← hu_3, eq_true c_2, eq_false c_4, ↓reduceIte]) hP d_MD_poke_59
    · refine lv_iconst (v := 1) hx hb d_MD_poke_29 (by decide) ?_
      refine lv_goto (tgt := 34) hx hb d_MD_poke_30 (by decide) ?_
      refine lv_iconst (v := 0) hx hb d_MD_poke_34 (by decide) ?_
      refine lv_iconst (v := 0) hx hb d_MD_poke_35 (by decide) ?_
      refine sf_callVw (S := Unit) (rest := []) ⟨hx, hb, hml, hown, hts⟩ (c_MD_throwing_2 l D cI cZ cJ q xth xB xsh xcu xtp xtd xpa xsp xwh xhe xho xtk xto xwa xmn 0 0) (sf_cwV lk_MD_117 hts (fun _ h => h) (by rw [hR]; exact ⟨Nat.le_of_ble_eq_true rfl, Nat.le_of_ble_eq_true rfl⟩)) hK hP hD hS hA (fun _ => by simp only [md_w_fst]) (ci := 3) (q0 := 0) rfl rfl rfl rfl rfl hl.1 (Nat.le_of_ble_eq_true rfl) d_MD_poke_36 ⟨Nat.zero_le _, Nat.zero_le _⟩ (fun u H locs hu hP hD hS => ?_)
      have hP : va_P D classes (md_w q cI cZ 2 xB xsh xcu xtp xtd xpa xsp xwh xhe xho xtk xto xwa xmn) H := hP
      have hD : va_D A (md_w q cI cZ 2 xB xsh xcu xtp xtd xpa xsp xwh xhe xho xtk xto xwa xmn) := hD
      refine lv_if_eq (tgt := 43) hx hb d_MD_poke_39 (by decide) (fun c_6 => absurd c_6 (by decide)) (fun c_6 => ?_)
      rw [hQ]
      exact sf_vret (2, xB, xsh) hx hb hr hlk hS rfl (by simp only [f_MD_poke, ← hu_1, ← hu_3, eq_true c_2, eq_true c_4, ↓reduceIte]) hP d_MD_poke_42
  · refine lv_iconst (v := 1) hx hb d_MD_poke_13 (by decide) ?_
    refine lv_goto (tgt := 18) hx hb d_MD_poke_14 (by decide) ?_
    refine lv_iload_n hx hb d_MD_poke_18 rfl (lv_at hl 4 rfl) ?_
    refine lv_iconst (v := 1) hx hb d_MD_poke_19 (by decide) ?_
    refine lv_sipush (v := 255) hx hb d_MD_poke_20 (by decide) ?_
    refine sf_callSr (S := Int32) (rest := [.int 1, .ref (q 0)]) ⟨hx, hb, hml, hown, hts⟩ (c_MD_in l D cI cZ cJ ma 1 255) (sf_cwS lk_MD_44 hts (fun _ h => h) (by rw [hR]; exact ⟨Nat.le_of_ble_eq_true rfl, Nat.le_of_ble_eq_true rfl⟩)) hK hP hD hS hA [] rfl rfl (fun _ => rfl) rfl rfl hl.1 (Nat.le_of_ble_eq_true rfl) d_MD_poke_23 ⟨Nat.zero_le _, Nat.zero_le _⟩ (fun u_7 H locs hu_7 hP hS => ?_)
    refine lv_if_ne (tgt := 33) hx hb d_MD_poke_26 (by decide) (fun c_8 => ?_) (fun c_8 => ?_)
    · refine lv_iconst (v := 0) hx hb d_MD_poke_33 (by decide) ?_
      refine lv_iconst (v := 0) hx hb d_MD_poke_34 (by decide) ?_
      refine lv_iconst (v := 0) hx hb d_MD_poke_35 (by decide) ?_
      refine sf_callVw (S := Unit) (rest := []) ⟨hx, hb, hml, hown, hts⟩ (c_MD_throwing_1 l D cI cZ cJ q xth xB xsh xcu xtp xtd xpa xsp xwh xhe xho xtk xto xwa xmn 0 0 0) (sf_cwV lk_MD_117 hts (fun _ h => h) (by rw [hR]; exact ⟨Nat.le_of_ble_eq_true rfl, Nat.le_of_ble_eq_true rfl⟩)) hK hP hD hS hA (fun _ => by simp only [md_w_fst]) (ci := 3) (q0 := 0) rfl rfl rfl rfl rfl hl.1 (Nat.le_of_ble_eq_true rfl) d_MD_poke_36 ⟨Nat.zero_le _, Nat.zero_le _⟩ (fun u H locs hu hP hD hS => ?_)
      have hP : va_P D classes (md_w q cI cZ 1 xB xsh xcu xtp xtd xpa xsp xwh xhe xho xtk xto xwa xmn) H := hP
      have hD : va_D A (md_w q cI cZ 1 xB xsh xcu xtp xtd xpa xsp xwh xhe xho xtk xto xwa xmn) := hD
      refine lv_if_eq (tgt := 43) hx hb d_MD_poke_39 (by decide) (fun c_9 => absurd c_9 (by decide)) (fun c_9 => ?_)
      rw [hQ]
      exact sf_vret (1, xB, xsh) hx hb hr hlk hS rfl (by simp only [f_MD_poke, ← hu_1, ← hu_7, eq_false c_2, eq_false c_8, ↓reduceIte]) hP d_MD_poke_42
    · refine lv_iconst (v := 1) hx hb d_MD_poke_29 (by decide) ?_
      refine lv_goto (tgt := 34) hx hb d_MD_poke_30 (by decide) ?_
      refine lv_iconst (v := 0) hx hb d_MD_poke_34 (by decide) ?_
      refine lv_iconst (v := 0) hx hb d_MD_poke_35 (by decide) ?_
      refine sf_callVw (S := Unit) (rest := []) ⟨hx, hb, hml, hown, hts⟩ (c_MD_throwing_1 l D cI cZ cJ q xth xB xsh xcu xtp xtd xpa xsp xwh xhe xho xtk xto xwa xmn 1 0 0) (sf_cwV lk_MD_117 hts (fun _ h => h) (by rw [hR]; exact ⟨Nat.le_of_ble_eq_true rfl, Nat.le_of_ble_eq_true rfl⟩)) hK hP hD hS hA (fun _ => by simp only [md_w_fst]) (ci := 3) (q0 := 0) rfl rfl rfl rfl rfl hl.1 (Nat.le_of_ble_eq_true rfl) d_MD_poke_36 ⟨Nat.zero_le _, Nat.zero_le _⟩ (fun u H locs hu hP hD hS => ?_)
      have hP : va_P D classes (md_w q cI cZ 1 xB xsh xcu xtp xtd xpa xsp xwh xhe xho xtk xto xwa xmn) H := hP
      have hD : va_D A (md_w q cI cZ 1 xB xsh xcu xtp xtd xpa xsp xwh xhe xho xtk xto xwa xmn) := hD
      refine lv_if_eq (tgt := 43) hx hb d_MD_poke_39 (by decide) (fun c_10 => absurd c_10 (by decide)) (fun c_10 => ?_)
      rw [hQ]
      exact sf_vret (1, xB, xsh) hx hb hr hlk hS rfl (by simp only [f_MD_poke, ← hu_1, ← hu_7, eq_false c_2, eq_true c_8, ↓reduceIte]) hP d_MD_poke_42
def f_MD_remove (xB : Nat → Int32) (xsh : Int32) (xcu : Int32) (xto : Nat → Int32) (xwa : Nat → Int32) (xmn : Int32) (ro : Int32) : (Int32 × Int32 × (Nat → Int32) × Int32 × Int32 × (Nat → Int32) × (Nat → Int32) × Int32) :=
  if (f_MD_in ro 0 11) = 0 then
    if xsh = 0 then
      (0, 1, xB, xsh, xcu, xto, xwa, xmn)
    else
      (0, 1, xB, xsh, xcu, xto, xwa, xmn)
  else
    if xsh = 0 then
      if (f_MD_isThere xB (ro.toNatClampNeg)) = 0 then
        (0, 2, xB, xsh, xcu, xto, xwa, xmn)
      else
        if (f_MD_comes xB xsh xcu (f_MD_putTable xB xto xwa 0 (ro.toNatClampNeg) 0 0).1 (f_MD_putTable xB xto xwa 0 (ro.toNatClampNeg) 0 0).2 (0 + 40)).1 = 0 then
          ((-1), 0, (f_MD_comes xB xsh xcu (f_MD_putTable xB xto xwa 0 (ro.toNatClampNeg) 0 0).1 (f_MD_putTable xB xto xwa 0 (ro.toNatClampNeg) 0 0).2 (0 + 40)).2.1, (f_MD_comes xB xsh xcu (f_MD_putTable xB xto xwa 0 (ro.toNatClampNeg) 0 0).1 (f_MD_putTable xB xto xwa 0 (ro.toNatClampNeg) 0 0).2 (0 + 40)).2.2, (-1), (f_MD_putTable xB xto xwa 0 (ro.toNatClampNeg) 0 0).1, (f_MD_putTable xB xto xwa 0 (ro.toNatClampNeg) 0 0).2, (nI (0 + 40)))
        else
          (0, 0, (f_MD_comes xB xsh xcu (f_MD_putTable xB xto xwa 0 (ro.toNatClampNeg) 0 0).1 (f_MD_putTable xB xto xwa 0 (ro.toNatClampNeg) 0 0).2 (0 + 40)).2.1, (f_MD_comes xB xsh xcu (f_MD_putTable xB xto xwa 0 (ro.toNatClampNeg) 0 0).1 (f_MD_putTable xB xto xwa 0 (ro.toNatClampNeg) 0 0).2 (0 + 40)).2.2, (-1), (f_MD_putTable xB xto xwa 0 (ro.toNatClampNeg) 0 0).1, (f_MD_putTable xB xto xwa 0 (ro.toNatClampNeg) 0 0).2, (nI (0 + 40)))
    else
      (0, 2, xB, xsh, xcu, xto, xwa, xmn)
set_option maxHeartbeats 1000000 in
set_option maxRecDepth 100000 in
/-- remove -/
theorem c_MD_remove (l : Launch) (D : va_G) (cI cZ cJ : ClassId) (q : Nat → Nat) (xth : Int32) (xB : Nat → Int32) (xsh : Int32) (xcu : Int32) (xtp : Nat → Int32) (xtd : Int32) (xpa : Nat → Int32) (xsp : Int32) (xwh : Int32) (xhe : Nat → Int32) (xho : Int32) (xtk : Nat → Int32) (xto : Nat → Int32) (xwa : Nat → Int32) (xmn : Int32) (ro : Int32) : sf_M (S := (Int32 × Int32 × (Nat → Int32) × Int32 × Int32 × (Nat → Int32) × (Nat → Int32) × Int32)) l D classes (sf_tys cI cZ cJ) y_MD_remove (sf_ws y_MD_remove b_MD_remove 3 (some .int)) 7 152 [.ref (q 0), .int ro] (md_w q cI cZ xth xB xsh xcu xtp xtd xpa xsp xwh xhe xho xtk xto xwa xmn) (fun r => some (.int r.1)) (fun r => r = f_MD_remove xB xsh xcu xto xwa xmn ro) (fun r => (md_w q cI cZ r.2.1 r.2.2.1 r.2.2.2.1 r.2.2.2.2.1 xtp xtd xpa xsp xwh xhe xho xtk r.2.2.2.2.2.1 r.2.2.2.2.2.2.1 r.2.2.2.2.2.2.2)) := by
  refine sf_ofW (S := (Int32 × Int32 × (Nat → Int32) × Int32 × Int32 × (Nat → Int32) × (Nat → Int32) × Int32)) (by decide) (Nat.le_of_ble_eq_true rfl) ?_
  intro p e s m below meth c A ls R args Q hR hArgs hQ hC0 hr hK hP hD hl
  obtain ⟨hx, hb, hml, hown, hts, hA, hlk⟩ := hC0
  have hS : va_S A s.heap s.heap [] := va_S.rf
  have hl : lv_has ls 3 [(0, .ref (q 0)), (1, .int ro)] := hl
  refine lv_iload_n hx hb d_MD_remove_0 rfl (lv_at hl 1 rfl) ?_
  refine lv_iconst (v := 0) hx hb d_MD_remove_1 (by decide) ?_
  refine lv_bipush (v := 11) hx hb d_MD_remove_2 (by decide) ?_
  refine sf_callSr (S := Int32) (rest := []) ⟨hx, hb, hml, hown, hts⟩ (c_MD_in l D cI cZ cJ ro 0 11) (sf_cwS lk_MD_44 hts (fun _ h => h) (by rw [hR]; exact ⟨Nat.le_of_ble_eq_true rfl, Nat.le_of_ble_eq_true rfl⟩)) hK hP hD hS hA [] rfl rfl (fun _ => rfl) rfl rfl hl.1 (Nat.le_of_ble_eq_true rfl) d_MD_remove_4 ⟨Nat.zero_le _, Nat.zero_le _⟩ (fun u_1 H locs hu_1 hP hS => ?_)
  refine lv_if_ne (tgt := 14) hx hb d_MD_remove_7 (by decide) (fun c_2 => ?_) (fun c_2 => ?_)
  · refine lv_iconst (v := 0) hx hb d_MD_remove_14 (by decide) ?_
    refine lv_istore_n (lv' := [(2, .int 0), (0, .ref (q 0)), (1, .int ro)]) hx hb d_MD_remove_15 rfl hl (by decide) rfl (fun ls hl => ?_)
    refine lv_aload_n hx hb d_MD_remove_16 rfl (lv_at hl 1 rfl) ?_
    refine lv_iload_n hx hb d_MD_remove_17 rfl (lv_at hl 0 rfl) ?_
    refine lv_aload_n hx hb d_MD_remove_18 rfl (lv_at hl 1 rfl) ?_
    refine va_get (D := D) (ci := 3) (v := .int xsh) (C := R_MD) (T := F_MD) (N := 15) hx hb hts i_MD hown hK hP 0 rfl rfl 2 (by decide) (hts _ wd_577) (fun _ h9 => h9) rfl d_MD_remove_19 ?_
    refine lv_if_ne (tgt := 37) hx hb d_MD_remove_22 (by decide) (fun c_3 => ?_) (fun c_3 => ?_)
    · refine lv_iconst (v := 1) hx hb d_MD_remove_37 (by decide) ?_
      refine lv_goto (tgt := 42) hx hb d_MD_remove_38 (by decide) ?_
      refine lv_iconst (v := 0) hx hb d_MD_remove_42 (by decide) ?_
      refine lv_iconst (v := 0) hx hb d_MD_remove_43 (by decide) ?_
      refine sf_callVw (S := Unit) (rest := []) ⟨hx, hb, hml, hown, hts⟩ (c_MD_throwing_2 l D cI cZ cJ q xth xB xsh xcu xtp xtd xpa xsp xwh xhe xho xtk xto xwa xmn 0 0) (sf_cwV lk_MD_117 hts (fun _ h => h) (by rw [hR]; exact ⟨Nat.le_of_ble_eq_true rfl, Nat.le_of_ble_eq_true rfl⟩)) hK hP hD hS hA (fun _ => by simp only [md_w_fst]) (ci := 3) (q0 := 0) rfl rfl rfl rfl rfl hl.1 (Nat.le_of_ble_eq_true rfl) d_MD_remove_44 ⟨Nat.zero_le _, Nat.zero_le _⟩ (fun u H locs hu hP hD hS => ?_)
      have hP : va_P D classes (md_w q cI cZ 2 xB xsh xcu xtp xtd xpa xsp xwh xhe xho xtk xto xwa xmn) H := hP
      have hD : va_D A (md_w q cI cZ 2 xB xsh xcu xtp xtd xpa xsp xwh xhe xho xtk xto xwa xmn) := hD
      refine lv_if_eq (tgt := 52) hx hb d_MD_remove_47 (by decide) (fun c_4 => absurd c_4 (by decide)) (fun c_4 => ?_)
      refine lv_iconst (v := 0) hx hb d_MD_remove_50 (by decide) ?_
      rw [hQ]
      exact sf_iret (0, 2, xB, xsh, xcu, xto, xwa, xmn) hx hb hr hlk hS rfl rfl (by simp only [f_MD_remove, ← hu_1, eq_false c_2, eq_false c_3, ↓reduceIte]) hP d_MD_remove_51
    · refine lv_iload_n hx hb d_MD_remove_25 rfl (lv_at hl 0 rfl) ?_
      refine lv_if_ne (tgt := 41) hx hb d_MD_remove_26 (by decide) (fun c_5 => absurd (by decide) c_5) (fun c_5 => ?_)
      refine lv_aload_n hx hb d_MD_remove_29 rfl (lv_at hl 1 rfl) ?_
      refine lv_iload_n hx hb d_MD_remove_30 rfl (lv_at hl 2 rfl) ?_
      obtain ⟨u_6, hu_6⟩ : ∃ z, z = ro.toNatClampNeg := ⟨_, rfl⟩
      obtain ⟨he_u_6, hb_u_6⟩ := sf_natr hu_6 (by rw [← hu_1]; exact c_2)
      rw [he_u_6]
      refine sf_callVw (S := Int32) (rest := [.int 0, .ref (q 0)]) ⟨hx, hb, hml, hown, hts⟩ (c_MD_isThere l D cI cZ cJ q xth xB xsh xcu xtp xtd xpa xsp xwh xhe xho xtk xto xwa xmn u_6 (by omega)) (sf_cwV lk_MD_95 hts (fun _ h => h) (by rw [hR]; exact ⟨Nat.le_of_ble_eq_true rfl, Nat.le_of_ble_eq_true rfl⟩)) hK hP hD hS hA (fun _ => by simp only [md_w_fst]) (ci := 3) (q0 := 0) rfl rfl rfl rfl rfl hl.1 (Nat.le_of_ble_eq_true rfl) d_MD_remove_31 ⟨Nat.zero_le _, Nat.zero_le _⟩ (fun u_7 H locs hu_7 hP hD hS => ?_)
      have hP : va_P D classes (md_w q cI cZ xth xB xsh xcu xtp xtd xpa xsp xwh xhe xho xtk xto xwa xmn) H := hP
      have hD : va_D A (md_w q cI cZ xth xB xsh xcu xtp xtd xpa xsp xwh xhe xho xtk xto xwa xmn) := hD
      refine lv_if_ne (tgt := 41) hx hb d_MD_remove_34 (by decide) (fun c_8 => ?_) (fun c_8 => ?_)
      · refine lv_iconst (v := 0) hx hb d_MD_remove_41 (by decide) ?_
        refine lv_iconst (v := 0) hx hb d_MD_remove_42 (by decide) ?_
        refine lv_iconst (v := 0) hx hb d_MD_remove_43 (by decide) ?_
        refine sf_callVw (S := Unit) (rest := []) ⟨hx, hb, hml, hown, hts⟩ (c_MD_throwing_0 l D cI cZ cJ q xth xB xsh xcu xtp xtd xpa xsp xwh xhe xho xtk xto xwa xmn) (sf_cwV lk_MD_117 hts (fun _ h => h) (by rw [hR]; exact ⟨Nat.le_of_ble_eq_true rfl, Nat.le_of_ble_eq_true rfl⟩)) hK hP hD hS hA (fun _ => by simp only [md_w_fst]) (ci := 3) (q0 := 0) rfl rfl rfl rfl rfl hl.1 (Nat.le_of_ble_eq_true rfl) d_MD_remove_44 ⟨Nat.zero_le _, Nat.zero_le _⟩ (fun u H locs hu hP hD hS => ?_)
        have hP : va_P D classes (md_w q cI cZ 0 xB xsh xcu xtp xtd xpa xsp xwh xhe xho xtk xto xwa xmn) H := hP
        have hD : va_D A (md_w q cI cZ 0 xB xsh xcu xtp xtd xpa xsp xwh xhe xho xtk xto xwa xmn) := hD
        refine lv_if_eq (tgt := 52) hx hb d_MD_remove_47 (by decide) (fun c_9 => ?_) (fun c_9 => absurd (by decide) c_9)
        refine lv_aload_n hx hb d_MD_remove_52 rfl (lv_at hl 1 rfl) ?_
        refine lv_iconst (v := 0) hx hb d_MD_remove_53 (by decide) ?_
        refine va_put (D := D) (ci := 3) (v := .int 0) (ty := .int) (C := R_MD) (T := F_MD) (N := 15) hx hb hts i_MD t_MD t_MD_ok n_MD hown hK hP hD hS 0 rfl rfl 14 (by decide) (hts _ wd_589) (fun _ h9 => h9) rfl (by decide +kernel) rfl rfl (Nat.le_of_ble_eq_true rfl) d_MD_remove_54 (fun H locs hP hD hS => ?_)
        have hP : va_P D classes (md_w q cI cZ 0 xB xsh xcu xtp xtd xpa xsp xwh xhe xho xtk xto xwa 0) H := hP
        have hD : va_D A (md_w q cI cZ 0 xB xsh xcu xtp xtd xpa xsp xwh xhe xho xtk xto xwa 0) := hD
        refine lv_aload_n hx hb d_MD_remove_57 rfl (lv_at hl 1 rfl) ?_
        refine lv_iload_n hx hb d_MD_remove_58 rfl (lv_at hl 2 rfl) ?_
        rw [he_u_6]
        refine lv_iconst (v := 0) hx hb d_MD_remove_59 (by decide) ?_
        refine lv_iconst (v := 0) hx hb d_MD_remove_60 (by decide) ?_
        refine sf_callVw (S := ((Nat → Int32) × (Nat → Int32))) (rest := []) ⟨hx, hb, hml, hown, hts⟩ (c_MD_putTable l D cI cZ cJ q 0 xB xsh xcu xtp xtd xpa xsp xwh xhe xho xtk xto xwa 0 u_6 0 0 (by omega) (by omega)) (sf_cwV lk_MD_129 hts (fun _ h => h) (by rw [hR]; exact ⟨Nat.le_of_ble_eq_true rfl, Nat.le_of_ble_eq_true rfl⟩)) hK hP hD hS hA (fun _ => by simp only [md_w_fst]) (ci := 3) (q0 := 0) rfl rfl rfl rfl rfl hl.1 (Nat.le_of_ble_eq_true rfl) d_MD_remove_61 ⟨Nat.zero_le _, Nat.zero_le _⟩ (fun u_10 H locs hu_10 hP hD hS => ?_)
        have hP : va_P D classes (md_w q cI cZ 0 xB xsh xcu xtp xtd xpa xsp xwh xhe xho xtk u_10.1 u_10.2 (nI (0 + 40))) H := hP
        have hD : va_D A (md_w q cI cZ 0 xB xsh xcu xtp xtd xpa xsp xwh xhe xho xtk u_10.1 u_10.2 (nI (0 + 40))) := hD
        refine lv_aload_n hx hb d_MD_remove_64 rfl (lv_at hl 1 rfl) ?_
        refine sf_callVw (S := (Int32 × (Nat → Int32) × Int32)) (rest := []) ⟨hx, hb, hml, hown, hts⟩ (c_MD_comes l D cI cZ cJ q 0 xB xsh xcu xtp xtd xpa xsp xwh xhe xho xtk u_10.1 u_10.2 (0 + 40) (by omega) (md_TOpt hu_10 (by omega) (md_TO0 _))) (sf_cwV lk_MD_133 hts (fun _ h => h) (by rw [hR]; exact ⟨Nat.le_of_ble_eq_true rfl, Nat.le_of_ble_eq_true rfl⟩)) hK hP hD hS hA (fun _ => by simp only [md_w_fst]) (ci := 3) (q0 := 0) rfl rfl rfl rfl rfl hl.1 (Nat.le_of_ble_eq_true rfl) d_MD_remove_65 ⟨Nat.zero_le _, Nat.zero_le _⟩ (fun u_11 H locs hu_11 hP hD hS => ?_)
        have hP : va_P D classes (md_w q cI cZ 0 u_11.2.1 u_11.2.2 (-1) xtp xtd xpa xsp xwh xhe xho xtk u_10.1 u_10.2 (nI (0 + 40))) H := hP
        have hD : va_D A (md_w q cI cZ 0 u_11.2.1 u_11.2.2 (-1) xtp xtd xpa xsp xwh xhe xho xtk u_10.1 u_10.2 (nI (0 + 40))) := hD
        refine lv_if_eq (tgt := 75) hx hb d_MD_remove_68 (by decide) (fun c_12 => ?_) (fun c_12 => ?_)
        · refine lv_iconst (v := (-1)) hx hb d_MD_remove_75 (by decide) ?_
          rw [hQ]
          exact sf_iret ((-1), 0, u_11.2.1, u_11.2.2, (-1), u_10.1, u_10.2, (nI (0 + 40))) hx hb hr hlk hS rfl rfl (by simp only [f_MD_remove, ← hu_1, ← hu_6, ← hu_7, ← hu_10, ← hu_11, eq_false c_2, eq_true c_3, eq_false c_8, eq_true c_12, ↓reduceIte]) hP d_MD_remove_76
        · refine lv_iconst (v := 0) hx hb d_MD_remove_71 (by decide) ?_
          refine lv_goto (tgt := 76) hx hb d_MD_remove_72 (by decide) ?_
          rw [hQ]
          exact sf_iret (0, 0, u_11.2.1, u_11.2.2, (-1), u_10.1, u_10.2, (nI (0 + 40))) hx hb hr hlk hS rfl rfl (by simp only [f_MD_remove, ← hu_1, ← hu_6, ← hu_7, ← hu_10, ← hu_11, eq_false c_2, eq_true c_3, eq_false c_8, eq_false c_12, ↓reduceIte]) hP d_MD_remove_76
      · refine lv_iconst (v := 1) hx hb d_MD_remove_37 (by decide) ?_
        refine lv_goto (tgt := 42) hx hb d_MD_remove_38 (by decide) ?_
        refine lv_iconst (v := 0) hx hb d_MD_remove_42 (by decide) ?_
        refine lv_iconst (v := 0) hx hb d_MD_remove_43 (by decide) ?_
        refine sf_callVw (S := Unit) (rest := []) ⟨hx, hb, hml, hown, hts⟩ (c_MD_throwing_2 l D cI cZ cJ q xth xB xsh xcu xtp xtd xpa xsp xwh xhe xho xtk xto xwa xmn 0 0) (sf_cwV lk_MD_117 hts (fun _ h => h) (by rw [hR]; exact ⟨Nat.le_of_ble_eq_true rfl, Nat.le_of_ble_eq_true rfl⟩)) hK hP hD hS hA (fun _ => by simp only [md_w_fst]) (ci := 3) (q0 := 0) rfl rfl rfl rfl rfl hl.1 (Nat.le_of_ble_eq_true rfl) d_MD_remove_44 ⟨Nat.zero_le _, Nat.zero_le _⟩ (fun u H locs hu hP hD hS => ?_)
        have hP : va_P D classes (md_w q cI cZ 2 xB xsh xcu xtp xtd xpa xsp xwh xhe xho xtk xto xwa xmn) H := hP
        have hD : va_D A (md_w q cI cZ 2 xB xsh xcu xtp xtd xpa xsp xwh xhe xho xtk xto xwa xmn) := hD
        refine lv_if_eq (tgt := 52) hx hb d_MD_remove_47 (by decide) (fun c_13 => absurd c_13 (by decide)) (fun c_13 => ?_)
        refine lv_iconst (v := 0) hx hb d_MD_remove_50 (by decide) ?_
        rw [hQ]
        exact sf_iret (0, 2, xB, xsh, xcu, xto, xwa, xmn) hx hb hr hlk hS rfl rfl (by simp only [f_MD_remove, ← hu_1, ← hu_6, ← hu_7, eq_false c_2, eq_true c_3, eq_true c_8, ↓reduceIte]) hP d_MD_remove_51
  · refine lv_iconst (v := 1) hx hb d_MD_remove_10 (by decide) ?_
    refine lv_goto (tgt := 15) hx hb d_MD_remove_11 (by decide) ?_
    refine lv_istore_n (lv' := [(2, .int 1), (0, .ref (q 0)), (1, .int ro)]) hx hb d_MD_remove_15 rfl hl (by decide) rfl (fun ls hl => ?_)
    refine lv_aload_n hx hb d_MD_remove_16 rfl (lv_at hl 1 rfl) ?_
    refine lv_iload_n hx hb d_MD_remove_17 rfl (lv_at hl 0 rfl) ?_
    refine lv_aload_n hx hb d_MD_remove_18 rfl (lv_at hl 1 rfl) ?_
    refine va_get (D := D) (ci := 3) (v := .int xsh) (C := R_MD) (T := F_MD) (N := 15) hx hb hts i_MD hown hK hP 0 rfl rfl 2 (by decide) (hts _ wd_577) (fun _ h9 => h9) rfl d_MD_remove_19 ?_
    refine lv_if_ne (tgt := 37) hx hb d_MD_remove_22 (by decide) (fun c_14 => ?_) (fun c_14 => ?_)
    · refine lv_iconst (v := 1) hx hb d_MD_remove_37 (by decide) ?_
      refine lv_goto (tgt := 42) hx hb d_MD_remove_38 (by decide) ?_
      refine lv_iconst (v := 0) hx hb d_MD_remove_42 (by decide) ?_
      refine lv_iconst (v := 0) hx hb d_MD_remove_43 (by decide) ?_
      refine sf_callVw (S := Unit) (rest := []) ⟨hx, hb, hml, hown, hts⟩ (c_MD_throwing_1 l D cI cZ cJ q xth xB xsh xcu xtp xtd xpa xsp xwh xhe xho xtk xto xwa xmn 1 0 0) (sf_cwV lk_MD_117 hts (fun _ h => h) (by rw [hR]; exact ⟨Nat.le_of_ble_eq_true rfl, Nat.le_of_ble_eq_true rfl⟩)) hK hP hD hS hA (fun _ => by simp only [md_w_fst]) (ci := 3) (q0 := 0) rfl rfl rfl rfl rfl hl.1 (Nat.le_of_ble_eq_true rfl) d_MD_remove_44 ⟨Nat.zero_le _, Nat.zero_le _⟩ (fun u H locs hu hP hD hS => ?_)
      have hP : va_P D classes (md_w q cI cZ 1 xB xsh xcu xtp xtd xpa xsp xwh xhe xho xtk xto xwa xmn) H := hP
      have hD : va_D A (md_w q cI cZ 1 xB xsh xcu xtp xtd xpa xsp xwh xhe xho xtk xto xwa xmn) := hD
      refine lv_if_eq (tgt := 52) hx hb d_MD_remove_47 (by decide) (fun c_15 => absurd c_15 (by decide)) (fun c_15 => ?_)
      refine lv_iconst (v := 0) hx hb d_MD_remove_50 (by decide) ?_
      rw [hQ]
      exact sf_iret (0, 1, xB, xsh, xcu, xto, xwa, xmn) hx hb hr hlk hS rfl rfl (by simp only [f_MD_remove, ← hu_1, eq_true c_2, eq_false c_14, ↓reduceIte]) hP d_MD_remove_51
    · refine lv_iload_n hx hb d_MD_remove_25 rfl (lv_at hl 0 rfl) ?_
      refine lv_if_ne (tgt := 41) hx hb d_MD_remove_26 (by decide) (fun c_16 => ?_) (fun c_16 => absurd c_16 (by decide))
      refine lv_iconst (v := 0) hx hb d_MD_remove_41 (by decide) ?_
      refine lv_iconst (v := 0) hx hb d_MD_remove_42 (by decide) ?_
      refine lv_iconst (v := 0) hx hb d_MD_remove_43 (by decide) ?_
      refine sf_callVw (S := Unit) (rest := []) ⟨hx, hb, hml, hown, hts⟩ (c_MD_throwing_1 l D cI cZ cJ q xth xB xsh xcu xtp xtd xpa xsp xwh xhe xho xtk xto xwa xmn 0 0 0) (sf_cwV lk_MD_117 hts (fun _ h => h) (by rw [hR]; exact ⟨Nat.le_of_ble_eq_true rfl, Nat.le_of_ble_eq_true rfl⟩)) hK hP hD hS hA (fun _ => by simp only [md_w_fst]) (ci := 3) (q0 := 0) rfl rfl rfl rfl rfl hl.1 (Nat.le_of_ble_eq_true rfl) d_MD_remove_44 ⟨Nat.zero_le _, Nat.zero_le _⟩ (fun u H locs hu hP hD hS => ?_)
      have hP : va_P D classes (md_w q cI cZ 1 xB xsh xcu xtp xtd xpa xsp xwh xhe xho xtk xto xwa xmn) H := hP
      have hD : va_D A (md_w q cI cZ 1 xB xsh xcu xtp xtd xpa xsp xwh xhe xho xtk xto xwa xmn) := hD
      refine lv_if_eq (tgt := 52) hx hb d_MD_remove_47 (by decide) (fun c_17 => absurd c_17 (by decide)) (fun c_17 => ?_)
      refine lv_iconst (v := 0) hx hb d_MD_remove_50 (by decide) ?_
      rw [hQ]
      exact sf_iret (0, 1, xB, xsh, xcu, xto, xwa, xmn) hx hb hr hlk hS rfl rfl (by simp only [f_MD_remove, ← hu_1, eq_true c_2, eq_true c_14, ↓reduceIte]) hP d_MD_remove_51
def f_MD_write_l100 (xtp : Nat → Int32) (td : Nat) : Nat → Nat → (Nat → Int32) → ((Nat → Int32))
  | 0, _, _ => ((fun _ => 0))
  | fu + 1, kk, yh =>
    if (nI td) ≤ (nI kk) then
      yh
    else
      f_MD_write_l100 xtp td fu (kk + 1) (upd yh kk (xtp kk))
def f_MD_write (xB : Nat → Int32) (xsh : Int32) (xcu : Int32) (xtp : Nat → Int32) (xpa : Nat → Int32) (xsp : Int32) (xwh : Int32) (xhe : Nat → Int32) (xho : Int32) (xtk : Nat → Int32) (xto : Nat → Int32) (xwa : Nat → Int32) (xmn : Int32) (td : Nat) (ro : Int32) (mo : Int32) : (Int32 × Int32 × (Nat → Int32) × Int32 × Int32 × Int32 × (Nat → Int32) × Int32 × Int32 × (Nat → Int32) × Int32 × (Nat → Int32) × (Nat → Int32) × (Nat → Int32) × Int32) :=
  if (f_MD_findTaken_0 xB xpa xsp xwh xhe xho xtk).1 < (nI (((td + 25) - 1) / 25)) then
    if (f_MD_in ro 0 11) = 0 then
      if xsh = 0 then
        if (nI td) = 0 then
          if (f_MD_in mo 0 11) = 0 then
            (0, 1, xB, xsh, xcu, (nI td), (f_MD_findTaken_0 xB xpa xsp xwh xhe xho xtk).2.2.1, (f_MD_findTaken_0 xB xpa xsp xwh xhe xho xtk).2.2.2.1, (f_MD_findTaken_0 xB xpa xsp xwh xhe xho xtk).2.2.2.2.1, (f_MD_findTaken_0 xB xpa xsp xwh xhe xho xtk).2.2.2.2.2.1, (f_MD_findTaken_0 xB xpa xsp xwh xhe xho xtk).2.2.2.2.2.2, (f_MD_findTaken_0 xB xpa xsp xwh xhe xho xtk).2.1, xto, xwa, xmn)
          else
            (0, 1, xB, xsh, xcu, (nI td), (f_MD_findTaken_0 xB xpa xsp xwh xhe xho xtk).2.2.1, (f_MD_findTaken_0 xB xpa xsp xwh xhe xho xtk).2.2.2.1, (f_MD_findTaken_0 xB xpa xsp xwh xhe xho xtk).2.2.2.2.1, (f_MD_findTaken_0 xB xpa xsp xwh xhe xho xtk).2.2.2.2.2.1, (f_MD_findTaken_0 xB xpa xsp xwh xhe xho xtk).2.2.2.2.2.2, (f_MD_findTaken_0 xB xpa xsp xwh xhe xho xtk).2.1, xto, xwa, xmn)
        else
          if (f_MD_in mo 0 11) = 0 then
            (0, 1, xB, xsh, xcu, (nI td), (f_MD_findTaken_0 xB xpa xsp xwh xhe xho xtk).2.2.1, (f_MD_findTaken_0 xB xpa xsp xwh xhe xho xtk).2.2.2.1, (f_MD_findTaken_0 xB xpa xsp xwh xhe xho xtk).2.2.2.2.1, (f_MD_findTaken_0 xB xpa xsp xwh xhe xho xtk).2.2.2.2.2.1, (f_MD_findTaken_0 xB xpa xsp xwh xhe xho xtk).2.2.2.2.2.2, (f_MD_findTaken_0 xB xpa xsp xwh xhe xho xtk).2.1, xto, xwa, xmn)
          else
            (0, 1, xB, xsh, xcu, (nI td), (f_MD_findTaken_0 xB xpa xsp xwh xhe xho xtk).2.2.1, (f_MD_findTaken_0 xB xpa xsp xwh xhe xho xtk).2.2.2.1, (f_MD_findTaken_0 xB xpa xsp xwh xhe xho xtk).2.2.2.2.1, (f_MD_findTaken_0 xB xpa xsp xwh xhe xho xtk).2.2.2.2.2.1, (f_MD_findTaken_0 xB xpa xsp xwh xhe xho xtk).2.2.2.2.2.2, (f_MD_findTaken_0 xB xpa xsp xwh xhe xho xtk).2.1, xto, xwa, xmn)
      else
        if (f_MD_in mo 0 11) = 0 then
          (0, 1, xB, xsh, xcu, (nI td), (f_MD_findTaken_0 xB xpa xsp xwh xhe xho xtk).2.2.1, (f_MD_findTaken_0 xB xpa xsp xwh xhe xho xtk).2.2.2.1, (f_MD_findTaken_0 xB xpa xsp xwh xhe xho xtk).2.2.2.2.1, (f_MD_findTaken_0 xB xpa xsp xwh xhe xho xtk).2.2.2.2.2.1, (f_MD_findTaken_0 xB xpa xsp xwh xhe xho xtk).2.2.2.2.2.2, (f_MD_findTaken_0 xB xpa xsp xwh xhe xho xtk).2.1, xto, xwa, xmn)
        else
          (0, 1, xB, xsh, xcu, (nI td), (f_MD_findTaken_0 xB xpa xsp xwh xhe xho xtk).2.2.1, (f_MD_findTaken_0 xB xpa xsp xwh xhe xho xtk).2.2.2.1, (f_MD_findTaken_0 xB xpa xsp xwh xhe xho xtk).2.2.2.2.1, (f_MD_findTaken_0 xB xpa xsp xwh xhe xho xtk).2.2.2.2.2.1, (f_MD_findTaken_0 xB xpa xsp xwh xhe xho xtk).2.2.2.2.2.2, (f_MD_findTaken_0 xB xpa xsp xwh xhe xho xtk).2.1, xto, xwa, xmn)
    else
      if xsh = 0 then
        if (nI td) = 0 then
          if (f_MD_in mo 0 11) = 0 then
            (0, 2, xB, xsh, xcu, (nI td), (f_MD_findTaken_0 xB xpa xsp xwh xhe xho xtk).2.2.1, (f_MD_findTaken_0 xB xpa xsp xwh xhe xho xtk).2.2.2.1, (f_MD_findTaken_0 xB xpa xsp xwh xhe xho xtk).2.2.2.2.1, (f_MD_findTaken_0 xB xpa xsp xwh xhe xho xtk).2.2.2.2.2.1, (f_MD_findTaken_0 xB xpa xsp xwh xhe xho xtk).2.2.2.2.2.2, (f_MD_findTaken_0 xB xpa xsp xwh xhe xho xtk).2.1, xto, xwa, xmn)
          else
            (0, 2, xB, xsh, xcu, (nI td), (f_MD_findTaken_0 xB xpa xsp xwh xhe xho xtk).2.2.1, (f_MD_findTaken_0 xB xpa xsp xwh xhe xho xtk).2.2.2.1, (f_MD_findTaken_0 xB xpa xsp xwh xhe xho xtk).2.2.2.2.1, (f_MD_findTaken_0 xB xpa xsp xwh xhe xho xtk).2.2.2.2.2.1, (f_MD_findTaken_0 xB xpa xsp xwh xhe xho xtk).2.2.2.2.2.2, (f_MD_findTaken_0 xB xpa xsp xwh xhe xho xtk).2.1, xto, xwa, xmn)
        else
          if (f_MD_in mo 0 11) = 0 then
            (0, 3, xB, xsh, xcu, (nI td), (f_MD_findTaken_0 xB xpa xsp xwh xhe xho xtk).2.2.1, (f_MD_findTaken_0 xB xpa xsp xwh xhe xho xtk).2.2.2.1, (f_MD_findTaken_0 xB xpa xsp xwh xhe xho xtk).2.2.2.2.1, (f_MD_findTaken_0 xB xpa xsp xwh xhe xho xtk).2.2.2.2.2.1, (f_MD_findTaken_0 xB xpa xsp xwh xhe xho xtk).2.2.2.2.2.2, (f_MD_findTaken_0 xB xpa xsp xwh xhe xho xtk).2.1, xto, xwa, xmn)
          else
            (0, 4, xB, xsh, xcu, (nI td), (f_MD_findTaken_0 xB xpa xsp xwh xhe xho xtk).2.2.1, (f_MD_findTaken_0 xB xpa xsp xwh xhe xho xtk).2.2.2.1, (f_MD_findTaken_0 xB xpa xsp xwh xhe xho xtk).2.2.2.2.1, (f_MD_findTaken_0 xB xpa xsp xwh xhe xho xtk).2.2.2.2.2.1, (f_MD_findTaken_0 xB xpa xsp xwh xhe xho xtk).2.2.2.2.2.2, (f_MD_findTaken_0 xB xpa xsp xwh xhe xho xtk).2.1, xto, xwa, xmn)
      else
        if (f_MD_in mo 0 11) = 0 then
          (0, 2, xB, xsh, xcu, (nI td), (f_MD_findTaken_0 xB xpa xsp xwh xhe xho xtk).2.2.1, (f_MD_findTaken_0 xB xpa xsp xwh xhe xho xtk).2.2.2.1, (f_MD_findTaken_0 xB xpa xsp xwh xhe xho xtk).2.2.2.2.1, (f_MD_findTaken_0 xB xpa xsp xwh xhe xho xtk).2.2.2.2.2.1, (f_MD_findTaken_0 xB xpa xsp xwh xhe xho xtk).2.2.2.2.2.2, (f_MD_findTaken_0 xB xpa xsp xwh xhe xho xtk).2.1, xto, xwa, xmn)
        else
          (0, 2, xB, xsh, xcu, (nI td), (f_MD_findTaken_0 xB xpa xsp xwh xhe xho xtk).2.2.1, (f_MD_findTaken_0 xB xpa xsp xwh xhe xho xtk).2.2.2.1, (f_MD_findTaken_0 xB xpa xsp xwh xhe xho xtk).2.2.2.2.1, (f_MD_findTaken_0 xB xpa xsp xwh xhe xho xtk).2.2.2.2.2.1, (f_MD_findTaken_0 xB xpa xsp xwh xhe xho xtk).2.2.2.2.2.2, (f_MD_findTaken_0 xB xpa xsp xwh xhe xho xtk).2.1, xto, xwa, xmn)
  else
    if (f_MD_in ro 0 11) = 0 then
      if xsh = 0 then
        if (nI td) = 0 then
          if (f_MD_in mo 0 11) = 0 then
            (0, 1, xB, xsh, xcu, (nI td), (f_MD_findTaken_0 xB xpa xsp xwh xhe xho xtk).2.2.1, (f_MD_findTaken_0 xB xpa xsp xwh xhe xho xtk).2.2.2.1, (f_MD_findTaken_0 xB xpa xsp xwh xhe xho xtk).2.2.2.2.1, (f_MD_findTaken_0 xB xpa xsp xwh xhe xho xtk).2.2.2.2.2.1, (f_MD_findTaken_0 xB xpa xsp xwh xhe xho xtk).2.2.2.2.2.2, (f_MD_findTaken_0 xB xpa xsp xwh xhe xho xtk).2.1, xto, xwa, xmn)
          else
            (0, 1, xB, xsh, xcu, (nI td), (f_MD_findTaken_0 xB xpa xsp xwh xhe xho xtk).2.2.1, (f_MD_findTaken_0 xB xpa xsp xwh xhe xho xtk).2.2.2.1, (f_MD_findTaken_0 xB xpa xsp xwh xhe xho xtk).2.2.2.2.1, (f_MD_findTaken_0 xB xpa xsp xwh xhe xho xtk).2.2.2.2.2.1, (f_MD_findTaken_0 xB xpa xsp xwh xhe xho xtk).2.2.2.2.2.2, (f_MD_findTaken_0 xB xpa xsp xwh xhe xho xtk).2.1, xto, xwa, xmn)
        else
          if (f_MD_in mo 0 11) = 0 then
            (0, 1, xB, xsh, xcu, (nI td), (f_MD_findTaken_0 xB xpa xsp xwh xhe xho xtk).2.2.1, (f_MD_findTaken_0 xB xpa xsp xwh xhe xho xtk).2.2.2.1, (f_MD_findTaken_0 xB xpa xsp xwh xhe xho xtk).2.2.2.2.1, (f_MD_findTaken_0 xB xpa xsp xwh xhe xho xtk).2.2.2.2.2.1, (f_MD_findTaken_0 xB xpa xsp xwh xhe xho xtk).2.2.2.2.2.2, (f_MD_findTaken_0 xB xpa xsp xwh xhe xho xtk).2.1, xto, xwa, xmn)
          else
            (0, 1, xB, xsh, xcu, (nI td), (f_MD_findTaken_0 xB xpa xsp xwh xhe xho xtk).2.2.1, (f_MD_findTaken_0 xB xpa xsp xwh xhe xho xtk).2.2.2.1, (f_MD_findTaken_0 xB xpa xsp xwh xhe xho xtk).2.2.2.2.1, (f_MD_findTaken_0 xB xpa xsp xwh xhe xho xtk).2.2.2.2.2.1, (f_MD_findTaken_0 xB xpa xsp xwh xhe xho xtk).2.2.2.2.2.2, (f_MD_findTaken_0 xB xpa xsp xwh xhe xho xtk).2.1, xto, xwa, xmn)
      else
        if (f_MD_in mo 0 11) = 0 then
          (0, 1, xB, xsh, xcu, (nI td), (f_MD_findTaken_0 xB xpa xsp xwh xhe xho xtk).2.2.1, (f_MD_findTaken_0 xB xpa xsp xwh xhe xho xtk).2.2.2.1, (f_MD_findTaken_0 xB xpa xsp xwh xhe xho xtk).2.2.2.2.1, (f_MD_findTaken_0 xB xpa xsp xwh xhe xho xtk).2.2.2.2.2.1, (f_MD_findTaken_0 xB xpa xsp xwh xhe xho xtk).2.2.2.2.2.2, (f_MD_findTaken_0 xB xpa xsp xwh xhe xho xtk).2.1, xto, xwa, xmn)
        else
          (0, 1, xB, xsh, xcu, (nI td), (f_MD_findTaken_0 xB xpa xsp xwh xhe xho xtk).2.2.1, (f_MD_findTaken_0 xB xpa xsp xwh xhe xho xtk).2.2.2.1, (f_MD_findTaken_0 xB xpa xsp xwh xhe xho xtk).2.2.2.2.1, (f_MD_findTaken_0 xB xpa xsp xwh xhe xho xtk).2.2.2.2.2.1, (f_MD_findTaken_0 xB xpa xsp xwh xhe xho xtk).2.2.2.2.2.2, (f_MD_findTaken_0 xB xpa xsp xwh xhe xho xtk).2.1, xto, xwa, xmn)
    else
      if xsh = 0 then
        if (nI td) = 0 then
          if (f_MD_in mo 0 11) = 0 then
            (0, 2, xB, xsh, xcu, (nI td), (f_MD_findTaken_0 xB xpa xsp xwh xhe xho xtk).2.2.1, (f_MD_findTaken_0 xB xpa xsp xwh xhe xho xtk).2.2.2.1, (f_MD_findTaken_0 xB xpa xsp xwh xhe xho xtk).2.2.2.2.1, (f_MD_findTaken_0 xB xpa xsp xwh xhe xho xtk).2.2.2.2.2.1, (f_MD_findTaken_0 xB xpa xsp xwh xhe xho xtk).2.2.2.2.2.2, (f_MD_findTaken_0 xB xpa xsp xwh xhe xho xtk).2.1, xto, xwa, xmn)
          else
            (0, 2, xB, xsh, xcu, (nI td), (f_MD_findTaken_0 xB xpa xsp xwh xhe xho xtk).2.2.1, (f_MD_findTaken_0 xB xpa xsp xwh xhe xho xtk).2.2.2.1, (f_MD_findTaken_0 xB xpa xsp xwh xhe xho xtk).2.2.2.2.1, (f_MD_findTaken_0 xB xpa xsp xwh xhe xho xtk).2.2.2.2.2.1, (f_MD_findTaken_0 xB xpa xsp xwh xhe xho xtk).2.2.2.2.2.2, (f_MD_findTaken_0 xB xpa xsp xwh xhe xho xtk).2.1, xto, xwa, xmn)
        else
          if (f_MD_in mo 0 11) = 0 then
            (0, 3, xB, xsh, xcu, (nI td), (f_MD_findTaken_0 xB xpa xsp xwh xhe xho xtk).2.2.1, (f_MD_findTaken_0 xB xpa xsp xwh xhe xho xtk).2.2.2.1, (f_MD_findTaken_0 xB xpa xsp xwh xhe xho xtk).2.2.2.2.1, (f_MD_findTaken_0 xB xpa xsp xwh xhe xho xtk).2.2.2.2.2.1, (f_MD_findTaken_0 xB xpa xsp xwh xhe xho xtk).2.2.2.2.2.2, (f_MD_findTaken_0 xB xpa xsp xwh xhe xho xtk).2.1, xto, xwa, xmn)
          else
            if (f_MD_comes xB xsh xcu (f_MD_putTable xB (f_MD_putChain_0 (f_MD_write_l100 xtp td (td + 1) 0 (f_MD_findTaken_0 xB xpa xsp xwh xhe xho xtk).2.2.2.2.2.1) (f_MD_findTaken_0 xB xpa xsp xwh xhe xho xtk).2.1 xto xwa td 0 mo).2.1 (f_MD_putChain_0 (f_MD_write_l100 xtp td (td + 1) 0 (f_MD_findTaken_0 xB xpa xsp xwh xhe xho xtk).2.2.2.2.2.1) (f_MD_findTaken_0 xB xpa xsp xwh xhe xho xtk).2.1 xto xwa td 0 mo).2.2 (0 + 32 * ((td + 24) / 25)) (ro.toNatClampNeg) ((f_MD_putChain_0 (f_MD_write_l100 xtp td (td + 1) 0 (f_MD_findTaken_0 xB xpa xsp xwh xhe xho xtk).2.2.2.2.2.1) (f_MD_findTaken_0 xB xpa xsp xwh xhe xho xtk).2.1 xto xwa td 0 mo).1 + 1) 0).1 (f_MD_putTable xB (f_MD_putChain_0 (f_MD_write_l100 xtp td (td + 1) 0 (f_MD_findTaken_0 xB xpa xsp xwh xhe xho xtk).2.2.2.2.2.1) (f_MD_findTaken_0 xB xpa xsp xwh xhe xho xtk).2.1 xto xwa td 0 mo).2.1 (f_MD_putChain_0 (f_MD_write_l100 xtp td (td + 1) 0 (f_MD_findTaken_0 xB xpa xsp xwh xhe xho xtk).2.2.2.2.2.1) (f_MD_findTaken_0 xB xpa xsp xwh xhe xho xtk).2.1 xto xwa td 0 mo).2.2 (0 + 32 * ((td + 24) / 25)) (ro.toNatClampNeg) ((f_MD_putChain_0 (f_MD_write_l100 xtp td (td + 1) 0 (f_MD_findTaken_0 xB xpa xsp xwh xhe xho xtk).2.2.2.2.2.1) (f_MD_findTaken_0 xB xpa xsp xwh xhe xho xtk).2.1 xto xwa td 0 mo).1 + 1) 0).2 ((0 + 32 * ((td + 24) / 25)) + 40)).1 = 0 then
              ((-1), 0, (f_MD_comes xB xsh xcu (f_MD_putTable xB (f_MD_putChain_0 (f_MD_write_l100 xtp td (td + 1) 0 (f_MD_findTaken_0 xB xpa xsp xwh xhe xho xtk).2.2.2.2.2.1) (f_MD_findTaken_0 xB xpa xsp xwh xhe xho xtk).2.1 xto xwa td 0 mo).2.1 (f_MD_putChain_0 (f_MD_write_l100 xtp td (td + 1) 0 (f_MD_findTaken_0 xB xpa xsp xwh xhe xho xtk).2.2.2.2.2.1) (f_MD_findTaken_0 xB xpa xsp xwh xhe xho xtk).2.1 xto xwa td 0 mo).2.2 (0 + 32 * ((td + 24) / 25)) (ro.toNatClampNeg) ((f_MD_putChain_0 (f_MD_write_l100 xtp td (td + 1) 0 (f_MD_findTaken_0 xB xpa xsp xwh xhe xho xtk).2.2.2.2.2.1) (f_MD_findTaken_0 xB xpa xsp xwh xhe xho xtk).2.1 xto xwa td 0 mo).1 + 1) 0).1 (f_MD_putTable xB (f_MD_putChain_0 (f_MD_write_l100 xtp td (td + 1) 0 (f_MD_findTaken_0 xB xpa xsp xwh xhe xho xtk).2.2.2.2.2.1) (f_MD_findTaken_0 xB xpa xsp xwh xhe xho xtk).2.1 xto xwa td 0 mo).2.1 (f_MD_putChain_0 (f_MD_write_l100 xtp td (td + 1) 0 (f_MD_findTaken_0 xB xpa xsp xwh xhe xho xtk).2.2.2.2.2.1) (f_MD_findTaken_0 xB xpa xsp xwh xhe xho xtk).2.1 xto xwa td 0 mo).2.2 (0 + 32 * ((td + 24) / 25)) (ro.toNatClampNeg) ((f_MD_putChain_0 (f_MD_write_l100 xtp td (td + 1) 0 (f_MD_findTaken_0 xB xpa xsp xwh xhe xho xtk).2.2.2.2.2.1) (f_MD_findTaken_0 xB xpa xsp xwh xhe xho xtk).2.1 xto xwa td 0 mo).1 + 1) 0).2 ((0 + 32 * ((td + 24) / 25)) + 40)).2.1, (f_MD_comes xB xsh xcu (f_MD_putTable xB (f_MD_putChain_0 (f_MD_write_l100 xtp td (td + 1) 0 (f_MD_findTaken_0 xB xpa xsp xwh xhe xho xtk).2.2.2.2.2.1) (f_MD_findTaken_0 xB xpa xsp xwh xhe xho xtk).2.1 xto xwa td 0 mo).2.1 (f_MD_putChain_0 (f_MD_write_l100 xtp td (td + 1) 0 (f_MD_findTaken_0 xB xpa xsp xwh xhe xho xtk).2.2.2.2.2.1) (f_MD_findTaken_0 xB xpa xsp xwh xhe xho xtk).2.1 xto xwa td 0 mo).2.2 (0 + 32 * ((td + 24) / 25)) (ro.toNatClampNeg) ((f_MD_putChain_0 (f_MD_write_l100 xtp td (td + 1) 0 (f_MD_findTaken_0 xB xpa xsp xwh xhe xho xtk).2.2.2.2.2.1) (f_MD_findTaken_0 xB xpa xsp xwh xhe xho xtk).2.1 xto xwa td 0 mo).1 + 1) 0).1 (f_MD_putTable xB (f_MD_putChain_0 (f_MD_write_l100 xtp td (td + 1) 0 (f_MD_findTaken_0 xB xpa xsp xwh xhe xho xtk).2.2.2.2.2.1) (f_MD_findTaken_0 xB xpa xsp xwh xhe xho xtk).2.1 xto xwa td 0 mo).2.1 (f_MD_putChain_0 (f_MD_write_l100 xtp td (td + 1) 0 (f_MD_findTaken_0 xB xpa xsp xwh xhe xho xtk).2.2.2.2.2.1) (f_MD_findTaken_0 xB xpa xsp xwh xhe xho xtk).2.1 xto xwa td 0 mo).2.2 (0 + 32 * ((td + 24) / 25)) (ro.toNatClampNeg) ((f_MD_putChain_0 (f_MD_write_l100 xtp td (td + 1) 0 (f_MD_findTaken_0 xB xpa xsp xwh xhe xho xtk).2.2.2.2.2.1) (f_MD_findTaken_0 xB xpa xsp xwh xhe xho xtk).2.1 xto xwa td 0 mo).1 + 1) 0).2 ((0 + 32 * ((td + 24) / 25)) + 40)).2.2, (-1), 0, (f_MD_findTaken_0 xB xpa xsp xwh xhe xho xtk).2.2.1, (f_MD_findTaken_0 xB xpa xsp xwh xhe xho xtk).2.2.2.1, (f_MD_findTaken_0 xB xpa xsp xwh xhe xho xtk).2.2.2.2.1, (f_MD_write_l100 xtp td (td + 1) 0 (f_MD_findTaken_0 xB xpa xsp xwh xhe xho xtk).2.2.2.2.2.1), (nI td), (f_MD_findTaken_0 xB xpa xsp xwh xhe xho xtk).2.1, (f_MD_putTable xB (f_MD_putChain_0 (f_MD_write_l100 xtp td (td + 1) 0 (f_MD_findTaken_0 xB xpa xsp xwh xhe xho xtk).2.2.2.2.2.1) (f_MD_findTaken_0 xB xpa xsp xwh xhe xho xtk).2.1 xto xwa td 0 mo).2.1 (f_MD_putChain_0 (f_MD_write_l100 xtp td (td + 1) 0 (f_MD_findTaken_0 xB xpa xsp xwh xhe xho xtk).2.2.2.2.2.1) (f_MD_findTaken_0 xB xpa xsp xwh xhe xho xtk).2.1 xto xwa td 0 mo).2.2 (0 + 32 * ((td + 24) / 25)) (ro.toNatClampNeg) ((f_MD_putChain_0 (f_MD_write_l100 xtp td (td + 1) 0 (f_MD_findTaken_0 xB xpa xsp xwh xhe xho xtk).2.2.2.2.2.1) (f_MD_findTaken_0 xB xpa xsp xwh xhe xho xtk).2.1 xto xwa td 0 mo).1 + 1) 0).1, (f_MD_putTable xB (f_MD_putChain_0 (f_MD_write_l100 xtp td (td + 1) 0 (f_MD_findTaken_0 xB xpa xsp xwh xhe xho xtk).2.2.2.2.2.1) (f_MD_findTaken_0 xB xpa xsp xwh xhe xho xtk).2.1 xto xwa td 0 mo).2.1 (f_MD_putChain_0 (f_MD_write_l100 xtp td (td + 1) 0 (f_MD_findTaken_0 xB xpa xsp xwh xhe xho xtk).2.2.2.2.2.1) (f_MD_findTaken_0 xB xpa xsp xwh xhe xho xtk).2.1 xto xwa td 0 mo).2.2 (0 + 32 * ((td + 24) / 25)) (ro.toNatClampNeg) ((f_MD_putChain_0 (f_MD_write_l100 xtp td (td + 1) 0 (f_MD_findTaken_0 xB xpa xsp xwh xhe xho xtk).2.2.2.2.2.1) (f_MD_findTaken_0 xB xpa xsp xwh xhe xho xtk).2.1 xto xwa td 0 mo).1 + 1) 0).2, (nI ((0 + 32 * ((td + 24) / 25)) + 40)))
            else
              ((nI (((td + 25) - 1) / 25)), 0, (f_MD_comes xB xsh xcu (f_MD_putTable xB (f_MD_putChain_0 (f_MD_write_l100 xtp td (td + 1) 0 (f_MD_findTaken_0 xB xpa xsp xwh xhe xho xtk).2.2.2.2.2.1) (f_MD_findTaken_0 xB xpa xsp xwh xhe xho xtk).2.1 xto xwa td 0 mo).2.1 (f_MD_putChain_0 (f_MD_write_l100 xtp td (td + 1) 0 (f_MD_findTaken_0 xB xpa xsp xwh xhe xho xtk).2.2.2.2.2.1) (f_MD_findTaken_0 xB xpa xsp xwh xhe xho xtk).2.1 xto xwa td 0 mo).2.2 (0 + 32 * ((td + 24) / 25)) (ro.toNatClampNeg) ((f_MD_putChain_0 (f_MD_write_l100 xtp td (td + 1) 0 (f_MD_findTaken_0 xB xpa xsp xwh xhe xho xtk).2.2.2.2.2.1) (f_MD_findTaken_0 xB xpa xsp xwh xhe xho xtk).2.1 xto xwa td 0 mo).1 + 1) 0).1 (f_MD_putTable xB (f_MD_putChain_0 (f_MD_write_l100 xtp td (td + 1) 0 (f_MD_findTaken_0 xB xpa xsp xwh xhe xho xtk).2.2.2.2.2.1) (f_MD_findTaken_0 xB xpa xsp xwh xhe xho xtk).2.1 xto xwa td 0 mo).2.1 (f_MD_putChain_0 (f_MD_write_l100 xtp td (td + 1) 0 (f_MD_findTaken_0 xB xpa xsp xwh xhe xho xtk).2.2.2.2.2.1) (f_MD_findTaken_0 xB xpa xsp xwh xhe xho xtk).2.1 xto xwa td 0 mo).2.2 (0 + 32 * ((td + 24) / 25)) (ro.toNatClampNeg) ((f_MD_putChain_0 (f_MD_write_l100 xtp td (td + 1) 0 (f_MD_findTaken_0 xB xpa xsp xwh xhe xho xtk).2.2.2.2.2.1) (f_MD_findTaken_0 xB xpa xsp xwh xhe xho xtk).2.1 xto xwa td 0 mo).1 + 1) 0).2 ((0 + 32 * ((td + 24) / 25)) + 40)).2.1, (f_MD_comes xB xsh xcu (f_MD_putTable xB (f_MD_putChain_0 (f_MD_write_l100 xtp td (td + 1) 0 (f_MD_findTaken_0 xB xpa xsp xwh xhe xho xtk).2.2.2.2.2.1) (f_MD_findTaken_0 xB xpa xsp xwh xhe xho xtk).2.1 xto xwa td 0 mo).2.1 (f_MD_putChain_0 (f_MD_write_l100 xtp td (td + 1) 0 (f_MD_findTaken_0 xB xpa xsp xwh xhe xho xtk).2.2.2.2.2.1) (f_MD_findTaken_0 xB xpa xsp xwh xhe xho xtk).2.1 xto xwa td 0 mo).2.2 (0 + 32 * ((td + 24) / 25)) (ro.toNatClampNeg) ((f_MD_putChain_0 (f_MD_write_l100 xtp td (td + 1) 0 (f_MD_findTaken_0 xB xpa xsp xwh xhe xho xtk).2.2.2.2.2.1) (f_MD_findTaken_0 xB xpa xsp xwh xhe xho xtk).2.1 xto xwa td 0 mo).1 + 1) 0).1 (f_MD_putTable xB (f_MD_putChain_0 (f_MD_write_l100 xtp td (td + 1) 0 (f_MD_findTaken_0 xB xpa xsp xwh xhe xho xtk).2.2.2.2.2.1) (f_MD_findTaken_0 xB xpa xsp xwh xhe xho xtk).2.1 xto xwa td 0 mo).2.1 (f_MD_putChain_0 (f_MD_write_l100 xtp td (td + 1) 0 (f_MD_findTaken_0 xB xpa xsp xwh xhe xho xtk).2.2.2.2.2.1) (f_MD_findTaken_0 xB xpa xsp xwh xhe xho xtk).2.1 xto xwa td 0 mo).2.2 (0 + 32 * ((td + 24) / 25)) (ro.toNatClampNeg) ((f_MD_putChain_0 (f_MD_write_l100 xtp td (td + 1) 0 (f_MD_findTaken_0 xB xpa xsp xwh xhe xho xtk).2.2.2.2.2.1) (f_MD_findTaken_0 xB xpa xsp xwh xhe xho xtk).2.1 xto xwa td 0 mo).1 + 1) 0).2 ((0 + 32 * ((td + 24) / 25)) + 40)).2.2, (-1), 0, (f_MD_findTaken_0 xB xpa xsp xwh xhe xho xtk).2.2.1, (f_MD_findTaken_0 xB xpa xsp xwh xhe xho xtk).2.2.2.1, (f_MD_findTaken_0 xB xpa xsp xwh xhe xho xtk).2.2.2.2.1, (f_MD_write_l100 xtp td (td + 1) 0 (f_MD_findTaken_0 xB xpa xsp xwh xhe xho xtk).2.2.2.2.2.1), (nI td), (f_MD_findTaken_0 xB xpa xsp xwh xhe xho xtk).2.1, (f_MD_putTable xB (f_MD_putChain_0 (f_MD_write_l100 xtp td (td + 1) 0 (f_MD_findTaken_0 xB xpa xsp xwh xhe xho xtk).2.2.2.2.2.1) (f_MD_findTaken_0 xB xpa xsp xwh xhe xho xtk).2.1 xto xwa td 0 mo).2.1 (f_MD_putChain_0 (f_MD_write_l100 xtp td (td + 1) 0 (f_MD_findTaken_0 xB xpa xsp xwh xhe xho xtk).2.2.2.2.2.1) (f_MD_findTaken_0 xB xpa xsp xwh xhe xho xtk).2.1 xto xwa td 0 mo).2.2 (0 + 32 * ((td + 24) / 25)) (ro.toNatClampNeg) ((f_MD_putChain_0 (f_MD_write_l100 xtp td (td + 1) 0 (f_MD_findTaken_0 xB xpa xsp xwh xhe xho xtk).2.2.2.2.2.1) (f_MD_findTaken_0 xB xpa xsp xwh xhe xho xtk).2.1 xto xwa td 0 mo).1 + 1) 0).1, (f_MD_putTable xB (f_MD_putChain_0 (f_MD_write_l100 xtp td (td + 1) 0 (f_MD_findTaken_0 xB xpa xsp xwh xhe xho xtk).2.2.2.2.2.1) (f_MD_findTaken_0 xB xpa xsp xwh xhe xho xtk).2.1 xto xwa td 0 mo).2.1 (f_MD_putChain_0 (f_MD_write_l100 xtp td (td + 1) 0 (f_MD_findTaken_0 xB xpa xsp xwh xhe xho xtk).2.2.2.2.2.1) (f_MD_findTaken_0 xB xpa xsp xwh xhe xho xtk).2.1 xto xwa td 0 mo).2.2 (0 + 32 * ((td + 24) / 25)) (ro.toNatClampNeg) ((f_MD_putChain_0 (f_MD_write_l100 xtp td (td + 1) 0 (f_MD_findTaken_0 xB xpa xsp xwh xhe xho xtk).2.2.2.2.2.1) (f_MD_findTaken_0 xB xpa xsp xwh xhe xho xtk).2.1 xto xwa td 0 mo).1 + 1) 0).2, (nI ((0 + 32 * ((td + 24) / 25)) + 40)))
      else
        if (f_MD_in mo 0 11) = 0 then
          (0, 2, xB, xsh, xcu, (nI td), (f_MD_findTaken_0 xB xpa xsp xwh xhe xho xtk).2.2.1, (f_MD_findTaken_0 xB xpa xsp xwh xhe xho xtk).2.2.2.1, (f_MD_findTaken_0 xB xpa xsp xwh xhe xho xtk).2.2.2.2.1, (f_MD_findTaken_0 xB xpa xsp xwh xhe xho xtk).2.2.2.2.2.1, (f_MD_findTaken_0 xB xpa xsp xwh xhe xho xtk).2.2.2.2.2.2, (f_MD_findTaken_0 xB xpa xsp xwh xhe xho xtk).2.1, xto, xwa, xmn)
        else
          (0, 2, xB, xsh, xcu, (nI td), (f_MD_findTaken_0 xB xpa xsp xwh xhe xho xtk).2.2.1, (f_MD_findTaken_0 xB xpa xsp xwh xhe xho xtk).2.2.2.1, (f_MD_findTaken_0 xB xpa xsp xwh xhe xho xtk).2.2.2.2.1, (f_MD_findTaken_0 xB xpa xsp xwh xhe xho xtk).2.2.2.2.2.1, (f_MD_findTaken_0 xB xpa xsp xwh xhe xho xtk).2.2.2.2.2.2, (f_MD_findTaken_0 xB xpa xsp xwh xhe xho xtk).2.1, xto, xwa, xmn)
set_option maxHeartbeats 1000000 in
set_option maxRecDepth 100000 in
/-- write -/
theorem c_MD_write (l : Launch) (D : va_G) (cI cZ cJ : ClassId) (q : Nat → Nat) (xth : Int32) (xB : Nat → Int32) (xsh : Int32) (xcu : Int32) (xtp : Nat → Int32) (xpa : Nat → Int32) (xsp : Int32) (xwh : Int32) (xhe : Nat → Int32) (xho : Int32) (xtk : Nat → Int32) (xto : Nat → Int32) (xwa : Nat → Int32) (xmn : Int32) (td : Nat) (ro : Int32) (mo : Int32) (htd : td ≤ 60) : sf_M (S := (Int32 × Int32 × (Nat → Int32) × Int32 × Int32 × Int32 × (Nat → Int32) × Int32 × Int32 × (Nat → Int32) × Int32 × (Nat → Int32) × (Nat → Int32) × (Nat → Int32) × Int32)) l D classes (sf_tys cI cZ cJ) y_MD_write (sf_ws y_MD_write b_MD_write 6 (some .int)) 8 182 [.ref (q 0), .int ro, .int mo] (md_w q cI cZ xth xB xsh xcu xtp (nI td) xpa xsp xwh xhe xho xtk xto xwa xmn) (fun r => some (.int r.1)) (fun r => r = f_MD_write xB xsh xcu xtp xpa xsp xwh xhe xho xtk xto xwa xmn td ro mo) (fun r => (md_w q cI cZ r.2.1 r.2.2.1 r.2.2.2.1 r.2.2.2.2.1 xtp r.2.2.2.2.2.1 r.2.2.2.2.2.2.1 r.2.2.2.2.2.2.2.1 r.2.2.2.2.2.2.2.2.1 r.2.2.2.2.2.2.2.2.2.1 r.2.2.2.2.2.2.2.2.2.2.1 r.2.2.2.2.2.2.2.2.2.2.2.1 r.2.2.2.2.2.2.2.2.2.2.2.2.1 r.2.2.2.2.2.2.2.2.2.2.2.2.2.1 r.2.2.2.2.2.2.2.2.2.2.2.2.2.2)) := by
  refine sf_ofW (S := (Int32 × Int32 × (Nat → Int32) × Int32 × Int32 × Int32 × (Nat → Int32) × Int32 × Int32 × (Nat → Int32) × Int32 × (Nat → Int32) × (Nat → Int32) × (Nat → Int32) × Int32)) (by decide) (Nat.le_of_ble_eq_true rfl) ?_
  intro p e s m below meth c A ls R args Q hR hArgs hQ hC0 hr hK hP hD hl
  obtain ⟨hx, hb, hml, hown, hts, hA, hlk⟩ := hC0
  have hS : va_S A s.heap s.heap [] := va_S.rf
  have hl : lv_has ls 6 [(0, .ref (q 0)), (1, .int ro), (2, .int mo)] := hl
  refine lv_aload_n hx hb d_MD_write_0 rfl (lv_at hl 0 rfl) ?_
  refine va_get (D := D) (ci := 3) (v := .int (nI td)) (C := R_MD) (T := F_MD) (N := 15) hx hb hts i_MD hown hK hP 0 rfl rfl 5 (by decide) (hts _ wd_580) (fun _ h9 => h9) rfl d_MD_write_1 ?_
  refine lv_bipush (v := 25) hx hb d_MD_write_4 (by decide) ?_
  refine lv_iadd hx hb d_MD_write_6 ?_
  rw [show (((nI td) + 25) : Int32) = (nI (td + 25)) from nI_add td 25]
  refine lv_iconst (v := 1) hx hb d_MD_write_7 (by decide) ?_
  refine lv_isub hx hb d_MD_write_8 ?_
  rw [show (((nI (td + 25)) - 1) : Int32) = (nI ((td + 25) - 1)) from pk_sub (a := (td + 25)) (b := 1) (by omega)]
  refine lv_bipush (v := 25) hx hb d_MD_write_9 (by decide) ?_
  refine lv_idiv hx hb d_MD_write_11 (by decide) ?_
  rw [show ((nI ((td + 25) - 1)) / 25 : Int32) = (nI (((td + 25) - 1) / 25)) from pk_div (a := ((td + 25) - 1)) (d := 25) (by omega) (by omega) (by omega)]
  refine lv_istore_n (lv' := [(3, .int (nI (((td + 25) - 1) / 25))), (0, .ref (q 0)), (1, .int ro), (2, .int mo)]) hx hb d_MD_write_12 rfl hl (by decide) rfl (fun ls hl => ?_)
  refine lv_aload_n hx hb d_MD_write_13 rfl (lv_at hl 1 rfl) ?_
  refine lv_iconst (v := 0) hx hb d_MD_write_14 (by decide) ?_
  refine sf_callVw (S := (Int32 × (Nat → Int32) × (Nat → Int32) × Int32 × Int32 × (Nat → Int32) × Int32)) (rest := []) ⟨hx, hb, hml, hown, hts⟩ (c_MD_findTaken_0 l D cI cZ cJ q xth xB xsh xcu xtp (nI td) xpa xsp xwh xhe xho xtk xto xwa xmn) (sf_cwV lk_MD_123 hts (fun _ h => h) (by rw [hR]; exact ⟨Nat.le_of_ble_eq_true rfl, Nat.le_of_ble_eq_true rfl⟩)) hK hP hD hS hA (fun _ => by simp only [md_w_fst]) (ci := 3) (q0 := 0) rfl rfl rfl rfl rfl hl.1 (Nat.le_of_ble_eq_true rfl) d_MD_write_15 ⟨Nat.zero_le _, Nat.zero_le _⟩ (fun u_1 H locs hu_1 hP hD hS => ?_)
  have hP : va_P D classes (md_w q cI cZ xth xB xsh xcu xtp (nI td) u_1.2.2.1 u_1.2.2.2.1 u_1.2.2.2.2.1 u_1.2.2.2.2.2.1 u_1.2.2.2.2.2.2 u_1.2.1 xto xwa xmn) H := hP
  have hD : va_D A (md_w q cI cZ xth xB xsh xcu xtp (nI td) u_1.2.2.1 u_1.2.2.2.1 u_1.2.2.2.2.1 u_1.2.2.2.2.2.1 u_1.2.2.2.2.2.2 u_1.2.1 xto xwa xmn) := hD
  refine lv_iload_n hx hb d_MD_write_18 rfl (lv_at hl 0 rfl) ?_
  refine lv_icmp_lt (tgt := 26) hx hb d_MD_write_19 (by decide) (fun c_2 => ?_) (fun c_2 => ?_)
  · refine lv_iconst (v := 0) hx hb d_MD_write_26 (by decide) ?_
    refine lv_istore (lv' := [(4, .int 0), (3, .int (nI (((td + 25) - 1) / 25))), (0, .ref (q 0)), (1, .int ro), (2, .int mo)]) hx hb d_MD_write_27 hl (by decide) rfl (fun ls hl => ?_)
    refine lv_aload_n hx hb d_MD_write_29 rfl (lv_at hl 2 rfl) ?_
    refine lv_iload_n hx hb d_MD_write_30 rfl (lv_at hl 3 rfl) ?_
    refine lv_iconst (v := 0) hx hb d_MD_write_31 (by decide) ?_
    refine lv_bipush (v := 11) hx hb d_MD_write_32 (by decide) ?_
    refine sf_callSr (S := Int32) (rest := [.ref (q 0)]) ⟨hx, hb, hml, hown, hts⟩ (c_MD_in l D cI cZ cJ ro 0 11) (sf_cwS lk_MD_44 hts (fun _ h => h) (by rw [hR]; exact ⟨Nat.le_of_ble_eq_true rfl, Nat.le_of_ble_eq_true rfl⟩)) hK hP hD hS hA [] rfl rfl (fun _ => rfl) rfl rfl hl.1 (Nat.le_of_ble_eq_true rfl) d_MD_write_34 ⟨Nat.zero_le _, Nat.zero_le _⟩ (fun u_3 H locs hu_3 hP hS => ?_)
    refine lv_if_ne (tgt := 44) hx hb d_MD_write_37 (by decide) (fun c_4 => ?_) (fun c_4 => ?_)
    · refine lv_iconst (v := 0) hx hb d_MD_write_44 (by decide) ?_
      refine lv_aload_n hx hb d_MD_write_45 rfl (lv_at hl 2 rfl) ?_
      refine va_get (D := D) (ci := 3) (v := .int xsh) (C := R_MD) (T := F_MD) (N := 15) hx hb hts i_MD hown hK hP 0 rfl rfl 2 (by decide) (hts _ wd_577) (fun _ h9 => h9) rfl d_MD_write_46 ?_
      refine lv_if_ne (tgt := 59) hx hb d_MD_write_49 (by decide) (fun c_5 => ?_) (fun c_5 => ?_)
      · refine lv_iconst (v := 1) hx hb d_MD_write_59 (by decide) ?_
        refine lv_goto (tgt := 64) hx hb d_MD_write_60 (by decide) ?_
        refine lv_iload_n hx hb d_MD_write_64 rfl (lv_at hl 4 rfl) ?_
        refine lv_iconst (v := 0) hx hb d_MD_write_65 (by decide) ?_
        refine lv_bipush (v := 11) hx hb d_MD_write_66 (by decide) ?_
        refine sf_callSr (S := Int32) (rest := [.int 1, .int 0, .ref (q 0)]) ⟨hx, hb, hml, hown, hts⟩ (c_MD_in l D cI cZ cJ mo 0 11) (sf_cwS lk_MD_44 hts (fun _ h => h) (by rw [hR]; exact ⟨Nat.le_of_ble_eq_true rfl, Nat.le_of_ble_eq_true rfl⟩)) hK hP hD hS hA [] rfl rfl (fun _ => rfl) rfl rfl hl.1 (Nat.le_of_ble_eq_true rfl) d_MD_write_68 ⟨Nat.zero_le _, Nat.zero_le _⟩ (fun u_6 H locs hu_6 hP hS => ?_)
        refine lv_if_ne (tgt := 78) hx hb d_MD_write_71 (by decide) (fun c_7 => ?_) (fun c_7 => ?_)
        · refine lv_iconst (v := 0) hx hb d_MD_write_78 (by decide) ?_
          refine lv_iload hx hb d_MD_write_79 (lv_at hl 0 rfl) ?_
          refine lv_if_ne (tgt := 88) hx hb d_MD_write_81 (by decide) (fun c_8 => absurd (by decide) c_8) (fun c_8 => ?_)
          refine lv_iconst (v := 1) hx hb d_MD_write_84 (by decide) ?_
          refine lv_goto (tgt := 89) hx hb d_MD_write_85 (by decide) ?_
          refine sf_callVw (S := Unit) (rest := []) ⟨hx, hb, hml, hown, hts⟩ (c_MD_throwing_2 l D cI cZ cJ q xth xB xsh xcu xtp (nI td) u_1.2.2.1 u_1.2.2.2.1 u_1.2.2.2.2.1 u_1.2.2.2.2.2.1 u_1.2.2.2.2.2.2 u_1.2.1 xto xwa xmn 0 1) (sf_cwV lk_MD_117 hts (fun _ h => h) (by rw [hR]; exact ⟨Nat.le_of_ble_eq_true rfl, Nat.le_of_ble_eq_true rfl⟩)) hK hP hD hS hA (fun _ => by simp only [md_w_fst]) (ci := 3) (q0 := 0) rfl rfl rfl rfl rfl hl.1 (Nat.le_of_ble_eq_true rfl) d_MD_write_89 ⟨Nat.zero_le _, Nat.zero_le _⟩ (fun u H locs hu hP hD hS => ?_)
          have hP : va_P D classes (md_w q cI cZ 2 xB xsh xcu xtp (nI td) u_1.2.2.1 u_1.2.2.2.1 u_1.2.2.2.2.1 u_1.2.2.2.2.2.1 u_1.2.2.2.2.2.2 u_1.2.1 xto xwa xmn) H := hP
          have hD : va_D A (md_w q cI cZ 2 xB xsh xcu xtp (nI td) u_1.2.2.1 u_1.2.2.2.1 u_1.2.2.2.2.1 u_1.2.2.2.2.2.1 u_1.2.2.2.2.2.2 u_1.2.1 xto xwa xmn) := hD
          refine lv_if_eq (tgt := 97) hx hb d_MD_write_92 (by decide) (fun c_9 => absurd c_9 (by decide)) (fun c_9 => ?_)
          refine lv_iconst (v := 0) hx hb d_MD_write_95 (by decide) ?_
          rw [hQ]
          exact sf_iret (0, 2, xB, xsh, xcu, (nI td), u_1.2.2.1, u_1.2.2.2.1, u_1.2.2.2.2.1, u_1.2.2.2.2.2.1, u_1.2.2.2.2.2.2, u_1.2.1, xto, xwa, xmn) hx hb hr hlk hS rfl rfl (by simp only [f_MD_write, ← hu_1, ← hu_3, ← hu_6, eq_true c_2, eq_false c_4, eq_false c_5, eq_false c_7, ↓reduceIte]) hP d_MD_write_96
        · refine lv_iconst (v := 1) hx hb d_MD_write_74 (by decide) ?_
          refine lv_goto (tgt := 79) hx hb d_MD_write_75 (by decide) ?_
          refine lv_iload hx hb d_MD_write_79 (lv_at hl 0 rfl) ?_
          refine lv_if_ne (tgt := 88) hx hb d_MD_write_81 (by decide) (fun c_10 => absurd (by decide) c_10) (fun c_10 => ?_)
          refine lv_iconst (v := 1) hx hb d_MD_write_84 (by decide) ?_
          refine lv_goto (tgt := 89) hx hb d_MD_write_85 (by decide) ?_
          refine sf_callVw (S := Unit) (rest := []) ⟨hx, hb, hml, hown, hts⟩ (c_MD_throwing_2 l D cI cZ cJ q xth xB xsh xcu xtp (nI td) u_1.2.2.1 u_1.2.2.2.1 u_1.2.2.2.2.1 u_1.2.2.2.2.2.1 u_1.2.2.2.2.2.2 u_1.2.1 xto xwa xmn 1 1) (sf_cwV lk_MD_117 hts (fun _ h => h) (by rw [hR]; exact ⟨Nat.le_of_ble_eq_true rfl, Nat.le_of_ble_eq_true rfl⟩)) hK hP hD hS hA (fun _ => by simp only [md_w_fst]) (ci := 3) (q0 := 0) rfl rfl rfl rfl rfl hl.1 (Nat.le_of_ble_eq_true rfl) d_MD_write_89 ⟨Nat.zero_le _, Nat.zero_le _⟩ (fun u H locs hu hP hD hS => ?_)
          have hP : va_P D classes (md_w q cI cZ 2 xB xsh xcu xtp (nI td) u_1.2.2.1 u_1.2.2.2.1 u_1.2.2.2.2.1 u_1.2.2.2.2.2.1 u_1.2.2.2.2.2.2 u_1.2.1 xto xwa xmn) H := hP
          have hD : va_D A (md_w q cI cZ 2 xB xsh xcu xtp (nI td) u_1.2.2.1 u_1.2.2.2.1 u_1.2.2.2.2.1 u_1.2.2.2.2.2.1 u_1.2.2.2.2.2.2 u_1.2.1 xto xwa xmn) := hD
          refine lv_if_eq (tgt := 97) hx hb d_MD_write_92 (by decide) (fun c_11 => absurd c_11 (by decide)) (fun c_11 => ?_)
          refine lv_iconst (v := 0) hx hb d_MD_write_95 (by decide) ?_
          rw [hQ]
          exact sf_iret (0, 2, xB, xsh, xcu, (nI td), u_1.2.2.1, u_1.2.2.2.1, u_1.2.2.2.2.1, u_1.2.2.2.2.2.1, u_1.2.2.2.2.2.2, u_1.2.1, xto, xwa, xmn) hx hb hr hlk hS rfl rfl (by simp only [f_MD_write, ← hu_1, ← hu_3, ← hu_6, eq_true c_2, eq_false c_4, eq_false c_5, eq_true c_7, ↓reduceIte]) hP d_MD_write_96
      · refine lv_aload_n hx hb d_MD_write_52 rfl (lv_at hl 2 rfl) ?_
        refine va_get (D := D) (ci := 3) (v := .int (nI td)) (C := R_MD) (T := F_MD) (N := 15) hx hb hts i_MD hown hK hP 0 rfl rfl 5 (by decide) (hts _ wd_580) (fun _ h9 => h9) rfl d_MD_write_53 ?_
        refine lv_if_ne (tgt := 63) hx hb d_MD_write_56 (by decide) (fun c_12 => ?_) (fun c_12 => ?_)
        · refine lv_iconst (v := 0) hx hb d_MD_write_63 (by decide) ?_
          refine lv_iload_n hx hb d_MD_write_64 rfl (lv_at hl 4 rfl) ?_
          refine lv_iconst (v := 0) hx hb d_MD_write_65 (by decide) ?_
          refine lv_bipush (v := 11) hx hb d_MD_write_66 (by decide) ?_
          refine sf_callSr (S := Int32) (rest := [.int 0, .int 0, .ref (q 0)]) ⟨hx, hb, hml, hown, hts⟩ (c_MD_in l D cI cZ cJ mo 0 11) (sf_cwS lk_MD_44 hts (fun _ h => h) (by rw [hR]; exact ⟨Nat.le_of_ble_eq_true rfl, Nat.le_of_ble_eq_true rfl⟩)) hK hP hD hS hA [] rfl rfl (fun _ => rfl) rfl rfl hl.1 (Nat.le_of_ble_eq_true rfl) d_MD_write_68 ⟨Nat.zero_le _, Nat.zero_le _⟩ (fun u_13 H locs hu_13 hP hS => ?_)
          refine lv_if_ne (tgt := 78) hx hb d_MD_write_71 (by decide) (fun c_14 => ?_) (fun c_14 => ?_)
          · refine lv_iconst (v := 0) hx hb d_MD_write_78 (by decide) ?_
            refine lv_iload hx hb d_MD_write_79 (lv_at hl 0 rfl) ?_
            refine lv_if_ne (tgt := 88) hx hb d_MD_write_81 (by decide) (fun c_15 => absurd (by decide) c_15) (fun c_15 => ?_)
            refine lv_iconst (v := 1) hx hb d_MD_write_84 (by decide) ?_
            refine lv_goto (tgt := 89) hx hb d_MD_write_85 (by decide) ?_
            refine sf_callVw (S := Unit) (rest := []) ⟨hx, hb, hml, hown, hts⟩ (c_MD_throwing_4 l D cI cZ cJ q xth xB xsh xcu xtp (nI td) u_1.2.2.1 u_1.2.2.2.1 u_1.2.2.2.2.1 u_1.2.2.2.2.2.1 u_1.2.2.2.2.2.2 u_1.2.1 xto xwa xmn) (sf_cwV lk_MD_117 hts (fun _ h => h) (by rw [hR]; exact ⟨Nat.le_of_ble_eq_true rfl, Nat.le_of_ble_eq_true rfl⟩)) hK hP hD hS hA (fun _ => by simp only [md_w_fst]) (ci := 3) (q0 := 0) rfl rfl rfl rfl rfl hl.1 (Nat.le_of_ble_eq_true rfl) d_MD_write_89 ⟨Nat.zero_le _, Nat.zero_le _⟩ (fun u H locs hu hP hD hS => ?_)
            have hP : va_P D classes (md_w q cI cZ 4 xB xsh xcu xtp (nI td) u_1.2.2.1 u_1.2.2.2.1 u_1.2.2.2.2.1 u_1.2.2.2.2.2.1 u_1.2.2.2.2.2.2 u_1.2.1 xto xwa xmn) H := hP
            have hD : va_D A (md_w q cI cZ 4 xB xsh xcu xtp (nI td) u_1.2.2.1 u_1.2.2.2.1 u_1.2.2.2.2.1 u_1.2.2.2.2.2.1 u_1.2.2.2.2.2.2 u_1.2.1 xto xwa xmn) := hD
            refine lv_if_eq (tgt := 97) hx hb d_MD_write_92 (by decide) (fun c_16 => absurd c_16 (by decide)) (fun c_16 => ?_)
            refine lv_iconst (v := 0) hx hb d_MD_write_95 (by decide) ?_
            rw [hQ]
            exact sf_iret (0, 4, xB, xsh, xcu, (nI td), u_1.2.2.1, u_1.2.2.2.1, u_1.2.2.2.2.1, u_1.2.2.2.2.2.1, u_1.2.2.2.2.2.2, u_1.2.1, xto, xwa, xmn) hx hb hr hlk hS rfl rfl (by simp only [f_MD_write, ← hu_1, ← hu_3, ← hu_13, eq_true c_2, eq_false c_4, eq_true c_5, eq_false c_12, eq_false c_14, ↓reduceIte]) hP d_MD_write_96
          · refine lv_iconst (v := 1) hx hb d_MD_write_74 (by decide) ?_
            refine lv_goto (tgt := 79) hx hb d_MD_write_75 (by decide) ?_
            refine lv_iload hx hb d_MD_write_79 (lv_at hl 0 rfl) ?_
            refine lv_if_ne (tgt := 88) hx hb d_MD_write_81 (by decide) (fun c_17 => absurd (by decide) c_17) (fun c_17 => ?_)
            refine lv_iconst (v := 1) hx hb d_MD_write_84 (by decide) ?_
            refine lv_goto (tgt := 89) hx hb d_MD_write_85 (by decide) ?_
            refine sf_callVw (S := Unit) (rest := []) ⟨hx, hb, hml, hown, hts⟩ (c_MD_throwing_3 l D cI cZ cJ q xth xB xsh xcu xtp (nI td) u_1.2.2.1 u_1.2.2.2.1 u_1.2.2.2.2.1 u_1.2.2.2.2.2.1 u_1.2.2.2.2.2.2 u_1.2.1 xto xwa xmn 1) (sf_cwV lk_MD_117 hts (fun _ h => h) (by rw [hR]; exact ⟨Nat.le_of_ble_eq_true rfl, Nat.le_of_ble_eq_true rfl⟩)) hK hP hD hS hA (fun _ => by simp only [md_w_fst]) (ci := 3) (q0 := 0) rfl rfl rfl rfl rfl hl.1 (Nat.le_of_ble_eq_true rfl) d_MD_write_89 ⟨Nat.zero_le _, Nat.zero_le _⟩ (fun u H locs hu hP hD hS => ?_)
            have hP : va_P D classes (md_w q cI cZ 3 xB xsh xcu xtp (nI td) u_1.2.2.1 u_1.2.2.2.1 u_1.2.2.2.2.1 u_1.2.2.2.2.2.1 u_1.2.2.2.2.2.2 u_1.2.1 xto xwa xmn) H := hP
            have hD : va_D A (md_w q cI cZ 3 xB xsh xcu xtp (nI td) u_1.2.2.1 u_1.2.2.2.1 u_1.2.2.2.2.1 u_1.2.2.2.2.2.1 u_1.2.2.2.2.2.2 u_1.2.1 xto xwa xmn) := hD
            refine lv_if_eq (tgt := 97) hx hb d_MD_write_92 (by decide) (fun c_18 => absurd c_18 (by decide)) (fun c_18 => ?_)
            refine lv_iconst (v := 0) hx hb d_MD_write_95 (by decide) ?_
            rw [hQ]
            exact sf_iret (0, 3, xB, xsh, xcu, (nI td), u_1.2.2.1, u_1.2.2.2.1, u_1.2.2.2.2.1, u_1.2.2.2.2.2.1, u_1.2.2.2.2.2.2, u_1.2.1, xto, xwa, xmn) hx hb hr hlk hS rfl rfl (by simp only [f_MD_write, ← hu_1, ← hu_3, ← hu_13, eq_true c_2, eq_false c_4, eq_true c_5, eq_false c_12, eq_true c_14, ↓reduceIte]) hP d_MD_write_96
        · refine lv_iconst (v := 1) hx hb d_MD_write_59 (by decide) ?_
          refine lv_goto (tgt := 64) hx hb d_MD_write_60 (by decide) ?_
          refine lv_iload_n hx hb d_MD_write_64 rfl (lv_at hl 4 rfl) ?_
          refine lv_iconst (v := 0) hx hb d_MD_write_65 (by decide) ?_
          refine lv_bipush (v := 11) hx hb d_MD_write_66 (by decide) ?_
          refine sf_callSr (S := Int32) (rest := [.int 1, .int 0, .ref (q 0)]) ⟨hx, hb, hml, hown, hts⟩ (c_MD_in l D cI cZ cJ mo 0 11) (sf_cwS lk_MD_44 hts (fun _ h => h) (by rw [hR]; exact ⟨Nat.le_of_ble_eq_true rfl, Nat.le_of_ble_eq_true rfl⟩)) hK hP hD hS hA [] rfl rfl (fun _ => rfl) rfl rfl hl.1 (Nat.le_of_ble_eq_true rfl) d_MD_write_68 ⟨Nat.zero_le _, Nat.zero_le _⟩ (fun u_19 H locs hu_19 hP hS => ?_)
          refine lv_if_ne (tgt := 78) hx hb d_MD_write_71 (by decide) (fun c_20 => ?_) (fun c_20 => ?_)
          · refine lv_iconst (v := 0) hx hb d_MD_write_78 (by decide) ?_
            refine lv_iload hx hb d_MD_write_79 (lv_at hl 0 rfl) ?_
            refine lv_if_ne (tgt := 88) hx hb d_MD_write_81 (by decide) (fun c_21 => absurd (by decide) c_21) (fun c_21 => ?_)
            refine lv_iconst (v := 1) hx hb d_MD_write_84 (by decide) ?_
            refine lv_goto (tgt := 89) hx hb d_MD_write_85 (by decide) ?_
            refine sf_callVw (S := Unit) (rest := []) ⟨hx, hb, hml, hown, hts⟩ (c_MD_throwing_2 l D cI cZ cJ q xth xB xsh xcu xtp (nI td) u_1.2.2.1 u_1.2.2.2.1 u_1.2.2.2.2.1 u_1.2.2.2.2.2.1 u_1.2.2.2.2.2.2 u_1.2.1 xto xwa xmn 0 1) (sf_cwV lk_MD_117 hts (fun _ h => h) (by rw [hR]; exact ⟨Nat.le_of_ble_eq_true rfl, Nat.le_of_ble_eq_true rfl⟩)) hK hP hD hS hA (fun _ => by simp only [md_w_fst]) (ci := 3) (q0 := 0) rfl rfl rfl rfl rfl hl.1 (Nat.le_of_ble_eq_true rfl) d_MD_write_89 ⟨Nat.zero_le _, Nat.zero_le _⟩ (fun u H locs hu hP hD hS => ?_)
            have hP : va_P D classes (md_w q cI cZ 2 xB xsh xcu xtp (nI td) u_1.2.2.1 u_1.2.2.2.1 u_1.2.2.2.2.1 u_1.2.2.2.2.2.1 u_1.2.2.2.2.2.2 u_1.2.1 xto xwa xmn) H := hP
            have hD : va_D A (md_w q cI cZ 2 xB xsh xcu xtp (nI td) u_1.2.2.1 u_1.2.2.2.1 u_1.2.2.2.2.1 u_1.2.2.2.2.2.1 u_1.2.2.2.2.2.2 u_1.2.1 xto xwa xmn) := hD
            refine lv_if_eq (tgt := 97) hx hb d_MD_write_92 (by decide) (fun c_22 => absurd c_22 (by decide)) (fun c_22 => ?_)
            refine lv_iconst (v := 0) hx hb d_MD_write_95 (by decide) ?_
            rw [hQ]
            exact sf_iret (0, 2, xB, xsh, xcu, (nI td), u_1.2.2.1, u_1.2.2.2.1, u_1.2.2.2.2.1, u_1.2.2.2.2.2.1, u_1.2.2.2.2.2.2, u_1.2.1, xto, xwa, xmn) hx hb hr hlk hS rfl rfl (by simp only [f_MD_write, ← hu_1, ← hu_3, ← hu_19, eq_true c_2, eq_false c_4, eq_true c_5, eq_true c_12, eq_false c_20, ↓reduceIte]) hP d_MD_write_96
          · refine lv_iconst (v := 1) hx hb d_MD_write_74 (by decide) ?_
            refine lv_goto (tgt := 79) hx hb d_MD_write_75 (by decide) ?_
            refine lv_iload hx hb d_MD_write_79 (lv_at hl 0 rfl) ?_
            refine lv_if_ne (tgt := 88) hx hb d_MD_write_81 (by decide) (fun c_23 => absurd (by decide) c_23) (fun c_23 => ?_)
            refine lv_iconst (v := 1) hx hb d_MD_write_84 (by decide) ?_
            refine lv_goto (tgt := 89) hx hb d_MD_write_85 (by decide) ?_
            refine sf_callVw (S := Unit) (rest := []) ⟨hx, hb, hml, hown, hts⟩ (c_MD_throwing_2 l D cI cZ cJ q xth xB xsh xcu xtp (nI td) u_1.2.2.1 u_1.2.2.2.1 u_1.2.2.2.2.1 u_1.2.2.2.2.2.1 u_1.2.2.2.2.2.2 u_1.2.1 xto xwa xmn 1 1) (sf_cwV lk_MD_117 hts (fun _ h => h) (by rw [hR]; exact ⟨Nat.le_of_ble_eq_true rfl, Nat.le_of_ble_eq_true rfl⟩)) hK hP hD hS hA (fun _ => by simp only [md_w_fst]) (ci := 3) (q0 := 0) rfl rfl rfl rfl rfl hl.1 (Nat.le_of_ble_eq_true rfl) d_MD_write_89 ⟨Nat.zero_le _, Nat.zero_le _⟩ (fun u H locs hu hP hD hS => ?_)
            have hP : va_P D classes (md_w q cI cZ 2 xB xsh xcu xtp (nI td) u_1.2.2.1 u_1.2.2.2.1 u_1.2.2.2.2.1 u_1.2.2.2.2.2.1 u_1.2.2.2.2.2.2 u_1.2.1 xto xwa xmn) H := hP
            have hD : va_D A (md_w q cI cZ 2 xB xsh xcu xtp (nI td) u_1.2.2.1 u_1.2.2.2.1 u_1.2.2.2.2.1 u_1.2.2.2.2.2.1 u_1.2.2.2.2.2.2 u_1.2.1 xto xwa xmn) := hD
            refine lv_if_eq (tgt := 97) hx hb d_MD_write_92 (by decide) (fun c_24 => absurd c_24 (by decide)) (fun c_24 => ?_)
            refine lv_iconst (v := 0) hx hb d_MD_write_95 (by decide) ?_
            rw [hQ]
            exact sf_iret (0, 2, xB, xsh, xcu, (nI td), u_1.2.2.1, u_1.2.2.2.1, u_1.2.2.2.2.1, u_1.2.2.2.2.2.1, u_1.2.2.2.2.2.2, u_1.2.1, xto, xwa, xmn) hx hb hr hlk hS rfl rfl (by simp only [f_MD_write, ← hu_1, ← hu_3, ← hu_19, eq_true c_2, eq_false c_4, eq_true c_5, eq_true c_12, eq_true c_20, ↓reduceIte]) hP d_MD_write_96
    · refine lv_iconst (v := 1) hx hb d_MD_write_40 (by decide) ?_
      refine lv_goto (tgt := 45) hx hb d_MD_write_41 (by decide) ?_
      refine lv_aload_n hx hb d_MD_write_45 rfl (lv_at hl 2 rfl) ?_
      refine va_get (D := D) (ci := 3) (v := .int xsh) (C := R_MD) (T := F_MD) (N := 15) hx hb hts i_MD hown hK hP 0 rfl rfl 2 (by decide) (hts _ wd_577) (fun _ h9 => h9) rfl d_MD_write_46 ?_
      refine lv_if_ne (tgt := 59) hx hb d_MD_write_49 (by decide) (fun c_25 => ?_) (fun c_25 => ?_)
      · refine lv_iconst (v := 1) hx hb d_MD_write_59 (by decide) ?_
        refine lv_goto (tgt := 64) hx hb d_MD_write_60 (by decide) ?_
        refine lv_iload_n hx hb d_MD_write_64 rfl (lv_at hl 4 rfl) ?_
        refine lv_iconst (v := 0) hx hb d_MD_write_65 (by decide) ?_
        refine lv_bipush (v := 11) hx hb d_MD_write_66 (by decide) ?_
        refine sf_callSr (S := Int32) (rest := [.int 1, .int 1, .ref (q 0)]) ⟨hx, hb, hml, hown, hts⟩ (c_MD_in l D cI cZ cJ mo 0 11) (sf_cwS lk_MD_44 hts (fun _ h => h) (by rw [hR]; exact ⟨Nat.le_of_ble_eq_true rfl, Nat.le_of_ble_eq_true rfl⟩)) hK hP hD hS hA [] rfl rfl (fun _ => rfl) rfl rfl hl.1 (Nat.le_of_ble_eq_true rfl) d_MD_write_68 ⟨Nat.zero_le _, Nat.zero_le _⟩ (fun u_26 H locs hu_26 hP hS => ?_)
        refine lv_if_ne (tgt := 78) hx hb d_MD_write_71 (by decide) (fun c_27 => ?_) (fun c_27 => ?_)
        · refine lv_iconst (v := 0) hx hb d_MD_write_78 (by decide) ?_
          refine lv_iload hx hb d_MD_write_79 (lv_at hl 0 rfl) ?_
          refine lv_if_ne (tgt := 88) hx hb d_MD_write_81 (by decide) (fun c_28 => absurd (by decide) c_28) (fun c_28 => ?_)
          refine lv_iconst (v := 1) hx hb d_MD_write_84 (by decide) ?_
          refine lv_goto (tgt := 89) hx hb d_MD_write_85 (by decide) ?_
          refine sf_callVw (S := Unit) (rest := []) ⟨hx, hb, hml, hown, hts⟩ (c_MD_throwing_1 l D cI cZ cJ q xth xB xsh xcu xtp (nI td) u_1.2.2.1 u_1.2.2.2.1 u_1.2.2.2.2.1 u_1.2.2.2.2.2.1 u_1.2.2.2.2.2.2 u_1.2.1 xto xwa xmn 1 0 1) (sf_cwV lk_MD_117 hts (fun _ h => h) (by rw [hR]; exact ⟨Nat.le_of_ble_eq_true rfl, Nat.le_of_ble_eq_true rfl⟩)) hK hP hD hS hA (fun _ => by simp only [md_w_fst]) (ci := 3) (q0 := 0) rfl rfl rfl rfl rfl hl.1 (Nat.le_of_ble_eq_true rfl) d_MD_write_89 ⟨Nat.zero_le _, Nat.zero_le _⟩ (fun u H locs hu hP hD hS => ?_)
          have hP : va_P D classes (md_w q cI cZ 1 xB xsh xcu xtp (nI td) u_1.2.2.1 u_1.2.2.2.1 u_1.2.2.2.2.1 u_1.2.2.2.2.2.1 u_1.2.2.2.2.2.2 u_1.2.1 xto xwa xmn) H := hP
          have hD : va_D A (md_w q cI cZ 1 xB xsh xcu xtp (nI td) u_1.2.2.1 u_1.2.2.2.1 u_1.2.2.2.2.1 u_1.2.2.2.2.2.1 u_1.2.2.2.2.2.2 u_1.2.1 xto xwa xmn) := hD
          refine lv_if_eq (tgt := 97) hx hb d_MD_write_92 (by decide) (fun c_29 => absurd c_29 (by decide)) (fun c_29 => ?_)
          refine lv_iconst (v := 0) hx hb d_MD_write_95 (by decide) ?_
          rw [hQ]
          exact sf_iret (0, 1, xB, xsh, xcu, (nI td), u_1.2.2.1, u_1.2.2.2.1, u_1.2.2.2.2.1, u_1.2.2.2.2.2.1, u_1.2.2.2.2.2.2, u_1.2.1, xto, xwa, xmn) hx hb hr hlk hS rfl rfl (by simp only [f_MD_write, ← hu_1, ← hu_3, ← hu_26, eq_true c_2, eq_true c_4, eq_false c_25, eq_false c_27, ↓reduceIte]) hP d_MD_write_96
        · refine lv_iconst (v := 1) hx hb d_MD_write_74 (by decide) ?_
          refine lv_goto (tgt := 79) hx hb d_MD_write_75 (by decide) ?_
          refine lv_iload hx hb d_MD_write_79 (lv_at hl 0 rfl) ?_
          refine lv_if_ne (tgt := 88) hx hb d_MD_write_81 (by decide) (fun c_30 => absurd (by decide) c_30) (fun c_30 => ?_)
          refine lv_iconst (v := 1) hx hb d_MD_write_84 (by decide) ?_
          refine lv_goto (tgt := 89) hx hb d_MD_write_85 (by decide) ?_
          refine sf_callVw (S := Unit) (rest := []) ⟨hx, hb, hml, hown, hts⟩ (c_MD_throwing_1 l D cI cZ cJ q xth xB xsh xcu xtp (nI td) u_1.2.2.1 u_1.2.2.2.1 u_1.2.2.2.2.1 u_1.2.2.2.2.2.1 u_1.2.2.2.2.2.2 u_1.2.1 xto xwa xmn 1 1 1) (sf_cwV lk_MD_117 hts (fun _ h => h) (by rw [hR]; exact ⟨Nat.le_of_ble_eq_true rfl, Nat.le_of_ble_eq_true rfl⟩)) hK hP hD hS hA (fun _ => by simp only [md_w_fst]) (ci := 3) (q0 := 0) rfl rfl rfl rfl rfl hl.1 (Nat.le_of_ble_eq_true rfl) d_MD_write_89 ⟨Nat.zero_le _, Nat.zero_le _⟩ (fun u H locs hu hP hD hS => ?_)
          have hP : va_P D classes (md_w q cI cZ 1 xB xsh xcu xtp (nI td) u_1.2.2.1 u_1.2.2.2.1 u_1.2.2.2.2.1 u_1.2.2.2.2.2.1 u_1.2.2.2.2.2.2 u_1.2.1 xto xwa xmn) H := hP
          have hD : va_D A (md_w q cI cZ 1 xB xsh xcu xtp (nI td) u_1.2.2.1 u_1.2.2.2.1 u_1.2.2.2.2.1 u_1.2.2.2.2.2.1 u_1.2.2.2.2.2.2 u_1.2.1 xto xwa xmn) := hD
          refine lv_if_eq (tgt := 97) hx hb d_MD_write_92 (by decide) (fun c_31 => absurd c_31 (by decide)) (fun c_31 => ?_)
          refine lv_iconst (v := 0) hx hb d_MD_write_95 (by decide) ?_
          rw [hQ]
          exact sf_iret (0, 1, xB, xsh, xcu, (nI td), u_1.2.2.1, u_1.2.2.2.1, u_1.2.2.2.2.1, u_1.2.2.2.2.2.1, u_1.2.2.2.2.2.2, u_1.2.1, xto, xwa, xmn) hx hb hr hlk hS rfl rfl (by simp only [f_MD_write, ← hu_1, ← hu_3, ← hu_26, eq_true c_2, eq_true c_4, eq_false c_25, eq_true c_27, ↓reduceIte]) hP d_MD_write_96
      · refine lv_aload_n hx hb d_MD_write_52 rfl (lv_at hl 2 rfl) ?_
        refine va_get (D := D) (ci := 3) (v := .int (nI td)) (C := R_MD) (T := F_MD) (N := 15) hx hb hts i_MD hown hK hP 0 rfl rfl 5 (by decide) (hts _ wd_580) (fun _ h9 => h9) rfl d_MD_write_53 ?_
        refine lv_if_ne (tgt := 63) hx hb d_MD_write_56 (by decide) (fun c_32 => ?_) (fun c_32 => ?_)
        · refine lv_iconst (v := 0) hx hb d_MD_write_63 (by decide) ?_
          refine lv_iload_n hx hb d_MD_write_64 rfl (lv_at hl 4 rfl) ?_
          refine lv_iconst (v := 0) hx hb d_MD_write_65 (by decide) ?_
          refine lv_bipush (v := 11) hx hb d_MD_write_66 (by decide) ?_
          refine sf_callSr (S := Int32) (rest := [.int 0, .int 1, .ref (q 0)]) ⟨hx, hb, hml, hown, hts⟩ (c_MD_in l D cI cZ cJ mo 0 11) (sf_cwS lk_MD_44 hts (fun _ h => h) (by rw [hR]; exact ⟨Nat.le_of_ble_eq_true rfl, Nat.le_of_ble_eq_true rfl⟩)) hK hP hD hS hA [] rfl rfl (fun _ => rfl) rfl rfl hl.1 (Nat.le_of_ble_eq_true rfl) d_MD_write_68 ⟨Nat.zero_le _, Nat.zero_le _⟩ (fun u_33 H locs hu_33 hP hS => ?_)
          refine lv_if_ne (tgt := 78) hx hb d_MD_write_71 (by decide) (fun c_34 => ?_) (fun c_34 => ?_)
          · refine lv_iconst (v := 0) hx hb d_MD_write_78 (by decide) ?_
            refine lv_iload hx hb d_MD_write_79 (lv_at hl 0 rfl) ?_
            refine lv_if_ne (tgt := 88) hx hb d_MD_write_81 (by decide) (fun c_35 => absurd (by decide) c_35) (fun c_35 => ?_)
            refine lv_iconst (v := 1) hx hb d_MD_write_84 (by decide) ?_
            refine lv_goto (tgt := 89) hx hb d_MD_write_85 (by decide) ?_
            refine sf_callVw (S := Unit) (rest := []) ⟨hx, hb, hml, hown, hts⟩ (c_MD_throwing_1 l D cI cZ cJ q xth xB xsh xcu xtp (nI td) u_1.2.2.1 u_1.2.2.2.1 u_1.2.2.2.2.1 u_1.2.2.2.2.2.1 u_1.2.2.2.2.2.2 u_1.2.1 xto xwa xmn 0 0 1) (sf_cwV lk_MD_117 hts (fun _ h => h) (by rw [hR]; exact ⟨Nat.le_of_ble_eq_true rfl, Nat.le_of_ble_eq_true rfl⟩)) hK hP hD hS hA (fun _ => by simp only [md_w_fst]) (ci := 3) (q0 := 0) rfl rfl rfl rfl rfl hl.1 (Nat.le_of_ble_eq_true rfl) d_MD_write_89 ⟨Nat.zero_le _, Nat.zero_le _⟩ (fun u H locs hu hP hD hS => ?_)
            have hP : va_P D classes (md_w q cI cZ 1 xB xsh xcu xtp (nI td) u_1.2.2.1 u_1.2.2.2.1 u_1.2.2.2.2.1 u_1.2.2.2.2.2.1 u_1.2.2.2.2.2.2 u_1.2.1 xto xwa xmn) H := hP
            have hD : va_D A (md_w q cI cZ 1 xB xsh xcu xtp (nI td) u_1.2.2.1 u_1.2.2.2.1 u_1.2.2.2.2.1 u_1.2.2.2.2.2.1 u_1.2.2.2.2.2.2 u_1.2.1 xto xwa xmn) := hD
            refine lv_if_eq (tgt := 97) hx hb d_MD_write_92 (by decide) (fun c_36 => absurd c_36 (by decide)) (fun c_36 => ?_)
            refine lv_iconst (v := 0) hx hb d_MD_write_95 (by decide) ?_
            rw [hQ]
            exact sf_iret (0, 1, xB, xsh, xcu, (nI td), u_1.2.2.1, u_1.2.2.2.1, u_1.2.2.2.2.1, u_1.2.2.2.2.2.1, u_1.2.2.2.2.2.2, u_1.2.1, xto, xwa, xmn) hx hb hr hlk hS rfl rfl (by simp only [f_MD_write, ← hu_1, ← hu_3, ← hu_33, eq_true c_2, eq_true c_4, eq_true c_25, eq_false c_32, eq_false c_34, ↓reduceIte]) hP d_MD_write_96
          · refine lv_iconst (v := 1) hx hb d_MD_write_74 (by decide) ?_
            refine lv_goto (tgt := 79) hx hb d_MD_write_75 (by decide) ?_
            refine lv_iload hx hb d_MD_write_79 (lv_at hl 0 rfl) ?_
            refine lv_if_ne (tgt := 88) hx hb d_MD_write_81 (by decide) (fun c_37 => absurd (by decide) c_37) (fun c_37 => ?_)
            refine lv_iconst (v := 1) hx hb d_MD_write_84 (by decide) ?_
            refine lv_goto (tgt := 89) hx hb d_MD_write_85 (by decide) ?_
            refine sf_callVw (S := Unit) (rest := []) ⟨hx, hb, hml, hown, hts⟩ (c_MD_throwing_1 l D cI cZ cJ q xth xB xsh xcu xtp (nI td) u_1.2.2.1 u_1.2.2.2.1 u_1.2.2.2.2.1 u_1.2.2.2.2.2.1 u_1.2.2.2.2.2.2 u_1.2.1 xto xwa xmn 0 1 1) (sf_cwV lk_MD_117 hts (fun _ h => h) (by rw [hR]; exact ⟨Nat.le_of_ble_eq_true rfl, Nat.le_of_ble_eq_true rfl⟩)) hK hP hD hS hA (fun _ => by simp only [md_w_fst]) (ci := 3) (q0 := 0) rfl rfl rfl rfl rfl hl.1 (Nat.le_of_ble_eq_true rfl) d_MD_write_89 ⟨Nat.zero_le _, Nat.zero_le _⟩ (fun u H locs hu hP hD hS => ?_)
            have hP : va_P D classes (md_w q cI cZ 1 xB xsh xcu xtp (nI td) u_1.2.2.1 u_1.2.2.2.1 u_1.2.2.2.2.1 u_1.2.2.2.2.2.1 u_1.2.2.2.2.2.2 u_1.2.1 xto xwa xmn) H := hP
            have hD : va_D A (md_w q cI cZ 1 xB xsh xcu xtp (nI td) u_1.2.2.1 u_1.2.2.2.1 u_1.2.2.2.2.1 u_1.2.2.2.2.2.1 u_1.2.2.2.2.2.2 u_1.2.1 xto xwa xmn) := hD
            refine lv_if_eq (tgt := 97) hx hb d_MD_write_92 (by decide) (fun c_38 => absurd c_38 (by decide)) (fun c_38 => ?_)
            refine lv_iconst (v := 0) hx hb d_MD_write_95 (by decide) ?_
            rw [hQ]
            exact sf_iret (0, 1, xB, xsh, xcu, (nI td), u_1.2.2.1, u_1.2.2.2.1, u_1.2.2.2.2.1, u_1.2.2.2.2.2.1, u_1.2.2.2.2.2.2, u_1.2.1, xto, xwa, xmn) hx hb hr hlk hS rfl rfl (by simp only [f_MD_write, ← hu_1, ← hu_3, ← hu_33, eq_true c_2, eq_true c_4, eq_true c_25, eq_false c_32, eq_true c_34, ↓reduceIte]) hP d_MD_write_96
        · refine lv_iconst (v := 1) hx hb d_MD_write_59 (by decide) ?_
          refine lv_goto (tgt := 64) hx hb d_MD_write_60 (by decide) ?_
          refine lv_iload_n hx hb d_MD_write_64 rfl (lv_at hl 4 rfl) ?_
          refine lv_iconst (v := 0) hx hb d_MD_write_65 (by decide) ?_
          refine lv_bipush (v := 11) hx hb d_MD_write_66 (by decide) ?_
          refine sf_callSr (S := Int32) (rest := [.int 1, .int 1, .ref (q 0)]) ⟨hx, hb, hml, hown, hts⟩ (c_MD_in l D cI cZ cJ mo 0 11) (sf_cwS lk_MD_44 hts (fun _ h => h) (by rw [hR]; exact ⟨Nat.le_of_ble_eq_true rfl, Nat.le_of_ble_eq_true rfl⟩)) hK hP hD hS hA [] rfl rfl (fun _ => rfl) rfl rfl hl.1 (Nat.le_of_ble_eq_true rfl) d_MD_write_68 ⟨Nat.zero_le _, Nat.zero_le _⟩ (fun u_39 H locs hu_39 hP hS => ?_)
          refine lv_if_ne (tgt := 78) hx hb d_MD_write_71 (by decide) (fun c_40 => ?_) (fun c_40 => ?_)
          · refine lv_iconst (v := 0) hx hb d_MD_write_78 (by decide) ?_
            refine lv_iload hx hb d_MD_write_79 (lv_at hl 0 rfl) ?_
            refine lv_if_ne (tgt := 88) hx hb d_MD_write_81 (by decide) (fun c_41 => absurd (by decide) c_41) (fun c_41 => ?_)
            refine lv_iconst (v := 1) hx hb d_MD_write_84 (by decide) ?_
            refine lv_goto (tgt := 89) hx hb d_MD_write_85 (by decide) ?_
            refine sf_callVw (S := Unit) (rest := []) ⟨hx, hb, hml, hown, hts⟩ (c_MD_throwing_1 l D cI cZ cJ q xth xB xsh xcu xtp (nI td) u_1.2.2.1 u_1.2.2.2.1 u_1.2.2.2.2.1 u_1.2.2.2.2.2.1 u_1.2.2.2.2.2.2 u_1.2.1 xto xwa xmn 1 0 1) (sf_cwV lk_MD_117 hts (fun _ h => h) (by rw [hR]; exact ⟨Nat.le_of_ble_eq_true rfl, Nat.le_of_ble_eq_true rfl⟩)) hK hP hD hS hA (fun _ => by simp only [md_w_fst]) (ci := 3) (q0 := 0) rfl rfl rfl rfl rfl hl.1 (Nat.le_of_ble_eq_true rfl) d_MD_write_89 ⟨Nat.zero_le _, Nat.zero_le _⟩ (fun u H locs hu hP hD hS => ?_)
            have hP : va_P D classes (md_w q cI cZ 1 xB xsh xcu xtp (nI td) u_1.2.2.1 u_1.2.2.2.1 u_1.2.2.2.2.1 u_1.2.2.2.2.2.1 u_1.2.2.2.2.2.2 u_1.2.1 xto xwa xmn) H := hP
            have hD : va_D A (md_w q cI cZ 1 xB xsh xcu xtp (nI td) u_1.2.2.1 u_1.2.2.2.1 u_1.2.2.2.2.1 u_1.2.2.2.2.2.1 u_1.2.2.2.2.2.2 u_1.2.1 xto xwa xmn) := hD
            refine lv_if_eq (tgt := 97) hx hb d_MD_write_92 (by decide) (fun c_42 => absurd c_42 (by decide)) (fun c_42 => ?_)
            refine lv_iconst (v := 0) hx hb d_MD_write_95 (by decide) ?_
            rw [hQ]
            exact sf_iret (0, 1, xB, xsh, xcu, (nI td), u_1.2.2.1, u_1.2.2.2.1, u_1.2.2.2.2.1, u_1.2.2.2.2.2.1, u_1.2.2.2.2.2.2, u_1.2.1, xto, xwa, xmn) hx hb hr hlk hS rfl rfl (by simp only [f_MD_write, ← hu_1, ← hu_3, ← hu_39, eq_true c_2, eq_true c_4, eq_true c_25, eq_true c_32, eq_false c_40, ↓reduceIte]) hP d_MD_write_96
          · refine lv_iconst (v := 1) hx hb d_MD_write_74 (by decide) ?_
            refine lv_goto (tgt := 79) hx hb d_MD_write_75 (by decide) ?_
            refine lv_iload hx hb d_MD_write_79 (lv_at hl 0 rfl) ?_
            refine lv_if_ne (tgt := 88) hx hb d_MD_write_81 (by decide) (fun c_43 => absurd (by decide) c_43) (fun c_43 => ?_)
            refine lv_iconst (v := 1) hx hb d_MD_write_84 (by decide) ?_
            refine lv_goto (tgt := 89) hx hb d_MD_write_85 (by decide) ?_
            refine sf_callVw (S := Unit) (rest := []) ⟨hx, hb, hml, hown, hts⟩ (c_MD_throwing_1 l D cI cZ cJ q xth xB xsh xcu xtp (nI td) u_1.2.2.1 u_1.2.2.2.1 u_1.2.2.2.2.1 u_1.2.2.2.2.2.1 u_1.2.2.2.2.2.2 u_1.2.1 xto xwa xmn 1 1 1) (sf_cwV lk_MD_117 hts (fun _ h => h) (by rw [hR]; exact ⟨Nat.le_of_ble_eq_true rfl, Nat.le_of_ble_eq_true rfl⟩)) hK hP hD hS hA (fun _ => by simp only [md_w_fst]) (ci := 3) (q0 := 0) rfl rfl rfl rfl rfl hl.1 (Nat.le_of_ble_eq_true rfl) d_MD_write_89 ⟨Nat.zero_le _, Nat.zero_le _⟩ (fun u H locs hu hP hD hS => ?_)
            have hP : va_P D classes (md_w q cI cZ 1 xB xsh xcu xtp (nI td) u_1.2.2.1 u_1.2.2.2.1 u_1.2.2.2.2.1 u_1.2.2.2.2.2.1 u_1.2.2.2.2.2.2 u_1.2.1 xto xwa xmn) H := hP
            have hD : va_D A (md_w q cI cZ 1 xB xsh xcu xtp (nI td) u_1.2.2.1 u_1.2.2.2.1 u_1.2.2.2.2.1 u_1.2.2.2.2.2.1 u_1.2.2.2.2.2.2 u_1.2.1 xto xwa xmn) := hD
            refine lv_if_eq (tgt := 97) hx hb d_MD_write_92 (by decide) (fun c_44 => absurd c_44 (by decide)) (fun c_44 => ?_)
            refine lv_iconst (v := 0) hx hb d_MD_write_95 (by decide) ?_
            rw [hQ]
            exact sf_iret (0, 1, xB, xsh, xcu, (nI td), u_1.2.2.1, u_1.2.2.2.1, u_1.2.2.2.2.1, u_1.2.2.2.2.2.1, u_1.2.2.2.2.2.2, u_1.2.1, xto, xwa, xmn) hx hb hr hlk hS rfl rfl (by simp only [f_MD_write, ← hu_1, ← hu_3, ← hu_39, eq_true c_2, eq_true c_4, eq_true c_25, eq_true c_32, eq_true c_40, ↓reduceIte]) hP d_MD_write_96
  · refine lv_iconst (v := 1) hx hb d_MD_write_22 (by decide) ?_
    refine lv_goto (tgt := 27) hx hb d_MD_write_23 (by decide) ?_
    refine lv_istore (lv' := [(4, .int 1), (3, .int (nI (((td + 25) - 1) / 25))), (0, .ref (q 0)), (1, .int ro), (2, .int mo)]) hx hb d_MD_write_27 hl (by decide) rfl (fun ls hl => ?_)
    refine lv_aload_n hx hb d_MD_write_29 rfl (lv_at hl 2 rfl) ?_
    refine lv_iload_n hx hb d_MD_write_30 rfl (lv_at hl 3 rfl) ?_
    refine lv_iconst (v := 0) hx hb d_MD_write_31 (by decide) ?_
    refine lv_bipush (v := 11) hx hb d_MD_write_32 (by decide) ?_
    refine sf_callSr (S := Int32) (rest := [.ref (q 0)]) ⟨hx, hb, hml, hown, hts⟩ (c_MD_in l D cI cZ cJ ro 0 11) (sf_cwS lk_MD_44 hts (fun _ h => h) (by rw [hR]; exact ⟨Nat.le_of_ble_eq_true rfl, Nat.le_of_ble_eq_true rfl⟩)) hK hP hD hS hA [] rfl rfl (fun _ => rfl) rfl rfl hl.1 (Nat.le_of_ble_eq_true rfl) d_MD_write_34 ⟨Nat.zero_le _, Nat.zero_le _⟩ (fun u_45 H locs hu_45 hP hS => ?_)
    refine lv_if_ne (tgt := 44) hx hb d_MD_write_37 (by decide) (fun c_46 => ?_) (fun c_46 => ?_)
    · refine lv_iconst (v := 0) hx hb d_MD_write_44 (by decide) ?_
      refine lv_aload_n hx hb d_MD_write_45 rfl (lv_at hl 2 rfl) ?_
      refine va_get (D := D) (ci := 3) (v := .int xsh) (C := R_MD) (T := F_MD) (N := 15) hx hb hts i_MD hown hK hP 0 rfl rfl 2 (by decide) (hts _ wd_577) (fun _ h9 => h9) rfl d_MD_write_46 ?_
      refine lv_if_ne (tgt := 59) hx hb d_MD_write_49 (by decide) (fun c_47 => ?_) (fun c_47 => ?_)
      · refine lv_iconst (v := 1) hx hb d_MD_write_59 (by decide) ?_
        refine lv_goto (tgt := 64) hx hb d_MD_write_60 (by decide) ?_
        refine lv_iload_n hx hb d_MD_write_64 rfl (lv_at hl 4 rfl) ?_
        refine lv_iconst (v := 0) hx hb d_MD_write_65 (by decide) ?_
        refine lv_bipush (v := 11) hx hb d_MD_write_66 (by decide) ?_
        refine sf_callSr (S := Int32) (rest := [.int 1, .int 0, .ref (q 0)]) ⟨hx, hb, hml, hown, hts⟩ (c_MD_in l D cI cZ cJ mo 0 11) (sf_cwS lk_MD_44 hts (fun _ h => h) (by rw [hR]; exact ⟨Nat.le_of_ble_eq_true rfl, Nat.le_of_ble_eq_true rfl⟩)) hK hP hD hS hA [] rfl rfl (fun _ => rfl) rfl rfl hl.1 (Nat.le_of_ble_eq_true rfl) d_MD_write_68 ⟨Nat.zero_le _, Nat.zero_le _⟩ (fun u_48 H locs hu_48 hP hS => ?_)
        refine lv_if_ne (tgt := 78) hx hb d_MD_write_71 (by decide) (fun c_49 => ?_) (fun c_49 => ?_)
        · refine lv_iconst (v := 0) hx hb d_MD_write_78 (by decide) ?_
          refine lv_iload hx hb d_MD_write_79 (lv_at hl 0 rfl) ?_
          refine lv_if_ne (tgt := 88) hx hb d_MD_write_81 (by decide) (fun c_50 => ?_) (fun c_50 => absurd c_50 (by decide))
          refine lv_iconst (v := 0) hx hb d_MD_write_88 (by decide) ?_
          refine sf_callVw (S := Unit) (rest := []) ⟨hx, hb, hml, hown, hts⟩ (c_MD_throwing_2 l D cI cZ cJ q xth xB xsh xcu xtp (nI td) u_1.2.2.1 u_1.2.2.2.1 u_1.2.2.2.2.1 u_1.2.2.2.2.2.1 u_1.2.2.2.2.2.2 u_1.2.1 xto xwa xmn 0 0) (sf_cwV lk_MD_117 hts (fun _ h => h) (by rw [hR]; exact ⟨Nat.le_of_ble_eq_true rfl, Nat.le_of_ble_eq_true rfl⟩)) hK hP hD hS hA (fun _ => by simp only [md_w_fst]) (ci := 3) (q0 := 0) rfl rfl rfl rfl rfl hl.1 (Nat.le_of_ble_eq_true rfl) d_MD_write_89 ⟨Nat.zero_le _, Nat.zero_le _⟩ (fun u H locs hu hP hD hS => ?_)
          have hP : va_P D classes (md_w q cI cZ 2 xB xsh xcu xtp (nI td) u_1.2.2.1 u_1.2.2.2.1 u_1.2.2.2.2.1 u_1.2.2.2.2.2.1 u_1.2.2.2.2.2.2 u_1.2.1 xto xwa xmn) H := hP
          have hD : va_D A (md_w q cI cZ 2 xB xsh xcu xtp (nI td) u_1.2.2.1 u_1.2.2.2.1 u_1.2.2.2.2.1 u_1.2.2.2.2.2.1 u_1.2.2.2.2.2.2 u_1.2.1 xto xwa xmn) := hD
          refine lv_if_eq (tgt := 97) hx hb d_MD_write_92 (by decide) (fun c_51 => absurd c_51 (by decide)) (fun c_51 => ?_)
          refine lv_iconst (v := 0) hx hb d_MD_write_95 (by decide) ?_
          rw [hQ]
          exact sf_iret (0, 2, xB, xsh, xcu, (nI td), u_1.2.2.1, u_1.2.2.2.1, u_1.2.2.2.2.1, u_1.2.2.2.2.2.1, u_1.2.2.2.2.2.2, u_1.2.1, xto, xwa, xmn) hx hb hr hlk hS rfl rfl (by simp only [f_MD_write, ← hu_1, ← hu_45, ← hu_48, eq_false c_2, eq_false c_46, eq_false c_47, eq_false c_49, ↓reduceIte]) hP d_MD_write_96
        · refine lv_iconst (v := 1) hx hb d_MD_write_74 (by decide) ?_
          refine lv_goto (tgt := 79) hx hb d_MD_write_75 (by decide) ?_
          refine lv_iload hx hb d_MD_write_79 (lv_at hl 0 rfl) ?_
          refine lv_if_ne (tgt := 88) hx hb d_MD_write_81 (by decide) (fun c_52 => ?_) (fun c_52 => absurd c_52 (by decide))
          refine lv_iconst (v := 0) hx hb d_MD_write_88 (by decide) ?_
          refine sf_callVw (S := Unit) (rest := []) ⟨hx, hb, hml, hown, hts⟩ (c_MD_throwing_2 l D cI cZ cJ q xth xB xsh xcu xtp (nI td) u_1.2.2.1 u_1.2.2.2.1 u_1.2.2.2.2.1 u_1.2.2.2.2.2.1 u_1.2.2.2.2.2.2 u_1.2.1 xto xwa xmn 1 0) (sf_cwV lk_MD_117 hts (fun _ h => h) (by rw [hR]; exact ⟨Nat.le_of_ble_eq_true rfl, Nat.le_of_ble_eq_true rfl⟩)) hK hP hD hS hA (fun _ => by simp only [md_w_fst]) (ci := 3) (q0 := 0) rfl rfl rfl rfl rfl hl.1 (Nat.le_of_ble_eq_true rfl) d_MD_write_89 ⟨Nat.zero_le _, Nat.zero_le _⟩ (fun u H locs hu hP hD hS => ?_)
          have hP : va_P D classes (md_w q cI cZ 2 xB xsh xcu xtp (nI td) u_1.2.2.1 u_1.2.2.2.1 u_1.2.2.2.2.1 u_1.2.2.2.2.2.1 u_1.2.2.2.2.2.2 u_1.2.1 xto xwa xmn) H := hP
          have hD : va_D A (md_w q cI cZ 2 xB xsh xcu xtp (nI td) u_1.2.2.1 u_1.2.2.2.1 u_1.2.2.2.2.1 u_1.2.2.2.2.2.1 u_1.2.2.2.2.2.2 u_1.2.1 xto xwa xmn) := hD
          refine lv_if_eq (tgt := 97) hx hb d_MD_write_92 (by decide) (fun c_53 => absurd c_53 (by decide)) (fun c_53 => ?_)
          refine lv_iconst (v := 0) hx hb d_MD_write_95 (by decide) ?_
          rw [hQ]
          exact sf_iret (0, 2, xB, xsh, xcu, (nI td), u_1.2.2.1, u_1.2.2.2.1, u_1.2.2.2.2.1, u_1.2.2.2.2.2.1, u_1.2.2.2.2.2.2, u_1.2.1, xto, xwa, xmn) hx hb hr hlk hS rfl rfl (by simp only [f_MD_write, ← hu_1, ← hu_45, ← hu_48, eq_false c_2, eq_false c_46, eq_false c_47, eq_true c_49, ↓reduceIte]) hP d_MD_write_96
      · refine lv_aload_n hx hb d_MD_write_52 rfl (lv_at hl 2 rfl) ?_
        refine va_get (D := D) (ci := 3) (v := .int (nI td)) (C := R_MD) (T := F_MD) (N := 15) hx hb hts i_MD hown hK hP 0 rfl rfl 5 (by decide) (hts _ wd_580) (fun _ h9 => h9) rfl d_MD_write_53 ?_
        refine lv_if_ne (tgt := 63) hx hb d_MD_write_56 (by decide) (fun c_54 => ?_) (fun c_54 => ?_)
        · refine lv_iconst (v := 0) hx hb d_MD_write_63 (by decide) ?_
          refine lv_iload_n hx hb d_MD_write_64 rfl (lv_at hl 4 rfl) ?_
          refine lv_iconst (v := 0) hx hb d_MD_write_65 (by decide) ?_
          refine lv_bipush (v := 11) hx hb d_MD_write_66 (by decide) ?_
          refine sf_callSr (S := Int32) (rest := [.int 0, .int 0, .ref (q 0)]) ⟨hx, hb, hml, hown, hts⟩ (c_MD_in l D cI cZ cJ mo 0 11) (sf_cwS lk_MD_44 hts (fun _ h => h) (by rw [hR]; exact ⟨Nat.le_of_ble_eq_true rfl, Nat.le_of_ble_eq_true rfl⟩)) hK hP hD hS hA [] rfl rfl (fun _ => rfl) rfl rfl hl.1 (Nat.le_of_ble_eq_true rfl) d_MD_write_68 ⟨Nat.zero_le _, Nat.zero_le _⟩ (fun u_55 H locs hu_55 hP hS => ?_)
          refine lv_if_ne (tgt := 78) hx hb d_MD_write_71 (by decide) (fun c_56 => ?_) (fun c_56 => ?_)
          · refine lv_iconst (v := 0) hx hb d_MD_write_78 (by decide) ?_
            refine lv_iload hx hb d_MD_write_79 (lv_at hl 0 rfl) ?_
            refine lv_if_ne (tgt := 88) hx hb d_MD_write_81 (by decide) (fun c_57 => ?_) (fun c_57 => absurd c_57 (by decide))
            refine lv_iconst (v := 0) hx hb d_MD_write_88 (by decide) ?_
            refine sf_callVw (S := Unit) (rest := []) ⟨hx, hb, hml, hown, hts⟩ (c_MD_throwing_0 l D cI cZ cJ q xth xB xsh xcu xtp (nI td) u_1.2.2.1 u_1.2.2.2.1 u_1.2.2.2.2.1 u_1.2.2.2.2.2.1 u_1.2.2.2.2.2.2 u_1.2.1 xto xwa xmn) (sf_cwV lk_MD_117 hts (fun _ h => h) (by rw [hR]; exact ⟨Nat.le_of_ble_eq_true rfl, Nat.le_of_ble_eq_true rfl⟩)) hK hP hD hS hA (fun _ => by simp only [md_w_fst]) (ci := 3) (q0 := 0) rfl rfl rfl rfl rfl hl.1 (Nat.le_of_ble_eq_true rfl) d_MD_write_89 ⟨Nat.zero_le _, Nat.zero_le _⟩ (fun u H locs hu hP hD hS => ?_)
            have hP : va_P D classes (md_w q cI cZ 0 xB xsh xcu xtp (nI td) u_1.2.2.1 u_1.2.2.2.1 u_1.2.2.2.2.1 u_1.2.2.2.2.2.1 u_1.2.2.2.2.2.2 u_1.2.1 xto xwa xmn) H := hP
            have hD : va_D A (md_w q cI cZ 0 xB xsh xcu xtp (nI td) u_1.2.2.1 u_1.2.2.2.1 u_1.2.2.2.2.1 u_1.2.2.2.2.2.1 u_1.2.2.2.2.2.2 u_1.2.1 xto xwa xmn) := hD
            refine lv_if_eq (tgt := 97) hx hb d_MD_write_92 (by decide) (fun c_58 => ?_) (fun c_58 => absurd (by decide) c_58)
            have htd1 : 1 ≤ td := by
              rcases Nat.eq_zero_or_pos td with h9 | h9
              · exact absurd (by rw [h9]; rfl) c_54
              · exact h9
            have hfr9 : (td + 24) / 25 ≤ md_nf u_1.2.1 0 (24 - 0) := by have := md_room (md_FT0 hu_1) (by omega) (by omega) c_2; omega
            refine lv_iconst (v := 0) hx hb d_MD_write_97 (by decide) ?_
            refine lv_istore (lv' := [(5, .int 0), (4, .int 1), (3, .int (nI (((td + 25) - 1) / 25))), (0, .ref (q 0)), (1, .int ro), (2, .int mo)]) hx hb d_MD_write_98 hl (by decide) rfl (fun ls hl => ?_)
            obtain ⟨u_59, hu_59⟩ : ∃ z, z = (f_MD_write_l100 xtp td (td + 1) 0 u_1.2.2.2.2.2.1) := ⟨_, rfl⟩
            have loop100 : ∀ (fukk kk : Nat) (yh : (Nat → Int32)), kk ≤ td → kk + fukk = td + 1 → f_MD_write_l100 xtp td fukk kk yh = u_59 → ∀ (H : Heap) (locs : List Loc), va_P D classes (md_w q cI cZ 0 xB xsh xcu xtp (nI td) u_1.2.2.1 u_1.2.2.2.1 u_1.2.2.2.2.1 yh u_1.2.2.2.2.2.2 u_1.2.1 xto xwa xmn) H → va_D A (md_w q cI cZ 0 xB xsh xcu xtp (nI td) u_1.2.2.1 u_1.2.2.2.1 u_1.2.2.2.2.1 yh u_1.2.2.2.2.2.2 u_1.2.1 xto xwa xmn) → va_S A s.heap H locs → ∀ (ls : Array Slot), lv_has ls 6 [(0, .ref (q 0)), (1, .int ro), (2, .int mo), (3, .int (nI (((td + 25) - 1) / 25))), (4, .int 1), (5, .int (nI kk))] → W p l e R s m args below meth c H locs 0 0 Q (F0 m 100 ls []) := by
              intro fukk
              induction fukk with
              | zero =>
                intro kk yh h1 h2
                exact absurd h2 (by omega)
              | succ fukk ih100 =>
                intro kk yh hk100 hkn100 heq100 H locs hP hD hS ls hl
                refine lv_iload hx hb d_MD_write_100 (lv_at hl 5 rfl) ?_
                refine lv_aload_n hx hb d_MD_write_102 rfl (lv_at hl 0 rfl) ?_
                refine va_get (D := D) (ci := 3) (v := .int (nI td)) (C := R_MD) (T := F_MD) (N := 15) hx hb hts i_MD hown hK hP 0 rfl rfl 5 (by decide) (hts _ wd_580) (fun _ h9 => h9) rfl d_MD_write_103 ?_
                refine lv_icmp_ge (tgt := 129) hx hb d_MD_write_106 (by decide) (fun c_60 => ?_) (fun c_60 => ?_)
                · skip
                  have hv100 : yh = u_59 := by rw [← heq100]; simp only [f_MD_write_l100, ← hu_1, ← hu_45, ← hu_55, eq_true c_60, ↓reduceIte]
                  have hv100_0 : yh = u_59 := hv100
                  rw [hv100_0] at hP hD
                  have hke100 : kk = td := sf_eq_of (N := td) (by omega) (by omega) hk100 c_60
                  try rw [hke100] at hP
                  try rw [hke100] at hD
                  try rw [hke100] at hl
                  refine lv_aload_n hx hb d_MD_write_129 rfl (lv_at hl 0 rfl) ?_
                  refine lv_aload_n hx hb d_MD_write_130 rfl (lv_at hl 0 rfl) ?_
                  refine va_get (D := D) (ci := 3) (v := .int (nI td)) (C := R_MD) (T := F_MD) (N := 15) hx hb hts i_MD hown hK hP 0 rfl rfl 5 (by decide) (hts _ wd_580) (fun _ h9 => h9) rfl d_MD_write_131 ?_
                  refine va_put (D := D) (ci := 3) (v := .int (nI td)) (ty := .int) (C := R_MD) (T := F_MD) (N := 15) hx hb hts i_MD t_MD t_MD_ok n_MD hown hK hP hD hS 0 rfl rfl 10 (by decide) (hts _ wd_585) (fun _ h9 => h9) rfl (by decide +kernel) rfl rfl (Nat.le_of_ble_eq_true rfl) d_MD_write_134 (fun H locs hP hD hS => ?_)
                  have hP : va_P D classes (md_w q cI cZ 0 xB xsh xcu xtp (nI td) u_1.2.2.1 u_1.2.2.2.1 u_1.2.2.2.2.1 u_59 (nI td) u_1.2.1 xto xwa xmn) H := hP
                  have hD : va_D A (md_w q cI cZ 0 xB xsh xcu xtp (nI td) u_1.2.2.1 u_1.2.2.2.1 u_1.2.2.2.2.1 u_59 (nI td) u_1.2.1 xto xwa xmn) := hD
                  refine lv_aload_n hx hb d_MD_write_137 rfl (lv_at hl 0 rfl) ?_
                  refine lv_iconst (v := 0) hx hb d_MD_write_138 (by decide) ?_
                  refine va_put (D := D) (ci := 3) (v := .int 0) (ty := .int) (C := R_MD) (T := F_MD) (N := 15) hx hb hts i_MD t_MD t_MD_ok n_MD hown hK hP hD hS 0 rfl rfl 5 (by decide) (hts _ wd_580) (fun _ h9 => h9) rfl (by decide +kernel) rfl rfl (Nat.le_of_ble_eq_true rfl) d_MD_write_139 (fun H locs hP hD hS => ?_)
                  have hP : va_P D classes (md_w q cI cZ 0 xB xsh xcu xtp 0 u_1.2.2.1 u_1.2.2.2.1 u_1.2.2.2.2.1 u_59 (nI td) u_1.2.1 xto xwa xmn) H := hP
                  have hD : va_D A (md_w q cI cZ 0 xB xsh xcu xtp 0 u_1.2.2.1 u_1.2.2.2.1 u_1.2.2.2.2.1 u_59 (nI td) u_1.2.1 xto xwa xmn) := hD
                  refine lv_aload_n hx hb d_MD_write_142 rfl (lv_at hl 0 rfl) ?_
                  refine lv_iconst (v := 0) hx hb d_MD_write_143 (by decide) ?_
                  refine va_put (D := D) (ci := 3) (v := .int 0) (ty := .int) (C := R_MD) (T := F_MD) (N := 15) hx hb hts i_MD t_MD t_MD_ok n_MD hown hK hP hD hS 0 rfl rfl 14 (by decide) (hts _ wd_589) (fun _ h9 => h9) rfl (by decide +kernel) rfl rfl (Nat.le_of_ble_eq_true rfl) d_MD_write_144 (fun H locs hP hD hS => ?_)
                  have hP : va_P D classes (md_w q cI cZ 0 xB xsh xcu xtp 0 u_1.2.2.1 u_1.2.2.2.1 u_1.2.2.2.2.1 u_59 (nI td) u_1.2.1 xto xwa 0) H := hP
                  have hD : va_D A (md_w q cI cZ 0 xB xsh xcu xtp 0 u_1.2.2.1 u_1.2.2.2.1 u_1.2.2.2.2.1 u_59 (nI td) u_1.2.1 xto xwa 0) := hD
                  refine lv_aload_n hx hb d_MD_write_147 rfl (lv_at hl 0 rfl) ?_
                  refine lv_iconst (v := 0) hx hb d_MD_write_148 (by decide) ?_
                  refine lv_iload_n hx hb d_MD_write_149 rfl (lv_at hl 2 rfl) ?_
                  refine sf_callVw (S := (Int32 × (Nat → Int32) × (Nat → Int32))) (rest := []) ⟨hx, hb, hml, hown, hts⟩ (c_MD_putChain_0 l D cI cZ cJ q 0 xB xsh xcu xtp 0 u_1.2.2.1 u_1.2.2.2.1 u_1.2.2.2.2.1 u_59 u_1.2.1 xto xwa td 0 mo (by omega) (by omega) (by omega) hfr9) (sf_cwV lk_MD_126 hts (fun _ h => h) (by rw [hR]; exact ⟨Nat.le_of_ble_eq_true rfl, Nat.le_of_ble_eq_true rfl⟩)) hK hP hD hS hA (fun _ => by simp only [md_w_fst]) (ci := 3) (q0 := 0) rfl rfl rfl rfl rfl hl.1 (Nat.le_of_ble_eq_true rfl) d_MD_write_150 ⟨Nat.zero_le _, Nat.zero_le _⟩ (fun u_61 H locs hu_61 hP hD hS => ?_)
                  have hP : va_P D classes (md_w q cI cZ 0 xB xsh xcu xtp 0 u_1.2.2.1 u_1.2.2.2.1 u_1.2.2.2.2.1 u_59 (nI td) u_1.2.1 u_61.2.1 u_61.2.2 (nI (0 + 32 * ((td + 24) / 25)))) H := hP
                  have hD : va_D A (md_w q cI cZ 0 xB xsh xcu xtp 0 u_1.2.2.1 u_1.2.2.2.1 u_1.2.2.2.2.1 u_59 (nI td) u_1.2.1 u_61.2.1 u_61.2.2 (nI (0 + 32 * ((td + 24) / 25)))) := hD
                  refine lv_istore (lv' := [(5, .int u_61.1), (0, .ref (q 0)), (1, .int ro), (2, .int mo), (3, .int (nI (((td + 25) - 1) / 25))), (4, .int 1)]) hx hb d_MD_write_153 hl (by decide) rfl (fun ls hl => ?_)
                  refine lv_aload_n hx hb d_MD_write_155 rfl (lv_at hl 1 rfl) ?_
                  refine lv_iload_n hx hb d_MD_write_156 rfl (lv_at hl 2 rfl) ?_
                  obtain ⟨u_62, hu_62⟩ : ∃ z, z = ro.toNatClampNeg := ⟨_, rfl⟩
                  obtain ⟨he_u_62, hb_u_62⟩ := sf_natr hu_62 (by rw [← hu_45]; exact c_46)
                  rw [he_u_62]
                  refine lv_iload hx hb d_MD_write_157 (lv_at hl 0 rfl) ?_
                  refine lv_iconst (v := 1) hx hb d_MD_write_159 (by decide) ?_
                  refine lv_iadd hx hb d_MD_write_160 ?_
                  refine lv_iconst (v := 0) hx hb d_MD_write_161 (by decide) ?_
                  refine sf_callVw (S := ((Nat → Int32) × (Nat → Int32))) (rest := []) ⟨hx, hb, hml, hown, hts⟩ (c_MD_putTable l D cI cZ cJ q 0 xB xsh xcu xtp 0 u_1.2.2.1 u_1.2.2.2.1 u_1.2.2.2.2.1 u_59 (nI td) u_1.2.1 u_61.2.1 u_61.2.2 (0 + 32 * ((td + 24) / 25)) u_62 (u_61.1 + 1) 0 (by omega) (by omega)) (sf_cwV lk_MD_129 hts (fun _ h => h) (by rw [hR]; exact ⟨Nat.le_of_ble_eq_true rfl, Nat.le_of_ble_eq_true rfl⟩)) hK hP hD hS hA (fun _ => by simp only [md_w_fst]) (ci := 3) (q0 := 0) rfl rfl rfl rfl rfl hl.1 (Nat.le_of_ble_eq_true rfl) d_MD_write_162 ⟨Nat.zero_le _, Nat.zero_le _⟩ (fun u_63 H locs hu_63 hP hD hS => ?_)
                  have hP : va_P D classes (md_w q cI cZ 0 xB xsh xcu xtp 0 u_1.2.2.1 u_1.2.2.2.1 u_1.2.2.2.2.1 u_59 (nI td) u_1.2.1 u_63.1 u_63.2 (nI ((0 + 32 * ((td + 24) / 25)) + 40))) H := hP
                  have hD : va_D A (md_w q cI cZ 0 xB xsh xcu xtp 0 u_1.2.2.1 u_1.2.2.2.1 u_1.2.2.2.2.1 u_59 (nI td) u_1.2.1 u_63.1 u_63.2 (nI ((0 + 32 * ((td + 24) / 25)) + 40))) := hD
                  refine lv_aload_n hx hb d_MD_write_165 rfl (lv_at hl 1 rfl) ?_
                  refine sf_callVw (S := (Int32 × (Nat → Int32) × Int32)) (rest := []) ⟨hx, hb, hml, hown, hts⟩ (c_MD_comes l D cI cZ cJ q 0 xB xsh xcu xtp 0 u_1.2.2.1 u_1.2.2.2.1 u_1.2.2.2.2.1 u_59 (nI td) u_1.2.1 u_63.1 u_63.2 ((0 + 32 * ((td + 24) / 25)) + 40) (by omega) (md_TOpt hu_63 (by omega) (md_TOpc0 hu_61 (by omega) (by omega) (by omega) hfr9 (md_TO0 _)))) (sf_cwV lk_MD_133 hts (fun _ h => h) (by rw [hR]; exact ⟨Nat.le_of_ble_eq_true rfl, Nat.le_of_ble_eq_true rfl⟩)) hK hP hD hS hA (fun _ => by simp only [md_w_fst]) (ci := 3) (q0 := 0) rfl rfl rfl rfl rfl hl.1 (Nat.le_of_ble_eq_true rfl) d_MD_write_166 ⟨Nat.zero_le _, Nat.zero_le _⟩ (fun u_64 H locs hu_64 hP hD hS => ?_)
                  have hP : va_P D classes (md_w q cI cZ 0 u_64.2.1 u_64.2.2 (-1) xtp 0 u_1.2.2.1 u_1.2.2.2.1 u_1.2.2.2.2.1 u_59 (nI td) u_1.2.1 u_63.1 u_63.2 (nI ((0 + 32 * ((td + 24) / 25)) + 40))) H := hP
                  have hD : va_D A (md_w q cI cZ 0 u_64.2.1 u_64.2.2 (-1) xtp 0 u_1.2.2.1 u_1.2.2.2.1 u_1.2.2.2.2.1 u_59 (nI td) u_1.2.1 u_63.1 u_63.2 (nI ((0 + 32 * ((td + 24) / 25)) + 40))) := hD
                  refine lv_if_eq (tgt := 176) hx hb d_MD_write_169 (by decide) (fun c_65 => ?_) (fun c_65 => ?_)
                  · refine lv_iconst (v := (-1)) hx hb d_MD_write_176 (by decide) ?_
                    rw [hQ]
                    exact sf_iret ((-1), 0, u_64.2.1, u_64.2.2, (-1), 0, u_1.2.2.1, u_1.2.2.2.1, u_1.2.2.2.2.1, u_59, (nI td), u_1.2.1, u_63.1, u_63.2, (nI ((0 + 32 * ((td + 24) / 25)) + 40))) hx hb hr hlk hS rfl rfl (by simp only [f_MD_write, ← hu_1, ← hu_45, ← hu_55, ← hu_59, ← hu_61, ← hu_62, ← hu_63, ← hu_64, eq_false c_2, eq_false c_46, eq_true c_47, eq_false c_54, eq_false c_56, eq_true c_65, ↓reduceIte]) hP d_MD_write_177
                  · refine lv_iload_n hx hb d_MD_write_172 rfl (lv_at hl 4 rfl) ?_
                    refine lv_goto (tgt := 177) hx hb d_MD_write_173 (by decide) ?_
                    rw [hQ]
                    exact sf_iret ((nI (((td + 25) - 1) / 25)), 0, u_64.2.1, u_64.2.2, (-1), 0, u_1.2.2.1, u_1.2.2.2.1, u_1.2.2.2.2.1, u_59, (nI td), u_1.2.1, u_63.1, u_63.2, (nI ((0 + 32 * ((td + 24) / 25)) + 40))) hx hb hr hlk hS rfl rfl (by simp only [f_MD_write, ← hu_1, ← hu_45, ← hu_55, ← hu_59, ← hu_61, ← hu_62, ← hu_63, ← hu_64, eq_false c_2, eq_false c_46, eq_true c_47, eq_false c_54, eq_false c_56, eq_false c_65, ↓reduceIte]) hP d_MD_write_177
                · have hlt : kk < td := sf_lt_of (N := td) (by omega) (by omega) c_60
                  refine lv_aload_n hx hb d_MD_write_109 rfl (lv_at hl 0 rfl) ?_
                  refine va_get (D := D) (ci := 3) (v := .ref (q 4)) (C := R_MD) (T := F_MD) (N := 15) hx hb hts i_MD hown hK hP 0 rfl rfl 9 (by decide) (hts _ wd_584) (fun _ h9 => h9) rfl d_MD_write_110 ?_
                  refine lv_iload hx hb d_MD_write_113 (lv_at hl 5 rfl) ?_
                  refine lv_aload_n hx hb d_MD_write_115 rfl (lv_at hl 0 rfl) ?_
                  refine va_get (D := D) (ci := 3) (v := .ref (q 2)) (C := R_MD) (T := F_MD) (N := 15) hx hb hts i_MD hown hK hP 0 rfl rfl 4 (by decide) (hts _ wd_579) (fun _ h9 => h9) rfl d_MD_write_116 ?_
                  refine lv_iload hx hb d_MD_write_119 (lv_at hl 5 rfl) ?_
                  refine va_iald hx hb hK hP 2 0 rfl rfl (show vp_in (nI kk) 60 from vp_in_nI (n := kk) (by omega) (by omega)) d_MD_write_121 ?_
                  rw [show ((nI kk) : Int32).toNatClampNeg = kk from nI_clamp (n := kk) (by omega)]
                  refine va_iast hx hb hK hP hD hS 4 0 rfl rfl (show vp_in (nI kk) 75 from vp_in_nI (n := kk) (by omega) (by omega)) d_MD_write_122 (fun H locs hP hD hS => ?_)
                  rw [show ((nI kk) : Int32).toNatClampNeg = kk from nI_clamp (n := kk) (by omega)] at hP hD
                  have hP : va_P D classes (md_w q cI cZ 0 xB xsh xcu xtp (nI td) u_1.2.2.1 u_1.2.2.2.1 u_1.2.2.2.2.1 (upd yh kk (xtp kk)) u_1.2.2.2.2.2.2 u_1.2.1 xto xwa xmn) H := hP
                  have hD : va_D A (md_w q cI cZ 0 xB xsh xcu xtp (nI td) u_1.2.2.1 u_1.2.2.2.1 u_1.2.2.2.2.1 (upd yh kk (xtp kk)) u_1.2.2.2.2.2.2 u_1.2.1 xto xwa xmn) := hD
                  refine lv_iinc (v := (nI (kk + 1))) (lv' := [(5, .int (nI (kk + 1))), (0, .ref (q 0)), (1, .int ro), (2, .int mo), (3, .int (nI (((td + 25) - 1) / 25))), (4, .int 1)]) hx hb d_MD_write_123 hl (k := 5) rfl (nI_1 kk) (by decide) rfl (fun ls hl => ?_)
                  refine lv_goto (tgt := 100) hx hb d_MD_write_126 (by decide) ?_
                  exact ih100 (kk + 1) (upd yh kk (xtp kk)) (by omega) (by omega) (by rw [← heq100]; simp only [f_MD_write_l100, ← hu_1, ← hu_45, ← hu_55, eq_false c_60, ↓reduceIte]) _ _ hP hD hS ls (lv_sub hl [1, 2, 3, 4, 5, 0] rfl)
            exact loop100 (td + 1) 0 u_1.2.2.2.2.2.1 (by omega) (by omega) hu_59.symm _ _ hP hD hS ls (lv_sub hl [3, 4, 5, 2, 1, 0] rfl)
          · refine lv_iconst (v := 1) hx hb d_MD_write_74 (by decide) ?_
            refine lv_goto (tgt := 79) hx hb d_MD_write_75 (by decide) ?_
            refine lv_iload hx hb d_MD_write_79 (lv_at hl 0 rfl) ?_
            refine lv_if_ne (tgt := 88) hx hb d_MD_write_81 (by decide) (fun c_66 => ?_) (fun c_66 => absurd c_66 (by decide))
            refine lv_iconst (v := 0) hx hb d_MD_write_88 (by decide) ?_
            refine sf_callVw (S := Unit) (rest := []) ⟨hx, hb, hml, hown, hts⟩ (c_MD_throwing_3 l D cI cZ cJ q xth xB xsh xcu xtp (nI td) u_1.2.2.1 u_1.2.2.2.1 u_1.2.2.2.2.1 u_1.2.2.2.2.2.1 u_1.2.2.2.2.2.2 u_1.2.1 xto xwa xmn 0) (sf_cwV lk_MD_117 hts (fun _ h => h) (by rw [hR]; exact ⟨Nat.le_of_ble_eq_true rfl, Nat.le_of_ble_eq_true rfl⟩)) hK hP hD hS hA (fun _ => by simp only [md_w_fst]) (ci := 3) (q0 := 0) rfl rfl rfl rfl rfl hl.1 (Nat.le_of_ble_eq_true rfl) d_MD_write_89 ⟨Nat.zero_le _, Nat.zero_le _⟩ (fun u H locs hu hP hD hS => ?_)
            have hP : va_P D classes (md_w q cI cZ 3 xB xsh xcu xtp (nI td) u_1.2.2.1 u_1.2.2.2.1 u_1.2.2.2.2.1 u_1.2.2.2.2.2.1 u_1.2.2.2.2.2.2 u_1.2.1 xto xwa xmn) H := hP
            have hD : va_D A (md_w q cI cZ 3 xB xsh xcu xtp (nI td) u_1.2.2.1 u_1.2.2.2.1 u_1.2.2.2.2.1 u_1.2.2.2.2.2.1 u_1.2.2.2.2.2.2 u_1.2.1 xto xwa xmn) := hD
            refine lv_if_eq (tgt := 97) hx hb d_MD_write_92 (by decide) (fun c_67 => absurd c_67 (by decide)) (fun c_67 => ?_)
            refine lv_iconst (v := 0) hx hb d_MD_write_95 (by decide) ?_
            rw [hQ]
            exact sf_iret (0, 3, xB, xsh, xcu, (nI td), u_1.2.2.1, u_1.2.2.2.1, u_1.2.2.2.2.1, u_1.2.2.2.2.2.1, u_1.2.2.2.2.2.2, u_1.2.1, xto, xwa, xmn) hx hb hr hlk hS rfl rfl (by simp only [f_MD_write, ← hu_1, ← hu_45, ← hu_55, eq_false c_2, eq_false c_46, eq_true c_47, eq_false c_54, eq_true c_56, ↓reduceIte]) hP d_MD_write_96
        · refine lv_iconst (v := 1) hx hb d_MD_write_59 (by decide) ?_
          refine lv_goto (tgt := 64) hx hb d_MD_write_60 (by decide) ?_
          refine lv_iload_n hx hb d_MD_write_64 rfl (lv_at hl 4 rfl) ?_
          refine lv_iconst (v := 0) hx hb d_MD_write_65 (by decide) ?_
          refine lv_bipush (v := 11) hx hb d_MD_write_66 (by decide) ?_
          refine sf_callSr (S := Int32) (rest := [.int 1, .int 0, .ref (q 0)]) ⟨hx, hb, hml, hown, hts⟩ (c_MD_in l D cI cZ cJ mo 0 11) (sf_cwS lk_MD_44 hts (fun _ h => h) (by rw [hR]; exact ⟨Nat.le_of_ble_eq_true rfl, Nat.le_of_ble_eq_true rfl⟩)) hK hP hD hS hA [] rfl rfl (fun _ => rfl) rfl rfl hl.1 (Nat.le_of_ble_eq_true rfl) d_MD_write_68 ⟨Nat.zero_le _, Nat.zero_le _⟩ (fun u_68 H locs hu_68 hP hS => ?_)
          refine lv_if_ne (tgt := 78) hx hb d_MD_write_71 (by decide) (fun c_69 => ?_) (fun c_69 => ?_)
          · refine lv_iconst (v := 0) hx hb d_MD_write_78 (by decide) ?_
            refine lv_iload hx hb d_MD_write_79 (lv_at hl 0 rfl) ?_
            refine lv_if_ne (tgt := 88) hx hb d_MD_write_81 (by decide) (fun c_70 => ?_) (fun c_70 => absurd c_70 (by decide))
            refine lv_iconst (v := 0) hx hb d_MD_write_88 (by decide) ?_
            refine sf_callVw (S := Unit) (rest := []) ⟨hx, hb, hml, hown, hts⟩ (c_MD_throwing_2 l D cI cZ cJ q xth xB xsh xcu xtp (nI td) u_1.2.2.1 u_1.2.2.2.1 u_1.2.2.2.2.1 u_1.2.2.2.2.2.1 u_1.2.2.2.2.2.2 u_1.2.1 xto xwa xmn 0 0) (sf_cwV lk_MD_117 hts (fun _ h => h) (by rw [hR]; exact ⟨Nat.le_of_ble_eq_true rfl, Nat.le_of_ble_eq_true rfl⟩)) hK hP hD hS hA (fun _ => by simp only [md_w_fst]) (ci := 3) (q0 := 0) rfl rfl rfl rfl rfl hl.1 (Nat.le_of_ble_eq_true rfl) d_MD_write_89 ⟨Nat.zero_le _, Nat.zero_le _⟩ (fun u H locs hu hP hD hS => ?_)
            have hP : va_P D classes (md_w q cI cZ 2 xB xsh xcu xtp (nI td) u_1.2.2.1 u_1.2.2.2.1 u_1.2.2.2.2.1 u_1.2.2.2.2.2.1 u_1.2.2.2.2.2.2 u_1.2.1 xto xwa xmn) H := hP
            have hD : va_D A (md_w q cI cZ 2 xB xsh xcu xtp (nI td) u_1.2.2.1 u_1.2.2.2.1 u_1.2.2.2.2.1 u_1.2.2.2.2.2.1 u_1.2.2.2.2.2.2 u_1.2.1 xto xwa xmn) := hD
            refine lv_if_eq (tgt := 97) hx hb d_MD_write_92 (by decide) (fun c_71 => absurd c_71 (by decide)) (fun c_71 => ?_)
            refine lv_iconst (v := 0) hx hb d_MD_write_95 (by decide) ?_
            rw [hQ]
            exact sf_iret (0, 2, xB, xsh, xcu, (nI td), u_1.2.2.1, u_1.2.2.2.1, u_1.2.2.2.2.1, u_1.2.2.2.2.2.1, u_1.2.2.2.2.2.2, u_1.2.1, xto, xwa, xmn) hx hb hr hlk hS rfl rfl (by simp only [f_MD_write, ← hu_1, ← hu_45, ← hu_68, eq_false c_2, eq_false c_46, eq_true c_47, eq_true c_54, eq_false c_69, ↓reduceIte]) hP d_MD_write_96
          · refine lv_iconst (v := 1) hx hb d_MD_write_74 (by decide) ?_
            refine lv_goto (tgt := 79) hx hb d_MD_write_75 (by decide) ?_
            refine lv_iload hx hb d_MD_write_79 (lv_at hl 0 rfl) ?_
            refine lv_if_ne (tgt := 88) hx hb d_MD_write_81 (by decide) (fun c_72 => ?_) (fun c_72 => absurd c_72 (by decide))
            refine lv_iconst (v := 0) hx hb d_MD_write_88 (by decide) ?_
            refine sf_callVw (S := Unit) (rest := []) ⟨hx, hb, hml, hown, hts⟩ (c_MD_throwing_2 l D cI cZ cJ q xth xB xsh xcu xtp (nI td) u_1.2.2.1 u_1.2.2.2.1 u_1.2.2.2.2.1 u_1.2.2.2.2.2.1 u_1.2.2.2.2.2.2 u_1.2.1 xto xwa xmn 1 0) (sf_cwV lk_MD_117 hts (fun _ h => h) (by rw [hR]; exact ⟨Nat.le_of_ble_eq_true rfl, Nat.le_of_ble_eq_true rfl⟩)) hK hP hD hS hA (fun _ => by simp only [md_w_fst]) (ci := 3) (q0 := 0) rfl rfl rfl rfl rfl hl.1 (Nat.le_of_ble_eq_true rfl) d_MD_write_89 ⟨Nat.zero_le _, Nat.zero_le _⟩ (fun u H locs hu hP hD hS => ?_)
            have hP : va_P D classes (md_w q cI cZ 2 xB xsh xcu xtp (nI td) u_1.2.2.1 u_1.2.2.2.1 u_1.2.2.2.2.1 u_1.2.2.2.2.2.1 u_1.2.2.2.2.2.2 u_1.2.1 xto xwa xmn) H := hP
            have hD : va_D A (md_w q cI cZ 2 xB xsh xcu xtp (nI td) u_1.2.2.1 u_1.2.2.2.1 u_1.2.2.2.2.1 u_1.2.2.2.2.2.1 u_1.2.2.2.2.2.2 u_1.2.1 xto xwa xmn) := hD
            refine lv_if_eq (tgt := 97) hx hb d_MD_write_92 (by decide) (fun c_73 => absurd c_73 (by decide)) (fun c_73 => ?_)
            refine lv_iconst (v := 0) hx hb d_MD_write_95 (by decide) ?_
            rw [hQ]
            exact sf_iret (0, 2, xB, xsh, xcu, (nI td), u_1.2.2.1, u_1.2.2.2.1, u_1.2.2.2.2.1, u_1.2.2.2.2.2.1, u_1.2.2.2.2.2.2, u_1.2.1, xto, xwa, xmn) hx hb hr hlk hS rfl rfl (by simp only [f_MD_write, ← hu_1, ← hu_45, ← hu_68, eq_false c_2, eq_false c_46, eq_true c_47, eq_true c_54, eq_true c_69, ↓reduceIte]) hP d_MD_write_96
    · refine lv_iconst (v := 1) hx hb d_MD_write_40 (by decide) ?_
      refine lv_goto (tgt := 45) hx hb d_MD_write_41 (by decide) ?_
      refine lv_aload_n hx hb d_MD_write_45 rfl (lv_at hl 2 rfl) ?_
      refine va_get (D := D) (ci := 3) (v := .int xsh) (C := R_MD) (T := F_MD) (N := 15) hx hb hts i_MD hown hK hP 0 rfl rfl 2 (by decide) (hts _ wd_577) (fun _ h9 => h9) rfl d_MD_write_46 ?_
      refine lv_if_ne (tgt := 59) hx hb d_MD_write_49 (by decide) (fun c_74 => ?_) (fun c_74 => ?_)
      · refine lv_iconst (v := 1) hx hb d_MD_write_59 (by decide) ?_
        refine lv_goto (tgt := 64) hx hb d_MD_write_60 (by decide) ?_
        refine lv_iload_n hx hb d_MD_write_64 rfl (lv_at hl 4 rfl) ?_
        refine lv_iconst (v := 0) hx hb d_MD_write_65 (by decide) ?_
        refine lv_bipush (v := 11) hx hb d_MD_write_66 (by decide) ?_
        refine sf_callSr (S := Int32) (rest := [.int 1, .int 1, .ref (q 0)]) ⟨hx, hb, hml, hown, hts⟩ (c_MD_in l D cI cZ cJ mo 0 11) (sf_cwS lk_MD_44 hts (fun _ h => h) (by rw [hR]; exact ⟨Nat.le_of_ble_eq_true rfl, Nat.le_of_ble_eq_true rfl⟩)) hK hP hD hS hA [] rfl rfl (fun _ => rfl) rfl rfl hl.1 (Nat.le_of_ble_eq_true rfl) d_MD_write_68 ⟨Nat.zero_le _, Nat.zero_le _⟩ (fun u_75 H locs hu_75 hP hS => ?_)
        refine lv_if_ne (tgt := 78) hx hb d_MD_write_71 (by decide) (fun c_76 => ?_) (fun c_76 => ?_)
        · refine lv_iconst (v := 0) hx hb d_MD_write_78 (by decide) ?_
          refine lv_iload hx hb d_MD_write_79 (lv_at hl 0 rfl) ?_
          refine lv_if_ne (tgt := 88) hx hb d_MD_write_81 (by decide) (fun c_77 => ?_) (fun c_77 => absurd c_77 (by decide))
          refine lv_iconst (v := 0) hx hb d_MD_write_88 (by decide) ?_
          refine sf_callVw (S := Unit) (rest := []) ⟨hx, hb, hml, hown, hts⟩ (c_MD_throwing_1 l D cI cZ cJ q xth xB xsh xcu xtp (nI td) u_1.2.2.1 u_1.2.2.2.1 u_1.2.2.2.2.1 u_1.2.2.2.2.2.1 u_1.2.2.2.2.2.2 u_1.2.1 xto xwa xmn 1 0 0) (sf_cwV lk_MD_117 hts (fun _ h => h) (by rw [hR]; exact ⟨Nat.le_of_ble_eq_true rfl, Nat.le_of_ble_eq_true rfl⟩)) hK hP hD hS hA (fun _ => by simp only [md_w_fst]) (ci := 3) (q0 := 0) rfl rfl rfl rfl rfl hl.1 (Nat.le_of_ble_eq_true rfl) d_MD_write_89 ⟨Nat.zero_le _, Nat.zero_le _⟩ (fun u H locs hu hP hD hS => ?_)
          have hP : va_P D classes (md_w q cI cZ 1 xB xsh xcu xtp (nI td) u_1.2.2.1 u_1.2.2.2.1 u_1.2.2.2.2.1 u_1.2.2.2.2.2.1 u_1.2.2.2.2.2.2 u_1.2.1 xto xwa xmn) H := hP
          have hD : va_D A (md_w q cI cZ 1 xB xsh xcu xtp (nI td) u_1.2.2.1 u_1.2.2.2.1 u_1.2.2.2.2.1 u_1.2.2.2.2.2.1 u_1.2.2.2.2.2.2 u_1.2.1 xto xwa xmn) := hD
          refine lv_if_eq (tgt := 97) hx hb d_MD_write_92 (by decide) (fun c_78 => absurd c_78 (by decide)) (fun c_78 => ?_)
          refine lv_iconst (v := 0) hx hb d_MD_write_95 (by decide) ?_
          rw [hQ]
          exact sf_iret (0, 1, xB, xsh, xcu, (nI td), u_1.2.2.1, u_1.2.2.2.1, u_1.2.2.2.2.1, u_1.2.2.2.2.2.1, u_1.2.2.2.2.2.2, u_1.2.1, xto, xwa, xmn) hx hb hr hlk hS rfl rfl (by simp only [f_MD_write, ← hu_1, ← hu_45, ← hu_75, eq_false c_2, eq_true c_46, eq_false c_74, eq_false c_76, ↓reduceIte]) hP d_MD_write_96
        · refine lv_iconst (v := 1) hx hb d_MD_write_74 (by decide) ?_
          refine lv_goto (tgt := 79) hx hb d_MD_write_75 (by decide) ?_
          refine lv_iload hx hb d_MD_write_79 (lv_at hl 0 rfl) ?_
          refine lv_if_ne (tgt := 88) hx hb d_MD_write_81 (by decide) (fun c_79 => ?_) (fun c_79 => absurd c_79 (by decide))
          refine lv_iconst (v := 0) hx hb d_MD_write_88 (by decide) ?_
          refine sf_callVw (S := Unit) (rest := []) ⟨hx, hb, hml, hown, hts⟩ (c_MD_throwing_1 l D cI cZ cJ q xth xB xsh xcu xtp (nI td) u_1.2.2.1 u_1.2.2.2.1 u_1.2.2.2.2.1 u_1.2.2.2.2.2.1 u_1.2.2.2.2.2.2 u_1.2.1 xto xwa xmn 1 1 0) (sf_cwV lk_MD_117 hts (fun _ h => h) (by rw [hR]; exact ⟨Nat.le_of_ble_eq_true rfl, Nat.le_of_ble_eq_true rfl⟩)) hK hP hD hS hA (fun _ => by simp only [md_w_fst]) (ci := 3) (q0 := 0) rfl rfl rfl rfl rfl hl.1 (Nat.le_of_ble_eq_true rfl) d_MD_write_89 ⟨Nat.zero_le _, Nat.zero_le _⟩ (fun u H locs hu hP hD hS => ?_)
          have hP : va_P D classes (md_w q cI cZ 1 xB xsh xcu xtp (nI td) u_1.2.2.1 u_1.2.2.2.1 u_1.2.2.2.2.1 u_1.2.2.2.2.2.1 u_1.2.2.2.2.2.2 u_1.2.1 xto xwa xmn) H := hP
          have hD : va_D A (md_w q cI cZ 1 xB xsh xcu xtp (nI td) u_1.2.2.1 u_1.2.2.2.1 u_1.2.2.2.2.1 u_1.2.2.2.2.2.1 u_1.2.2.2.2.2.2 u_1.2.1 xto xwa xmn) := hD
          refine lv_if_eq (tgt := 97) hx hb d_MD_write_92 (by decide) (fun c_80 => absurd c_80 (by decide)) (fun c_80 => ?_)
          refine lv_iconst (v := 0) hx hb d_MD_write_95 (by decide) ?_
          rw [hQ]
          exact sf_iret (0, 1, xB, xsh, xcu, (nI td), u_1.2.2.1, u_1.2.2.2.1, u_1.2.2.2.2.1, u_1.2.2.2.2.2.1, u_1.2.2.2.2.2.2, u_1.2.1, xto, xwa, xmn) hx hb hr hlk hS rfl rfl (by simp only [f_MD_write, ← hu_1, ← hu_45, ← hu_75, eq_false c_2, eq_true c_46, eq_false c_74, eq_true c_76, ↓reduceIte]) hP d_MD_write_96
      · refine lv_aload_n hx hb d_MD_write_52 rfl (lv_at hl 2 rfl) ?_
        refine va_get (D := D) (ci := 3) (v := .int (nI td)) (C := R_MD) (T := F_MD) (N := 15) hx hb hts i_MD hown hK hP 0 rfl rfl 5 (by decide) (hts _ wd_580) (fun _ h9 => h9) rfl d_MD_write_53 ?_
        refine lv_if_ne (tgt := 63) hx hb d_MD_write_56 (by decide) (fun c_81 => ?_) (fun c_81 => ?_)
        · refine lv_iconst (v := 0) hx hb d_MD_write_63 (by decide) ?_
          refine lv_iload_n hx hb d_MD_write_64 rfl (lv_at hl 4 rfl) ?_
          refine lv_iconst (v := 0) hx hb d_MD_write_65 (by decide) ?_
          refine lv_bipush (v := 11) hx hb d_MD_write_66 (by decide) ?_
          refine sf_callSr (S := Int32) (rest := [.int 0, .int 1, .ref (q 0)]) ⟨hx, hb, hml, hown, hts⟩ (c_MD_in l D cI cZ cJ mo 0 11) (sf_cwS lk_MD_44 hts (fun _ h => h) (by rw [hR]; exact ⟨Nat.le_of_ble_eq_true rfl, Nat.le_of_ble_eq_true rfl⟩)) hK hP hD hS hA [] rfl rfl (fun _ => rfl) rfl rfl hl.1 (Nat.le_of_ble_eq_true rfl) d_MD_write_68 ⟨Nat.zero_le _, Nat.zero_le _⟩ (fun u_82 H locs hu_82 hP hS => ?_)
          refine lv_if_ne (tgt := 78) hx hb d_MD_write_71 (by decide) (fun c_83 => ?_) (fun c_83 => ?_)
          · refine lv_iconst (v := 0) hx hb d_MD_write_78 (by decide) ?_
            refine lv_iload hx hb d_MD_write_79 (lv_at hl 0 rfl) ?_
            refine lv_if_ne (tgt := 88) hx hb d_MD_write_81 (by decide) (fun c_84 => ?_) (fun c_84 => absurd c_84 (by decide))
            refine lv_iconst (v := 0) hx hb d_MD_write_88 (by decide) ?_
            refine sf_callVw (S := Unit) (rest := []) ⟨hx, hb, hml, hown, hts⟩ (c_MD_throwing_1 l D cI cZ cJ q xth xB xsh xcu xtp (nI td) u_1.2.2.1 u_1.2.2.2.1 u_1.2.2.2.2.1 u_1.2.2.2.2.2.1 u_1.2.2.2.2.2.2 u_1.2.1 xto xwa xmn 0 0 0) (sf_cwV lk_MD_117 hts (fun _ h => h) (by rw [hR]; exact ⟨Nat.le_of_ble_eq_true rfl, Nat.le_of_ble_eq_true rfl⟩)) hK hP hD hS hA (fun _ => by simp only [md_w_fst]) (ci := 3) (q0 := 0) rfl rfl rfl rfl rfl hl.1 (Nat.le_of_ble_eq_true rfl) d_MD_write_89 ⟨Nat.zero_le _, Nat.zero_le _⟩ (fun u H locs hu hP hD hS => ?_)
            have hP : va_P D classes (md_w q cI cZ 1 xB xsh xcu xtp (nI td) u_1.2.2.1 u_1.2.2.2.1 u_1.2.2.2.2.1 u_1.2.2.2.2.2.1 u_1.2.2.2.2.2.2 u_1.2.1 xto xwa xmn) H := hP
            have hD : va_D A (md_w q cI cZ 1 xB xsh xcu xtp (nI td) u_1.2.2.1 u_1.2.2.2.1 u_1.2.2.2.2.1 u_1.2.2.2.2.2.1 u_1.2.2.2.2.2.2 u_1.2.1 xto xwa xmn) := hD
            refine lv_if_eq (tgt := 97) hx hb d_MD_write_92 (by decide) (fun c_85 => absurd c_85 (by decide)) (fun c_85 => ?_)
            refine lv_iconst (v := 0) hx hb d_MD_write_95 (by decide) ?_
            rw [hQ]
            exact sf_iret (0, 1, xB, xsh, xcu, (nI td), u_1.2.2.1, u_1.2.2.2.1, u_1.2.2.2.2.1, u_1.2.2.2.2.2.1, u_1.2.2.2.2.2.2, u_1.2.1, xto, xwa, xmn) hx hb hr hlk hS rfl rfl (by simp only [f_MD_write, ← hu_1, ← hu_45, ← hu_82, eq_false c_2, eq_true c_46, eq_true c_74, eq_false c_81, eq_false c_83, ↓reduceIte]) hP d_MD_write_96
          · refine lv_iconst (v := 1) hx hb d_MD_write_74 (by decide) ?_
            refine lv_goto (tgt := 79) hx hb d_MD_write_75 (by decide) ?_
            refine lv_iload hx hb d_MD_write_79 (lv_at hl 0 rfl) ?_
            refine lv_if_ne (tgt := 88) hx hb d_MD_write_81 (by decide) (fun c_86 => ?_) (fun c_86 => absurd c_86 (by decide))
            refine lv_iconst (v := 0) hx hb d_MD_write_88 (by decide) ?_
            refine sf_callVw (S := Unit) (rest := []) ⟨hx, hb, hml, hown, hts⟩ (c_MD_throwing_1 l D cI cZ cJ q xth xB xsh xcu xtp (nI td) u_1.2.2.1 u_1.2.2.2.1 u_1.2.2.2.2.1 u_1.2.2.2.2.2.1 u_1.2.2.2.2.2.2 u_1.2.1 xto xwa xmn 0 1 0) (sf_cwV lk_MD_117 hts (fun _ h => h) (by rw [hR]; exact ⟨Nat.le_of_ble_eq_true rfl, Nat.le_of_ble_eq_true rfl⟩)) hK hP hD hS hA (fun _ => by simp only [md_w_fst]) (ci := 3) (q0 := 0) rfl rfl rfl rfl rfl hl.1 (Nat.le_of_ble_eq_true rfl) d_MD_write_89 ⟨Nat.zero_le _, Nat.zero_le _⟩ (fun u H locs hu hP hD hS => ?_)
            have hP : va_P D classes (md_w q cI cZ 1 xB xsh xcu xtp (nI td) u_1.2.2.1 u_1.2.2.2.1 u_1.2.2.2.2.1 u_1.2.2.2.2.2.1 u_1.2.2.2.2.2.2 u_1.2.1 xto xwa xmn) H := hP
            have hD : va_D A (md_w q cI cZ 1 xB xsh xcu xtp (nI td) u_1.2.2.1 u_1.2.2.2.1 u_1.2.2.2.2.1 u_1.2.2.2.2.2.1 u_1.2.2.2.2.2.2 u_1.2.1 xto xwa xmn) := hD
            refine lv_if_eq (tgt := 97) hx hb d_MD_write_92 (by decide) (fun c_87 => absurd c_87 (by decide)) (fun c_87 => ?_)
            refine lv_iconst (v := 0) hx hb d_MD_write_95 (by decide) ?_
            rw [hQ]
            exact sf_iret (0, 1, xB, xsh, xcu, (nI td), u_1.2.2.1, u_1.2.2.2.1, u_1.2.2.2.2.1, u_1.2.2.2.2.2.1, u_1.2.2.2.2.2.2, u_1.2.1, xto, xwa, xmn) hx hb hr hlk hS rfl rfl (by simp only [f_MD_write, ← hu_1, ← hu_45, ← hu_82, eq_false c_2, eq_true c_46, eq_true c_74, eq_false c_81, eq_true c_83, ↓reduceIte]) hP d_MD_write_96
        · refine lv_iconst (v := 1) hx hb d_MD_write_59 (by decide) ?_
          refine lv_goto (tgt := 64) hx hb d_MD_write_60 (by decide) ?_
          refine lv_iload_n hx hb d_MD_write_64 rfl (lv_at hl 4 rfl) ?_
          refine lv_iconst (v := 0) hx hb d_MD_write_65 (by decide) ?_
          refine lv_bipush (v := 11) hx hb d_MD_write_66 (by decide) ?_
          refine sf_callSr (S := Int32) (rest := [.int 1, .int 1, .ref (q 0)]) ⟨hx, hb, hml, hown, hts⟩ (c_MD_in l D cI cZ cJ mo 0 11) (sf_cwS lk_MD_44 hts (fun _ h => h) (by rw [hR]; exact ⟨Nat.le_of_ble_eq_true rfl, Nat.le_of_ble_eq_true rfl⟩)) hK hP hD hS hA [] rfl rfl (fun _ => rfl) rfl rfl hl.1 (Nat.le_of_ble_eq_true rfl) d_MD_write_68 ⟨Nat.zero_le _, Nat.zero_le _⟩ (fun u_88 H locs hu_88 hP hS => ?_)
          refine lv_if_ne (tgt := 78) hx hb d_MD_write_71 (by decide) (fun c_89 => ?_) (fun c_89 => ?_)
          · refine lv_iconst (v := 0) hx hb d_MD_write_78 (by decide) ?_
            refine lv_iload hx hb d_MD_write_79 (lv_at hl 0 rfl) ?_
            refine lv_if_ne (tgt := 88) hx hb d_MD_write_81 (by decide) (fun c_90 => ?_) (fun c_90 => absurd c_90 (by decide))
            refine lv_iconst (v := 0) hx hb d_MD_write_88 (by decide) ?_
            refine sf_callVw (S := Unit) (rest := []) ⟨hx, hb, hml, hown, hts⟩ (c_MD_throwing_1 l D cI cZ cJ q xth xB xsh xcu xtp (nI td) u_1.2.2.1 u_1.2.2.2.1 u_1.2.2.2.2.1 u_1.2.2.2.2.2.1 u_1.2.2.2.2.2.2 u_1.2.1 xto xwa xmn 1 0 0) (sf_cwV lk_MD_117 hts (fun _ h => h) (by rw [hR]; exact ⟨Nat.le_of_ble_eq_true rfl, Nat.le_of_ble_eq_true rfl⟩)) hK hP hD hS hA (fun _ => by simp only [md_w_fst]) (ci := 3) (q0 := 0) rfl rfl rfl rfl rfl hl.1 (Nat.le_of_ble_eq_true rfl) d_MD_write_89 ⟨Nat.zero_le _, Nat.zero_le _⟩ (fun u H locs hu hP hD hS => ?_)
            have hP : va_P D classes (md_w q cI cZ 1 xB xsh xcu xtp (nI td) u_1.2.2.1 u_1.2.2.2.1 u_1.2.2.2.2.1 u_1.2.2.2.2.2.1 u_1.2.2.2.2.2.2 u_1.2.1 xto xwa xmn) H := hP
            have hD : va_D A (md_w q cI cZ 1 xB xsh xcu xtp (nI td) u_1.2.2.1 u_1.2.2.2.1 u_1.2.2.2.2.1 u_1.2.2.2.2.2.1 u_1.2.2.2.2.2.2 u_1.2.1 xto xwa xmn) := hD
            refine lv_if_eq (tgt := 97) hx hb d_MD_write_92 (by decide) (fun c_91 => absurd c_91 (by decide)) (fun c_91 => ?_)
            refine lv_iconst (v := 0) hx hb d_MD_write_95 (by decide) ?_
            rw [hQ]
            exact sf_iret (0, 1, xB, xsh, xcu, (nI td), u_1.2.2.1, u_1.2.2.2.1, u_1.2.2.2.2.1, u_1.2.2.2.2.2.1, u_1.2.2.2.2.2.2, u_1.2.1, xto, xwa, xmn) hx hb hr hlk hS rfl rfl (by simp only [f_MD_write, ← hu_1, ← hu_45, ← hu_88, eq_false c_2, eq_true c_46, eq_true c_74, eq_true c_81, eq_false c_89, ↓reduceIte]) hP d_MD_write_96
          · refine lv_iconst (v := 1) hx hb d_MD_write_74 (by decide) ?_
            refine lv_goto (tgt := 79) hx hb d_MD_write_75 (by decide) ?_
            refine lv_iload hx hb d_MD_write_79 (lv_at hl 0 rfl) ?_
            refine lv_if_ne (tgt := 88) hx hb d_MD_write_81 (by decide) (fun c_92 => ?_) (fun c_92 => absurd c_92 (by decide))
            refine lv_iconst (v := 0) hx hb d_MD_write_88 (by decide) ?_
            refine sf_callVw (S := Unit) (rest := []) ⟨hx, hb, hml, hown, hts⟩ (c_MD_throwing_1 l D cI cZ cJ q xth xB xsh xcu xtp (nI td) u_1.2.2.1 u_1.2.2.2.1 u_1.2.2.2.2.1 u_1.2.2.2.2.2.1 u_1.2.2.2.2.2.2 u_1.2.1 xto xwa xmn 1 1 0) (sf_cwV lk_MD_117 hts (fun _ h => h) (by rw [hR]; exact ⟨Nat.le_of_ble_eq_true rfl, Nat.le_of_ble_eq_true rfl⟩)) hK hP hD hS hA (fun _ => by simp only [md_w_fst]) (ci := 3) (q0 := 0) rfl rfl rfl rfl rfl hl.1 (Nat.le_of_ble_eq_true rfl) d_MD_write_89 ⟨Nat.zero_le _, Nat.zero_le _⟩ (fun u H locs hu hP hD hS => ?_)
            have hP : va_P D classes (md_w q cI cZ 1 xB xsh xcu xtp (nI td) u_1.2.2.1 u_1.2.2.2.1 u_1.2.2.2.2.1 u_1.2.2.2.2.2.1 u_1.2.2.2.2.2.2 u_1.2.1 xto xwa xmn) H := hP
            have hD : va_D A (md_w q cI cZ 1 xB xsh xcu xtp (nI td) u_1.2.2.1 u_1.2.2.2.1 u_1.2.2.2.2.1 u_1.2.2.2.2.2.1 u_1.2.2.2.2.2.2 u_1.2.1 xto xwa xmn) := hD
            refine lv_if_eq (tgt := 97) hx hb d_MD_write_92 (by decide) (fun c_93 => absurd c_93 (by decide)) (fun c_93 => ?_)
            refine lv_iconst (v := 0) hx hb d_MD_write_95 (by decide) ?_
            rw [hQ]
            exact sf_iret (0, 1, xB, xsh, xcu, (nI td), u_1.2.2.1, u_1.2.2.2.1, u_1.2.2.2.2.1, u_1.2.2.2.2.2.1, u_1.2.2.2.2.2.2, u_1.2.1, xto, xwa, xmn) hx hb hr hlk hS rfl rfl (by simp only [f_MD_write, ← hu_1, ← hu_45, ← hu_88, eq_false c_2, eq_true c_46, eq_true c_74, eq_true c_81, eq_true c_89, ↓reduceIte]) hP d_MD_write_96
def f_MD_move_l34 (mo : Int32) : Nat → Nat → Int32 → Int32 → (Nat → Int32) → Int32 → Int32 → (Nat → Int32) → Int32 → Int32 → (Nat → Int32) → Int32 → (Nat → Int32) → (Nat → Int32) → (Nat → Int32) → Int32 → (Int32 × Int32 × (Nat → Int32) × Int32 × Int32 × (Nat → Int32) × Int32 × Int32 × (Nat → Int32) × Int32 × (Nat → Int32) × (Nat → Int32) × (Nat → Int32) × Int32)
  | 0, _, _, _, _, _, _, _, _, _, _, _, _, _, _, _ => (0, 0, (fun _ => 0), 0, 0, (fun _ => 0), 0, 0, (fun _ => 0), 0, (fun _ => 0), (fun _ => 0), (fun _ => 0), 0)
  | fu + 1, k, vn, vxth, vxB, vxsh, vxcu, vxpa, vxsp, vxwh, vxhe, vxho, vxtk, vxto, vxwa, vxmn =>
    if 12 ≤ (nI k) then
      (vn, vxth, vxB, vxsh, vxcu, vxpa, vxsp, vxwh, vxhe, vxho, vxtk, vxto, vxwa, vxmn)
    else
      if (f_MD_isThere vxB k) = 0 then
        f_MD_move_l34 mo fu (k + 1) vn vxth vxB vxsh vxcu vxpa vxsp vxwh vxhe vxho vxtk vxto vxwa vxmn
      else
        if (f_MD_isSlow vxB k) = 0 then
          if (f_MD_monthOf vxB vxpa vxhe k).1 = mo then
            if (nI (((((f_MD_go vxB (f_MD_findTaken_1 vxB (f_MD_monthOf vxB vxpa vxhe k).2.1 (f_MD_monthOf vxB vxpa vxhe k).2.2.1 (f_MD_monthOf vxB vxpa vxhe k).2.2.2.1 (f_MD_monthOf vxB vxpa vxhe k).2.2.2.2.1 (f_MD_monthOf vxB vxpa vxhe k).2.2.2.2.2 vxtk).2.2.1 (f_MD_findTaken_1 vxB (f_MD_monthOf vxB vxpa vxhe k).2.1 (f_MD_monthOf vxB vxpa vxhe k).2.2.1 (f_MD_monthOf vxB vxpa vxhe k).2.2.2.1 (f_MD_monthOf vxB vxpa vxhe k).2.2.2.2.1 (f_MD_monthOf vxB vxpa vxhe k).2.2.2.2.2 vxtk).2.2.2.2.2.1 k).2.2.2.2.toNatClampNeg) + 25) - 1) / 25)) ≤ (f_MD_findTaken_1 vxB (f_MD_monthOf vxB vxpa vxhe k).2.1 (f_MD_monthOf vxB vxpa vxhe k).2.2.1 (f_MD_monthOf vxB vxpa vxhe k).2.2.2.1 (f_MD_monthOf vxB vxpa vxhe k).2.2.2.2.1 (f_MD_monthOf vxB vxpa vxhe k).2.2.2.2.2 vxtk).1 then
              if (f_MD_comes vxB vxsh vxcu (f_MD_putTable vxB (f_MD_putChain_1 (f_MD_go vxB (f_MD_findTaken_1 vxB (f_MD_monthOf vxB vxpa vxhe k).2.1 (f_MD_monthOf vxB vxpa vxhe k).2.2.1 (f_MD_monthOf vxB vxpa vxhe k).2.2.2.1 (f_MD_monthOf vxB vxpa vxhe k).2.2.2.2.1 (f_MD_monthOf vxB vxpa vxhe k).2.2.2.2.2 vxtk).2.2.1 (f_MD_findTaken_1 vxB (f_MD_monthOf vxB vxpa vxhe k).2.1 (f_MD_monthOf vxB vxpa vxhe k).2.2.1 (f_MD_monthOf vxB vxpa vxhe k).2.2.2.1 (f_MD_monthOf vxB vxpa vxhe k).2.2.2.2.1 (f_MD_monthOf vxB vxpa vxhe k).2.2.2.2.2 vxtk).2.2.2.2.2.1 k).2.2.2.1 (f_MD_findTaken_1 vxB (f_MD_monthOf vxB vxpa vxhe k).2.1 (f_MD_monthOf vxB vxpa vxhe k).2.2.1 (f_MD_monthOf vxB vxpa vxhe k).2.2.2.1 (f_MD_monthOf vxB vxpa vxhe k).2.2.2.2.1 (f_MD_monthOf vxB vxpa vxhe k).2.2.2.2.2 vxtk).2.1 vxto vxwa ((f_MD_go vxB (f_MD_findTaken_1 vxB (f_MD_monthOf vxB vxpa vxhe k).2.1 (f_MD_monthOf vxB vxpa vxhe k).2.2.1 (f_MD_monthOf vxB vxpa vxhe k).2.2.2.1 (f_MD_monthOf vxB vxpa vxhe k).2.2.2.2.1 (f_MD_monthOf vxB vxpa vxhe k).2.2.2.2.2 vxtk).2.2.1 (f_MD_findTaken_1 vxB (f_MD_monthOf vxB vxpa vxhe k).2.1 (f_MD_monthOf vxB vxpa vxhe k).2.2.1 (f_MD_monthOf vxB vxpa vxhe k).2.2.2.1 (f_MD_monthOf vxB vxpa vxhe k).2.2.2.2.1 (f_MD_monthOf vxB vxpa vxhe k).2.2.2.2.2 vxtk).2.2.2.2.2.1 k).2.2.2.2.toNatClampNeg) 0 mo).2.1 (f_MD_putChain_1 (f_MD_go vxB (f_MD_findTaken_1 vxB (f_MD_monthOf vxB vxpa vxhe k).2.1 (f_MD_monthOf vxB vxpa vxhe k).2.2.1 (f_MD_monthOf vxB vxpa vxhe k).2.2.2.1 (f_MD_monthOf vxB vxpa vxhe k).2.2.2.2.1 (f_MD_monthOf vxB vxpa vxhe k).2.2.2.2.2 vxtk).2.2.1 (f_MD_findTaken_1 vxB (f_MD_monthOf vxB vxpa vxhe k).2.1 (f_MD_monthOf vxB vxpa vxhe k).2.2.1 (f_MD_monthOf vxB vxpa vxhe k).2.2.2.1 (f_MD_monthOf vxB vxpa vxhe k).2.2.2.2.1 (f_MD_monthOf vxB vxpa vxhe k).2.2.2.2.2 vxtk).2.2.2.2.2.1 k).2.2.2.1 (f_MD_findTaken_1 vxB (f_MD_monthOf vxB vxpa vxhe k).2.1 (f_MD_monthOf vxB vxpa vxhe k).2.2.1 (f_MD_monthOf vxB vxpa vxhe k).2.2.2.1 (f_MD_monthOf vxB vxpa vxhe k).2.2.2.2.1 (f_MD_monthOf vxB vxpa vxhe k).2.2.2.2.2 vxtk).2.1 vxto vxwa ((f_MD_go vxB (f_MD_findTaken_1 vxB (f_MD_monthOf vxB vxpa vxhe k).2.1 (f_MD_monthOf vxB vxpa vxhe k).2.2.1 (f_MD_monthOf vxB vxpa vxhe k).2.2.2.1 (f_MD_monthOf vxB vxpa vxhe k).2.2.2.2.1 (f_MD_monthOf vxB vxpa vxhe k).2.2.2.2.2 vxtk).2.2.1 (f_MD_findTaken_1 vxB (f_MD_monthOf vxB vxpa vxhe k).2.1 (f_MD_monthOf vxB vxpa vxhe k).2.2.1 (f_MD_monthOf vxB vxpa vxhe k).2.2.2.1 (f_MD_monthOf vxB vxpa vxhe k).2.2.2.2.1 (f_MD_monthOf vxB vxpa vxhe k).2.2.2.2.2 vxtk).2.2.2.2.2.1 k).2.2.2.2.toNatClampNeg) 0 mo).2.2 (0 + 32 * ((((f_MD_go vxB (f_MD_findTaken_1 vxB (f_MD_monthOf vxB vxpa vxhe k).2.1 (f_MD_monthOf vxB vxpa vxhe k).2.2.1 (f_MD_monthOf vxB vxpa vxhe k).2.2.2.1 (f_MD_monthOf vxB vxpa vxhe k).2.2.2.2.1 (f_MD_monthOf vxB vxpa vxhe k).2.2.2.2.2 vxtk).2.2.1 (f_MD_findTaken_1 vxB (f_MD_monthOf vxB vxpa vxhe k).2.1 (f_MD_monthOf vxB vxpa vxhe k).2.2.1 (f_MD_monthOf vxB vxpa vxhe k).2.2.2.1 (f_MD_monthOf vxB vxpa vxhe k).2.2.2.2.1 (f_MD_monthOf vxB vxpa vxhe k).2.2.2.2.2 vxtk).2.2.2.2.2.1 k).2.2.2.2.toNatClampNeg) + 24) / 25)) k 0 ((f_MD_putChain_1 (f_MD_go vxB (f_MD_findTaken_1 vxB (f_MD_monthOf vxB vxpa vxhe k).2.1 (f_MD_monthOf vxB vxpa vxhe k).2.2.1 (f_MD_monthOf vxB vxpa vxhe k).2.2.2.1 (f_MD_monthOf vxB vxpa vxhe k).2.2.2.2.1 (f_MD_monthOf vxB vxpa vxhe k).2.2.2.2.2 vxtk).2.2.1 (f_MD_findTaken_1 vxB (f_MD_monthOf vxB vxpa vxhe k).2.1 (f_MD_monthOf vxB vxpa vxhe k).2.2.1 (f_MD_monthOf vxB vxpa vxhe k).2.2.2.1 (f_MD_monthOf vxB vxpa vxhe k).2.2.2.2.1 (f_MD_monthOf vxB vxpa vxhe k).2.2.2.2.2 vxtk).2.2.2.2.2.1 k).2.2.2.1 (f_MD_findTaken_1 vxB (f_MD_monthOf vxB vxpa vxhe k).2.1 (f_MD_monthOf vxB vxpa vxhe k).2.2.1 (f_MD_monthOf vxB vxpa vxhe k).2.2.2.1 (f_MD_monthOf vxB vxpa vxhe k).2.2.2.2.1 (f_MD_monthOf vxB vxpa vxhe k).2.2.2.2.2 vxtk).2.1 vxto vxwa ((f_MD_go vxB (f_MD_findTaken_1 vxB (f_MD_monthOf vxB vxpa vxhe k).2.1 (f_MD_monthOf vxB vxpa vxhe k).2.2.1 (f_MD_monthOf vxB vxpa vxhe k).2.2.2.1 (f_MD_monthOf vxB vxpa vxhe k).2.2.2.2.1 (f_MD_monthOf vxB vxpa vxhe k).2.2.2.2.2 vxtk).2.2.1 (f_MD_findTaken_1 vxB (f_MD_monthOf vxB vxpa vxhe k).2.1 (f_MD_monthOf vxB vxpa vxhe k).2.2.1 (f_MD_monthOf vxB vxpa vxhe k).2.2.2.1 (f_MD_monthOf vxB vxpa vxhe k).2.2.2.2.1 (f_MD_monthOf vxB vxpa vxhe k).2.2.2.2.2 vxtk).2.2.2.2.2.1 k).2.2.2.2.toNatClampNeg) 0 mo).1 + 1)).1 (f_MD_putTable vxB (f_MD_putChain_1 (f_MD_go vxB (f_MD_findTaken_1 vxB (f_MD_monthOf vxB vxpa vxhe k).2.1 (f_MD_monthOf vxB vxpa vxhe k).2.2.1 (f_MD_monthOf vxB vxpa vxhe k).2.2.2.1 (f_MD_monthOf vxB vxpa vxhe k).2.2.2.2.1 (f_MD_monthOf vxB vxpa vxhe k).2.2.2.2.2 vxtk).2.2.1 (f_MD_findTaken_1 vxB (f_MD_monthOf vxB vxpa vxhe k).2.1 (f_MD_monthOf vxB vxpa vxhe k).2.2.1 (f_MD_monthOf vxB vxpa vxhe k).2.2.2.1 (f_MD_monthOf vxB vxpa vxhe k).2.2.2.2.1 (f_MD_monthOf vxB vxpa vxhe k).2.2.2.2.2 vxtk).2.2.2.2.2.1 k).2.2.2.1 (f_MD_findTaken_1 vxB (f_MD_monthOf vxB vxpa vxhe k).2.1 (f_MD_monthOf vxB vxpa vxhe k).2.2.1 (f_MD_monthOf vxB vxpa vxhe k).2.2.2.1 (f_MD_monthOf vxB vxpa vxhe k).2.2.2.2.1 (f_MD_monthOf vxB vxpa vxhe k).2.2.2.2.2 vxtk).2.1 vxto vxwa ((f_MD_go vxB (f_MD_findTaken_1 vxB (f_MD_monthOf vxB vxpa vxhe k).2.1 (f_MD_monthOf vxB vxpa vxhe k).2.2.1 (f_MD_monthOf vxB vxpa vxhe k).2.2.2.1 (f_MD_monthOf vxB vxpa vxhe k).2.2.2.2.1 (f_MD_monthOf vxB vxpa vxhe k).2.2.2.2.2 vxtk).2.2.1 (f_MD_findTaken_1 vxB (f_MD_monthOf vxB vxpa vxhe k).2.1 (f_MD_monthOf vxB vxpa vxhe k).2.2.1 (f_MD_monthOf vxB vxpa vxhe k).2.2.2.1 (f_MD_monthOf vxB vxpa vxhe k).2.2.2.2.1 (f_MD_monthOf vxB vxpa vxhe k).2.2.2.2.2 vxtk).2.2.2.2.2.1 k).2.2.2.2.toNatClampNeg) 0 mo).2.1 (f_MD_putChain_1 (f_MD_go vxB (f_MD_findTaken_1 vxB (f_MD_monthOf vxB vxpa vxhe k).2.1 (f_MD_monthOf vxB vxpa vxhe k).2.2.1 (f_MD_monthOf vxB vxpa vxhe k).2.2.2.1 (f_MD_monthOf vxB vxpa vxhe k).2.2.2.2.1 (f_MD_monthOf vxB vxpa vxhe k).2.2.2.2.2 vxtk).2.2.1 (f_MD_findTaken_1 vxB (f_MD_monthOf vxB vxpa vxhe k).2.1 (f_MD_monthOf vxB vxpa vxhe k).2.2.1 (f_MD_monthOf vxB vxpa vxhe k).2.2.2.1 (f_MD_monthOf vxB vxpa vxhe k).2.2.2.2.1 (f_MD_monthOf vxB vxpa vxhe k).2.2.2.2.2 vxtk).2.2.2.2.2.1 k).2.2.2.1 (f_MD_findTaken_1 vxB (f_MD_monthOf vxB vxpa vxhe k).2.1 (f_MD_monthOf vxB vxpa vxhe k).2.2.1 (f_MD_monthOf vxB vxpa vxhe k).2.2.2.1 (f_MD_monthOf vxB vxpa vxhe k).2.2.2.2.1 (f_MD_monthOf vxB vxpa vxhe k).2.2.2.2.2 vxtk).2.1 vxto vxwa ((f_MD_go vxB (f_MD_findTaken_1 vxB (f_MD_monthOf vxB vxpa vxhe k).2.1 (f_MD_monthOf vxB vxpa vxhe k).2.2.1 (f_MD_monthOf vxB vxpa vxhe k).2.2.2.1 (f_MD_monthOf vxB vxpa vxhe k).2.2.2.2.1 (f_MD_monthOf vxB vxpa vxhe k).2.2.2.2.2 vxtk).2.2.1 (f_MD_findTaken_1 vxB (f_MD_monthOf vxB vxpa vxhe k).2.1 (f_MD_monthOf vxB vxpa vxhe k).2.2.1 (f_MD_monthOf vxB vxpa vxhe k).2.2.2.1 (f_MD_monthOf vxB vxpa vxhe k).2.2.2.2.1 (f_MD_monthOf vxB vxpa vxhe k).2.2.2.2.2 vxtk).2.2.2.2.2.1 k).2.2.2.2.toNatClampNeg) 0 mo).2.2 (0 + 32 * ((((f_MD_go vxB (f_MD_findTaken_1 vxB (f_MD_monthOf vxB vxpa vxhe k).2.1 (f_MD_monthOf vxB vxpa vxhe k).2.2.1 (f_MD_monthOf vxB vxpa vxhe k).2.2.2.1 (f_MD_monthOf vxB vxpa vxhe k).2.2.2.2.1 (f_MD_monthOf vxB vxpa vxhe k).2.2.2.2.2 vxtk).2.2.1 (f_MD_findTaken_1 vxB (f_MD_monthOf vxB vxpa vxhe k).2.1 (f_MD_monthOf vxB vxpa vxhe k).2.2.1 (f_MD_monthOf vxB vxpa vxhe k).2.2.2.1 (f_MD_monthOf vxB vxpa vxhe k).2.2.2.2.1 (f_MD_monthOf vxB vxpa vxhe k).2.2.2.2.2 vxtk).2.2.2.2.2.1 k).2.2.2.2.toNatClampNeg) + 24) / 25)) k 0 ((f_MD_putChain_1 (f_MD_go vxB (f_MD_findTaken_1 vxB (f_MD_monthOf vxB vxpa vxhe k).2.1 (f_MD_monthOf vxB vxpa vxhe k).2.2.1 (f_MD_monthOf vxB vxpa vxhe k).2.2.2.1 (f_MD_monthOf vxB vxpa vxhe k).2.2.2.2.1 (f_MD_monthOf vxB vxpa vxhe k).2.2.2.2.2 vxtk).2.2.1 (f_MD_findTaken_1 vxB (f_MD_monthOf vxB vxpa vxhe k).2.1 (f_MD_monthOf vxB vxpa vxhe k).2.2.1 (f_MD_monthOf vxB vxpa vxhe k).2.2.2.1 (f_MD_monthOf vxB vxpa vxhe k).2.2.2.2.1 (f_MD_monthOf vxB vxpa vxhe k).2.2.2.2.2 vxtk).2.2.2.2.2.1 k).2.2.2.1 (f_MD_findTaken_1 vxB (f_MD_monthOf vxB vxpa vxhe k).2.1 (f_MD_monthOf vxB vxpa vxhe k).2.2.1 (f_MD_monthOf vxB vxpa vxhe k).2.2.2.1 (f_MD_monthOf vxB vxpa vxhe k).2.2.2.2.1 (f_MD_monthOf vxB vxpa vxhe k).2.2.2.2.2 vxtk).2.1 vxto vxwa ((f_MD_go vxB (f_MD_findTaken_1 vxB (f_MD_monthOf vxB vxpa vxhe k).2.1 (f_MD_monthOf vxB vxpa vxhe k).2.2.1 (f_MD_monthOf vxB vxpa vxhe k).2.2.2.1 (f_MD_monthOf vxB vxpa vxhe k).2.2.2.2.1 (f_MD_monthOf vxB vxpa vxhe k).2.2.2.2.2 vxtk).2.2.1 (f_MD_findTaken_1 vxB (f_MD_monthOf vxB vxpa vxhe k).2.1 (f_MD_monthOf vxB vxpa vxhe k).2.2.1 (f_MD_monthOf vxB vxpa vxhe k).2.2.2.1 (f_MD_monthOf vxB vxpa vxhe k).2.2.2.2.1 (f_MD_monthOf vxB vxpa vxhe k).2.2.2.2.2 vxtk).2.2.2.2.2.1 k).2.2.2.2.toNatClampNeg) 0 mo).1 + 1)).2 ((0 + 32 * ((((f_MD_go vxB (f_MD_findTaken_1 vxB (f_MD_monthOf vxB vxpa vxhe k).2.1 (f_MD_monthOf vxB vxpa vxhe k).2.2.1 (f_MD_monthOf vxB vxpa vxhe k).2.2.2.1 (f_MD_monthOf vxB vxpa vxhe k).2.2.2.2.1 (f_MD_monthOf vxB vxpa vxhe k).2.2.2.2.2 vxtk).2.2.1 (f_MD_findTaken_1 vxB (f_MD_monthOf vxB vxpa vxhe k).2.1 (f_MD_monthOf vxB vxpa vxhe k).2.2.1 (f_MD_monthOf vxB vxpa vxhe k).2.2.2.1 (f_MD_monthOf vxB vxpa vxhe k).2.2.2.2.1 (f_MD_monthOf vxB vxpa vxhe k).2.2.2.2.2 vxtk).2.2.2.2.2.1 k).2.2.2.2.toNatClampNeg) + 24) / 25)) + 40)).1 = 0 then
                ((-1), 0, (f_MD_comes vxB vxsh vxcu (f_MD_putTable vxB (f_MD_putChain_1 (f_MD_go vxB (f_MD_findTaken_1 vxB (f_MD_monthOf vxB vxpa vxhe k).2.1 (f_MD_monthOf vxB vxpa vxhe k).2.2.1 (f_MD_monthOf vxB vxpa vxhe k).2.2.2.1 (f_MD_monthOf vxB vxpa vxhe k).2.2.2.2.1 (f_MD_monthOf vxB vxpa vxhe k).2.2.2.2.2 vxtk).2.2.1 (f_MD_findTaken_1 vxB (f_MD_monthOf vxB vxpa vxhe k).2.1 (f_MD_monthOf vxB vxpa vxhe k).2.2.1 (f_MD_monthOf vxB vxpa vxhe k).2.2.2.1 (f_MD_monthOf vxB vxpa vxhe k).2.2.2.2.1 (f_MD_monthOf vxB vxpa vxhe k).2.2.2.2.2 vxtk).2.2.2.2.2.1 k).2.2.2.1 (f_MD_findTaken_1 vxB (f_MD_monthOf vxB vxpa vxhe k).2.1 (f_MD_monthOf vxB vxpa vxhe k).2.2.1 (f_MD_monthOf vxB vxpa vxhe k).2.2.2.1 (f_MD_monthOf vxB vxpa vxhe k).2.2.2.2.1 (f_MD_monthOf vxB vxpa vxhe k).2.2.2.2.2 vxtk).2.1 vxto vxwa ((f_MD_go vxB (f_MD_findTaken_1 vxB (f_MD_monthOf vxB vxpa vxhe k).2.1 (f_MD_monthOf vxB vxpa vxhe k).2.2.1 (f_MD_monthOf vxB vxpa vxhe k).2.2.2.1 (f_MD_monthOf vxB vxpa vxhe k).2.2.2.2.1 (f_MD_monthOf vxB vxpa vxhe k).2.2.2.2.2 vxtk).2.2.1 (f_MD_findTaken_1 vxB (f_MD_monthOf vxB vxpa vxhe k).2.1 (f_MD_monthOf vxB vxpa vxhe k).2.2.1 (f_MD_monthOf vxB vxpa vxhe k).2.2.2.1 (f_MD_monthOf vxB vxpa vxhe k).2.2.2.2.1 (f_MD_monthOf vxB vxpa vxhe k).2.2.2.2.2 vxtk).2.2.2.2.2.1 k).2.2.2.2.toNatClampNeg) 0 mo).2.1 (f_MD_putChain_1 (f_MD_go vxB (f_MD_findTaken_1 vxB (f_MD_monthOf vxB vxpa vxhe k).2.1 (f_MD_monthOf vxB vxpa vxhe k).2.2.1 (f_MD_monthOf vxB vxpa vxhe k).2.2.2.1 (f_MD_monthOf vxB vxpa vxhe k).2.2.2.2.1 (f_MD_monthOf vxB vxpa vxhe k).2.2.2.2.2 vxtk).2.2.1 (f_MD_findTaken_1 vxB (f_MD_monthOf vxB vxpa vxhe k).2.1 (f_MD_monthOf vxB vxpa vxhe k).2.2.1 (f_MD_monthOf vxB vxpa vxhe k).2.2.2.1 (f_MD_monthOf vxB vxpa vxhe k).2.2.2.2.1 (f_MD_monthOf vxB vxpa vxhe k).2.2.2.2.2 vxtk).2.2.2.2.2.1 k).2.2.2.1 (f_MD_findTaken_1 vxB (f_MD_monthOf vxB vxpa vxhe k).2.1 (f_MD_monthOf vxB vxpa vxhe k).2.2.1 (f_MD_monthOf vxB vxpa vxhe k).2.2.2.1 (f_MD_monthOf vxB vxpa vxhe k).2.2.2.2.1 (f_MD_monthOf vxB vxpa vxhe k).2.2.2.2.2 vxtk).2.1 vxto vxwa ((f_MD_go vxB (f_MD_findTaken_1 vxB (f_MD_monthOf vxB vxpa vxhe k).2.1 (f_MD_monthOf vxB vxpa vxhe k).2.2.1 (f_MD_monthOf vxB vxpa vxhe k).2.2.2.1 (f_MD_monthOf vxB vxpa vxhe k).2.2.2.2.1 (f_MD_monthOf vxB vxpa vxhe k).2.2.2.2.2 vxtk).2.2.1 (f_MD_findTaken_1 vxB (f_MD_monthOf vxB vxpa vxhe k).2.1 (f_MD_monthOf vxB vxpa vxhe k).2.2.1 (f_MD_monthOf vxB vxpa vxhe k).2.2.2.1 (f_MD_monthOf vxB vxpa vxhe k).2.2.2.2.1 (f_MD_monthOf vxB vxpa vxhe k).2.2.2.2.2 vxtk).2.2.2.2.2.1 k).2.2.2.2.toNatClampNeg) 0 mo).2.2 (0 + 32 * ((((f_MD_go vxB (f_MD_findTaken_1 vxB (f_MD_monthOf vxB vxpa vxhe k).2.1 (f_MD_monthOf vxB vxpa vxhe k).2.2.1 (f_MD_monthOf vxB vxpa vxhe k).2.2.2.1 (f_MD_monthOf vxB vxpa vxhe k).2.2.2.2.1 (f_MD_monthOf vxB vxpa vxhe k).2.2.2.2.2 vxtk).2.2.1 (f_MD_findTaken_1 vxB (f_MD_monthOf vxB vxpa vxhe k).2.1 (f_MD_monthOf vxB vxpa vxhe k).2.2.1 (f_MD_monthOf vxB vxpa vxhe k).2.2.2.1 (f_MD_monthOf vxB vxpa vxhe k).2.2.2.2.1 (f_MD_monthOf vxB vxpa vxhe k).2.2.2.2.2 vxtk).2.2.2.2.2.1 k).2.2.2.2.toNatClampNeg) + 24) / 25)) k 0 ((f_MD_putChain_1 (f_MD_go vxB (f_MD_findTaken_1 vxB (f_MD_monthOf vxB vxpa vxhe k).2.1 (f_MD_monthOf vxB vxpa vxhe k).2.2.1 (f_MD_monthOf vxB vxpa vxhe k).2.2.2.1 (f_MD_monthOf vxB vxpa vxhe k).2.2.2.2.1 (f_MD_monthOf vxB vxpa vxhe k).2.2.2.2.2 vxtk).2.2.1 (f_MD_findTaken_1 vxB (f_MD_monthOf vxB vxpa vxhe k).2.1 (f_MD_monthOf vxB vxpa vxhe k).2.2.1 (f_MD_monthOf vxB vxpa vxhe k).2.2.2.1 (f_MD_monthOf vxB vxpa vxhe k).2.2.2.2.1 (f_MD_monthOf vxB vxpa vxhe k).2.2.2.2.2 vxtk).2.2.2.2.2.1 k).2.2.2.1 (f_MD_findTaken_1 vxB (f_MD_monthOf vxB vxpa vxhe k).2.1 (f_MD_monthOf vxB vxpa vxhe k).2.2.1 (f_MD_monthOf vxB vxpa vxhe k).2.2.2.1 (f_MD_monthOf vxB vxpa vxhe k).2.2.2.2.1 (f_MD_monthOf vxB vxpa vxhe k).2.2.2.2.2 vxtk).2.1 vxto vxwa ((f_MD_go vxB (f_MD_findTaken_1 vxB (f_MD_monthOf vxB vxpa vxhe k).2.1 (f_MD_monthOf vxB vxpa vxhe k).2.2.1 (f_MD_monthOf vxB vxpa vxhe k).2.2.2.1 (f_MD_monthOf vxB vxpa vxhe k).2.2.2.2.1 (f_MD_monthOf vxB vxpa vxhe k).2.2.2.2.2 vxtk).2.2.1 (f_MD_findTaken_1 vxB (f_MD_monthOf vxB vxpa vxhe k).2.1 (f_MD_monthOf vxB vxpa vxhe k).2.2.1 (f_MD_monthOf vxB vxpa vxhe k).2.2.2.1 (f_MD_monthOf vxB vxpa vxhe k).2.2.2.2.1 (f_MD_monthOf vxB vxpa vxhe k).2.2.2.2.2 vxtk).2.2.2.2.2.1 k).2.2.2.2.toNatClampNeg) 0 mo).1 + 1)).1 (f_MD_putTable vxB (f_MD_putChain_1 (f_MD_go vxB (f_MD_findTaken_1 vxB (f_MD_monthOf vxB vxpa vxhe k).2.1 (f_MD_monthOf vxB vxpa vxhe k).2.2.1 (f_MD_monthOf vxB vxpa vxhe k).2.2.2.1 (f_MD_monthOf vxB vxpa vxhe k).2.2.2.2.1 (f_MD_monthOf vxB vxpa vxhe k).2.2.2.2.2 vxtk).2.2.1 (f_MD_findTaken_1 vxB (f_MD_monthOf vxB vxpa vxhe k).2.1 (f_MD_monthOf vxB vxpa vxhe k).2.2.1 (f_MD_monthOf vxB vxpa vxhe k).2.2.2.1 (f_MD_monthOf vxB vxpa vxhe k).2.2.2.2.1 (f_MD_monthOf vxB vxpa vxhe k).2.2.2.2.2 vxtk).2.2.2.2.2.1 k).2.2.2.1 (f_MD_findTaken_1 vxB (f_MD_monthOf vxB vxpa vxhe k).2.1 (f_MD_monthOf vxB vxpa vxhe k).2.2.1 (f_MD_monthOf vxB vxpa vxhe k).2.2.2.1 (f_MD_monthOf vxB vxpa vxhe k).2.2.2.2.1 (f_MD_monthOf vxB vxpa vxhe k).2.2.2.2.2 vxtk).2.1 vxto vxwa ((f_MD_go vxB (f_MD_findTaken_1 vxB (f_MD_monthOf vxB vxpa vxhe k).2.1 (f_MD_monthOf vxB vxpa vxhe k).2.2.1 (f_MD_monthOf vxB vxpa vxhe k).2.2.2.1 (f_MD_monthOf vxB vxpa vxhe k).2.2.2.2.1 (f_MD_monthOf vxB vxpa vxhe k).2.2.2.2.2 vxtk).2.2.1 (f_MD_findTaken_1 vxB (f_MD_monthOf vxB vxpa vxhe k).2.1 (f_MD_monthOf vxB vxpa vxhe k).2.2.1 (f_MD_monthOf vxB vxpa vxhe k).2.2.2.1 (f_MD_monthOf vxB vxpa vxhe k).2.2.2.2.1 (f_MD_monthOf vxB vxpa vxhe k).2.2.2.2.2 vxtk).2.2.2.2.2.1 k).2.2.2.2.toNatClampNeg) 0 mo).2.1 (f_MD_putChain_1 (f_MD_go vxB (f_MD_findTaken_1 vxB (f_MD_monthOf vxB vxpa vxhe k).2.1 (f_MD_monthOf vxB vxpa vxhe k).2.2.1 (f_MD_monthOf vxB vxpa vxhe k).2.2.2.1 (f_MD_monthOf vxB vxpa vxhe k).2.2.2.2.1 (f_MD_monthOf vxB vxpa vxhe k).2.2.2.2.2 vxtk).2.2.1 (f_MD_findTaken_1 vxB (f_MD_monthOf vxB vxpa vxhe k).2.1 (f_MD_monthOf vxB vxpa vxhe k).2.2.1 (f_MD_monthOf vxB vxpa vxhe k).2.2.2.1 (f_MD_monthOf vxB vxpa vxhe k).2.2.2.2.1 (f_MD_monthOf vxB vxpa vxhe k).2.2.2.2.2 vxtk).2.2.2.2.2.1 k).2.2.2.1 (f_MD_findTaken_1 vxB (f_MD_monthOf vxB vxpa vxhe k).2.1 (f_MD_monthOf vxB vxpa vxhe k).2.2.1 (f_MD_monthOf vxB vxpa vxhe k).2.2.2.1 (f_MD_monthOf vxB vxpa vxhe k).2.2.2.2.1 (f_MD_monthOf vxB vxpa vxhe k).2.2.2.2.2 vxtk).2.1 vxto vxwa ((f_MD_go vxB (f_MD_findTaken_1 vxB (f_MD_monthOf vxB vxpa vxhe k).2.1 (f_MD_monthOf vxB vxpa vxhe k).2.2.1 (f_MD_monthOf vxB vxpa vxhe k).2.2.2.1 (f_MD_monthOf vxB vxpa vxhe k).2.2.2.2.1 (f_MD_monthOf vxB vxpa vxhe k).2.2.2.2.2 vxtk).2.2.1 (f_MD_findTaken_1 vxB (f_MD_monthOf vxB vxpa vxhe k).2.1 (f_MD_monthOf vxB vxpa vxhe k).2.2.1 (f_MD_monthOf vxB vxpa vxhe k).2.2.2.1 (f_MD_monthOf vxB vxpa vxhe k).2.2.2.2.1 (f_MD_monthOf vxB vxpa vxhe k).2.2.2.2.2 vxtk).2.2.2.2.2.1 k).2.2.2.2.toNatClampNeg) 0 mo).2.2 (0 + 32 * ((((f_MD_go vxB (f_MD_findTaken_1 vxB (f_MD_monthOf vxB vxpa vxhe k).2.1 (f_MD_monthOf vxB vxpa vxhe k).2.2.1 (f_MD_monthOf vxB vxpa vxhe k).2.2.2.1 (f_MD_monthOf vxB vxpa vxhe k).2.2.2.2.1 (f_MD_monthOf vxB vxpa vxhe k).2.2.2.2.2 vxtk).2.2.1 (f_MD_findTaken_1 vxB (f_MD_monthOf vxB vxpa vxhe k).2.1 (f_MD_monthOf vxB vxpa vxhe k).2.2.1 (f_MD_monthOf vxB vxpa vxhe k).2.2.2.1 (f_MD_monthOf vxB vxpa vxhe k).2.2.2.2.1 (f_MD_monthOf vxB vxpa vxhe k).2.2.2.2.2 vxtk).2.2.2.2.2.1 k).2.2.2.2.toNatClampNeg) + 24) / 25)) k 0 ((f_MD_putChain_1 (f_MD_go vxB (f_MD_findTaken_1 vxB (f_MD_monthOf vxB vxpa vxhe k).2.1 (f_MD_monthOf vxB vxpa vxhe k).2.2.1 (f_MD_monthOf vxB vxpa vxhe k).2.2.2.1 (f_MD_monthOf vxB vxpa vxhe k).2.2.2.2.1 (f_MD_monthOf vxB vxpa vxhe k).2.2.2.2.2 vxtk).2.2.1 (f_MD_findTaken_1 vxB (f_MD_monthOf vxB vxpa vxhe k).2.1 (f_MD_monthOf vxB vxpa vxhe k).2.2.1 (f_MD_monthOf vxB vxpa vxhe k).2.2.2.1 (f_MD_monthOf vxB vxpa vxhe k).2.2.2.2.1 (f_MD_monthOf vxB vxpa vxhe k).2.2.2.2.2 vxtk).2.2.2.2.2.1 k).2.2.2.1 (f_MD_findTaken_1 vxB (f_MD_monthOf vxB vxpa vxhe k).2.1 (f_MD_monthOf vxB vxpa vxhe k).2.2.1 (f_MD_monthOf vxB vxpa vxhe k).2.2.2.1 (f_MD_monthOf vxB vxpa vxhe k).2.2.2.2.1 (f_MD_monthOf vxB vxpa vxhe k).2.2.2.2.2 vxtk).2.1 vxto vxwa ((f_MD_go vxB (f_MD_findTaken_1 vxB (f_MD_monthOf vxB vxpa vxhe k).2.1 (f_MD_monthOf vxB vxpa vxhe k).2.2.1 (f_MD_monthOf vxB vxpa vxhe k).2.2.2.1 (f_MD_monthOf vxB vxpa vxhe k).2.2.2.2.1 (f_MD_monthOf vxB vxpa vxhe k).2.2.2.2.2 vxtk).2.2.1 (f_MD_findTaken_1 vxB (f_MD_monthOf vxB vxpa vxhe k).2.1 (f_MD_monthOf vxB vxpa vxhe k).2.2.1 (f_MD_monthOf vxB vxpa vxhe k).2.2.2.1 (f_MD_monthOf vxB vxpa vxhe k).2.2.2.2.1 (f_MD_monthOf vxB vxpa vxhe k).2.2.2.2.2 vxtk).2.2.2.2.2.1 k).2.2.2.2.toNatClampNeg) 0 mo).1 + 1)).2 ((0 + 32 * ((((f_MD_go vxB (f_MD_findTaken_1 vxB (f_MD_monthOf vxB vxpa vxhe k).2.1 (f_MD_monthOf vxB vxpa vxhe k).2.2.1 (f_MD_monthOf vxB vxpa vxhe k).2.2.2.1 (f_MD_monthOf vxB vxpa vxhe k).2.2.2.2.1 (f_MD_monthOf vxB vxpa vxhe k).2.2.2.2.2 vxtk).2.2.1 (f_MD_findTaken_1 vxB (f_MD_monthOf vxB vxpa vxhe k).2.1 (f_MD_monthOf vxB vxpa vxhe k).2.2.1 (f_MD_monthOf vxB vxpa vxhe k).2.2.2.1 (f_MD_monthOf vxB vxpa vxhe k).2.2.2.2.1 (f_MD_monthOf vxB vxpa vxhe k).2.2.2.2.2 vxtk).2.2.2.2.2.1 k).2.2.2.2.toNatClampNeg) + 24) / 25)) + 40)).2.1, (f_MD_comes vxB vxsh vxcu (f_MD_putTable vxB (f_MD_putChain_1 (f_MD_go vxB (f_MD_findTaken_1 vxB (f_MD_monthOf vxB vxpa vxhe k).2.1 (f_MD_monthOf vxB vxpa vxhe k).2.2.1 (f_MD_monthOf vxB vxpa vxhe k).2.2.2.1 (f_MD_monthOf vxB vxpa vxhe k).2.2.2.2.1 (f_MD_monthOf vxB vxpa vxhe k).2.2.2.2.2 vxtk).2.2.1 (f_MD_findTaken_1 vxB (f_MD_monthOf vxB vxpa vxhe k).2.1 (f_MD_monthOf vxB vxpa vxhe k).2.2.1 (f_MD_monthOf vxB vxpa vxhe k).2.2.2.1 (f_MD_monthOf vxB vxpa vxhe k).2.2.2.2.1 (f_MD_monthOf vxB vxpa vxhe k).2.2.2.2.2 vxtk).2.2.2.2.2.1 k).2.2.2.1 (f_MD_findTaken_1 vxB (f_MD_monthOf vxB vxpa vxhe k).2.1 (f_MD_monthOf vxB vxpa vxhe k).2.2.1 (f_MD_monthOf vxB vxpa vxhe k).2.2.2.1 (f_MD_monthOf vxB vxpa vxhe k).2.2.2.2.1 (f_MD_monthOf vxB vxpa vxhe k).2.2.2.2.2 vxtk).2.1 vxto vxwa ((f_MD_go vxB (f_MD_findTaken_1 vxB (f_MD_monthOf vxB vxpa vxhe k).2.1 (f_MD_monthOf vxB vxpa vxhe k).2.2.1 (f_MD_monthOf vxB vxpa vxhe k).2.2.2.1 (f_MD_monthOf vxB vxpa vxhe k).2.2.2.2.1 (f_MD_monthOf vxB vxpa vxhe k).2.2.2.2.2 vxtk).2.2.1 (f_MD_findTaken_1 vxB (f_MD_monthOf vxB vxpa vxhe k).2.1 (f_MD_monthOf vxB vxpa vxhe k).2.2.1 (f_MD_monthOf vxB vxpa vxhe k).2.2.2.1 (f_MD_monthOf vxB vxpa vxhe k).2.2.2.2.1 (f_MD_monthOf vxB vxpa vxhe k).2.2.2.2.2 vxtk).2.2.2.2.2.1 k).2.2.2.2.toNatClampNeg) 0 mo).2.1 (f_MD_putChain_1 (f_MD_go vxB (f_MD_findTaken_1 vxB (f_MD_monthOf vxB vxpa vxhe k).2.1 (f_MD_monthOf vxB vxpa vxhe k).2.2.1 (f_MD_monthOf vxB vxpa vxhe k).2.2.2.1 (f_MD_monthOf vxB vxpa vxhe k).2.2.2.2.1 (f_MD_monthOf vxB vxpa vxhe k).2.2.2.2.2 vxtk).2.2.1 (f_MD_findTaken_1 vxB (f_MD_monthOf vxB vxpa vxhe k).2.1 (f_MD_monthOf vxB vxpa vxhe k).2.2.1 (f_MD_monthOf vxB vxpa vxhe k).2.2.2.1 (f_MD_monthOf vxB vxpa vxhe k).2.2.2.2.1 (f_MD_monthOf vxB vxpa vxhe k).2.2.2.2.2 vxtk).2.2.2.2.2.1 k).2.2.2.1 (f_MD_findTaken_1 vxB (f_MD_monthOf vxB vxpa vxhe k).2.1 (f_MD_monthOf vxB vxpa vxhe k).2.2.1 (f_MD_monthOf vxB vxpa vxhe k).2.2.2.1 (f_MD_monthOf vxB vxpa vxhe k).2.2.2.2.1 (f_MD_monthOf vxB vxpa vxhe k).2.2.2.2.2 vxtk).2.1 vxto vxwa ((f_MD_go vxB (f_MD_findTaken_1 vxB (f_MD_monthOf vxB vxpa vxhe k).2.1 (f_MD_monthOf vxB vxpa vxhe k).2.2.1 (f_MD_monthOf vxB vxpa vxhe k).2.2.2.1 (f_MD_monthOf vxB vxpa vxhe k).2.2.2.2.1 (f_MD_monthOf vxB vxpa vxhe k).2.2.2.2.2 vxtk).2.2.1 (f_MD_findTaken_1 vxB (f_MD_monthOf vxB vxpa vxhe k).2.1 (f_MD_monthOf vxB vxpa vxhe k).2.2.1 (f_MD_monthOf vxB vxpa vxhe k).2.2.2.1 (f_MD_monthOf vxB vxpa vxhe k).2.2.2.2.1 (f_MD_monthOf vxB vxpa vxhe k).2.2.2.2.2 vxtk).2.2.2.2.2.1 k).2.2.2.2.toNatClampNeg) 0 mo).2.2 (0 + 32 * ((((f_MD_go vxB (f_MD_findTaken_1 vxB (f_MD_monthOf vxB vxpa vxhe k).2.1 (f_MD_monthOf vxB vxpa vxhe k).2.2.1 (f_MD_monthOf vxB vxpa vxhe k).2.2.2.1 (f_MD_monthOf vxB vxpa vxhe k).2.2.2.2.1 (f_MD_monthOf vxB vxpa vxhe k).2.2.2.2.2 vxtk).2.2.1 (f_MD_findTaken_1 vxB (f_MD_monthOf vxB vxpa vxhe k).2.1 (f_MD_monthOf vxB vxpa vxhe k).2.2.1 (f_MD_monthOf vxB vxpa vxhe k).2.2.2.1 (f_MD_monthOf vxB vxpa vxhe k).2.2.2.2.1 (f_MD_monthOf vxB vxpa vxhe k).2.2.2.2.2 vxtk).2.2.2.2.2.1 k).2.2.2.2.toNatClampNeg) + 24) / 25)) k 0 ((f_MD_putChain_1 (f_MD_go vxB (f_MD_findTaken_1 vxB (f_MD_monthOf vxB vxpa vxhe k).2.1 (f_MD_monthOf vxB vxpa vxhe k).2.2.1 (f_MD_monthOf vxB vxpa vxhe k).2.2.2.1 (f_MD_monthOf vxB vxpa vxhe k).2.2.2.2.1 (f_MD_monthOf vxB vxpa vxhe k).2.2.2.2.2 vxtk).2.2.1 (f_MD_findTaken_1 vxB (f_MD_monthOf vxB vxpa vxhe k).2.1 (f_MD_monthOf vxB vxpa vxhe k).2.2.1 (f_MD_monthOf vxB vxpa vxhe k).2.2.2.1 (f_MD_monthOf vxB vxpa vxhe k).2.2.2.2.1 (f_MD_monthOf vxB vxpa vxhe k).2.2.2.2.2 vxtk).2.2.2.2.2.1 k).2.2.2.1 (f_MD_findTaken_1 vxB (f_MD_monthOf vxB vxpa vxhe k).2.1 (f_MD_monthOf vxB vxpa vxhe k).2.2.1 (f_MD_monthOf vxB vxpa vxhe k).2.2.2.1 (f_MD_monthOf vxB vxpa vxhe k).2.2.2.2.1 (f_MD_monthOf vxB vxpa vxhe k).2.2.2.2.2 vxtk).2.1 vxto vxwa ((f_MD_go vxB (f_MD_findTaken_1 vxB (f_MD_monthOf vxB vxpa vxhe k).2.1 (f_MD_monthOf vxB vxpa vxhe k).2.2.1 (f_MD_monthOf vxB vxpa vxhe k).2.2.2.1 (f_MD_monthOf vxB vxpa vxhe k).2.2.2.2.1 (f_MD_monthOf vxB vxpa vxhe k).2.2.2.2.2 vxtk).2.2.1 (f_MD_findTaken_1 vxB (f_MD_monthOf vxB vxpa vxhe k).2.1 (f_MD_monthOf vxB vxpa vxhe k).2.2.1 (f_MD_monthOf vxB vxpa vxhe k).2.2.2.1 (f_MD_monthOf vxB vxpa vxhe k).2.2.2.2.1 (f_MD_monthOf vxB vxpa vxhe k).2.2.2.2.2 vxtk).2.2.2.2.2.1 k).2.2.2.2.toNatClampNeg) 0 mo).1 + 1)).1 (f_MD_putTable vxB (f_MD_putChain_1 (f_MD_go vxB (f_MD_findTaken_1 vxB (f_MD_monthOf vxB vxpa vxhe k).2.1 (f_MD_monthOf vxB vxpa vxhe k).2.2.1 (f_MD_monthOf vxB vxpa vxhe k).2.2.2.1 (f_MD_monthOf vxB vxpa vxhe k).2.2.2.2.1 (f_MD_monthOf vxB vxpa vxhe k).2.2.2.2.2 vxtk).2.2.1 (f_MD_findTaken_1 vxB (f_MD_monthOf vxB vxpa vxhe k).2.1 (f_MD_monthOf vxB vxpa vxhe k).2.2.1 (f_MD_monthOf vxB vxpa vxhe k).2.2.2.1 (f_MD_monthOf vxB vxpa vxhe k).2.2.2.2.1 (f_MD_monthOf vxB vxpa vxhe k).2.2.2.2.2 vxtk).2.2.2.2.2.1 k).2.2.2.1 (f_MD_findTaken_1 vxB (f_MD_monthOf vxB vxpa vxhe k).2.1 (f_MD_monthOf vxB vxpa vxhe k).2.2.1 (f_MD_monthOf vxB vxpa vxhe k).2.2.2.1 (f_MD_monthOf vxB vxpa vxhe k).2.2.2.2.1 (f_MD_monthOf vxB vxpa vxhe k).2.2.2.2.2 vxtk).2.1 vxto vxwa ((f_MD_go vxB (f_MD_findTaken_1 vxB (f_MD_monthOf vxB vxpa vxhe k).2.1 (f_MD_monthOf vxB vxpa vxhe k).2.2.1 (f_MD_monthOf vxB vxpa vxhe k).2.2.2.1 (f_MD_monthOf vxB vxpa vxhe k).2.2.2.2.1 (f_MD_monthOf vxB vxpa vxhe k).2.2.2.2.2 vxtk).2.2.1 (f_MD_findTaken_1 vxB (f_MD_monthOf vxB vxpa vxhe k).2.1 (f_MD_monthOf vxB vxpa vxhe k).2.2.1 (f_MD_monthOf vxB vxpa vxhe k).2.2.2.1 (f_MD_monthOf vxB vxpa vxhe k).2.2.2.2.1 (f_MD_monthOf vxB vxpa vxhe k).2.2.2.2.2 vxtk).2.2.2.2.2.1 k).2.2.2.2.toNatClampNeg) 0 mo).2.1 (f_MD_putChain_1 (f_MD_go vxB (f_MD_findTaken_1 vxB (f_MD_monthOf vxB vxpa vxhe k).2.1 (f_MD_monthOf vxB vxpa vxhe k).2.2.1 (f_MD_monthOf vxB vxpa vxhe k).2.2.2.1 (f_MD_monthOf vxB vxpa vxhe k).2.2.2.2.1 (f_MD_monthOf vxB vxpa vxhe k).2.2.2.2.2 vxtk).2.2.1 (f_MD_findTaken_1 vxB (f_MD_monthOf vxB vxpa vxhe k).2.1 (f_MD_monthOf vxB vxpa vxhe k).2.2.1 (f_MD_monthOf vxB vxpa vxhe k).2.2.2.1 (f_MD_monthOf vxB vxpa vxhe k).2.2.2.2.1 (f_MD_monthOf vxB vxpa vxhe k).2.2.2.2.2 vxtk).2.2.2.2.2.1 k).2.2.2.1 (f_MD_findTaken_1 vxB (f_MD_monthOf vxB vxpa vxhe k).2.1 (f_MD_monthOf vxB vxpa vxhe k).2.2.1 (f_MD_monthOf vxB vxpa vxhe k).2.2.2.1 (f_MD_monthOf vxB vxpa vxhe k).2.2.2.2.1 (f_MD_monthOf vxB vxpa vxhe k).2.2.2.2.2 vxtk).2.1 vxto vxwa ((f_MD_go vxB (f_MD_findTaken_1 vxB (f_MD_monthOf vxB vxpa vxhe k).2.1 (f_MD_monthOf vxB vxpa vxhe k).2.2.1 (f_MD_monthOf vxB vxpa vxhe k).2.2.2.1 (f_MD_monthOf vxB vxpa vxhe k).2.2.2.2.1 (f_MD_monthOf vxB vxpa vxhe k).2.2.2.2.2 vxtk).2.2.1 (f_MD_findTaken_1 vxB (f_MD_monthOf vxB vxpa vxhe k).2.1 (f_MD_monthOf vxB vxpa vxhe k).2.2.1 (f_MD_monthOf vxB vxpa vxhe k).2.2.2.1 (f_MD_monthOf vxB vxpa vxhe k).2.2.2.2.1 (f_MD_monthOf vxB vxpa vxhe k).2.2.2.2.2 vxtk).2.2.2.2.2.1 k).2.2.2.2.toNatClampNeg) 0 mo).2.2 (0 + 32 * ((((f_MD_go vxB (f_MD_findTaken_1 vxB (f_MD_monthOf vxB vxpa vxhe k).2.1 (f_MD_monthOf vxB vxpa vxhe k).2.2.1 (f_MD_monthOf vxB vxpa vxhe k).2.2.2.1 (f_MD_monthOf vxB vxpa vxhe k).2.2.2.2.1 (f_MD_monthOf vxB vxpa vxhe k).2.2.2.2.2 vxtk).2.2.1 (f_MD_findTaken_1 vxB (f_MD_monthOf vxB vxpa vxhe k).2.1 (f_MD_monthOf vxB vxpa vxhe k).2.2.1 (f_MD_monthOf vxB vxpa vxhe k).2.2.2.1 (f_MD_monthOf vxB vxpa vxhe k).2.2.2.2.1 (f_MD_monthOf vxB vxpa vxhe k).2.2.2.2.2 vxtk).2.2.2.2.2.1 k).2.2.2.2.toNatClampNeg) + 24) / 25)) k 0 ((f_MD_putChain_1 (f_MD_go vxB (f_MD_findTaken_1 vxB (f_MD_monthOf vxB vxpa vxhe k).2.1 (f_MD_monthOf vxB vxpa vxhe k).2.2.1 (f_MD_monthOf vxB vxpa vxhe k).2.2.2.1 (f_MD_monthOf vxB vxpa vxhe k).2.2.2.2.1 (f_MD_monthOf vxB vxpa vxhe k).2.2.2.2.2 vxtk).2.2.1 (f_MD_findTaken_1 vxB (f_MD_monthOf vxB vxpa vxhe k).2.1 (f_MD_monthOf vxB vxpa vxhe k).2.2.1 (f_MD_monthOf vxB vxpa vxhe k).2.2.2.1 (f_MD_monthOf vxB vxpa vxhe k).2.2.2.2.1 (f_MD_monthOf vxB vxpa vxhe k).2.2.2.2.2 vxtk).2.2.2.2.2.1 k).2.2.2.1 (f_MD_findTaken_1 vxB (f_MD_monthOf vxB vxpa vxhe k).2.1 (f_MD_monthOf vxB vxpa vxhe k).2.2.1 (f_MD_monthOf vxB vxpa vxhe k).2.2.2.1 (f_MD_monthOf vxB vxpa vxhe k).2.2.2.2.1 (f_MD_monthOf vxB vxpa vxhe k).2.2.2.2.2 vxtk).2.1 vxto vxwa ((f_MD_go vxB (f_MD_findTaken_1 vxB (f_MD_monthOf vxB vxpa vxhe k).2.1 (f_MD_monthOf vxB vxpa vxhe k).2.2.1 (f_MD_monthOf vxB vxpa vxhe k).2.2.2.1 (f_MD_monthOf vxB vxpa vxhe k).2.2.2.2.1 (f_MD_monthOf vxB vxpa vxhe k).2.2.2.2.2 vxtk).2.2.1 (f_MD_findTaken_1 vxB (f_MD_monthOf vxB vxpa vxhe k).2.1 (f_MD_monthOf vxB vxpa vxhe k).2.2.1 (f_MD_monthOf vxB vxpa vxhe k).2.2.2.1 (f_MD_monthOf vxB vxpa vxhe k).2.2.2.2.1 (f_MD_monthOf vxB vxpa vxhe k).2.2.2.2.2 vxtk).2.2.2.2.2.1 k).2.2.2.2.toNatClampNeg) 0 mo).1 + 1)).2 ((0 + 32 * ((((f_MD_go vxB (f_MD_findTaken_1 vxB (f_MD_monthOf vxB vxpa vxhe k).2.1 (f_MD_monthOf vxB vxpa vxhe k).2.2.1 (f_MD_monthOf vxB vxpa vxhe k).2.2.2.1 (f_MD_monthOf vxB vxpa vxhe k).2.2.2.2.1 (f_MD_monthOf vxB vxpa vxhe k).2.2.2.2.2 vxtk).2.2.1 (f_MD_findTaken_1 vxB (f_MD_monthOf vxB vxpa vxhe k).2.1 (f_MD_monthOf vxB vxpa vxhe k).2.2.1 (f_MD_monthOf vxB vxpa vxhe k).2.2.2.1 (f_MD_monthOf vxB vxpa vxhe k).2.2.2.2.1 (f_MD_monthOf vxB vxpa vxhe k).2.2.2.2.2 vxtk).2.2.2.2.2.1 k).2.2.2.2.toNatClampNeg) + 24) / 25)) + 40)).2.2, (-1), (f_MD_go vxB (f_MD_findTaken_1 vxB (f_MD_monthOf vxB vxpa vxhe k).2.1 (f_MD_monthOf vxB vxpa vxhe k).2.2.1 (f_MD_monthOf vxB vxpa vxhe k).2.2.2.1 (f_MD_monthOf vxB vxpa vxhe k).2.2.2.2.1 (f_MD_monthOf vxB vxpa vxhe k).2.2.2.2.2 vxtk).2.2.1 (f_MD_findTaken_1 vxB (f_MD_monthOf vxB vxpa vxhe k).2.1 (f_MD_monthOf vxB vxpa vxhe k).2.2.1 (f_MD_monthOf vxB vxpa vxhe k).2.2.2.1 (f_MD_monthOf vxB vxpa vxhe k).2.2.2.2.1 (f_MD_monthOf vxB vxpa vxhe k).2.2.2.2.2 vxtk).2.2.2.2.2.1 k).1, (f_MD_go vxB (f_MD_findTaken_1 vxB (f_MD_monthOf vxB vxpa vxhe k).2.1 (f_MD_monthOf vxB vxpa vxhe k).2.2.1 (f_MD_monthOf vxB vxpa vxhe k).2.2.2.1 (f_MD_monthOf vxB vxpa vxhe k).2.2.2.2.1 (f_MD_monthOf vxB vxpa vxhe k).2.2.2.2.2 vxtk).2.2.1 (f_MD_findTaken_1 vxB (f_MD_monthOf vxB vxpa vxhe k).2.1 (f_MD_monthOf vxB vxpa vxhe k).2.2.1 (f_MD_monthOf vxB vxpa vxhe k).2.2.2.1 (f_MD_monthOf vxB vxpa vxhe k).2.2.2.2.1 (f_MD_monthOf vxB vxpa vxhe k).2.2.2.2.2 vxtk).2.2.2.2.2.1 k).2.1, (f_MD_go vxB (f_MD_findTaken_1 vxB (f_MD_monthOf vxB vxpa vxhe k).2.1 (f_MD_monthOf vxB vxpa vxhe k).2.2.1 (f_MD_monthOf vxB vxpa vxhe k).2.2.2.1 (f_MD_monthOf vxB vxpa vxhe k).2.2.2.2.1 (f_MD_monthOf vxB vxpa vxhe k).2.2.2.2.2 vxtk).2.2.1 (f_MD_findTaken_1 vxB (f_MD_monthOf vxB vxpa vxhe k).2.1 (f_MD_monthOf vxB vxpa vxhe k).2.2.1 (f_MD_monthOf vxB vxpa vxhe k).2.2.2.1 (f_MD_monthOf vxB vxpa vxhe k).2.2.2.2.1 (f_MD_monthOf vxB vxpa vxhe k).2.2.2.2.2 vxtk).2.2.2.2.2.1 k).2.2.1, (f_MD_go vxB (f_MD_findTaken_1 vxB (f_MD_monthOf vxB vxpa vxhe k).2.1 (f_MD_monthOf vxB vxpa vxhe k).2.2.1 (f_MD_monthOf vxB vxpa vxhe k).2.2.2.1 (f_MD_monthOf vxB vxpa vxhe k).2.2.2.2.1 (f_MD_monthOf vxB vxpa vxhe k).2.2.2.2.2 vxtk).2.2.1 (f_MD_findTaken_1 vxB (f_MD_monthOf vxB vxpa vxhe k).2.1 (f_MD_monthOf vxB vxpa vxhe k).2.2.1 (f_MD_monthOf vxB vxpa vxhe k).2.2.2.1 (f_MD_monthOf vxB vxpa vxhe k).2.2.2.2.1 (f_MD_monthOf vxB vxpa vxhe k).2.2.2.2.2 vxtk).2.2.2.2.2.1 k).2.2.2.1, (nI ((f_MD_go vxB (f_MD_findTaken_1 vxB (f_MD_monthOf vxB vxpa vxhe k).2.1 (f_MD_monthOf vxB vxpa vxhe k).2.2.1 (f_MD_monthOf vxB vxpa vxhe k).2.2.2.1 (f_MD_monthOf vxB vxpa vxhe k).2.2.2.2.1 (f_MD_monthOf vxB vxpa vxhe k).2.2.2.2.2 vxtk).2.2.1 (f_MD_findTaken_1 vxB (f_MD_monthOf vxB vxpa vxhe k).2.1 (f_MD_monthOf vxB vxpa vxhe k).2.2.1 (f_MD_monthOf vxB vxpa vxhe k).2.2.2.1 (f_MD_monthOf vxB vxpa vxhe k).2.2.2.2.1 (f_MD_monthOf vxB vxpa vxhe k).2.2.2.2.2 vxtk).2.2.2.2.2.1 k).2.2.2.2.toNatClampNeg)), (f_MD_findTaken_1 vxB (f_MD_monthOf vxB vxpa vxhe k).2.1 (f_MD_monthOf vxB vxpa vxhe k).2.2.1 (f_MD_monthOf vxB vxpa vxhe k).2.2.2.1 (f_MD_monthOf vxB vxpa vxhe k).2.2.2.2.1 (f_MD_monthOf vxB vxpa vxhe k).2.2.2.2.2 vxtk).2.1, (f_MD_putTable vxB (f_MD_putChain_1 (f_MD_go vxB (f_MD_findTaken_1 vxB (f_MD_monthOf vxB vxpa vxhe k).2.1 (f_MD_monthOf vxB vxpa vxhe k).2.2.1 (f_MD_monthOf vxB vxpa vxhe k).2.2.2.1 (f_MD_monthOf vxB vxpa vxhe k).2.2.2.2.1 (f_MD_monthOf vxB vxpa vxhe k).2.2.2.2.2 vxtk).2.2.1 (f_MD_findTaken_1 vxB (f_MD_monthOf vxB vxpa vxhe k).2.1 (f_MD_monthOf vxB vxpa vxhe k).2.2.1 (f_MD_monthOf vxB vxpa vxhe k).2.2.2.1 (f_MD_monthOf vxB vxpa vxhe k).2.2.2.2.1 (f_MD_monthOf vxB vxpa vxhe k).2.2.2.2.2 vxtk).2.2.2.2.2.1 k).2.2.2.1 (f_MD_findTaken_1 vxB (f_MD_monthOf vxB vxpa vxhe k).2.1 (f_MD_monthOf vxB vxpa vxhe k).2.2.1 (f_MD_monthOf vxB vxpa vxhe k).2.2.2.1 (f_MD_monthOf vxB vxpa vxhe k).2.2.2.2.1 (f_MD_monthOf vxB vxpa vxhe k).2.2.2.2.2 vxtk).2.1 vxto vxwa ((f_MD_go vxB (f_MD_findTaken_1 vxB (f_MD_monthOf vxB vxpa vxhe k).2.1 (f_MD_monthOf vxB vxpa vxhe k).2.2.1 (f_MD_monthOf vxB vxpa vxhe k).2.2.2.1 (f_MD_monthOf vxB vxpa vxhe k).2.2.2.2.1 (f_MD_monthOf vxB vxpa vxhe k).2.2.2.2.2 vxtk).2.2.1 (f_MD_findTaken_1 vxB (f_MD_monthOf vxB vxpa vxhe k).2.1 (f_MD_monthOf vxB vxpa vxhe k).2.2.1 (f_MD_monthOf vxB vxpa vxhe k).2.2.2.1 (f_MD_monthOf vxB vxpa vxhe k).2.2.2.2.1 (f_MD_monthOf vxB vxpa vxhe k).2.2.2.2.2 vxtk).2.2.2.2.2.1 k).2.2.2.2.toNatClampNeg) 0 mo).2.1 (f_MD_putChain_1 (f_MD_go vxB (f_MD_findTaken_1 vxB (f_MD_monthOf vxB vxpa vxhe k).2.1 (f_MD_monthOf vxB vxpa vxhe k).2.2.1 (f_MD_monthOf vxB vxpa vxhe k).2.2.2.1 (f_MD_monthOf vxB vxpa vxhe k).2.2.2.2.1 (f_MD_monthOf vxB vxpa vxhe k).2.2.2.2.2 vxtk).2.2.1 (f_MD_findTaken_1 vxB (f_MD_monthOf vxB vxpa vxhe k).2.1 (f_MD_monthOf vxB vxpa vxhe k).2.2.1 (f_MD_monthOf vxB vxpa vxhe k).2.2.2.1 (f_MD_monthOf vxB vxpa vxhe k).2.2.2.2.1 (f_MD_monthOf vxB vxpa vxhe k).2.2.2.2.2 vxtk).2.2.2.2.2.1 k).2.2.2.1 (f_MD_findTaken_1 vxB (f_MD_monthOf vxB vxpa vxhe k).2.1 (f_MD_monthOf vxB vxpa vxhe k).2.2.1 (f_MD_monthOf vxB vxpa vxhe k).2.2.2.1 (f_MD_monthOf vxB vxpa vxhe k).2.2.2.2.1 (f_MD_monthOf vxB vxpa vxhe k).2.2.2.2.2 vxtk).2.1 vxto vxwa ((f_MD_go vxB (f_MD_findTaken_1 vxB (f_MD_monthOf vxB vxpa vxhe k).2.1 (f_MD_monthOf vxB vxpa vxhe k).2.2.1 (f_MD_monthOf vxB vxpa vxhe k).2.2.2.1 (f_MD_monthOf vxB vxpa vxhe k).2.2.2.2.1 (f_MD_monthOf vxB vxpa vxhe k).2.2.2.2.2 vxtk).2.2.1 (f_MD_findTaken_1 vxB (f_MD_monthOf vxB vxpa vxhe k).2.1 (f_MD_monthOf vxB vxpa vxhe k).2.2.1 (f_MD_monthOf vxB vxpa vxhe k).2.2.2.1 (f_MD_monthOf vxB vxpa vxhe k).2.2.2.2.1 (f_MD_monthOf vxB vxpa vxhe k).2.2.2.2.2 vxtk).2.2.2.2.2.1 k).2.2.2.2.toNatClampNeg) 0 mo).2.2 (0 + 32 * ((((f_MD_go vxB (f_MD_findTaken_1 vxB (f_MD_monthOf vxB vxpa vxhe k).2.1 (f_MD_monthOf vxB vxpa vxhe k).2.2.1 (f_MD_monthOf vxB vxpa vxhe k).2.2.2.1 (f_MD_monthOf vxB vxpa vxhe k).2.2.2.2.1 (f_MD_monthOf vxB vxpa vxhe k).2.2.2.2.2 vxtk).2.2.1 (f_MD_findTaken_1 vxB (f_MD_monthOf vxB vxpa vxhe k).2.1 (f_MD_monthOf vxB vxpa vxhe k).2.2.1 (f_MD_monthOf vxB vxpa vxhe k).2.2.2.1 (f_MD_monthOf vxB vxpa vxhe k).2.2.2.2.1 (f_MD_monthOf vxB vxpa vxhe k).2.2.2.2.2 vxtk).2.2.2.2.2.1 k).2.2.2.2.toNatClampNeg) + 24) / 25)) k 0 ((f_MD_putChain_1 (f_MD_go vxB (f_MD_findTaken_1 vxB (f_MD_monthOf vxB vxpa vxhe k).2.1 (f_MD_monthOf vxB vxpa vxhe k).2.2.1 (f_MD_monthOf vxB vxpa vxhe k).2.2.2.1 (f_MD_monthOf vxB vxpa vxhe k).2.2.2.2.1 (f_MD_monthOf vxB vxpa vxhe k).2.2.2.2.2 vxtk).2.2.1 (f_MD_findTaken_1 vxB (f_MD_monthOf vxB vxpa vxhe k).2.1 (f_MD_monthOf vxB vxpa vxhe k).2.2.1 (f_MD_monthOf vxB vxpa vxhe k).2.2.2.1 (f_MD_monthOf vxB vxpa vxhe k).2.2.2.2.1 (f_MD_monthOf vxB vxpa vxhe k).2.2.2.2.2 vxtk).2.2.2.2.2.1 k).2.2.2.1 (f_MD_findTaken_1 vxB (f_MD_monthOf vxB vxpa vxhe k).2.1 (f_MD_monthOf vxB vxpa vxhe k).2.2.1 (f_MD_monthOf vxB vxpa vxhe k).2.2.2.1 (f_MD_monthOf vxB vxpa vxhe k).2.2.2.2.1 (f_MD_monthOf vxB vxpa vxhe k).2.2.2.2.2 vxtk).2.1 vxto vxwa ((f_MD_go vxB (f_MD_findTaken_1 vxB (f_MD_monthOf vxB vxpa vxhe k).2.1 (f_MD_monthOf vxB vxpa vxhe k).2.2.1 (f_MD_monthOf vxB vxpa vxhe k).2.2.2.1 (f_MD_monthOf vxB vxpa vxhe k).2.2.2.2.1 (f_MD_monthOf vxB vxpa vxhe k).2.2.2.2.2 vxtk).2.2.1 (f_MD_findTaken_1 vxB (f_MD_monthOf vxB vxpa vxhe k).2.1 (f_MD_monthOf vxB vxpa vxhe k).2.2.1 (f_MD_monthOf vxB vxpa vxhe k).2.2.2.1 (f_MD_monthOf vxB vxpa vxhe k).2.2.2.2.1 (f_MD_monthOf vxB vxpa vxhe k).2.2.2.2.2 vxtk).2.2.2.2.2.1 k).2.2.2.2.toNatClampNeg) 0 mo).1 + 1)).1, (f_MD_putTable vxB (f_MD_putChain_1 (f_MD_go vxB (f_MD_findTaken_1 vxB (f_MD_monthOf vxB vxpa vxhe k).2.1 (f_MD_monthOf vxB vxpa vxhe k).2.2.1 (f_MD_monthOf vxB vxpa vxhe k).2.2.2.1 (f_MD_monthOf vxB vxpa vxhe k).2.2.2.2.1 (f_MD_monthOf vxB vxpa vxhe k).2.2.2.2.2 vxtk).2.2.1 (f_MD_findTaken_1 vxB (f_MD_monthOf vxB vxpa vxhe k).2.1 (f_MD_monthOf vxB vxpa vxhe k).2.2.1 (f_MD_monthOf vxB vxpa vxhe k).2.2.2.1 (f_MD_monthOf vxB vxpa vxhe k).2.2.2.2.1 (f_MD_monthOf vxB vxpa vxhe k).2.2.2.2.2 vxtk).2.2.2.2.2.1 k).2.2.2.1 (f_MD_findTaken_1 vxB (f_MD_monthOf vxB vxpa vxhe k).2.1 (f_MD_monthOf vxB vxpa vxhe k).2.2.1 (f_MD_monthOf vxB vxpa vxhe k).2.2.2.1 (f_MD_monthOf vxB vxpa vxhe k).2.2.2.2.1 (f_MD_monthOf vxB vxpa vxhe k).2.2.2.2.2 vxtk).2.1 vxto vxwa ((f_MD_go vxB (f_MD_findTaken_1 vxB (f_MD_monthOf vxB vxpa vxhe k).2.1 (f_MD_monthOf vxB vxpa vxhe k).2.2.1 (f_MD_monthOf vxB vxpa vxhe k).2.2.2.1 (f_MD_monthOf vxB vxpa vxhe k).2.2.2.2.1 (f_MD_monthOf vxB vxpa vxhe k).2.2.2.2.2 vxtk).2.2.1 (f_MD_findTaken_1 vxB (f_MD_monthOf vxB vxpa vxhe k).2.1 (f_MD_monthOf vxB vxpa vxhe k).2.2.1 (f_MD_monthOf vxB vxpa vxhe k).2.2.2.1 (f_MD_monthOf vxB vxpa vxhe k).2.2.2.2.1 (f_MD_monthOf vxB vxpa vxhe k).2.2.2.2.2 vxtk).2.2.2.2.2.1 k).2.2.2.2.toNatClampNeg) 0 mo).2.1 (f_MD_putChain_1 (f_MD_go vxB (f_MD_findTaken_1 vxB (f_MD_monthOf vxB vxpa vxhe k).2.1 (f_MD_monthOf vxB vxpa vxhe k).2.2.1 (f_MD_monthOf vxB vxpa vxhe k).2.2.2.1 (f_MD_monthOf vxB vxpa vxhe k).2.2.2.2.1 (f_MD_monthOf vxB vxpa vxhe k).2.2.2.2.2 vxtk).2.2.1 (f_MD_findTaken_1 vxB (f_MD_monthOf vxB vxpa vxhe k).2.1 (f_MD_monthOf vxB vxpa vxhe k).2.2.1 (f_MD_monthOf vxB vxpa vxhe k).2.2.2.1 (f_MD_monthOf vxB vxpa vxhe k).2.2.2.2.1 (f_MD_monthOf vxB vxpa vxhe k).2.2.2.2.2 vxtk).2.2.2.2.2.1 k).2.2.2.1 (f_MD_findTaken_1 vxB (f_MD_monthOf vxB vxpa vxhe k).2.1 (f_MD_monthOf vxB vxpa vxhe k).2.2.1 (f_MD_monthOf vxB vxpa vxhe k).2.2.2.1 (f_MD_monthOf vxB vxpa vxhe k).2.2.2.2.1 (f_MD_monthOf vxB vxpa vxhe k).2.2.2.2.2 vxtk).2.1 vxto vxwa ((f_MD_go vxB (f_MD_findTaken_1 vxB (f_MD_monthOf vxB vxpa vxhe k).2.1 (f_MD_monthOf vxB vxpa vxhe k).2.2.1 (f_MD_monthOf vxB vxpa vxhe k).2.2.2.1 (f_MD_monthOf vxB vxpa vxhe k).2.2.2.2.1 (f_MD_monthOf vxB vxpa vxhe k).2.2.2.2.2 vxtk).2.2.1 (f_MD_findTaken_1 vxB (f_MD_monthOf vxB vxpa vxhe k).2.1 (f_MD_monthOf vxB vxpa vxhe k).2.2.1 (f_MD_monthOf vxB vxpa vxhe k).2.2.2.1 (f_MD_monthOf vxB vxpa vxhe k).2.2.2.2.1 (f_MD_monthOf vxB vxpa vxhe k).2.2.2.2.2 vxtk).2.2.2.2.2.1 k).2.2.2.2.toNatClampNeg) 0 mo).2.2 (0 + 32 * ((((f_MD_go vxB (f_MD_findTaken_1 vxB (f_MD_monthOf vxB vxpa vxhe k).2.1 (f_MD_monthOf vxB vxpa vxhe k).2.2.1 (f_MD_monthOf vxB vxpa vxhe k).2.2.2.1 (f_MD_monthOf vxB vxpa vxhe k).2.2.2.2.1 (f_MD_monthOf vxB vxpa vxhe k).2.2.2.2.2 vxtk).2.2.1 (f_MD_findTaken_1 vxB (f_MD_monthOf vxB vxpa vxhe k).2.1 (f_MD_monthOf vxB vxpa vxhe k).2.2.1 (f_MD_monthOf vxB vxpa vxhe k).2.2.2.1 (f_MD_monthOf vxB vxpa vxhe k).2.2.2.2.1 (f_MD_monthOf vxB vxpa vxhe k).2.2.2.2.2 vxtk).2.2.2.2.2.1 k).2.2.2.2.toNatClampNeg) + 24) / 25)) k 0 ((f_MD_putChain_1 (f_MD_go vxB (f_MD_findTaken_1 vxB (f_MD_monthOf vxB vxpa vxhe k).2.1 (f_MD_monthOf vxB vxpa vxhe k).2.2.1 (f_MD_monthOf vxB vxpa vxhe k).2.2.2.1 (f_MD_monthOf vxB vxpa vxhe k).2.2.2.2.1 (f_MD_monthOf vxB vxpa vxhe k).2.2.2.2.2 vxtk).2.2.1 (f_MD_findTaken_1 vxB (f_MD_monthOf vxB vxpa vxhe k).2.1 (f_MD_monthOf vxB vxpa vxhe k).2.2.1 (f_MD_monthOf vxB vxpa vxhe k).2.2.2.1 (f_MD_monthOf vxB vxpa vxhe k).2.2.2.2.1 (f_MD_monthOf vxB vxpa vxhe k).2.2.2.2.2 vxtk).2.2.2.2.2.1 k).2.2.2.1 (f_MD_findTaken_1 vxB (f_MD_monthOf vxB vxpa vxhe k).2.1 (f_MD_monthOf vxB vxpa vxhe k).2.2.1 (f_MD_monthOf vxB vxpa vxhe k).2.2.2.1 (f_MD_monthOf vxB vxpa vxhe k).2.2.2.2.1 (f_MD_monthOf vxB vxpa vxhe k).2.2.2.2.2 vxtk).2.1 vxto vxwa ((f_MD_go vxB (f_MD_findTaken_1 vxB (f_MD_monthOf vxB vxpa vxhe k).2.1 (f_MD_monthOf vxB vxpa vxhe k).2.2.1 (f_MD_monthOf vxB vxpa vxhe k).2.2.2.1 (f_MD_monthOf vxB vxpa vxhe k).2.2.2.2.1 (f_MD_monthOf vxB vxpa vxhe k).2.2.2.2.2 vxtk).2.2.1 (f_MD_findTaken_1 vxB (f_MD_monthOf vxB vxpa vxhe k).2.1 (f_MD_monthOf vxB vxpa vxhe k).2.2.1 (f_MD_monthOf vxB vxpa vxhe k).2.2.2.1 (f_MD_monthOf vxB vxpa vxhe k).2.2.2.2.1 (f_MD_monthOf vxB vxpa vxhe k).2.2.2.2.2 vxtk).2.2.2.2.2.1 k).2.2.2.2.toNatClampNeg) 0 mo).1 + 1)).2, (nI ((0 + 32 * ((((f_MD_go vxB (f_MD_findTaken_1 vxB (f_MD_monthOf vxB vxpa vxhe k).2.1 (f_MD_monthOf vxB vxpa vxhe k).2.2.1 (f_MD_monthOf vxB vxpa vxhe k).2.2.2.1 (f_MD_monthOf vxB vxpa vxhe k).2.2.2.2.1 (f_MD_monthOf vxB vxpa vxhe k).2.2.2.2.2 vxtk).2.2.1 (f_MD_findTaken_1 vxB (f_MD_monthOf vxB vxpa vxhe k).2.1 (f_MD_monthOf vxB vxpa vxhe k).2.2.1 (f_MD_monthOf vxB vxpa vxhe k).2.2.2.1 (f_MD_monthOf vxB vxpa vxhe k).2.2.2.2.1 (f_MD_monthOf vxB vxpa vxhe k).2.2.2.2.2 vxtk).2.2.2.2.2.1 k).2.2.2.2.toNatClampNeg) + 24) / 25)) + 40)))
              else
                f_MD_move_l34 mo fu (k + 1) (vn + 1) 0 (f_MD_comes vxB vxsh vxcu (f_MD_putTable vxB (f_MD_putChain_1 (f_MD_go vxB (f_MD_findTaken_1 vxB (f_MD_monthOf vxB vxpa vxhe k).2.1 (f_MD_monthOf vxB vxpa vxhe k).2.2.1 (f_MD_monthOf vxB vxpa vxhe k).2.2.2.1 (f_MD_monthOf vxB vxpa vxhe k).2.2.2.2.1 (f_MD_monthOf vxB vxpa vxhe k).2.2.2.2.2 vxtk).2.2.1 (f_MD_findTaken_1 vxB (f_MD_monthOf vxB vxpa vxhe k).2.1 (f_MD_monthOf vxB vxpa vxhe k).2.2.1 (f_MD_monthOf vxB vxpa vxhe k).2.2.2.1 (f_MD_monthOf vxB vxpa vxhe k).2.2.2.2.1 (f_MD_monthOf vxB vxpa vxhe k).2.2.2.2.2 vxtk).2.2.2.2.2.1 k).2.2.2.1 (f_MD_findTaken_1 vxB (f_MD_monthOf vxB vxpa vxhe k).2.1 (f_MD_monthOf vxB vxpa vxhe k).2.2.1 (f_MD_monthOf vxB vxpa vxhe k).2.2.2.1 (f_MD_monthOf vxB vxpa vxhe k).2.2.2.2.1 (f_MD_monthOf vxB vxpa vxhe k).2.2.2.2.2 vxtk).2.1 vxto vxwa ((f_MD_go vxB (f_MD_findTaken_1 vxB (f_MD_monthOf vxB vxpa vxhe k).2.1 (f_MD_monthOf vxB vxpa vxhe k).2.2.1 (f_MD_monthOf vxB vxpa vxhe k).2.2.2.1 (f_MD_monthOf vxB vxpa vxhe k).2.2.2.2.1 (f_MD_monthOf vxB vxpa vxhe k).2.2.2.2.2 vxtk).2.2.1 (f_MD_findTaken_1 vxB (f_MD_monthOf vxB vxpa vxhe k).2.1 (f_MD_monthOf vxB vxpa vxhe k).2.2.1 (f_MD_monthOf vxB vxpa vxhe k).2.2.2.1 (f_MD_monthOf vxB vxpa vxhe k).2.2.2.2.1 (f_MD_monthOf vxB vxpa vxhe k).2.2.2.2.2 vxtk).2.2.2.2.2.1 k).2.2.2.2.toNatClampNeg) 0 mo).2.1 (f_MD_putChain_1 (f_MD_go vxB (f_MD_findTaken_1 vxB (f_MD_monthOf vxB vxpa vxhe k).2.1 (f_MD_monthOf vxB vxpa vxhe k).2.2.1 (f_MD_monthOf vxB vxpa vxhe k).2.2.2.1 (f_MD_monthOf vxB vxpa vxhe k).2.2.2.2.1 (f_MD_monthOf vxB vxpa vxhe k).2.2.2.2.2 vxtk).2.2.1 (f_MD_findTaken_1 vxB (f_MD_monthOf vxB vxpa vxhe k).2.1 (f_MD_monthOf vxB vxpa vxhe k).2.2.1 (f_MD_monthOf vxB vxpa vxhe k).2.2.2.1 (f_MD_monthOf vxB vxpa vxhe k).2.2.2.2.1 (f_MD_monthOf vxB vxpa vxhe k).2.2.2.2.2 vxtk).2.2.2.2.2.1 k).2.2.2.1 (f_MD_findTaken_1 vxB (f_MD_monthOf vxB vxpa vxhe k).2.1 (f_MD_monthOf vxB vxpa vxhe k).2.2.1 (f_MD_monthOf vxB vxpa vxhe k).2.2.2.1 (f_MD_monthOf vxB vxpa vxhe k).2.2.2.2.1 (f_MD_monthOf vxB vxpa vxhe k).2.2.2.2.2 vxtk).2.1 vxto vxwa ((f_MD_go vxB (f_MD_findTaken_1 vxB (f_MD_monthOf vxB vxpa vxhe k).2.1 (f_MD_monthOf vxB vxpa vxhe k).2.2.1 (f_MD_monthOf vxB vxpa vxhe k).2.2.2.1 (f_MD_monthOf vxB vxpa vxhe k).2.2.2.2.1 (f_MD_monthOf vxB vxpa vxhe k).2.2.2.2.2 vxtk).2.2.1 (f_MD_findTaken_1 vxB (f_MD_monthOf vxB vxpa vxhe k).2.1 (f_MD_monthOf vxB vxpa vxhe k).2.2.1 (f_MD_monthOf vxB vxpa vxhe k).2.2.2.1 (f_MD_monthOf vxB vxpa vxhe k).2.2.2.2.1 (f_MD_monthOf vxB vxpa vxhe k).2.2.2.2.2 vxtk).2.2.2.2.2.1 k).2.2.2.2.toNatClampNeg) 0 mo).2.2 (0 + 32 * ((((f_MD_go vxB (f_MD_findTaken_1 vxB (f_MD_monthOf vxB vxpa vxhe k).2.1 (f_MD_monthOf vxB vxpa vxhe k).2.2.1 (f_MD_monthOf vxB vxpa vxhe k).2.2.2.1 (f_MD_monthOf vxB vxpa vxhe k).2.2.2.2.1 (f_MD_monthOf vxB vxpa vxhe k).2.2.2.2.2 vxtk).2.2.1 (f_MD_findTaken_1 vxB (f_MD_monthOf vxB vxpa vxhe k).2.1 (f_MD_monthOf vxB vxpa vxhe k).2.2.1 (f_MD_monthOf vxB vxpa vxhe k).2.2.2.1 (f_MD_monthOf vxB vxpa vxhe k).2.2.2.2.1 (f_MD_monthOf vxB vxpa vxhe k).2.2.2.2.2 vxtk).2.2.2.2.2.1 k).2.2.2.2.toNatClampNeg) + 24) / 25)) k 0 ((f_MD_putChain_1 (f_MD_go vxB (f_MD_findTaken_1 vxB (f_MD_monthOf vxB vxpa vxhe k).2.1 (f_MD_monthOf vxB vxpa vxhe k).2.2.1 (f_MD_monthOf vxB vxpa vxhe k).2.2.2.1 (f_MD_monthOf vxB vxpa vxhe k).2.2.2.2.1 (f_MD_monthOf vxB vxpa vxhe k).2.2.2.2.2 vxtk).2.2.1 (f_MD_findTaken_1 vxB (f_MD_monthOf vxB vxpa vxhe k).2.1 (f_MD_monthOf vxB vxpa vxhe k).2.2.1 (f_MD_monthOf vxB vxpa vxhe k).2.2.2.1 (f_MD_monthOf vxB vxpa vxhe k).2.2.2.2.1 (f_MD_monthOf vxB vxpa vxhe k).2.2.2.2.2 vxtk).2.2.2.2.2.1 k).2.2.2.1 (f_MD_findTaken_1 vxB (f_MD_monthOf vxB vxpa vxhe k).2.1 (f_MD_monthOf vxB vxpa vxhe k).2.2.1 (f_MD_monthOf vxB vxpa vxhe k).2.2.2.1 (f_MD_monthOf vxB vxpa vxhe k).2.2.2.2.1 (f_MD_monthOf vxB vxpa vxhe k).2.2.2.2.2 vxtk).2.1 vxto vxwa ((f_MD_go vxB (f_MD_findTaken_1 vxB (f_MD_monthOf vxB vxpa vxhe k).2.1 (f_MD_monthOf vxB vxpa vxhe k).2.2.1 (f_MD_monthOf vxB vxpa vxhe k).2.2.2.1 (f_MD_monthOf vxB vxpa vxhe k).2.2.2.2.1 (f_MD_monthOf vxB vxpa vxhe k).2.2.2.2.2 vxtk).2.2.1 (f_MD_findTaken_1 vxB (f_MD_monthOf vxB vxpa vxhe k).2.1 (f_MD_monthOf vxB vxpa vxhe k).2.2.1 (f_MD_monthOf vxB vxpa vxhe k).2.2.2.1 (f_MD_monthOf vxB vxpa vxhe k).2.2.2.2.1 (f_MD_monthOf vxB vxpa vxhe k).2.2.2.2.2 vxtk).2.2.2.2.2.1 k).2.2.2.2.toNatClampNeg) 0 mo).1 + 1)).1 (f_MD_putTable vxB (f_MD_putChain_1 (f_MD_go vxB (f_MD_findTaken_1 vxB (f_MD_monthOf vxB vxpa vxhe k).2.1 (f_MD_monthOf vxB vxpa vxhe k).2.2.1 (f_MD_monthOf vxB vxpa vxhe k).2.2.2.1 (f_MD_monthOf vxB vxpa vxhe k).2.2.2.2.1 (f_MD_monthOf vxB vxpa vxhe k).2.2.2.2.2 vxtk).2.2.1 (f_MD_findTaken_1 vxB (f_MD_monthOf vxB vxpa vxhe k).2.1 (f_MD_monthOf vxB vxpa vxhe k).2.2.1 (f_MD_monthOf vxB vxpa vxhe k).2.2.2.1 (f_MD_monthOf vxB vxpa vxhe k).2.2.2.2.1 (f_MD_monthOf vxB vxpa vxhe k).2.2.2.2.2 vxtk).2.2.2.2.2.1 k).2.2.2.1 (f_MD_findTaken_1 vxB (f_MD_monthOf vxB vxpa vxhe k).2.1 (f_MD_monthOf vxB vxpa vxhe k).2.2.1 (f_MD_monthOf vxB vxpa vxhe k).2.2.2.1 (f_MD_monthOf vxB vxpa vxhe k).2.2.2.2.1 (f_MD_monthOf vxB vxpa vxhe k).2.2.2.2.2 vxtk).2.1 vxto vxwa ((f_MD_go vxB (f_MD_findTaken_1 vxB (f_MD_monthOf vxB vxpa vxhe k).2.1 (f_MD_monthOf vxB vxpa vxhe k).2.2.1 (f_MD_monthOf vxB vxpa vxhe k).2.2.2.1 (f_MD_monthOf vxB vxpa vxhe k).2.2.2.2.1 (f_MD_monthOf vxB vxpa vxhe k).2.2.2.2.2 vxtk).2.2.1 (f_MD_findTaken_1 vxB (f_MD_monthOf vxB vxpa vxhe k).2.1 (f_MD_monthOf vxB vxpa vxhe k).2.2.1 (f_MD_monthOf vxB vxpa vxhe k).2.2.2.1 (f_MD_monthOf vxB vxpa vxhe k).2.2.2.2.1 (f_MD_monthOf vxB vxpa vxhe k).2.2.2.2.2 vxtk).2.2.2.2.2.1 k).2.2.2.2.toNatClampNeg) 0 mo).2.1 (f_MD_putChain_1 (f_MD_go vxB (f_MD_findTaken_1 vxB (f_MD_monthOf vxB vxpa vxhe k).2.1 (f_MD_monthOf vxB vxpa vxhe k).2.2.1 (f_MD_monthOf vxB vxpa vxhe k).2.2.2.1 (f_MD_monthOf vxB vxpa vxhe k).2.2.2.2.1 (f_MD_monthOf vxB vxpa vxhe k).2.2.2.2.2 vxtk).2.2.1 (f_MD_findTaken_1 vxB (f_MD_monthOf vxB vxpa vxhe k).2.1 (f_MD_monthOf vxB vxpa vxhe k).2.2.1 (f_MD_monthOf vxB vxpa vxhe k).2.2.2.1 (f_MD_monthOf vxB vxpa vxhe k).2.2.2.2.1 (f_MD_monthOf vxB vxpa vxhe k).2.2.2.2.2 vxtk).2.2.2.2.2.1 k).2.2.2.1 (f_MD_findTaken_1 vxB (f_MD_monthOf vxB vxpa vxhe k).2.1 (f_MD_monthOf vxB vxpa vxhe k).2.2.1 (f_MD_monthOf vxB vxpa vxhe k).2.2.2.1 (f_MD_monthOf vxB vxpa vxhe k).2.2.2.2.1 (f_MD_monthOf vxB vxpa vxhe k).2.2.2.2.2 vxtk).2.1 vxto vxwa ((f_MD_go vxB (f_MD_findTaken_1 vxB (f_MD_monthOf vxB vxpa vxhe k).2.1 (f_MD_monthOf vxB vxpa vxhe k).2.2.1 (f_MD_monthOf vxB vxpa vxhe k).2.2.2.1 (f_MD_monthOf vxB vxpa vxhe k).2.2.2.2.1 (f_MD_monthOf vxB vxpa vxhe k).2.2.2.2.2 vxtk).2.2.1 (f_MD_findTaken_1 vxB (f_MD_monthOf vxB vxpa vxhe k).2.1 (f_MD_monthOf vxB vxpa vxhe k).2.2.1 (f_MD_monthOf vxB vxpa vxhe k).2.2.2.1 (f_MD_monthOf vxB vxpa vxhe k).2.2.2.2.1 (f_MD_monthOf vxB vxpa vxhe k).2.2.2.2.2 vxtk).2.2.2.2.2.1 k).2.2.2.2.toNatClampNeg) 0 mo).2.2 (0 + 32 * ((((f_MD_go vxB (f_MD_findTaken_1 vxB (f_MD_monthOf vxB vxpa vxhe k).2.1 (f_MD_monthOf vxB vxpa vxhe k).2.2.1 (f_MD_monthOf vxB vxpa vxhe k).2.2.2.1 (f_MD_monthOf vxB vxpa vxhe k).2.2.2.2.1 (f_MD_monthOf vxB vxpa vxhe k).2.2.2.2.2 vxtk).2.2.1 (f_MD_findTaken_1 vxB (f_MD_monthOf vxB vxpa vxhe k).2.1 (f_MD_monthOf vxB vxpa vxhe k).2.2.1 (f_MD_monthOf vxB vxpa vxhe k).2.2.2.1 (f_MD_monthOf vxB vxpa vxhe k).2.2.2.2.1 (f_MD_monthOf vxB vxpa vxhe k).2.2.2.2.2 vxtk).2.2.2.2.2.1 k).2.2.2.2.toNatClampNeg) + 24) / 25)) k 0 ((f_MD_putChain_1 (f_MD_go vxB (f_MD_findTaken_1 vxB (f_MD_monthOf vxB vxpa vxhe k).2.1 (f_MD_monthOf vxB vxpa vxhe k).2.2.1 (f_MD_monthOf vxB vxpa vxhe k).2.2.2.1 (f_MD_monthOf vxB vxpa vxhe k).2.2.2.2.1 (f_MD_monthOf vxB vxpa vxhe k).2.2.2.2.2 vxtk).2.2.1 (f_MD_findTaken_1 vxB (f_MD_monthOf vxB vxpa vxhe k).2.1 (f_MD_monthOf vxB vxpa vxhe k).2.2.1 (f_MD_monthOf vxB vxpa vxhe k).2.2.2.1 (f_MD_monthOf vxB vxpa vxhe k).2.2.2.2.1 (f_MD_monthOf vxB vxpa vxhe k).2.2.2.2.2 vxtk).2.2.2.2.2.1 k).2.2.2.1 (f_MD_findTaken_1 vxB (f_MD_monthOf vxB vxpa vxhe k).2.1 (f_MD_monthOf vxB vxpa vxhe k).2.2.1 (f_MD_monthOf vxB vxpa vxhe k).2.2.2.1 (f_MD_monthOf vxB vxpa vxhe k).2.2.2.2.1 (f_MD_monthOf vxB vxpa vxhe k).2.2.2.2.2 vxtk).2.1 vxto vxwa ((f_MD_go vxB (f_MD_findTaken_1 vxB (f_MD_monthOf vxB vxpa vxhe k).2.1 (f_MD_monthOf vxB vxpa vxhe k).2.2.1 (f_MD_monthOf vxB vxpa vxhe k).2.2.2.1 (f_MD_monthOf vxB vxpa vxhe k).2.2.2.2.1 (f_MD_monthOf vxB vxpa vxhe k).2.2.2.2.2 vxtk).2.2.1 (f_MD_findTaken_1 vxB (f_MD_monthOf vxB vxpa vxhe k).2.1 (f_MD_monthOf vxB vxpa vxhe k).2.2.1 (f_MD_monthOf vxB vxpa vxhe k).2.2.2.1 (f_MD_monthOf vxB vxpa vxhe k).2.2.2.2.1 (f_MD_monthOf vxB vxpa vxhe k).2.2.2.2.2 vxtk).2.2.2.2.2.1 k).2.2.2.2.toNatClampNeg) 0 mo).1 + 1)).2 ((0 + 32 * ((((f_MD_go vxB (f_MD_findTaken_1 vxB (f_MD_monthOf vxB vxpa vxhe k).2.1 (f_MD_monthOf vxB vxpa vxhe k).2.2.1 (f_MD_monthOf vxB vxpa vxhe k).2.2.2.1 (f_MD_monthOf vxB vxpa vxhe k).2.2.2.2.1 (f_MD_monthOf vxB vxpa vxhe k).2.2.2.2.2 vxtk).2.2.1 (f_MD_findTaken_1 vxB (f_MD_monthOf vxB vxpa vxhe k).2.1 (f_MD_monthOf vxB vxpa vxhe k).2.2.1 (f_MD_monthOf vxB vxpa vxhe k).2.2.2.1 (f_MD_monthOf vxB vxpa vxhe k).2.2.2.2.1 (f_MD_monthOf vxB vxpa vxhe k).2.2.2.2.2 vxtk).2.2.2.2.2.1 k).2.2.2.2.toNatClampNeg) + 24) / 25)) + 40)).2.1 (f_MD_comes vxB vxsh vxcu (f_MD_putTable vxB (f_MD_putChain_1 (f_MD_go vxB (f_MD_findTaken_1 vxB (f_MD_monthOf vxB vxpa vxhe k).2.1 (f_MD_monthOf vxB vxpa vxhe k).2.2.1 (f_MD_monthOf vxB vxpa vxhe k).2.2.2.1 (f_MD_monthOf vxB vxpa vxhe k).2.2.2.2.1 (f_MD_monthOf vxB vxpa vxhe k).2.2.2.2.2 vxtk).2.2.1 (f_MD_findTaken_1 vxB (f_MD_monthOf vxB vxpa vxhe k).2.1 (f_MD_monthOf vxB vxpa vxhe k).2.2.1 (f_MD_monthOf vxB vxpa vxhe k).2.2.2.1 (f_MD_monthOf vxB vxpa vxhe k).2.2.2.2.1 (f_MD_monthOf vxB vxpa vxhe k).2.2.2.2.2 vxtk).2.2.2.2.2.1 k).2.2.2.1 (f_MD_findTaken_1 vxB (f_MD_monthOf vxB vxpa vxhe k).2.1 (f_MD_monthOf vxB vxpa vxhe k).2.2.1 (f_MD_monthOf vxB vxpa vxhe k).2.2.2.1 (f_MD_monthOf vxB vxpa vxhe k).2.2.2.2.1 (f_MD_monthOf vxB vxpa vxhe k).2.2.2.2.2 vxtk).2.1 vxto vxwa ((f_MD_go vxB (f_MD_findTaken_1 vxB (f_MD_monthOf vxB vxpa vxhe k).2.1 (f_MD_monthOf vxB vxpa vxhe k).2.2.1 (f_MD_monthOf vxB vxpa vxhe k).2.2.2.1 (f_MD_monthOf vxB vxpa vxhe k).2.2.2.2.1 (f_MD_monthOf vxB vxpa vxhe k).2.2.2.2.2 vxtk).2.2.1 (f_MD_findTaken_1 vxB (f_MD_monthOf vxB vxpa vxhe k).2.1 (f_MD_monthOf vxB vxpa vxhe k).2.2.1 (f_MD_monthOf vxB vxpa vxhe k).2.2.2.1 (f_MD_monthOf vxB vxpa vxhe k).2.2.2.2.1 (f_MD_monthOf vxB vxpa vxhe k).2.2.2.2.2 vxtk).2.2.2.2.2.1 k).2.2.2.2.toNatClampNeg) 0 mo).2.1 (f_MD_putChain_1 (f_MD_go vxB (f_MD_findTaken_1 vxB (f_MD_monthOf vxB vxpa vxhe k).2.1 (f_MD_monthOf vxB vxpa vxhe k).2.2.1 (f_MD_monthOf vxB vxpa vxhe k).2.2.2.1 (f_MD_monthOf vxB vxpa vxhe k).2.2.2.2.1 (f_MD_monthOf vxB vxpa vxhe k).2.2.2.2.2 vxtk).2.2.1 (f_MD_findTaken_1 vxB (f_MD_monthOf vxB vxpa vxhe k).2.1 (f_MD_monthOf vxB vxpa vxhe k).2.2.1 (f_MD_monthOf vxB vxpa vxhe k).2.2.2.1 (f_MD_monthOf vxB vxpa vxhe k).2.2.2.2.1 (f_MD_monthOf vxB vxpa vxhe k).2.2.2.2.2 vxtk).2.2.2.2.2.1 k).2.2.2.1 (f_MD_findTaken_1 vxB (f_MD_monthOf vxB vxpa vxhe k).2.1 (f_MD_monthOf vxB vxpa vxhe k).2.2.1 (f_MD_monthOf vxB vxpa vxhe k).2.2.2.1 (f_MD_monthOf vxB vxpa vxhe k).2.2.2.2.1 (f_MD_monthOf vxB vxpa vxhe k).2.2.2.2.2 vxtk).2.1 vxto vxwa ((f_MD_go vxB (f_MD_findTaken_1 vxB (f_MD_monthOf vxB vxpa vxhe k).2.1 (f_MD_monthOf vxB vxpa vxhe k).2.2.1 (f_MD_monthOf vxB vxpa vxhe k).2.2.2.1 (f_MD_monthOf vxB vxpa vxhe k).2.2.2.2.1 (f_MD_monthOf vxB vxpa vxhe k).2.2.2.2.2 vxtk).2.2.1 (f_MD_findTaken_1 vxB (f_MD_monthOf vxB vxpa vxhe k).2.1 (f_MD_monthOf vxB vxpa vxhe k).2.2.1 (f_MD_monthOf vxB vxpa vxhe k).2.2.2.1 (f_MD_monthOf vxB vxpa vxhe k).2.2.2.2.1 (f_MD_monthOf vxB vxpa vxhe k).2.2.2.2.2 vxtk).2.2.2.2.2.1 k).2.2.2.2.toNatClampNeg) 0 mo).2.2 (0 + 32 * ((((f_MD_go vxB (f_MD_findTaken_1 vxB (f_MD_monthOf vxB vxpa vxhe k).2.1 (f_MD_monthOf vxB vxpa vxhe k).2.2.1 (f_MD_monthOf vxB vxpa vxhe k).2.2.2.1 (f_MD_monthOf vxB vxpa vxhe k).2.2.2.2.1 (f_MD_monthOf vxB vxpa vxhe k).2.2.2.2.2 vxtk).2.2.1 (f_MD_findTaken_1 vxB (f_MD_monthOf vxB vxpa vxhe k).2.1 (f_MD_monthOf vxB vxpa vxhe k).2.2.1 (f_MD_monthOf vxB vxpa vxhe k).2.2.2.1 (f_MD_monthOf vxB vxpa vxhe k).2.2.2.2.1 (f_MD_monthOf vxB vxpa vxhe k).2.2.2.2.2 vxtk).2.2.2.2.2.1 k).2.2.2.2.toNatClampNeg) + 24) / 25)) k 0 ((f_MD_putChain_1 (f_MD_go vxB (f_MD_findTaken_1 vxB (f_MD_monthOf vxB vxpa vxhe k).2.1 (f_MD_monthOf vxB vxpa vxhe k).2.2.1 (f_MD_monthOf vxB vxpa vxhe k).2.2.2.1 (f_MD_monthOf vxB vxpa vxhe k).2.2.2.2.1 (f_MD_monthOf vxB vxpa vxhe k).2.2.2.2.2 vxtk).2.2.1 (f_MD_findTaken_1 vxB (f_MD_monthOf vxB vxpa vxhe k).2.1 (f_MD_monthOf vxB vxpa vxhe k).2.2.1 (f_MD_monthOf vxB vxpa vxhe k).2.2.2.1 (f_MD_monthOf vxB vxpa vxhe k).2.2.2.2.1 (f_MD_monthOf vxB vxpa vxhe k).2.2.2.2.2 vxtk).2.2.2.2.2.1 k).2.2.2.1 (f_MD_findTaken_1 vxB (f_MD_monthOf vxB vxpa vxhe k).2.1 (f_MD_monthOf vxB vxpa vxhe k).2.2.1 (f_MD_monthOf vxB vxpa vxhe k).2.2.2.1 (f_MD_monthOf vxB vxpa vxhe k).2.2.2.2.1 (f_MD_monthOf vxB vxpa vxhe k).2.2.2.2.2 vxtk).2.1 vxto vxwa ((f_MD_go vxB (f_MD_findTaken_1 vxB (f_MD_monthOf vxB vxpa vxhe k).2.1 (f_MD_monthOf vxB vxpa vxhe k).2.2.1 (f_MD_monthOf vxB vxpa vxhe k).2.2.2.1 (f_MD_monthOf vxB vxpa vxhe k).2.2.2.2.1 (f_MD_monthOf vxB vxpa vxhe k).2.2.2.2.2 vxtk).2.2.1 (f_MD_findTaken_1 vxB (f_MD_monthOf vxB vxpa vxhe k).2.1 (f_MD_monthOf vxB vxpa vxhe k).2.2.1 (f_MD_monthOf vxB vxpa vxhe k).2.2.2.1 (f_MD_monthOf vxB vxpa vxhe k).2.2.2.2.1 (f_MD_monthOf vxB vxpa vxhe k).2.2.2.2.2 vxtk).2.2.2.2.2.1 k).2.2.2.2.toNatClampNeg) 0 mo).1 + 1)).1 (f_MD_putTable vxB (f_MD_putChain_1 (f_MD_go vxB (f_MD_findTaken_1 vxB (f_MD_monthOf vxB vxpa vxhe k).2.1 (f_MD_monthOf vxB vxpa vxhe k).2.2.1 (f_MD_monthOf vxB vxpa vxhe k).2.2.2.1 (f_MD_monthOf vxB vxpa vxhe k).2.2.2.2.1 (f_MD_monthOf vxB vxpa vxhe k).2.2.2.2.2 vxtk).2.2.1 (f_MD_findTaken_1 vxB (f_MD_monthOf vxB vxpa vxhe k).2.1 (f_MD_monthOf vxB vxpa vxhe k).2.2.1 (f_MD_monthOf vxB vxpa vxhe k).2.2.2.1 (f_MD_monthOf vxB vxpa vxhe k).2.2.2.2.1 (f_MD_monthOf vxB vxpa vxhe k).2.2.2.2.2 vxtk).2.2.2.2.2.1 k).2.2.2.1 (f_MD_findTaken_1 vxB (f_MD_monthOf vxB vxpa vxhe k).2.1 (f_MD_monthOf vxB vxpa vxhe k).2.2.1 (f_MD_monthOf vxB vxpa vxhe k).2.2.2.1 (f_MD_monthOf vxB vxpa vxhe k).2.2.2.2.1 (f_MD_monthOf vxB vxpa vxhe k).2.2.2.2.2 vxtk).2.1 vxto vxwa ((f_MD_go vxB (f_MD_findTaken_1 vxB (f_MD_monthOf vxB vxpa vxhe k).2.1 (f_MD_monthOf vxB vxpa vxhe k).2.2.1 (f_MD_monthOf vxB vxpa vxhe k).2.2.2.1 (f_MD_monthOf vxB vxpa vxhe k).2.2.2.2.1 (f_MD_monthOf vxB vxpa vxhe k).2.2.2.2.2 vxtk).2.2.1 (f_MD_findTaken_1 vxB (f_MD_monthOf vxB vxpa vxhe k).2.1 (f_MD_monthOf vxB vxpa vxhe k).2.2.1 (f_MD_monthOf vxB vxpa vxhe k).2.2.2.1 (f_MD_monthOf vxB vxpa vxhe k).2.2.2.2.1 (f_MD_monthOf vxB vxpa vxhe k).2.2.2.2.2 vxtk).2.2.2.2.2.1 k).2.2.2.2.toNatClampNeg) 0 mo).2.1 (f_MD_putChain_1 (f_MD_go vxB (f_MD_findTaken_1 vxB (f_MD_monthOf vxB vxpa vxhe k).2.1 (f_MD_monthOf vxB vxpa vxhe k).2.2.1 (f_MD_monthOf vxB vxpa vxhe k).2.2.2.1 (f_MD_monthOf vxB vxpa vxhe k).2.2.2.2.1 (f_MD_monthOf vxB vxpa vxhe k).2.2.2.2.2 vxtk).2.2.1 (f_MD_findTaken_1 vxB (f_MD_monthOf vxB vxpa vxhe k).2.1 (f_MD_monthOf vxB vxpa vxhe k).2.2.1 (f_MD_monthOf vxB vxpa vxhe k).2.2.2.1 (f_MD_monthOf vxB vxpa vxhe k).2.2.2.2.1 (f_MD_monthOf vxB vxpa vxhe k).2.2.2.2.2 vxtk).2.2.2.2.2.1 k).2.2.2.1 (f_MD_findTaken_1 vxB (f_MD_monthOf vxB vxpa vxhe k).2.1 (f_MD_monthOf vxB vxpa vxhe k).2.2.1 (f_MD_monthOf vxB vxpa vxhe k).2.2.2.1 (f_MD_monthOf vxB vxpa vxhe k).2.2.2.2.1 (f_MD_monthOf vxB vxpa vxhe k).2.2.2.2.2 vxtk).2.1 vxto vxwa ((f_MD_go vxB (f_MD_findTaken_1 vxB (f_MD_monthOf vxB vxpa vxhe k).2.1 (f_MD_monthOf vxB vxpa vxhe k).2.2.1 (f_MD_monthOf vxB vxpa vxhe k).2.2.2.1 (f_MD_monthOf vxB vxpa vxhe k).2.2.2.2.1 (f_MD_monthOf vxB vxpa vxhe k).2.2.2.2.2 vxtk).2.2.1 (f_MD_findTaken_1 vxB (f_MD_monthOf vxB vxpa vxhe k).2.1 (f_MD_monthOf vxB vxpa vxhe k).2.2.1 (f_MD_monthOf vxB vxpa vxhe k).2.2.2.1 (f_MD_monthOf vxB vxpa vxhe k).2.2.2.2.1 (f_MD_monthOf vxB vxpa vxhe k).2.2.2.2.2 vxtk).2.2.2.2.2.1 k).2.2.2.2.toNatClampNeg) 0 mo).2.2 (0 + 32 * ((((f_MD_go vxB (f_MD_findTaken_1 vxB (f_MD_monthOf vxB vxpa vxhe k).2.1 (f_MD_monthOf vxB vxpa vxhe k).2.2.1 (f_MD_monthOf vxB vxpa vxhe k).2.2.2.1 (f_MD_monthOf vxB vxpa vxhe k).2.2.2.2.1 (f_MD_monthOf vxB vxpa vxhe k).2.2.2.2.2 vxtk).2.2.1 (f_MD_findTaken_1 vxB (f_MD_monthOf vxB vxpa vxhe k).2.1 (f_MD_monthOf vxB vxpa vxhe k).2.2.1 (f_MD_monthOf vxB vxpa vxhe k).2.2.2.1 (f_MD_monthOf vxB vxpa vxhe k).2.2.2.2.1 (f_MD_monthOf vxB vxpa vxhe k).2.2.2.2.2 vxtk).2.2.2.2.2.1 k).2.2.2.2.toNatClampNeg) + 24) / 25)) k 0 ((f_MD_putChain_1 (f_MD_go vxB (f_MD_findTaken_1 vxB (f_MD_monthOf vxB vxpa vxhe k).2.1 (f_MD_monthOf vxB vxpa vxhe k).2.2.1 (f_MD_monthOf vxB vxpa vxhe k).2.2.2.1 (f_MD_monthOf vxB vxpa vxhe k).2.2.2.2.1 (f_MD_monthOf vxB vxpa vxhe k).2.2.2.2.2 vxtk).2.2.1 (f_MD_findTaken_1 vxB (f_MD_monthOf vxB vxpa vxhe k).2.1 (f_MD_monthOf vxB vxpa vxhe k).2.2.1 (f_MD_monthOf vxB vxpa vxhe k).2.2.2.1 (f_MD_monthOf vxB vxpa vxhe k).2.2.2.2.1 (f_MD_monthOf vxB vxpa vxhe k).2.2.2.2.2 vxtk).2.2.2.2.2.1 k).2.2.2.1 (f_MD_findTaken_1 vxB (f_MD_monthOf vxB vxpa vxhe k).2.1 (f_MD_monthOf vxB vxpa vxhe k).2.2.1 (f_MD_monthOf vxB vxpa vxhe k).2.2.2.1 (f_MD_monthOf vxB vxpa vxhe k).2.2.2.2.1 (f_MD_monthOf vxB vxpa vxhe k).2.2.2.2.2 vxtk).2.1 vxto vxwa ((f_MD_go vxB (f_MD_findTaken_1 vxB (f_MD_monthOf vxB vxpa vxhe k).2.1 (f_MD_monthOf vxB vxpa vxhe k).2.2.1 (f_MD_monthOf vxB vxpa vxhe k).2.2.2.1 (f_MD_monthOf vxB vxpa vxhe k).2.2.2.2.1 (f_MD_monthOf vxB vxpa vxhe k).2.2.2.2.2 vxtk).2.2.1 (f_MD_findTaken_1 vxB (f_MD_monthOf vxB vxpa vxhe k).2.1 (f_MD_monthOf vxB vxpa vxhe k).2.2.1 (f_MD_monthOf vxB vxpa vxhe k).2.2.2.1 (f_MD_monthOf vxB vxpa vxhe k).2.2.2.2.1 (f_MD_monthOf vxB vxpa vxhe k).2.2.2.2.2 vxtk).2.2.2.2.2.1 k).2.2.2.2.toNatClampNeg) 0 mo).1 + 1)).2 ((0 + 32 * ((((f_MD_go vxB (f_MD_findTaken_1 vxB (f_MD_monthOf vxB vxpa vxhe k).2.1 (f_MD_monthOf vxB vxpa vxhe k).2.2.1 (f_MD_monthOf vxB vxpa vxhe k).2.2.2.1 (f_MD_monthOf vxB vxpa vxhe k).2.2.2.2.1 (f_MD_monthOf vxB vxpa vxhe k).2.2.2.2.2 vxtk).2.2.1 (f_MD_findTaken_1 vxB (f_MD_monthOf vxB vxpa vxhe k).2.1 (f_MD_monthOf vxB vxpa vxhe k).2.2.1 (f_MD_monthOf vxB vxpa vxhe k).2.2.2.1 (f_MD_monthOf vxB vxpa vxhe k).2.2.2.2.1 (f_MD_monthOf vxB vxpa vxhe k).2.2.2.2.2 vxtk).2.2.2.2.2.1 k).2.2.2.2.toNatClampNeg) + 24) / 25)) + 40)).2.2 (-1) (f_MD_go vxB (f_MD_findTaken_1 vxB (f_MD_monthOf vxB vxpa vxhe k).2.1 (f_MD_monthOf vxB vxpa vxhe k).2.2.1 (f_MD_monthOf vxB vxpa vxhe k).2.2.2.1 (f_MD_monthOf vxB vxpa vxhe k).2.2.2.2.1 (f_MD_monthOf vxB vxpa vxhe k).2.2.2.2.2 vxtk).2.2.1 (f_MD_findTaken_1 vxB (f_MD_monthOf vxB vxpa vxhe k).2.1 (f_MD_monthOf vxB vxpa vxhe k).2.2.1 (f_MD_monthOf vxB vxpa vxhe k).2.2.2.1 (f_MD_monthOf vxB vxpa vxhe k).2.2.2.2.1 (f_MD_monthOf vxB vxpa vxhe k).2.2.2.2.2 vxtk).2.2.2.2.2.1 k).1 (f_MD_go vxB (f_MD_findTaken_1 vxB (f_MD_monthOf vxB vxpa vxhe k).2.1 (f_MD_monthOf vxB vxpa vxhe k).2.2.1 (f_MD_monthOf vxB vxpa vxhe k).2.2.2.1 (f_MD_monthOf vxB vxpa vxhe k).2.2.2.2.1 (f_MD_monthOf vxB vxpa vxhe k).2.2.2.2.2 vxtk).2.2.1 (f_MD_findTaken_1 vxB (f_MD_monthOf vxB vxpa vxhe k).2.1 (f_MD_monthOf vxB vxpa vxhe k).2.2.1 (f_MD_monthOf vxB vxpa vxhe k).2.2.2.1 (f_MD_monthOf vxB vxpa vxhe k).2.2.2.2.1 (f_MD_monthOf vxB vxpa vxhe k).2.2.2.2.2 vxtk).2.2.2.2.2.1 k).2.1 (f_MD_go vxB (f_MD_findTaken_1 vxB (f_MD_monthOf vxB vxpa vxhe k).2.1 (f_MD_monthOf vxB vxpa vxhe k).2.2.1 (f_MD_monthOf vxB vxpa vxhe k).2.2.2.1 (f_MD_monthOf vxB vxpa vxhe k).2.2.2.2.1 (f_MD_monthOf vxB vxpa vxhe k).2.2.2.2.2 vxtk).2.2.1 (f_MD_findTaken_1 vxB (f_MD_monthOf vxB vxpa vxhe k).2.1 (f_MD_monthOf vxB vxpa vxhe k).2.2.1 (f_MD_monthOf vxB vxpa vxhe k).2.2.2.1 (f_MD_monthOf vxB vxpa vxhe k).2.2.2.2.1 (f_MD_monthOf vxB vxpa vxhe k).2.2.2.2.2 vxtk).2.2.2.2.2.1 k).2.2.1 (f_MD_go vxB (f_MD_findTaken_1 vxB (f_MD_monthOf vxB vxpa vxhe k).2.1 (f_MD_monthOf vxB vxpa vxhe k).2.2.1 (f_MD_monthOf vxB vxpa vxhe k).2.2.2.1 (f_MD_monthOf vxB vxpa vxhe k).2.2.2.2.1 (f_MD_monthOf vxB vxpa vxhe k).2.2.2.2.2 vxtk).2.2.1 (f_MD_findTaken_1 vxB (f_MD_monthOf vxB vxpa vxhe k).2.1 (f_MD_monthOf vxB vxpa vxhe k).2.2.1 (f_MD_monthOf vxB vxpa vxhe k).2.2.2.1 (f_MD_monthOf vxB vxpa vxhe k).2.2.2.2.1 (f_MD_monthOf vxB vxpa vxhe k).2.2.2.2.2 vxtk).2.2.2.2.2.1 k).2.2.2.1 (nI ((f_MD_go vxB (f_MD_findTaken_1 vxB (f_MD_monthOf vxB vxpa vxhe k).2.1 (f_MD_monthOf vxB vxpa vxhe k).2.2.1 (f_MD_monthOf vxB vxpa vxhe k).2.2.2.1 (f_MD_monthOf vxB vxpa vxhe k).2.2.2.2.1 (f_MD_monthOf vxB vxpa vxhe k).2.2.2.2.2 vxtk).2.2.1 (f_MD_findTaken_1 vxB (f_MD_monthOf vxB vxpa vxhe k).2.1 (f_MD_monthOf vxB vxpa vxhe k).2.2.1 (f_MD_monthOf vxB vxpa vxhe k).2.2.2.1 (f_MD_monthOf vxB vxpa vxhe k).2.2.2.2.1 (f_MD_monthOf vxB vxpa vxhe k).2.2.2.2.2 vxtk).2.2.2.2.2.1 k).2.2.2.2.toNatClampNeg)) (f_MD_findTaken_1 vxB (f_MD_monthOf vxB vxpa vxhe k).2.1 (f_MD_monthOf vxB vxpa vxhe k).2.2.1 (f_MD_monthOf vxB vxpa vxhe k).2.2.2.1 (f_MD_monthOf vxB vxpa vxhe k).2.2.2.2.1 (f_MD_monthOf vxB vxpa vxhe k).2.2.2.2.2 vxtk).2.1 (f_MD_putTable vxB (f_MD_putChain_1 (f_MD_go vxB (f_MD_findTaken_1 vxB (f_MD_monthOf vxB vxpa vxhe k).2.1 (f_MD_monthOf vxB vxpa vxhe k).2.2.1 (f_MD_monthOf vxB vxpa vxhe k).2.2.2.1 (f_MD_monthOf vxB vxpa vxhe k).2.2.2.2.1 (f_MD_monthOf vxB vxpa vxhe k).2.2.2.2.2 vxtk).2.2.1 (f_MD_findTaken_1 vxB (f_MD_monthOf vxB vxpa vxhe k).2.1 (f_MD_monthOf vxB vxpa vxhe k).2.2.1 (f_MD_monthOf vxB vxpa vxhe k).2.2.2.1 (f_MD_monthOf vxB vxpa vxhe k).2.2.2.2.1 (f_MD_monthOf vxB vxpa vxhe k).2.2.2.2.2 vxtk).2.2.2.2.2.1 k).2.2.2.1 (f_MD_findTaken_1 vxB (f_MD_monthOf vxB vxpa vxhe k).2.1 (f_MD_monthOf vxB vxpa vxhe k).2.2.1 (f_MD_monthOf vxB vxpa vxhe k).2.2.2.1 (f_MD_monthOf vxB vxpa vxhe k).2.2.2.2.1 (f_MD_monthOf vxB vxpa vxhe k).2.2.2.2.2 vxtk).2.1 vxto vxwa ((f_MD_go vxB (f_MD_findTaken_1 vxB (f_MD_monthOf vxB vxpa vxhe k).2.1 (f_MD_monthOf vxB vxpa vxhe k).2.2.1 (f_MD_monthOf vxB vxpa vxhe k).2.2.2.1 (f_MD_monthOf vxB vxpa vxhe k).2.2.2.2.1 (f_MD_monthOf vxB vxpa vxhe k).2.2.2.2.2 vxtk).2.2.1 (f_MD_findTaken_1 vxB (f_MD_monthOf vxB vxpa vxhe k).2.1 (f_MD_monthOf vxB vxpa vxhe k).2.2.1 (f_MD_monthOf vxB vxpa vxhe k).2.2.2.1 (f_MD_monthOf vxB vxpa vxhe k).2.2.2.2.1 (f_MD_monthOf vxB vxpa vxhe k).2.2.2.2.2 vxtk).2.2.2.2.2.1 k).2.2.2.2.toNatClampNeg) 0 mo).2.1 (f_MD_putChain_1 (f_MD_go vxB (f_MD_findTaken_1 vxB (f_MD_monthOf vxB vxpa vxhe k).2.1 (f_MD_monthOf vxB vxpa vxhe k).2.2.1 (f_MD_monthOf vxB vxpa vxhe k).2.2.2.1 (f_MD_monthOf vxB vxpa vxhe k).2.2.2.2.1 (f_MD_monthOf vxB vxpa vxhe k).2.2.2.2.2 vxtk).2.2.1 (f_MD_findTaken_1 vxB (f_MD_monthOf vxB vxpa vxhe k).2.1 (f_MD_monthOf vxB vxpa vxhe k).2.2.1 (f_MD_monthOf vxB vxpa vxhe k).2.2.2.1 (f_MD_monthOf vxB vxpa vxhe k).2.2.2.2.1 (f_MD_monthOf vxB vxpa vxhe k).2.2.2.2.2 vxtk).2.2.2.2.2.1 k).2.2.2.1 (f_MD_findTaken_1 vxB (f_MD_monthOf vxB vxpa vxhe k).2.1 (f_MD_monthOf vxB vxpa vxhe k).2.2.1 (f_MD_monthOf vxB vxpa vxhe k).2.2.2.1 (f_MD_monthOf vxB vxpa vxhe k).2.2.2.2.1 (f_MD_monthOf vxB vxpa vxhe k).2.2.2.2.2 vxtk).2.1 vxto vxwa ((f_MD_go vxB (f_MD_findTaken_1 vxB (f_MD_monthOf vxB vxpa vxhe k).2.1 (f_MD_monthOf vxB vxpa vxhe k).2.2.1 (f_MD_monthOf vxB vxpa vxhe k).2.2.2.1 (f_MD_monthOf vxB vxpa vxhe k).2.2.2.2.1 (f_MD_monthOf vxB vxpa vxhe k).2.2.2.2.2 vxtk).2.2.1 (f_MD_findTaken_1 vxB (f_MD_monthOf vxB vxpa vxhe k).2.1 (f_MD_monthOf vxB vxpa vxhe k).2.2.1 (f_MD_monthOf vxB vxpa vxhe k).2.2.2.1 (f_MD_monthOf vxB vxpa vxhe k).2.2.2.2.1 (f_MD_monthOf vxB vxpa vxhe k).2.2.2.2.2 vxtk).2.2.2.2.2.1 k).2.2.2.2.toNatClampNeg) 0 mo).2.2 (0 + 32 * ((((f_MD_go vxB (f_MD_findTaken_1 vxB (f_MD_monthOf vxB vxpa vxhe k).2.1 (f_MD_monthOf vxB vxpa vxhe k).2.2.1 (f_MD_monthOf vxB vxpa vxhe k).2.2.2.1 (f_MD_monthOf vxB vxpa vxhe k).2.2.2.2.1 (f_MD_monthOf vxB vxpa vxhe k).2.2.2.2.2 vxtk).2.2.1 (f_MD_findTaken_1 vxB (f_MD_monthOf vxB vxpa vxhe k).2.1 (f_MD_monthOf vxB vxpa vxhe k).2.2.1 (f_MD_monthOf vxB vxpa vxhe k).2.2.2.1 (f_MD_monthOf vxB vxpa vxhe k).2.2.2.2.1 (f_MD_monthOf vxB vxpa vxhe k).2.2.2.2.2 vxtk).2.2.2.2.2.1 k).2.2.2.2.toNatClampNeg) + 24) / 25)) k 0 ((f_MD_putChain_1 (f_MD_go vxB (f_MD_findTaken_1 vxB (f_MD_monthOf vxB vxpa vxhe k).2.1 (f_MD_monthOf vxB vxpa vxhe k).2.2.1 (f_MD_monthOf vxB vxpa vxhe k).2.2.2.1 (f_MD_monthOf vxB vxpa vxhe k).2.2.2.2.1 (f_MD_monthOf vxB vxpa vxhe k).2.2.2.2.2 vxtk).2.2.1 (f_MD_findTaken_1 vxB (f_MD_monthOf vxB vxpa vxhe k).2.1 (f_MD_monthOf vxB vxpa vxhe k).2.2.1 (f_MD_monthOf vxB vxpa vxhe k).2.2.2.1 (f_MD_monthOf vxB vxpa vxhe k).2.2.2.2.1 (f_MD_monthOf vxB vxpa vxhe k).2.2.2.2.2 vxtk).2.2.2.2.2.1 k).2.2.2.1 (f_MD_findTaken_1 vxB (f_MD_monthOf vxB vxpa vxhe k).2.1 (f_MD_monthOf vxB vxpa vxhe k).2.2.1 (f_MD_monthOf vxB vxpa vxhe k).2.2.2.1 (f_MD_monthOf vxB vxpa vxhe k).2.2.2.2.1 (f_MD_monthOf vxB vxpa vxhe k).2.2.2.2.2 vxtk).2.1 vxto vxwa ((f_MD_go vxB (f_MD_findTaken_1 vxB (f_MD_monthOf vxB vxpa vxhe k).2.1 (f_MD_monthOf vxB vxpa vxhe k).2.2.1 (f_MD_monthOf vxB vxpa vxhe k).2.2.2.1 (f_MD_monthOf vxB vxpa vxhe k).2.2.2.2.1 (f_MD_monthOf vxB vxpa vxhe k).2.2.2.2.2 vxtk).2.2.1 (f_MD_findTaken_1 vxB (f_MD_monthOf vxB vxpa vxhe k).2.1 (f_MD_monthOf vxB vxpa vxhe k).2.2.1 (f_MD_monthOf vxB vxpa vxhe k).2.2.2.1 (f_MD_monthOf vxB vxpa vxhe k).2.2.2.2.1 (f_MD_monthOf vxB vxpa vxhe k).2.2.2.2.2 vxtk).2.2.2.2.2.1 k).2.2.2.2.toNatClampNeg) 0 mo).1 + 1)).1 (f_MD_putTable vxB (f_MD_putChain_1 (f_MD_go vxB (f_MD_findTaken_1 vxB (f_MD_monthOf vxB vxpa vxhe k).2.1 (f_MD_monthOf vxB vxpa vxhe k).2.2.1 (f_MD_monthOf vxB vxpa vxhe k).2.2.2.1 (f_MD_monthOf vxB vxpa vxhe k).2.2.2.2.1 (f_MD_monthOf vxB vxpa vxhe k).2.2.2.2.2 vxtk).2.2.1 (f_MD_findTaken_1 vxB (f_MD_monthOf vxB vxpa vxhe k).2.1 (f_MD_monthOf vxB vxpa vxhe k).2.2.1 (f_MD_monthOf vxB vxpa vxhe k).2.2.2.1 (f_MD_monthOf vxB vxpa vxhe k).2.2.2.2.1 (f_MD_monthOf vxB vxpa vxhe k).2.2.2.2.2 vxtk).2.2.2.2.2.1 k).2.2.2.1 (f_MD_findTaken_1 vxB (f_MD_monthOf vxB vxpa vxhe k).2.1 (f_MD_monthOf vxB vxpa vxhe k).2.2.1 (f_MD_monthOf vxB vxpa vxhe k).2.2.2.1 (f_MD_monthOf vxB vxpa vxhe k).2.2.2.2.1 (f_MD_monthOf vxB vxpa vxhe k).2.2.2.2.2 vxtk).2.1 vxto vxwa ((f_MD_go vxB (f_MD_findTaken_1 vxB (f_MD_monthOf vxB vxpa vxhe k).2.1 (f_MD_monthOf vxB vxpa vxhe k).2.2.1 (f_MD_monthOf vxB vxpa vxhe k).2.2.2.1 (f_MD_monthOf vxB vxpa vxhe k).2.2.2.2.1 (f_MD_monthOf vxB vxpa vxhe k).2.2.2.2.2 vxtk).2.2.1 (f_MD_findTaken_1 vxB (f_MD_monthOf vxB vxpa vxhe k).2.1 (f_MD_monthOf vxB vxpa vxhe k).2.2.1 (f_MD_monthOf vxB vxpa vxhe k).2.2.2.1 (f_MD_monthOf vxB vxpa vxhe k).2.2.2.2.1 (f_MD_monthOf vxB vxpa vxhe k).2.2.2.2.2 vxtk).2.2.2.2.2.1 k).2.2.2.2.toNatClampNeg) 0 mo).2.1 (f_MD_putChain_1 (f_MD_go vxB (f_MD_findTaken_1 vxB (f_MD_monthOf vxB vxpa vxhe k).2.1 (f_MD_monthOf vxB vxpa vxhe k).2.2.1 (f_MD_monthOf vxB vxpa vxhe k).2.2.2.1 (f_MD_monthOf vxB vxpa vxhe k).2.2.2.2.1 (f_MD_monthOf vxB vxpa vxhe k).2.2.2.2.2 vxtk).2.2.1 (f_MD_findTaken_1 vxB (f_MD_monthOf vxB vxpa vxhe k).2.1 (f_MD_monthOf vxB vxpa vxhe k).2.2.1 (f_MD_monthOf vxB vxpa vxhe k).2.2.2.1 (f_MD_monthOf vxB vxpa vxhe k).2.2.2.2.1 (f_MD_monthOf vxB vxpa vxhe k).2.2.2.2.2 vxtk).2.2.2.2.2.1 k).2.2.2.1 (f_MD_findTaken_1 vxB (f_MD_monthOf vxB vxpa vxhe k).2.1 (f_MD_monthOf vxB vxpa vxhe k).2.2.1 (f_MD_monthOf vxB vxpa vxhe k).2.2.2.1 (f_MD_monthOf vxB vxpa vxhe k).2.2.2.2.1 (f_MD_monthOf vxB vxpa vxhe k).2.2.2.2.2 vxtk).2.1 vxto vxwa ((f_MD_go vxB (f_MD_findTaken_1 vxB (f_MD_monthOf vxB vxpa vxhe k).2.1 (f_MD_monthOf vxB vxpa vxhe k).2.2.1 (f_MD_monthOf vxB vxpa vxhe k).2.2.2.1 (f_MD_monthOf vxB vxpa vxhe k).2.2.2.2.1 (f_MD_monthOf vxB vxpa vxhe k).2.2.2.2.2 vxtk).2.2.1 (f_MD_findTaken_1 vxB (f_MD_monthOf vxB vxpa vxhe k).2.1 (f_MD_monthOf vxB vxpa vxhe k).2.2.1 (f_MD_monthOf vxB vxpa vxhe k).2.2.2.1 (f_MD_monthOf vxB vxpa vxhe k).2.2.2.2.1 (f_MD_monthOf vxB vxpa vxhe k).2.2.2.2.2 vxtk).2.2.2.2.2.1 k).2.2.2.2.toNatClampNeg) 0 mo).2.2 (0 + 32 * ((((f_MD_go vxB (f_MD_findTaken_1 vxB (f_MD_monthOf vxB vxpa vxhe k).2.1 (f_MD_monthOf vxB vxpa vxhe k).2.2.1 (f_MD_monthOf vxB vxpa vxhe k).2.2.2.1 (f_MD_monthOf vxB vxpa vxhe k).2.2.2.2.1 (f_MD_monthOf vxB vxpa vxhe k).2.2.2.2.2 vxtk).2.2.1 (f_MD_findTaken_1 vxB (f_MD_monthOf vxB vxpa vxhe k).2.1 (f_MD_monthOf vxB vxpa vxhe k).2.2.1 (f_MD_monthOf vxB vxpa vxhe k).2.2.2.1 (f_MD_monthOf vxB vxpa vxhe k).2.2.2.2.1 (f_MD_monthOf vxB vxpa vxhe k).2.2.2.2.2 vxtk).2.2.2.2.2.1 k).2.2.2.2.toNatClampNeg) + 24) / 25)) k 0 ((f_MD_putChain_1 (f_MD_go vxB (f_MD_findTaken_1 vxB (f_MD_monthOf vxB vxpa vxhe k).2.1 (f_MD_monthOf vxB vxpa vxhe k).2.2.1 (f_MD_monthOf vxB vxpa vxhe k).2.2.2.1 (f_MD_monthOf vxB vxpa vxhe k).2.2.2.2.1 (f_MD_monthOf vxB vxpa vxhe k).2.2.2.2.2 vxtk).2.2.1 (f_MD_findTaken_1 vxB (f_MD_monthOf vxB vxpa vxhe k).2.1 (f_MD_monthOf vxB vxpa vxhe k).2.2.1 (f_MD_monthOf vxB vxpa vxhe k).2.2.2.1 (f_MD_monthOf vxB vxpa vxhe k).2.2.2.2.1 (f_MD_monthOf vxB vxpa vxhe k).2.2.2.2.2 vxtk).2.2.2.2.2.1 k).2.2.2.1 (f_MD_findTaken_1 vxB (f_MD_monthOf vxB vxpa vxhe k).2.1 (f_MD_monthOf vxB vxpa vxhe k).2.2.1 (f_MD_monthOf vxB vxpa vxhe k).2.2.2.1 (f_MD_monthOf vxB vxpa vxhe k).2.2.2.2.1 (f_MD_monthOf vxB vxpa vxhe k).2.2.2.2.2 vxtk).2.1 vxto vxwa ((f_MD_go vxB (f_MD_findTaken_1 vxB (f_MD_monthOf vxB vxpa vxhe k).2.1 (f_MD_monthOf vxB vxpa vxhe k).2.2.1 (f_MD_monthOf vxB vxpa vxhe k).2.2.2.1 (f_MD_monthOf vxB vxpa vxhe k).2.2.2.2.1 (f_MD_monthOf vxB vxpa vxhe k).2.2.2.2.2 vxtk).2.2.1 (f_MD_findTaken_1 vxB (f_MD_monthOf vxB vxpa vxhe k).2.1 (f_MD_monthOf vxB vxpa vxhe k).2.2.1 (f_MD_monthOf vxB vxpa vxhe k).2.2.2.1 (f_MD_monthOf vxB vxpa vxhe k).2.2.2.2.1 (f_MD_monthOf vxB vxpa vxhe k).2.2.2.2.2 vxtk).2.2.2.2.2.1 k).2.2.2.2.toNatClampNeg) 0 mo).1 + 1)).2 (nI ((0 + 32 * ((((f_MD_go vxB (f_MD_findTaken_1 vxB (f_MD_monthOf vxB vxpa vxhe k).2.1 (f_MD_monthOf vxB vxpa vxhe k).2.2.1 (f_MD_monthOf vxB vxpa vxhe k).2.2.2.1 (f_MD_monthOf vxB vxpa vxhe k).2.2.2.2.1 (f_MD_monthOf vxB vxpa vxhe k).2.2.2.2.2 vxtk).2.2.1 (f_MD_findTaken_1 vxB (f_MD_monthOf vxB vxpa vxhe k).2.1 (f_MD_monthOf vxB vxpa vxhe k).2.2.1 (f_MD_monthOf vxB vxpa vxhe k).2.2.2.1 (f_MD_monthOf vxB vxpa vxhe k).2.2.2.2.1 (f_MD_monthOf vxB vxpa vxhe k).2.2.2.2.2 vxtk).2.2.2.2.2.1 k).2.2.2.2.toNatClampNeg) + 24) / 25)) + 40))
            else
              (0, 3, vxB, vxsh, vxcu, (f_MD_go vxB (f_MD_findTaken_1 vxB (f_MD_monthOf vxB vxpa vxhe k).2.1 (f_MD_monthOf vxB vxpa vxhe k).2.2.1 (f_MD_monthOf vxB vxpa vxhe k).2.2.2.1 (f_MD_monthOf vxB vxpa vxhe k).2.2.2.2.1 (f_MD_monthOf vxB vxpa vxhe k).2.2.2.2.2 vxtk).2.2.1 (f_MD_findTaken_1 vxB (f_MD_monthOf vxB vxpa vxhe k).2.1 (f_MD_monthOf vxB vxpa vxhe k).2.2.1 (f_MD_monthOf vxB vxpa vxhe k).2.2.2.1 (f_MD_monthOf vxB vxpa vxhe k).2.2.2.2.1 (f_MD_monthOf vxB vxpa vxhe k).2.2.2.2.2 vxtk).2.2.2.2.2.1 k).1, (f_MD_go vxB (f_MD_findTaken_1 vxB (f_MD_monthOf vxB vxpa vxhe k).2.1 (f_MD_monthOf vxB vxpa vxhe k).2.2.1 (f_MD_monthOf vxB vxpa vxhe k).2.2.2.1 (f_MD_monthOf vxB vxpa vxhe k).2.2.2.2.1 (f_MD_monthOf vxB vxpa vxhe k).2.2.2.2.2 vxtk).2.2.1 (f_MD_findTaken_1 vxB (f_MD_monthOf vxB vxpa vxhe k).2.1 (f_MD_monthOf vxB vxpa vxhe k).2.2.1 (f_MD_monthOf vxB vxpa vxhe k).2.2.2.1 (f_MD_monthOf vxB vxpa vxhe k).2.2.2.2.1 (f_MD_monthOf vxB vxpa vxhe k).2.2.2.2.2 vxtk).2.2.2.2.2.1 k).2.1, (f_MD_go vxB (f_MD_findTaken_1 vxB (f_MD_monthOf vxB vxpa vxhe k).2.1 (f_MD_monthOf vxB vxpa vxhe k).2.2.1 (f_MD_monthOf vxB vxpa vxhe k).2.2.2.1 (f_MD_monthOf vxB vxpa vxhe k).2.2.2.2.1 (f_MD_monthOf vxB vxpa vxhe k).2.2.2.2.2 vxtk).2.2.1 (f_MD_findTaken_1 vxB (f_MD_monthOf vxB vxpa vxhe k).2.1 (f_MD_monthOf vxB vxpa vxhe k).2.2.1 (f_MD_monthOf vxB vxpa vxhe k).2.2.2.1 (f_MD_monthOf vxB vxpa vxhe k).2.2.2.2.1 (f_MD_monthOf vxB vxpa vxhe k).2.2.2.2.2 vxtk).2.2.2.2.2.1 k).2.2.1, (f_MD_go vxB (f_MD_findTaken_1 vxB (f_MD_monthOf vxB vxpa vxhe k).2.1 (f_MD_monthOf vxB vxpa vxhe k).2.2.1 (f_MD_monthOf vxB vxpa vxhe k).2.2.2.1 (f_MD_monthOf vxB vxpa vxhe k).2.2.2.2.1 (f_MD_monthOf vxB vxpa vxhe k).2.2.2.2.2 vxtk).2.2.1 (f_MD_findTaken_1 vxB (f_MD_monthOf vxB vxpa vxhe k).2.1 (f_MD_monthOf vxB vxpa vxhe k).2.2.1 (f_MD_monthOf vxB vxpa vxhe k).2.2.2.1 (f_MD_monthOf vxB vxpa vxhe k).2.2.2.2.1 (f_MD_monthOf vxB vxpa vxhe k).2.2.2.2.2 vxtk).2.2.2.2.2.1 k).2.2.2.1, (nI ((f_MD_go vxB (f_MD_findTaken_1 vxB (f_MD_monthOf vxB vxpa vxhe k).2.1 (f_MD_monthOf vxB vxpa vxhe k).2.2.1 (f_MD_monthOf vxB vxpa vxhe k).2.2.2.1 (f_MD_monthOf vxB vxpa vxhe k).2.2.2.2.1 (f_MD_monthOf vxB vxpa vxhe k).2.2.2.2.2 vxtk).2.2.1 (f_MD_findTaken_1 vxB (f_MD_monthOf vxB vxpa vxhe k).2.1 (f_MD_monthOf vxB vxpa vxhe k).2.2.1 (f_MD_monthOf vxB vxpa vxhe k).2.2.2.1 (f_MD_monthOf vxB vxpa vxhe k).2.2.2.2.1 (f_MD_monthOf vxB vxpa vxhe k).2.2.2.2.2 vxtk).2.2.2.2.2.1 k).2.2.2.2.toNatClampNeg)), (f_MD_findTaken_1 vxB (f_MD_monthOf vxB vxpa vxhe k).2.1 (f_MD_monthOf vxB vxpa vxhe k).2.2.1 (f_MD_monthOf vxB vxpa vxhe k).2.2.2.1 (f_MD_monthOf vxB vxpa vxhe k).2.2.2.2.1 (f_MD_monthOf vxB vxpa vxhe k).2.2.2.2.2 vxtk).2.1, vxto, vxwa, vxmn)
          else
            f_MD_move_l34 mo fu (k + 1) vn vxth vxB vxsh vxcu (f_MD_monthOf vxB vxpa vxhe k).2.1 (f_MD_monthOf vxB vxpa vxhe k).2.2.1 (f_MD_monthOf vxB vxpa vxhe k).2.2.2.1 (f_MD_monthOf vxB vxpa vxhe k).2.2.2.2.1 (f_MD_monthOf vxB vxpa vxhe k).2.2.2.2.2 vxtk vxto vxwa vxmn
        else
          f_MD_move_l34 mo fu (k + 1) vn vxth vxB vxsh vxcu vxpa vxsp vxwh vxhe vxho vxtk vxto vxwa vxmn
def f_MD_move (xB : Nat → Int32) (xsh : Int32) (xcu : Int32) (xpa : Nat → Int32) (xsp : Int32) (xwh : Int32) (xhe : Nat → Int32) (xho : Int32) (xtk : Nat → Int32) (xto : Nat → Int32) (xwa : Nat → Int32) (xmn : Int32) (mo : Int32) : (Int32 × Int32 × (Nat → Int32) × Int32 × Int32 × (Nat → Int32) × Int32 × Int32 × (Nat → Int32) × Int32 × (Nat → Int32) × (Nat → Int32) × (Nat → Int32) × Int32) :=
  if (f_MD_in mo 0 11) = 0 then
    if xsh = 0 then
      (0, 2, xB, xsh, xcu, xpa, xsp, xwh, xhe, xho, xtk, xto, xwa, xmn)
    else
      (0, 1, xB, xsh, xcu, xpa, xsp, xwh, xhe, xho, xtk, xto, xwa, xmn)
  else
    if xsh = 0 then
      f_MD_move_l34 mo (12 + 1) 0 0 0 xB xsh xcu xpa xsp xwh xhe xho xtk xto xwa xmn
    else
      (0, 1, xB, xsh, xcu, xpa, xsp, xwh, xhe, xho, xtk, xto, xwa, xmn)
set_option maxHeartbeats 1000000 in
set_option maxRecDepth 100000 in
/-- move -/
theorem c_MD_move (l : Launch) (D : va_G) (cI cZ cJ : ClassId) (q : Nat → Nat) (xth : Int32) (xB : Nat → Int32) (xsh : Int32) (xcu : Int32) (xtp : Nat → Int32) (xtd : Int32) (xpa : Nat → Int32) (xsp : Int32) (xwh : Int32) (xhe : Nat → Int32) (xho : Int32) (xtk : Nat → Int32) (xto : Nat → Int32) (xwa : Nat → Int32) (xmn : Int32) (mo : Int32) : sf_M (S := (Int32 × Int32 × (Nat → Int32) × Int32 × Int32 × (Nat → Int32) × Int32 × Int32 × (Nat → Int32) × Int32 × (Nat → Int32) × (Nat → Int32) × (Nat → Int32) × Int32)) l D classes (sf_tys cI cZ cJ) y_MD_move (sf_ws y_MD_move b_MD_move 6 (some .int)) 8 182 [.ref (q 0), .int mo] (md_w q cI cZ xth xB xsh xcu xtp xtd xpa xsp xwh xhe xho xtk xto xwa xmn) (fun r => some (.int r.1)) (fun r => r = f_MD_move xB xsh xcu xpa xsp xwh xhe xho xtk xto xwa xmn mo) (fun r => (md_w q cI cZ r.2.1 r.2.2.1 r.2.2.2.1 r.2.2.2.2.1 xtp xtd r.2.2.2.2.2.1 r.2.2.2.2.2.2.1 r.2.2.2.2.2.2.2.1 r.2.2.2.2.2.2.2.2.1 r.2.2.2.2.2.2.2.2.2.1 r.2.2.2.2.2.2.2.2.2.2.1 r.2.2.2.2.2.2.2.2.2.2.2.1 r.2.2.2.2.2.2.2.2.2.2.2.2.1 r.2.2.2.2.2.2.2.2.2.2.2.2.2)) := by
  refine sf_ofW (S := (Int32 × Int32 × (Nat → Int32) × Int32 × Int32 × (Nat → Int32) × Int32 × Int32 × (Nat → Int32) × Int32 × (Nat → Int32) × (Nat → Int32) × (Nat → Int32) × Int32)) (by decide) (Nat.le_of_ble_eq_true rfl) ?_
  intro p e s m below meth c A ls R args Q hR hArgs hQ hC0 hr hK hP hD hl
  obtain ⟨hx, hb, hml, hown, hts, hA, hlk⟩ := hC0
  have hS : va_S A s.heap s.heap [] := va_S.rf
  have hl : lv_has ls 6 [(0, .ref (q 0)), (1, .int mo)] := hl
  refine lv_aload_n hx hb d_MD_move_0 rfl (lv_at hl 0 rfl) ?_
  refine lv_aload_n hx hb d_MD_move_1 rfl (lv_at hl 0 rfl) ?_
  refine va_get (D := D) (ci := 3) (v := .int xsh) (C := R_MD) (T := F_MD) (N := 15) hx hb hts i_MD hown hK hP 0 rfl rfl 2 (by decide) (hts _ wd_577) (fun _ h9 => h9) rfl d_MD_move_2 ?_
  refine lv_iload_n hx hb d_MD_move_5 rfl (lv_at hl 1 rfl) ?_
  refine lv_iconst (v := 0) hx hb d_MD_move_6 (by decide) ?_
  refine lv_bipush (v := 11) hx hb d_MD_move_7 (by decide) ?_
  refine sf_callSr (S := Int32) (rest := [.int xsh, .ref (q 0)]) ⟨hx, hb, hml, hown, hts⟩ (c_MD_in l D cI cZ cJ mo 0 11) (sf_cwS lk_MD_44 hts (fun _ h => h) (by rw [hR]; exact ⟨Nat.le_of_ble_eq_true rfl, Nat.le_of_ble_eq_true rfl⟩)) hK hP hD hS hA [] rfl rfl (fun _ => rfl) rfl rfl hl.1 (Nat.le_of_ble_eq_true rfl) d_MD_move_9 ⟨Nat.zero_le _, Nat.zero_le _⟩ (fun u_1 H locs hu_1 hP hS => ?_)
  refine lv_if_ne (tgt := 19) hx hb d_MD_move_12 (by decide) (fun c_2 => ?_) (fun c_2 => ?_)
  · refine lv_iconst (v := 0) hx hb d_MD_move_19 (by decide) ?_
    refine lv_iconst (v := 0) hx hb d_MD_move_20 (by decide) ?_
    refine lv_iconst (v := 0) hx hb d_MD_move_21 (by decide) ?_
    by_cases hs0 : xsh = 0
    · rw [hs0]
      refine sf_callVw (S := Unit) (rest := []) ⟨hx, hb, hml, hown, hts⟩ (c_MD_throwing_0 l D cI cZ cJ q xth xB xsh xcu xtp xtd xpa xsp xwh xhe xho xtk xto xwa xmn) (sf_cwV lk_MD_117 hts (fun _ h => h) (by rw [hR]; exact ⟨Nat.le_of_ble_eq_true rfl, Nat.le_of_ble_eq_true rfl⟩)) hK hP hD hS hA (fun _ => by simp only [md_w_fst]) (ci := 3) (q0 := 0) rfl rfl rfl rfl rfl hl.1 (Nat.le_of_ble_eq_true rfl) d_MD_move_22 ⟨Nat.zero_le _, Nat.zero_le _⟩ (fun u H locs hu hP hD hS => ?_)
      have hP : va_P D classes (md_w q cI cZ 0 xB xsh xcu xtp xtd xpa xsp xwh xhe xho xtk xto xwa xmn) H := hP
      have hD : va_D A (md_w q cI cZ 0 xB xsh xcu xtp xtd xpa xsp xwh xhe xho xtk xto xwa xmn) := hD
      refine lv_if_eq (tgt := 30) hx hb d_MD_move_25 (by decide) (fun c_3 => ?_) (fun c_3 => absurd (by decide) c_3)
      have hmo9 : ¬ mo = -1 := sf_nm1 (by rw [← hu_1]; exact c_2)
      refine lv_iconst (v := 0) hx hb d_MD_move_30 (by decide) ?_
      refine lv_istore_n (lv' := [(2, .int 0), (0, .ref (q 0)), (1, .int mo)]) hx hb d_MD_move_31 rfl hl (by decide) rfl (fun ls hl => ?_)
      refine lv_iconst (v := 0) hx hb d_MD_move_32 (by decide) ?_
      refine lv_istore_n (lv' := [(3, .int 0), (2, .int 0), (0, .ref (q 0)), (1, .int mo)]) hx hb d_MD_move_33 rfl hl (by decide) rfl (fun ls hl => ?_)
      have loop34 : ∀ (fu k : Nat) (vn : Int32) (vxth : Int32) (vxB : (Nat → Int32)) (vxsh : Int32) (vxcu : Int32) (vxpa : (Nat → Int32)) (vxsp : Int32) (vxwh : Int32) (vxhe : (Nat → Int32)) (vxho : Int32) (vxtk : (Nat → Int32)) (vxto : (Nat → Int32)) (vxwa : (Nat → Int32)) (vxmn : Int32), k ≤ 12 → k + fu = 12 + 1 → f_MD_move_l34 mo fu k vn vxth vxB vxsh vxcu vxpa vxsp vxwh vxhe vxho vxtk vxto vxwa vxmn = f_MD_move xB xsh xcu xpa xsp xwh xhe xho xtk xto xwa xmn mo → ∀ (H : Heap) (locs : List Loc), va_P D classes (md_w q cI cZ vxth vxB vxsh vxcu xtp xtd vxpa vxsp vxwh vxhe vxho vxtk vxto vxwa vxmn) H → va_D A (md_w q cI cZ vxth vxB vxsh vxcu xtp xtd vxpa vxsp vxwh vxhe vxho vxtk vxto vxwa vxmn) → va_S A s.heap H locs → ∀ (ls : Array Slot), lv_has ls 6 [(0, .ref (q 0)), (1, .int mo), (2, .int vn), (3, .int (nI k))] → W p l e R s m args below meth c H locs 0 0 Q (F0 m 34 ls []) := by
        intro fu
        induction fu with
        | zero =>
          intro k vn vxth vxB vxsh vxcu vxpa vxsp vxwh vxhe vxho vxtk vxto vxwa vxmn h1 h2
          exact absurd h2 (by omega)
        | succ fu ih34 =>
          intro k vn vxth vxB vxsh vxcu vxpa vxsp vxwh vxhe vxho vxtk vxto vxwa vxmn hk34 hkn34 heq34 H locs hP hD hS ls hl
          refine lv_iload_n hx hb d_MD_move_34 rfl (lv_at hl 3 rfl) ?_
          refine lv_bipush (v := 12) hx hb d_MD_move_35 (by decide) ?_
          refine lv_icmp_ge (tgt := 152) hx hb d_MD_move_37 (by decide) (fun c_4 => ?_) (fun c_4 => ?_)
          · refine lv_iload_n hx hb d_MD_move_152 rfl (lv_at hl 2 rfl) ?_
            rw [hQ]
            exact sf_iret (vn, vxth, vxB, vxsh, vxcu, vxpa, vxsp, vxwh, vxhe, vxho, vxtk, vxto, vxwa, vxmn) hx hb hr hlk hS rfl rfl (by rw [← heq34]; simp only [f_MD_move_l34, ← hu_1, eq_true c_4, ↓reduceIte]) hP d_MD_move_153
          · have hlt : k < 12 := sf_lt_of (N := 12) (by omega) (by omega) c_4
            refine lv_aload_n hx hb d_MD_move_40 rfl (lv_at hl 0 rfl) ?_
            refine lv_iload_n hx hb d_MD_move_41 rfl (lv_at hl 3 rfl) ?_
            refine sf_callVw (S := Int32) (rest := []) ⟨hx, hb, hml, hown, hts⟩ (c_MD_isThere l D cI cZ cJ q vxth vxB vxsh vxcu xtp xtd vxpa vxsp vxwh vxhe vxho vxtk vxto vxwa vxmn k (by omega)) (sf_cwV lk_MD_95 hts (fun _ h => h) (by rw [hR]; exact ⟨Nat.le_of_ble_eq_true rfl, Nat.le_of_ble_eq_true rfl⟩)) hK hP hD hS hA (fun _ => by simp only [md_w_fst]) (ci := 3) (q0 := 0) rfl rfl rfl rfl rfl hl.1 (Nat.le_of_ble_eq_true rfl) d_MD_move_42 ⟨Nat.zero_le _, Nat.zero_le _⟩ (fun u_5 H locs hu_5 hP hD hS => ?_)
            have hP : va_P D classes (md_w q cI cZ vxth vxB vxsh vxcu xtp xtd vxpa vxsp vxwh vxhe vxho vxtk vxto vxwa vxmn) H := hP
            have hD : va_D A (md_w q cI cZ vxth vxB vxsh vxcu xtp xtd vxpa vxsp vxwh vxhe vxho vxtk vxto vxwa vxmn) := hD
            refine lv_if_eq (tgt := 146) hx hb d_MD_move_45 (by decide) (fun c_6 => ?_) (fun c_6 => ?_)
            · refine lv_iinc (v := (nI (k + 1))) (lv' := [(3, .int (nI (k + 1))), (0, .ref (q 0)), (1, .int mo), (2, .int vn)]) hx hb d_MD_move_146 hl (k := 3) rfl (nI_1 k) (by decide) rfl (fun ls hl => ?_)
              refine lv_goto (tgt := 34) hx hb d_MD_move_149 (by decide) ?_
              exact ih34 (k + 1) vn vxth vxB vxsh vxcu vxpa vxsp vxwh vxhe vxho vxtk vxto vxwa vxmn (by omega) (by omega) (by rw [← heq34]; simp only [f_MD_move_l34, ← hu_1, ← hu_5, eq_false c_4, eq_true c_6, ↓reduceIte]) _ _ hP hD hS ls (lv_sub hl [1, 2, 3, 0] rfl)
            · refine lv_aload_n hx hb d_MD_move_48 rfl (lv_at hl 0 rfl) ?_
              refine lv_iload_n hx hb d_MD_move_49 rfl (lv_at hl 3 rfl) ?_
              refine sf_callVw (S := Int32) (rest := []) ⟨hx, hb, hml, hown, hts⟩ (c_MD_isSlow l D cI cZ cJ q vxth vxB vxsh vxcu xtp xtd vxpa vxsp vxwh vxhe vxho vxtk vxto vxwa vxmn k (by omega)) (sf_cwV lk_MD_67 hts (fun _ h => h) (by rw [hR]; exact ⟨Nat.le_of_ble_eq_true rfl, Nat.le_of_ble_eq_true rfl⟩)) hK hP hD hS hA (fun _ => by simp only [md_w_fst]) (ci := 3) (q0 := 0) rfl rfl rfl rfl rfl hl.1 (Nat.le_of_ble_eq_true rfl) d_MD_move_50 ⟨Nat.zero_le _, Nat.zero_le _⟩ (fun u_7 H locs hu_7 hP hD hS => ?_)
              have hP : va_P D classes (md_w q cI cZ vxth vxB vxsh vxcu xtp xtd vxpa vxsp vxwh vxhe vxho vxtk vxto vxwa vxmn) H := hP
              have hD : va_D A (md_w q cI cZ vxth vxB vxsh vxcu xtp xtd vxpa vxsp vxwh vxhe vxho vxtk vxto vxwa vxmn) := hD
              refine lv_if_ne (tgt := 146) hx hb d_MD_move_53 (by decide) (fun c_8 => ?_) (fun c_8 => ?_)
              · refine lv_iinc (v := (nI (k + 1))) (lv' := [(3, .int (nI (k + 1))), (0, .ref (q 0)), (1, .int mo), (2, .int vn)]) hx hb d_MD_move_146 hl (k := 3) rfl (nI_1 k) (by decide) rfl (fun ls hl => ?_)
                refine lv_goto (tgt := 34) hx hb d_MD_move_149 (by decide) ?_
                exact ih34 (k + 1) vn vxth vxB vxsh vxcu vxpa vxsp vxwh vxhe vxho vxtk vxto vxwa vxmn (by omega) (by omega) (by rw [← heq34]; simp only [f_MD_move_l34, ← hu_1, ← hu_5, ← hu_7, eq_false c_4, eq_false c_6, eq_false c_8, ↓reduceIte]) _ _ hP hD hS ls (lv_sub hl [1, 2, 3, 0] rfl)
              · refine lv_aload_n hx hb d_MD_move_56 rfl (lv_at hl 0 rfl) ?_
                refine lv_iload_n hx hb d_MD_move_57 rfl (lv_at hl 3 rfl) ?_
                refine sf_callVw (S := (Int32 × (Nat → Int32) × Int32 × Int32 × (Nat → Int32) × Int32)) (rest := []) ⟨hx, hb, hml, hown, hts⟩ (c_MD_monthOf l D cI cZ cJ q vxth vxB vxsh vxcu xtp xtd vxpa vxsp vxwh vxhe vxho vxtk vxto vxwa vxmn k (by omega)) (sf_cwV lk_MD_137 hts (fun _ h => h) (by rw [hR]; exact ⟨Nat.le_of_ble_eq_true rfl, Nat.le_of_ble_eq_true rfl⟩)) hK hP hD hS hA (fun _ => by simp only [md_w_fst]) (ci := 3) (q0 := 0) rfl rfl rfl rfl rfl hl.1 (Nat.le_of_ble_eq_true rfl) d_MD_move_58 ⟨Nat.zero_le _, Nat.zero_le _⟩ (fun u_9 H locs hu_9 hP hD hS => ?_)
                have hP : va_P D classes (md_w q cI cZ vxth vxB vxsh vxcu xtp xtd u_9.2.1 u_9.2.2.1 u_9.2.2.2.1 u_9.2.2.2.2.1 u_9.2.2.2.2.2 vxtk vxto vxwa vxmn) H := hP
                have hD : va_D A (md_w q cI cZ vxth vxB vxsh vxcu xtp xtd u_9.2.1 u_9.2.2.1 u_9.2.2.2.1 u_9.2.2.2.2.1 u_9.2.2.2.2.2 vxtk vxto vxwa vxmn) := hD
                refine lv_iload_n hx hb d_MD_move_61 rfl (lv_at hl 1 rfl) ?_
                refine lv_icmp_ne (tgt := 146) hx hb d_MD_move_62 (by decide) (fun c_10 => ?_) (fun c_10 => ?_)
                · refine lv_iinc (v := (nI (k + 1))) (lv' := [(3, .int (nI (k + 1))), (0, .ref (q 0)), (1, .int mo), (2, .int vn)]) hx hb d_MD_move_146 hl (k := 3) rfl (nI_1 k) (by decide) rfl (fun ls hl => ?_)
                  refine lv_goto (tgt := 34) hx hb d_MD_move_149 (by decide) ?_
                  exact ih34 (k + 1) vn vxth vxB vxsh vxcu u_9.2.1 u_9.2.2.1 u_9.2.2.2.1 u_9.2.2.2.2.1 u_9.2.2.2.2.2 vxtk vxto vxwa vxmn (by omega) (by omega) (by rw [← heq34]; simp only [f_MD_move_l34, ← hu_1, ← hu_5, ← hu_7, ← hu_9, eq_false c_4, eq_false c_6, eq_true c_8, eq_false c_10, ↓reduceIte]) _ _ hP hD hS ls (lv_sub hl [1, 2, 3, 0] rfl)
                · refine lv_aload_n hx hb d_MD_move_65 rfl (lv_at hl 0 rfl) ?_
                  refine lv_iconst (v := 1) hx hb d_MD_move_66 (by decide) ?_
                  refine sf_callVw (S := (Int32 × (Nat → Int32) × (Nat → Int32) × Int32 × Int32 × (Nat → Int32) × Int32)) (rest := []) ⟨hx, hb, hml, hown, hts⟩ (c_MD_findTaken_1 l D cI cZ cJ q vxth vxB vxsh vxcu xtp xtd u_9.2.1 u_9.2.2.1 u_9.2.2.2.1 u_9.2.2.2.2.1 u_9.2.2.2.2.2 vxtk vxto vxwa vxmn) (sf_cwV lk_MD_123 hts (fun _ h => h) (by rw [hR]; exact ⟨Nat.le_of_ble_eq_true rfl, Nat.le_of_ble_eq_true rfl⟩)) hK hP hD hS hA (fun _ => by simp only [md_w_fst]) (ci := 3) (q0 := 0) rfl rfl rfl rfl rfl hl.1 (Nat.le_of_ble_eq_true rfl) d_MD_move_67 ⟨Nat.zero_le _, Nat.zero_le _⟩ (fun u_11 H locs hu_11 hP hD hS => ?_)
                  have hP : va_P D classes (md_w q cI cZ vxth vxB vxsh vxcu xtp xtd u_11.2.2.1 u_11.2.2.2.1 u_11.2.2.2.2.1 u_11.2.2.2.2.2.1 u_11.2.2.2.2.2.2 u_11.2.1 vxto vxwa vxmn) H := hP
                  have hD : va_D A (md_w q cI cZ vxth vxB vxsh vxcu xtp xtd u_11.2.2.1 u_11.2.2.2.1 u_11.2.2.2.2.1 u_11.2.2.2.2.2.1 u_11.2.2.2.2.2.2 u_11.2.1 vxto vxwa vxmn) := hD
                  refine lv_istore (lv' := [(4, .int u_11.1), (0, .ref (q 0)), (1, .int mo), (2, .int vn), (3, .int (nI k))]) hx hb d_MD_move_70 hl (by decide) rfl (fun ls hl => ?_)
                  refine lv_aload_n hx hb d_MD_move_72 rfl (lv_at hl 1 rfl) ?_
                  refine lv_iload_n hx hb d_MD_move_73 rfl (lv_at hl 4 rfl) ?_
                  refine sf_callVw (S := ((Nat → Int32) × Int32 × Int32 × (Nat → Int32) × Int32)) (rest := []) ⟨hx, hb, hml, hown, hts⟩ (c_MD_go l D cI cZ cJ q vxth vxB vxsh vxcu xtp xtd u_11.2.2.1 u_11.2.2.2.1 u_11.2.2.2.2.1 u_11.2.2.2.2.2.1 u_11.2.2.2.2.2.2 u_11.2.1 vxto vxwa vxmn k (by omega)) (sf_cwV lk_MD_91 hts (fun _ h => h) (by rw [hR]; exact ⟨Nat.le_of_ble_eq_true rfl, Nat.le_of_ble_eq_true rfl⟩)) hK hP hD hS hA (fun _ => by simp only [md_w_fst]) (ci := 3) (q0 := 0) rfl rfl rfl rfl rfl hl.1 (Nat.le_of_ble_eq_true rfl) d_MD_move_74 ⟨Nat.zero_le _, Nat.zero_le _⟩ (fun u_12 H locs hu_12 hP hD hS => ?_)
                  have hP : va_P D classes (md_w q cI cZ vxth vxB vxsh vxcu xtp xtd u_12.1 u_12.2.1 u_12.2.2.1 u_12.2.2.2.1 u_12.2.2.2.2 u_11.2.1 vxto vxwa vxmn) H := hP
                  have hD : va_D A (md_w q cI cZ vxth vxB vxsh vxcu xtp xtd u_12.1 u_12.2.1 u_12.2.2.1 u_12.2.2.2.1 u_12.2.2.2.2 u_11.2.1 vxto vxwa vxmn) := hD
                  obtain ⟨u_13, hu_13⟩ : ∃ z, z = u_12.2.2.2.2.toNatClampNeg := ⟨_, rfl⟩
                  obtain ⟨he_u_13, hb_u_13, hd_u_13⟩ := md_GO.holds (r := u_12) (by rw [hu_12]; exact f_MD_go_ok24 _ _ _ _) (by rw [hu_12]; exact md_MO hu_9 (by rw [c_10]; exact hmo9) _ _) hu_13
                  rw [he_u_13] at hP hD
                  refine lv_aload_n hx hb d_MD_move_77 rfl (lv_at hl 1 rfl) ?_
                  refine lv_iconst (v := 0) hx hb d_MD_move_78 (by decide) ?_
                  refine lv_iconst (v := 0) hx hb d_MD_move_79 (by decide) ?_
                  refine lv_iload hx hb d_MD_move_80 (lv_at hl 0 rfl) ?_
                  refine lv_aload_n hx hb d_MD_move_82 rfl (lv_at hl 1 rfl) ?_
                  refine va_get (D := D) (ci := 3) (v := .int (nI u_13)) (C := R_MD) (T := F_MD) (N := 15) hx hb hts i_MD hown hK hP 0 rfl rfl 10 (by decide) (hts _ wd_585) (fun _ h9 => h9) rfl d_MD_move_83 ?_
                  refine lv_bipush (v := 25) hx hb d_MD_move_86 (by decide) ?_
                  refine lv_iadd hx hb d_MD_move_88 ?_
                  rw [show (((nI u_13) + 25) : Int32) = (nI (u_13 + 25)) from nI_add u_13 25]
                  refine lv_iconst (v := 1) hx hb d_MD_move_89 (by decide) ?_
                  refine lv_isub hx hb d_MD_move_90 ?_
                  rw [show (((nI (u_13 + 25)) - 1) : Int32) = (nI ((u_13 + 25) - 1)) from pk_sub (a := (u_13 + 25)) (b := 1) (by omega)]
                  refine lv_bipush (v := 25) hx hb d_MD_move_91 (by decide) ?_
                  refine lv_idiv hx hb d_MD_move_93 (by decide) ?_
                  rw [show ((nI ((u_13 + 25) - 1)) / 25 : Int32) = (nI (((u_13 + 25) - 1) / 25)) from pk_div (a := ((u_13 + 25) - 1)) (d := 25) (by omega) (by omega) (by omega)]
                  refine lv_icmp_ge (tgt := 101) hx hb d_MD_move_94 (by decide) (fun c_14 => ?_) (fun c_14 => ?_)
                  · refine lv_iconst (v := 0) hx hb d_MD_move_101 (by decide) ?_
                    refine lv_iconst (v := 0) hx hb d_MD_move_102 (by decide) ?_
                    refine sf_callVw (S := Unit) (rest := []) ⟨hx, hb, hml, hown, hts⟩ (c_MD_throwing_0 l D cI cZ cJ q vxth vxB vxsh vxcu xtp xtd u_12.1 u_12.2.1 u_12.2.2.1 u_12.2.2.2.1 (nI u_13) u_11.2.1 vxto vxwa vxmn) (sf_cwV lk_MD_117 hts (fun _ h => h) (by rw [hR]; exact ⟨Nat.le_of_ble_eq_true rfl, Nat.le_of_ble_eq_true rfl⟩)) hK hP hD hS hA (fun _ => by simp only [md_w_fst]) (ci := 3) (q0 := 0) rfl rfl rfl rfl rfl hl.1 (Nat.le_of_ble_eq_true rfl) d_MD_move_103 ⟨Nat.zero_le _, Nat.zero_le _⟩ (fun u H locs hu hP hD hS => ?_)
                    have hP : va_P D classes (md_w q cI cZ 0 vxB vxsh vxcu xtp xtd u_12.1 u_12.2.1 u_12.2.2.1 u_12.2.2.2.1 (nI u_13) u_11.2.1 vxto vxwa vxmn) H := hP
                    have hD : va_D A (md_w q cI cZ 0 vxB vxsh vxcu xtp xtd u_12.1 u_12.2.1 u_12.2.2.1 u_12.2.2.2.1 (nI u_13) u_11.2.1 vxto vxwa vxmn) := hD
                    refine lv_if_eq (tgt := 111) hx hb d_MD_move_106 (by decide) (fun c_15 => ?_) (fun c_15 => absurd (by decide) c_15)
                    have hfr9 : (u_13 + 24) / 25 ≤ md_nf u_11.2.1 0 (16 - 0) := by have := md_room' (md_FT1 hu_11) (by omega) (by omega) c_14; omega
                    refine lv_aload_n hx hb d_MD_move_111 rfl (lv_at hl 1 rfl) ?_
                    refine lv_iconst (v := 0) hx hb d_MD_move_112 (by decide) ?_
                    refine va_put (D := D) (ci := 3) (v := .int 0) (ty := .int) (C := R_MD) (T := F_MD) (N := 15) hx hb hts i_MD t_MD t_MD_ok n_MD hown hK hP hD hS 0 rfl rfl 14 (by decide) (hts _ wd_589) (fun _ h9 => h9) rfl (by decide +kernel) rfl rfl (Nat.le_of_ble_eq_true rfl) d_MD_move_113 (fun H locs hP hD hS => ?_)
                    have hP : va_P D classes (md_w q cI cZ 0 vxB vxsh vxcu xtp xtd u_12.1 u_12.2.1 u_12.2.2.1 u_12.2.2.2.1 (nI u_13) u_11.2.1 vxto vxwa 0) H := hP
                    have hD : va_D A (md_w q cI cZ 0 vxB vxsh vxcu xtp xtd u_12.1 u_12.2.1 u_12.2.2.1 u_12.2.2.2.1 (nI u_13) u_11.2.1 vxto vxwa 0) := hD
                    refine lv_aload_n hx hb d_MD_move_116 rfl (lv_at hl 1 rfl) ?_
                    refine lv_iconst (v := 1) hx hb d_MD_move_117 (by decide) ?_
                    refine lv_iload_n hx hb d_MD_move_118 rfl (lv_at hl 2 rfl) ?_
                    refine sf_callVw (S := (Int32 × (Nat → Int32) × (Nat → Int32))) (rest := []) ⟨hx, hb, hml, hown, hts⟩ (c_MD_putChain_1 l D cI cZ cJ q 0 vxB vxsh vxcu xtp xtd u_12.1 u_12.2.1 u_12.2.2.1 u_12.2.2.2.1 u_11.2.1 vxto vxwa u_13 0 mo (by omega) (by omega) (by omega) hfr9) (sf_cwV lk_MD_126 hts (fun _ h => h) (by rw [hR]; exact ⟨Nat.le_of_ble_eq_true rfl, Nat.le_of_ble_eq_true rfl⟩)) hK hP hD hS hA (fun _ => by simp only [md_w_fst]) (ci := 3) (q0 := 0) rfl rfl rfl rfl rfl hl.1 (Nat.le_of_ble_eq_true rfl) d_MD_move_119 ⟨Nat.zero_le _, Nat.zero_le _⟩ (fun u_16 H locs hu_16 hP hD hS => ?_)
                    have hP : va_P D classes (md_w q cI cZ 0 vxB vxsh vxcu xtp xtd u_12.1 u_12.2.1 u_12.2.2.1 u_12.2.2.2.1 (nI u_13) u_11.2.1 u_16.2.1 u_16.2.2 (nI (0 + 32 * ((u_13 + 24) / 25)))) H := hP
                    have hD : va_D A (md_w q cI cZ 0 vxB vxsh vxcu xtp xtd u_12.1 u_12.2.1 u_12.2.2.1 u_12.2.2.2.1 (nI u_13) u_11.2.1 u_16.2.1 u_16.2.2 (nI (0 + 32 * ((u_13 + 24) / 25)))) := hD
                    refine lv_istore (lv' := [(5, .int u_16.1), (4, .int u_11.1), (0, .ref (q 0)), (1, .int mo), (2, .int vn), (3, .int (nI k))]) hx hb d_MD_move_122 hl (by decide) rfl (fun ls hl => ?_)
                    refine lv_aload_n hx hb d_MD_move_124 rfl (lv_at hl 2 rfl) ?_
                    refine lv_iload_n hx hb d_MD_move_125 rfl (lv_at hl 5 rfl) ?_
                    refine lv_iconst (v := 0) hx hb d_MD_move_126 (by decide) ?_
                    refine lv_iload hx hb d_MD_move_127 (lv_at hl 0 rfl) ?_
                    refine lv_iconst (v := 1) hx hb d_MD_move_129 (by decide) ?_
                    refine lv_iadd hx hb d_MD_move_130 ?_
                    refine sf_callVw (S := ((Nat → Int32) × (Nat → Int32))) (rest := []) ⟨hx, hb, hml, hown, hts⟩ (c_MD_putTable l D cI cZ cJ q 0 vxB vxsh vxcu xtp xtd u_12.1 u_12.2.1 u_12.2.2.1 u_12.2.2.2.1 (nI u_13) u_11.2.1 u_16.2.1 u_16.2.2 (0 + 32 * ((u_13 + 24) / 25)) k 0 (u_16.1 + 1) (by omega) (by omega)) (sf_cwV lk_MD_129 hts (fun _ h => h) (by rw [hR]; exact ⟨Nat.le_of_ble_eq_true rfl, Nat.le_of_ble_eq_true rfl⟩)) hK hP hD hS hA (fun _ => by simp only [md_w_fst]) (ci := 3) (q0 := 0) rfl rfl rfl rfl rfl hl.1 (Nat.le_of_ble_eq_true rfl) d_MD_move_131 ⟨Nat.zero_le _, Nat.zero_le _⟩ (fun u_17 H locs hu_17 hP hD hS => ?_)
                    have hP : va_P D classes (md_w q cI cZ 0 vxB vxsh vxcu xtp xtd u_12.1 u_12.2.1 u_12.2.2.1 u_12.2.2.2.1 (nI u_13) u_11.2.1 u_17.1 u_17.2 (nI ((0 + 32 * ((u_13 + 24) / 25)) + 40))) H := hP
                    have hD : va_D A (md_w q cI cZ 0 vxB vxsh vxcu xtp xtd u_12.1 u_12.2.1 u_12.2.2.1 u_12.2.2.2.1 (nI u_13) u_11.2.1 u_17.1 u_17.2 (nI ((0 + 32 * ((u_13 + 24) / 25)) + 40))) := hD
                    refine lv_aload_n hx hb d_MD_move_134 rfl (lv_at hl 2 rfl) ?_
                    refine sf_callVw (S := (Int32 × (Nat → Int32) × Int32)) (rest := []) ⟨hx, hb, hml, hown, hts⟩ (c_MD_comes l D cI cZ cJ q 0 vxB vxsh vxcu xtp xtd u_12.1 u_12.2.1 u_12.2.2.1 u_12.2.2.2.1 (nI u_13) u_11.2.1 u_17.1 u_17.2 ((0 + 32 * ((u_13 + 24) / 25)) + 40) (by omega) (md_TOpt hu_17 (by omega) (md_TOpc1 hu_16 (by omega) (by omega) (by omega) hfr9 (md_TO0 _)))) (sf_cwV lk_MD_133 hts (fun _ h => h) (by rw [hR]; exact ⟨Nat.le_of_ble_eq_true rfl, Nat.le_of_ble_eq_true rfl⟩)) hK hP hD hS hA (fun _ => by simp only [md_w_fst]) (ci := 3) (q0 := 0) rfl rfl rfl rfl rfl hl.1 (Nat.le_of_ble_eq_true rfl) d_MD_move_135 ⟨Nat.zero_le _, Nat.zero_le _⟩ (fun u_18 H locs hu_18 hP hD hS => ?_)
                    have hP : va_P D classes (md_w q cI cZ 0 u_18.2.1 u_18.2.2 (-1) xtp xtd u_12.1 u_12.2.1 u_12.2.2.1 u_12.2.2.2.1 (nI u_13) u_11.2.1 u_17.1 u_17.2 (nI ((0 + 32 * ((u_13 + 24) / 25)) + 40))) H := hP
                    have hD : va_D A (md_w q cI cZ 0 u_18.2.1 u_18.2.2 (-1) xtp xtd u_12.1 u_12.2.1 u_12.2.2.1 u_12.2.2.2.1 (nI u_13) u_11.2.1 u_17.1 u_17.2 (nI ((0 + 32 * ((u_13 + 24) / 25)) + 40))) := hD
                    refine lv_if_ne (tgt := 143) hx hb d_MD_move_138 (by decide) (fun c_19 => ?_) (fun c_19 => ?_)
                    · refine lv_iinc (v := (vn + 1)) (lv' := [(2, .int (vn + 1)), (5, .int u_16.1), (4, .int u_11.1), (0, .ref (q 0)), (1, .int mo), (3, .int (nI k))]) hx hb d_MD_move_143 hl (k := 4) rfl rfl (by decide) rfl (fun ls hl => ?_)
                      refine lv_iinc (v := (nI (k + 1))) (lv' := [(3, .int (nI (k + 1))), (2, .int (vn + 1)), (5, .int u_16.1), (4, .int u_11.1), (0, .ref (q 0)), (1, .int mo)]) hx hb d_MD_move_146 hl (k := 5) rfl (nI_1 k) (by decide) rfl (fun ls hl => ?_)
                      refine lv_goto (tgt := 34) hx hb d_MD_move_149 (by decide) ?_
                      exact ih34 (k + 1) (vn + 1) 0 u_18.2.1 u_18.2.2 (-1) u_12.1 u_12.2.1 u_12.2.2.1 u_12.2.2.2.1 (nI u_13) u_11.2.1 u_17.1 u_17.2 (nI ((0 + 32 * ((u_13 + 24) / 25)) + 40)) (by omega) (by omega) (by rw [← heq34]; simp only [f_MD_move_l34, ← hu_1, ← hu_5, ← hu_7, ← hu_9, ← hu_11, ← hu_12, ← hu_13, ← hu_16, ← hu_17, ← hu_18, eq_false c_4, eq_false c_6, eq_true c_8, eq_true c_10, eq_true c_14, eq_false c_19, ↓reduceIte]) _ _ hP hD hS ls (lv_sub hl [4, 5, 1, 0] rfl)
                    · refine lv_iconst (v := (-1)) hx hb d_MD_move_141 (by decide) ?_
                      rw [hQ]
                      exact sf_iret ((-1), 0, u_18.2.1, u_18.2.2, (-1), u_12.1, u_12.2.1, u_12.2.2.1, u_12.2.2.2.1, (nI u_13), u_11.2.1, u_17.1, u_17.2, (nI ((0 + 32 * ((u_13 + 24) / 25)) + 40))) hx hb hr hlk hS rfl rfl (by rw [← heq34]; simp only [f_MD_move_l34, ← hu_1, ← hu_5, ← hu_7, ← hu_9, ← hu_11, ← hu_12, ← hu_13, ← hu_16, ← hu_17, ← hu_18, eq_false c_4, eq_false c_6, eq_true c_8, eq_true c_10, eq_true c_14, eq_true c_19, ↓reduceIte]) hP d_MD_move_142
                  · refine lv_iconst (v := 1) hx hb d_MD_move_97 (by decide) ?_
                    refine lv_goto (tgt := 102) hx hb d_MD_move_98 (by decide) ?_
                    refine lv_iconst (v := 0) hx hb d_MD_move_102 (by decide) ?_
                    refine sf_callVw (S := Unit) (rest := []) ⟨hx, hb, hml, hown, hts⟩ (c_MD_throwing_3 l D cI cZ cJ q vxth vxB vxsh vxcu xtp xtd u_12.1 u_12.2.1 u_12.2.2.1 u_12.2.2.2.1 (nI u_13) u_11.2.1 vxto vxwa vxmn 0) (sf_cwV lk_MD_117 hts (fun _ h => h) (by rw [hR]; exact ⟨Nat.le_of_ble_eq_true rfl, Nat.le_of_ble_eq_true rfl⟩)) hK hP hD hS hA (fun _ => by simp only [md_w_fst]) (ci := 3) (q0 := 0) rfl rfl rfl rfl rfl hl.1 (Nat.le_of_ble_eq_true rfl) d_MD_move_103 ⟨Nat.zero_le _, Nat.zero_le _⟩ (fun u H locs hu hP hD hS => ?_)
                    have hP : va_P D classes (md_w q cI cZ 3 vxB vxsh vxcu xtp xtd u_12.1 u_12.2.1 u_12.2.2.1 u_12.2.2.2.1 (nI u_13) u_11.2.1 vxto vxwa vxmn) H := hP
                    have hD : va_D A (md_w q cI cZ 3 vxB vxsh vxcu xtp xtd u_12.1 u_12.2.1 u_12.2.2.1 u_12.2.2.2.1 (nI u_13) u_11.2.1 vxto vxwa vxmn) := hD
                    refine lv_if_eq (tgt := 111) hx hb d_MD_move_106 (by decide) (fun c_20 => absurd c_20 (by decide)) (fun c_20 => ?_)
                    refine lv_iconst (v := 0) hx hb d_MD_move_109 (by decide) ?_
                    rw [hQ]
                    exact sf_iret (0, 3, vxB, vxsh, vxcu, u_12.1, u_12.2.1, u_12.2.2.1, u_12.2.2.2.1, (nI u_13), u_11.2.1, vxto, vxwa, vxmn) hx hb hr hlk hS rfl rfl (by rw [← heq34]; simp only [f_MD_move_l34, ← hu_1, ← hu_5, ← hu_7, ← hu_9, ← hu_11, ← hu_12, ← hu_13, eq_false c_4, eq_false c_6, eq_true c_8, eq_true c_10, eq_false c_14, ↓reduceIte]) hP d_MD_move_110
      exact loop34 (12 + 1) 0 0 0 xB xsh xcu xpa xsp xwh xhe xho xtk xto xwa xmn (by omega) (by omega) (by simp only [f_MD_move, ← hu_1, eq_false c_2, eq_true hs0, ↓reduceIte]) _ _ hP hD hS ls (lv_sub hl [2, 3, 1, 0] rfl)
    · skip
      refine sf_callVw (S := Unit) (rest := []) ⟨hx, hb, hml, hown, hts⟩ (c_MD_throwing_n l D cI cZ cJ q xth xB xsh xcu xtp xtd xpa xsp xwh xhe xho xtk xto xwa xmn xsh 0 0 0 hs0) (sf_cwV lk_MD_117 hts (fun _ h => h) (by rw [hR]; exact ⟨Nat.le_of_ble_eq_true rfl, Nat.le_of_ble_eq_true rfl⟩)) hK hP hD hS hA (fun _ => by simp only [md_w_fst]) (ci := 3) (q0 := 0) rfl rfl rfl rfl rfl hl.1 (Nat.le_of_ble_eq_true rfl) d_MD_move_22 ⟨Nat.zero_le _, Nat.zero_le _⟩ (fun u H locs hu hP hD hS => ?_)
      have hP : va_P D classes (md_w q cI cZ 1 xB xsh xcu xtp xtd xpa xsp xwh xhe xho xtk xto xwa xmn) H := hP
      have hD : va_D A (md_w q cI cZ 1 xB xsh xcu xtp xtd xpa xsp xwh xhe xho xtk xto xwa xmn) := hD
      refine lv_if_eq (tgt := 30) hx hb d_MD_move_25 (by decide) (fun c_21 => absurd c_21 (by decide)) (fun c_21 => ?_)
      refine lv_iconst (v := 0) hx hb d_MD_move_28 (by decide) ?_
      rw [hQ]
      exact sf_iret (0, 1, xB, xsh, xcu, xpa, xsp, xwh, xhe, xho, xtk, xto, xwa, xmn) hx hb hr hlk hS rfl rfl (by simp only [f_MD_move, ← hu_1, eq_false c_2, eq_false hs0, ↓reduceIte]) hP d_MD_move_29
  · refine lv_iconst (v := 1) hx hb d_MD_move_15 (by decide) ?_
    refine lv_goto (tgt := 20) hx hb d_MD_move_16 (by decide) ?_
    refine lv_iconst (v := 0) hx hb d_MD_move_20 (by decide) ?_
    refine lv_iconst (v := 0) hx hb d_MD_move_21 (by decide) ?_
    by_cases hs0 : xsh = 0
    · rw [hs0]
      refine sf_callVw (S := Unit) (rest := []) ⟨hx, hb, hml, hown, hts⟩ (c_MD_throwing_2 l D cI cZ cJ q xth xB xsh xcu xtp xtd xpa xsp xwh xhe xho xtk xto xwa xmn 0 0) (sf_cwV lk_MD_117 hts (fun _ h => h) (by rw [hR]; exact ⟨Nat.le_of_ble_eq_true rfl, Nat.le_of_ble_eq_true rfl⟩)) hK hP hD hS hA (fun _ => by simp only [md_w_fst]) (ci := 3) (q0 := 0) rfl rfl rfl rfl rfl hl.1 (Nat.le_of_ble_eq_true rfl) d_MD_move_22 ⟨Nat.zero_le _, Nat.zero_le _⟩ (fun u H locs hu hP hD hS => ?_)
      have hP : va_P D classes (md_w q cI cZ 2 xB xsh xcu xtp xtd xpa xsp xwh xhe xho xtk xto xwa xmn) H := hP
      have hD : va_D A (md_w q cI cZ 2 xB xsh xcu xtp xtd xpa xsp xwh xhe xho xtk xto xwa xmn) := hD
      refine lv_if_eq (tgt := 30) hx hb d_MD_move_25 (by decide) (fun c_22 => absurd c_22 (by decide)) (fun c_22 => ?_)
      refine lv_iconst (v := 0) hx hb d_MD_move_28 (by decide) ?_
      rw [hQ]
      exact sf_iret (0, 2, xB, xsh, xcu, xpa, xsp, xwh, xhe, xho, xtk, xto, xwa, xmn) hx hb hr hlk hS rfl rfl (by simp only [f_MD_move, ← hu_1, eq_true c_2, eq_true hs0, ↓reduceIte]) hP d_MD_move_29
    · skip
      refine sf_callVw (S := Unit) (rest := []) ⟨hx, hb, hml, hown, hts⟩ (c_MD_throwing_n l D cI cZ cJ q xth xB xsh xcu xtp xtd xpa xsp xwh xhe xho xtk xto xwa xmn xsh 1 0 0 hs0) (sf_cwV lk_MD_117 hts (fun _ h => h) (by rw [hR]; exact ⟨Nat.le_of_ble_eq_true rfl, Nat.le_of_ble_eq_true rfl⟩)) hK hP hD hS hA (fun _ => by simp only [md_w_fst]) (ci := 3) (q0 := 0) rfl rfl rfl rfl rfl hl.1 (Nat.le_of_ble_eq_true rfl) d_MD_move_22 ⟨Nat.zero_le _, Nat.zero_le _⟩ (fun u H locs hu hP hD hS => ?_)
      have hP : va_P D classes (md_w q cI cZ 1 xB xsh xcu xtp xtd xpa xsp xwh xhe xho xtk xto xwa xmn) H := hP
      have hD : va_D A (md_w q cI cZ 1 xB xsh xcu xtp xtd xpa xsp xwh xhe xho xtk xto xwa xmn) := hD
      refine lv_if_eq (tgt := 30) hx hb d_MD_move_25 (by decide) (fun c_23 => absurd c_23 (by decide)) (fun c_23 => ?_)
      refine lv_iconst (v := 0) hx hb d_MD_move_28 (by decide) ?_
      rw [hQ]
      exact sf_iret (0, 1, xB, xsh, xcu, xpa, xsp, xwh, xhe, xho, xtk, xto, xwa, xmn) hx hb hr hlk hS rfl rfl (by simp only [f_MD_move, ← hu_1, eq_true c_2, eq_false hs0, ↓reduceIte]) hP d_MD_move_29
def f_MD_feed_l56 (by0 : Int64) : Nat → (Nat → Int32) → Nat → (Int32 × Int32 × (Nat → Int32) × Int32)
  | 0, vt, vd =>
    ((nI vd), 0, vt, (nI vd))
  | j + 1, vt, vd =>
    f_MD_feed_l56 by0 j (upd vt vd ((((by0 >>> (((nI (8 * j))).toInt64 &&& 63)) &&& 255)).toInt32)) (vd + 1)
def f_MD_feed (xtp : Nat → Int32) (td : Nat) (by0 : Int64) (nn : Int32) : (Int32 × Int32 × (Nat → Int32) × Int32) :=
  if (f_MD_in nn 1 8) = 0 then
    (0, 1, xtp, (nI td))
  else
    if (nI (td + (nn.toNatClampNeg))) ≤ 60 then
      f_MD_feed_l56 by0 nn.toNatClampNeg xtp td
    else
      (0, 2, xtp, (nI td))
set_option maxHeartbeats 1000000 in
set_option maxRecDepth 100000 in
/-- feed -/
theorem c_MD_feed (l : Launch) (D : va_G) (cI cZ cJ : ClassId) (q : Nat → Nat) (xth : Int32) (xB : Nat → Int32) (xsh : Int32) (xcu : Int32) (xtp : Nat → Int32) (xpa : Nat → Int32) (xsp : Int32) (xwh : Int32) (xhe : Nat → Int32) (xho : Int32) (xtk : Nat → Int32) (xto : Nat → Int32) (xwa : Nat → Int32) (xmn : Int32) (td : Nat) (by0 : Int64) (nn : Int32) (htd : td ≤ 60) : sf_M (S := (Int32 × Int32 × (Nat → Int32) × Int32)) l D classes (sf_tys cI cZ cJ) y_MD_feed (sf_ws y_MD_feed b_MD_feed 6 (some .int)) 1 24 [.ref (q 0), .long by0, .int nn] (md_w q cI cZ xth xB xsh xcu xtp (nI td) xpa xsp xwh xhe xho xtk xto xwa xmn) (fun r => some (.int r.1)) (fun r => r = f_MD_feed xtp td by0 nn) (fun r => (md_w q cI cZ r.2.1 xB xsh xcu r.2.2.1 r.2.2.2 xpa xsp xwh xhe xho xtk xto xwa xmn)) := by
  refine sf_ofW (S := (Int32 × Int32 × (Nat → Int32) × Int32)) (by decide) (Nat.le_of_ble_eq_true rfl) ?_
  intro p e s m below meth c A ls R args Q hR hArgs hQ hC0 hr hK hP hD hl
  obtain ⟨hx, hb, hml, hown, hts, hA, hlk⟩ := hC0
  have hS : va_S A s.heap s.heap [] := va_S.rf
  have hl : lv_has ls 6 [(0, .ref (q 0)), (1, .long by0), (3, .int nn)] := hl
  refine lv_iload_n hx hb d_MD_feed_0 rfl (lv_at hl 2 rfl) ?_
  refine lv_iconst (v := 1) hx hb d_MD_feed_1 (by decide) ?_
  refine lv_bipush (v := 8) hx hb d_MD_feed_2 (by decide) ?_
  refine sf_callSr (S := Int32) (rest := []) ⟨hx, hb, hml, hown, hts⟩ (c_MD_in l D cI cZ cJ nn 1 8) (sf_cwS lk_MD_44 hts (fun _ h => h) (by rw [hR]; exact ⟨Nat.le_of_ble_eq_true rfl, Nat.le_of_ble_eq_true rfl⟩)) hK hP hD hS hA [] rfl rfl (fun _ => rfl) rfl rfl hl.1 (Nat.le_of_ble_eq_true rfl) d_MD_feed_4 ⟨Nat.zero_le _, Nat.zero_le _⟩ (fun u_1 H locs hu_1 hP hS => ?_)
  refine lv_if_ne (tgt := 14) hx hb d_MD_feed_7 (by decide) (fun c_2 => ?_) (fun c_2 => ?_)
  · refine lv_iconst (v := 0) hx hb d_MD_feed_14 (by decide) ?_
    refine lv_istore (lv' := [(4, .int 0), (0, .ref (q 0)), (1, .long by0), (3, .int nn)]) hx hb d_MD_feed_15 hl (by decide) rfl (fun ls hl => ?_)
    refine lv_aload_n hx hb d_MD_feed_17 rfl (lv_at hl 1 rfl) ?_
    refine lv_iload hx hb d_MD_feed_18 (lv_at hl 0 rfl) ?_
    refine lv_iload hx hb d_MD_feed_20 (lv_at hl 0 rfl) ?_
    refine lv_if_ne (tgt := 40) hx hb d_MD_feed_22 (by decide) (fun c_3 => absurd (by decide) c_3) (fun c_3 => ?_)
    refine lv_aload_n hx hb d_MD_feed_25 rfl (lv_at hl 1 rfl) ?_
    refine va_get (D := D) (ci := 3) (v := .int (nI td)) (C := R_MD) (T := F_MD) (N := 15) hx hb hts i_MD hown hK hP 0 rfl rfl 5 (by decide) (hts _ wd_580) (fun _ h9 => h9) rfl d_MD_feed_26 ?_
    refine lv_iload_n hx hb d_MD_feed_29 rfl (lv_at hl 3 rfl) ?_
    obtain ⟨u_4, hu_4⟩ : ∃ z, z = nn.toNatClampNeg := ⟨_, rfl⟩
    obtain ⟨he_u_4, ha_u_4, hb_u_4⟩ := sf_nat8 hu_4 (by rw [← hu_1]; exact c_2)
    rw [he_u_4]
    refine lv_iadd hx hb d_MD_feed_30 ?_
    rw [show (((nI td) + (nI u_4)) : Int32) = (nI (td + u_4)) from nI_add td u_4]
    refine lv_bipush (v := 60) hx hb d_MD_feed_31 (by decide) ?_
    refine lv_icmp_le (tgt := 40) hx hb d_MD_feed_33 (by decide) (fun c_5 => ?_) (fun c_5 => ?_)
    · refine lv_iconst (v := 0) hx hb d_MD_feed_40 (by decide) ?_
      refine lv_iconst (v := 0) hx hb d_MD_feed_41 (by decide) ?_
      refine lv_iconst (v := 0) hx hb d_MD_feed_42 (by decide) ?_
      refine sf_callVw (S := Unit) (rest := []) ⟨hx, hb, hml, hown, hts⟩ (c_MD_throwing_0 l D cI cZ cJ q xth xB xsh xcu xtp (nI td) xpa xsp xwh xhe xho xtk xto xwa xmn) (sf_cwV lk_MD_117 hts (fun _ h => h) (by rw [hR]; exact ⟨Nat.le_of_ble_eq_true rfl, Nat.le_of_ble_eq_true rfl⟩)) hK hP hD hS hA (fun _ => by simp only [md_w_fst]) (ci := 3) (q0 := 0) rfl rfl rfl rfl rfl hl.1 (Nat.le_of_ble_eq_true rfl) d_MD_feed_43 ⟨Nat.zero_le _, Nat.zero_le _⟩ (fun u H locs hu hP hD hS => ?_)
      have hP : va_P D classes (md_w q cI cZ 0 xB xsh xcu xtp (nI td) xpa xsp xwh xhe xho xtk xto xwa xmn) H := hP
      have hD : va_D A (md_w q cI cZ 0 xB xsh xcu xtp (nI td) xpa xsp xwh xhe xho xtk xto xwa xmn) := hD
      refine lv_if_eq (tgt := 51) hx hb d_MD_feed_46 (by decide) (fun c_6 => ?_) (fun c_6 => absurd (by decide) c_6)
      have hf9 := (sf_in18 (by rw [← hu_1]; exact c_2)).1
      have ht9 : td + u_4 ≤ 60 := (nI_leI (b := 60) (by omega) (by omega)).mp c_5
      refine lv_iload_n hx hb d_MD_feed_51 rfl (lv_at hl 3 rfl) ?_
      refine lv_iconst (v := 1) hx hb d_MD_feed_52 (by decide) ?_
      refine lv_isub hx hb d_MD_feed_53 ?_
      refine lv_istore (lv' := [(5, .int (nn - 1)), (4, .int 0), (0, .ref (q 0)), (1, .long by0), (3, .int nn)]) hx hb d_MD_feed_54 hl (by decide) rfl (fun ls hl => ?_)
      have loop56 : ∀ (j : Nat) (vt : (Nat → Int32)) (vd : Nat), j ≤ 8 → vd + j ≤ 60 → f_MD_feed_l56 by0 j vt vd = f_MD_feed xtp td by0 nn → ∀ (H : Heap) (locs : List Loc), va_P D classes (md_w q cI cZ 0 xB xsh xcu vt (nI vd) xpa xsp xwh xhe xho xtk xto xwa xmn) H → va_D A (md_w q cI cZ 0 xB xsh xcu vt (nI vd) xpa xsp xwh xhe xho xtk xto xwa xmn) → va_S A s.heap H locs → ∀ (ls : Array Slot), lv_has ls 6 [(0, .ref (q 0)), (1, .long by0), (3, .int nn), (4, .int 0), (5, .int ((nI j) + (-1)))] → W p l e R s m args below meth c H locs 0 0 Q (F0 m 56 ls []) := by
        intro j
        induction j with
        | zero =>
          intro vt vd hj hi560 heq56 H locs hP hD hS ls hl
          rw [sf_dm0] at hl
          refine lv_iload hx hb d_MD_feed_56 (lv_at hl 4 rfl) ?_
          refine lv_if_lt (tgt := 98) hx hb d_MD_feed_58 (by decide) (fun c_7 => ?_) (fun c_7 => absurd (by decide) c_7)
          refine lv_aload_n hx hb d_MD_feed_98 rfl (lv_at hl 0 rfl) ?_
          refine va_get (D := D) (ci := 3) (v := .int (nI vd)) (C := R_MD) (T := F_MD) (N := 15) hx hb hts i_MD hown hK hP 0 rfl rfl 5 (by decide) (hts _ wd_580) (fun _ h9 => h9) rfl d_MD_feed_99 ?_
          rw [hQ]
          exact sf_iret ((nI vd), 0, vt, (nI vd)) hx hb hr hlk hS rfl rfl (by rw [← heq56]; simp only [f_MD_feed_l56, ← hu_1, ← hu_4, ↓reduceIte]) hP d_MD_feed_102
        | succ j ih56 =>
          intro vt vd hj hi560 heq56 H locs hP hD hS ls hl
          rw [pk_m1] at hl
          refine lv_iload hx hb d_MD_feed_56 (lv_at hl 4 rfl) ?_
          refine lv_if_lt (tgt := 98) hx hb d_MD_feed_58 (by decide) (fun c_8 => absurd c_8 (nI_pos (by omega))) (fun c_8 => ?_)
          refine lv_aload_n hx hb d_MD_feed_61 rfl (lv_at hl 0 rfl) ?_
          refine va_get (D := D) (ci := 3) (v := .ref (q 2)) (C := R_MD) (T := F_MD) (N := 15) hx hb hts i_MD hown hK hP 0 rfl rfl 4 (by decide) (hts _ wd_579) (fun _ h9 => h9) rfl d_MD_feed_62 ?_
          refine lv_aload_n hx hb d_MD_feed_65 rfl (lv_at hl 0 rfl) ?_
          refine va_get (D := D) (ci := 3) (v := .int (nI vd)) (C := R_MD) (T := F_MD) (N := 15) hx hb hts i_MD hown hK hP 0 rfl rfl 5 (by decide) (hts _ wd_580) (fun _ h9 => h9) rfl d_MD_feed_66 ?_
          refine lv_lload_n hx hb d_MD_feed_69 rfl (lv_at hl 1 rfl) ?_
          refine lv_bipush (v := 8) hx hb d_MD_feed_70 (by decide) ?_
          refine lv_iload hx hb d_MD_feed_72 (lv_at hl 4 rfl) ?_
          refine lv_imul hx hb d_MD_feed_74 ?_
          rw [show ((8 * (nI j)) : Int32) = (nI (8 * j)) from pk_mul 8 j]
          refine lv_lshr (v := (by0 >>> (((nI (8 * j))).toInt64 &&& 63))) hx hb d_MD_feed_75 rfl ?_
          refine lv_ldc2 (v := 255) hx hb hown (hts _ wd_636) d_MD_feed_76 ?_
          refine lv_land hx hb d_MD_feed_79 ?_
          refine lv_l2i (v := (((by0 >>> (((nI (8 * j))).toInt64 &&& 63)) &&& 255)).toInt32) hx hb d_MD_feed_80 rfl ?_
          refine va_iast hx hb hK hP hD hS 2 0 rfl rfl (show vp_in (nI vd) 60 from vp_in_nI (n := vd) (by omega) (by omega)) d_MD_feed_81 (fun H locs hP hD hS => ?_)
          rw [show ((nI vd) : Int32).toNatClampNeg = vd from nI_clamp (n := vd) (by omega)] at hP hD
          have hP : va_P D classes (md_w q cI cZ 0 xB xsh xcu (upd vt vd ((((by0 >>> (((nI (8 * j))).toInt64 &&& 63)) &&& 255)).toInt32)) (nI vd) xpa xsp xwh xhe xho xtk xto xwa xmn) H := hP
          have hD : va_D A (md_w q cI cZ 0 xB xsh xcu (upd vt vd ((((by0 >>> (((nI (8 * j))).toInt64 &&& 63)) &&& 255)).toInt32)) (nI vd) xpa xsp xwh xhe xho xtk xto xwa xmn) := hD
          refine lv_aload_n hx hb d_MD_feed_82 rfl (lv_at hl 0 rfl) ?_
          refine lv_dup hx hb d_MD_feed_83 rfl ?_
          refine va_get (D := D) (ci := 3) (v := .int (nI vd)) (C := R_MD) (T := F_MD) (N := 15) hx hb hts i_MD hown hK hP 0 rfl rfl 5 (by decide) (hts _ wd_580) (fun _ h9 => h9) rfl d_MD_feed_84 ?_
          refine lv_iconst (v := 1) hx hb d_MD_feed_87 (by decide) ?_
          refine lv_iadd hx hb d_MD_feed_88 ?_
          rw [show (((nI vd) + 1) : Int32) = (nI (vd + 1)) from nI_add vd 1]
          refine va_put (D := D) (ci := 3) (v := .int (nI (vd + 1))) (ty := .int) (C := R_MD) (T := F_MD) (N := 15) hx hb hts i_MD t_MD t_MD_ok n_MD hown hK hP hD hS 0 rfl rfl 5 (by decide) (hts _ wd_580) (fun _ h9 => h9) rfl (by decide +kernel) rfl rfl (Nat.le_of_ble_eq_true rfl) d_MD_feed_89 (fun H locs hP hD hS => ?_)
          have hP : va_P D classes (md_w q cI cZ 0 xB xsh xcu (upd vt vd ((((by0 >>> (((nI (8 * j))).toInt64 &&& 63)) &&& 255)).toInt32)) (nI (vd + 1)) xpa xsp xwh xhe xho xtk xto xwa xmn) H := hP
          have hD : va_D A (md_w q cI cZ 0 xB xsh xcu (upd vt vd ((((by0 >>> (((nI (8 * j))).toInt64 &&& 63)) &&& 255)).toInt32)) (nI (vd + 1)) xpa xsp xwh xhe xho xtk xto xwa xmn) := hD
          refine lv_iinc (v := ((nI j) + (-1))) (lv' := [(5, .int ((nI j) + (-1))), (0, .ref (q 0)), (1, .long by0), (3, .int nn), (4, .int 0)]) hx hb d_MD_feed_92 hl (k := 4) rfl (sf_im1 _) (by decide) rfl (fun ls hl => ?_)
          refine lv_goto (tgt := 56) hx hb d_MD_feed_95 (by decide) ?_
          exact ih56 (upd vt vd ((((by0 >>> (((nI (8 * j))).toInt64 &&& 63)) &&& 255)).toInt32)) (vd + 1) (by omega) (by omega) (by rw [← heq56]; simp only [f_MD_feed_l56, ← hu_1, ← hu_4, ↓reduceIte]) _ _ hP hD hS ls (lv_sub hl [1, 2, 3, 4, 0] rfl)
      rw [(sf_feed1 hf9).1] at hl
      exact loop56 nn.toNatClampNeg xtp td (by omega) (by omega) (by simp only [f_MD_feed, ← hu_1, ← hu_4, eq_false c_2, eq_true c_5, ↓reduceIte]) _ _ hP hD hS ls (lv_sub hl [2, 3, 4, 1, 0] rfl)
    · refine lv_iconst (v := 1) hx hb d_MD_feed_36 (by decide) ?_
      refine lv_goto (tgt := 41) hx hb d_MD_feed_37 (by decide) ?_
      refine lv_iconst (v := 0) hx hb d_MD_feed_41 (by decide) ?_
      refine lv_iconst (v := 0) hx hb d_MD_feed_42 (by decide) ?_
      refine sf_callVw (S := Unit) (rest := []) ⟨hx, hb, hml, hown, hts⟩ (c_MD_throwing_2 l D cI cZ cJ q xth xB xsh xcu xtp (nI td) xpa xsp xwh xhe xho xtk xto xwa xmn 0 0) (sf_cwV lk_MD_117 hts (fun _ h => h) (by rw [hR]; exact ⟨Nat.le_of_ble_eq_true rfl, Nat.le_of_ble_eq_true rfl⟩)) hK hP hD hS hA (fun _ => by simp only [md_w_fst]) (ci := 3) (q0 := 0) rfl rfl rfl rfl rfl hl.1 (Nat.le_of_ble_eq_true rfl) d_MD_feed_43 ⟨Nat.zero_le _, Nat.zero_le _⟩ (fun u H locs hu hP hD hS => ?_)
      have hP : va_P D classes (md_w q cI cZ 2 xB xsh xcu xtp (nI td) xpa xsp xwh xhe xho xtk xto xwa xmn) H := hP
      have hD : va_D A (md_w q cI cZ 2 xB xsh xcu xtp (nI td) xpa xsp xwh xhe xho xtk xto xwa xmn) := hD
      refine lv_if_eq (tgt := 51) hx hb d_MD_feed_46 (by decide) (fun c_9 => absurd c_9 (by decide)) (fun c_9 => ?_)
      refine lv_iconst (v := 0) hx hb d_MD_feed_49 (by decide) ?_
      rw [hQ]
      exact sf_iret (0, 2, xtp, (nI td)) hx hb hr hlk hS rfl rfl (by simp only [f_MD_feed, ← hu_1, ← hu_4, eq_false c_2, eq_false c_5, ↓reduceIte]) hP d_MD_feed_50
  · refine lv_iconst (v := 1) hx hb d_MD_feed_10 (by decide) ?_
    refine lv_goto (tgt := 15) hx hb d_MD_feed_11 (by decide) ?_
    refine lv_istore (lv' := [(4, .int 1), (0, .ref (q 0)), (1, .long by0), (3, .int nn)]) hx hb d_MD_feed_15 hl (by decide) rfl (fun ls hl => ?_)
    refine lv_aload_n hx hb d_MD_feed_17 rfl (lv_at hl 1 rfl) ?_
    refine lv_iload hx hb d_MD_feed_18 (lv_at hl 0 rfl) ?_
    refine lv_iload hx hb d_MD_feed_20 (lv_at hl 0 rfl) ?_
    refine lv_if_ne (tgt := 40) hx hb d_MD_feed_22 (by decide) (fun c_10 => ?_) (fun c_10 => absurd c_10 (by decide))
    refine lv_iconst (v := 0) hx hb d_MD_feed_40 (by decide) ?_
    refine lv_iconst (v := 0) hx hb d_MD_feed_41 (by decide) ?_
    refine lv_iconst (v := 0) hx hb d_MD_feed_42 (by decide) ?_
    refine sf_callVw (S := Unit) (rest := []) ⟨hx, hb, hml, hown, hts⟩ (c_MD_throwing_1 l D cI cZ cJ q xth xB xsh xcu xtp (nI td) xpa xsp xwh xhe xho xtk xto xwa xmn 0 0 0) (sf_cwV lk_MD_117 hts (fun _ h => h) (by rw [hR]; exact ⟨Nat.le_of_ble_eq_true rfl, Nat.le_of_ble_eq_true rfl⟩)) hK hP hD hS hA (fun _ => by simp only [md_w_fst]) (ci := 3) (q0 := 0) rfl rfl rfl rfl rfl hl.1 (Nat.le_of_ble_eq_true rfl) d_MD_feed_43 ⟨Nat.zero_le _, Nat.zero_le _⟩ (fun u H locs hu hP hD hS => ?_)
    have hP : va_P D classes (md_w q cI cZ 1 xB xsh xcu xtp (nI td) xpa xsp xwh xhe xho xtk xto xwa xmn) H := hP
    have hD : va_D A (md_w q cI cZ 1 xB xsh xcu xtp (nI td) xpa xsp xwh xhe xho xtk xto xwa xmn) := hD
    refine lv_if_eq (tgt := 51) hx hb d_MD_feed_46 (by decide) (fun c_11 => absurd c_11 (by decide)) (fun c_11 => ?_)
    refine lv_iconst (v := 0) hx hb d_MD_feed_49 (by decide) ?_
    rw [hQ]
    exact sf_iret (0, 1, xtp, (nI td)) hx hb hr hlk hS rfl rfl (by simp only [f_MD_feed, ← hu_1, eq_true c_2, ↓reduceIte]) hP d_MD_feed_50
