/-! md8: contracts, with the pure functions that they speak of (printed by wip/gen) -/
theorem d_MD_putChain_0 : decode b_MD_putChain 0 = .ok (.aload_n 0, 1) := by decide +kernel
theorem d_MD_putChain_1 : decode b_MD_putChain 1 = .ok (.iconst 0, 1) := by decide +kernel
theorem d_MD_putChain_2 : decode b_MD_putChain 2 = .ok (.invokevirtual 105, 3) := by decide +kernel
theorem d_MD_putChain_5 : decode b_MD_putChain 5 = .ok (.istore_n 3, 1) := by decide +kernel
theorem d_MD_putChain_6 : decode b_MD_putChain 6 = .ok (.iload_n 3, 1) := by decide +kernel
theorem d_MD_putChain_7 : decode b_MD_putChain 7 = .ok (.istore 4, 2) := by decide +kernel
theorem d_MD_putChain_9 : decode b_MD_putChain 9 = .ok (.iconst 0, 1) := by decide +kernel
theorem d_MD_putChain_10 : decode b_MD_putChain 10 = .ok (.istore 5, 2) := by decide +kernel
theorem d_MD_putChain_12 : decode b_MD_putChain 12 = .ok (.iload 5, 2) := by decide +kernel
theorem d_MD_putChain_14 : decode b_MD_putChain 14 = .ok (.aload_n 0, 1) := by decide +kernel
theorem d_MD_putChain_15 : decode b_MD_putChain 15 = .ok (.getfield 73, 3) := by decide +kernel
theorem d_MD_putChain_18 : decode b_MD_putChain 18 = .ok (.if_icmp .ge 170, 3) := by decide +kernel
theorem d_MD_putChain_21 : decode b_MD_putChain 21 = .ok (.aload_n 0, 1) := by decide +kernel
theorem d_MD_putChain_22 : decode b_MD_putChain 22 = .ok (.getfield 73, 3) := by decide +kernel
theorem d_MD_putChain_25 : decode b_MD_putChain 25 = .ok (.iload 5, 2) := by decide +kernel
theorem d_MD_putChain_27 : decode b_MD_putChain 27 = .ok (.isub, 1) := by decide +kernel
theorem d_MD_putChain_28 : decode b_MD_putChain 28 = .ok (.bipush 25, 2) := by decide +kernel
theorem d_MD_putChain_30 : decode b_MD_putChain 30 = .ok (.if_icmp .ge 13, 3) := by decide +kernel
theorem d_MD_putChain_33 : decode b_MD_putChain 33 = .ok (.aload_n 0, 1) := by decide +kernel
theorem d_MD_putChain_34 : decode b_MD_putChain 34 = .ok (.getfield 73, 3) := by decide +kernel
theorem d_MD_putChain_37 : decode b_MD_putChain 37 = .ok (.iload 5, 2) := by decide +kernel
theorem d_MD_putChain_39 : decode b_MD_putChain 39 = .ok (.isub, 1) := by decide +kernel
theorem d_MD_putChain_40 : decode b_MD_putChain 40 = .ok (.goto 5, 3) := by decide +kernel
theorem d_MD_putChain_43 : decode b_MD_putChain 43 = .ok (.bipush 25, 2) := by decide +kernel
theorem d_MD_putChain_45 : decode b_MD_putChain 45 = .ok (.istore 6, 2) := by decide +kernel
theorem d_MD_putChain_47 : decode b_MD_putChain 47 = .ok (.iload 5, 2) := by decide +kernel
theorem d_MD_putChain_49 : decode b_MD_putChain 49 = .ok (.iload 6, 2) := by decide +kernel
theorem d_MD_putChain_51 : decode b_MD_putChain 51 = .ok (.iadd, 1) := by decide +kernel
theorem d_MD_putChain_52 : decode b_MD_putChain 52 = .ok (.aload_n 0, 1) := by decide +kernel
theorem d_MD_putChain_53 : decode b_MD_putChain 53 = .ok (.getfield 73, 3) := by decide +kernel
theorem d_MD_putChain_56 : decode b_MD_putChain 56 = .ok (.if_icmp .ne 7, 3) := by decide +kernel
theorem d_MD_putChain_59 : decode b_MD_putChain 59 = .ok (.iconst 1, 1) := by decide +kernel
theorem d_MD_putChain_60 : decode b_MD_putChain 60 = .ok (.goto 4, 3) := by decide +kernel
theorem d_MD_putChain_63 : decode b_MD_putChain 63 = .ok (.iconst 0, 1) := by decide +kernel
theorem d_MD_putChain_64 : decode b_MD_putChain 64 = .ok (.istore 7, 2) := by decide +kernel
theorem d_MD_putChain_66 : decode b_MD_putChain 66 = .ok (.iload 7, 2) := by decide +kernel
theorem d_MD_putChain_68 : decode b_MD_putChain 68 = .ok (.ifCond .eq 7, 3) := by decide +kernel
theorem d_MD_putChain_71 : decode b_MD_putChain 71 = .ok (.iconst (-1), 1) := by decide +kernel
theorem d_MD_putChain_72 : decode b_MD_putChain 72 = .ok (.goto 11, 3) := by decide +kernel
theorem d_MD_putChain_75 : decode b_MD_putChain 75 = .ok (.aload_n 0, 1) := by decide +kernel
theorem d_MD_putChain_76 : decode b_MD_putChain 76 = .ok (.iload 4, 2) := by decide +kernel
theorem d_MD_putChain_78 : decode b_MD_putChain 78 = .ok (.iconst 1, 1) := by decide +kernel
theorem d_MD_putChain_79 : decode b_MD_putChain 79 = .ok (.iadd, 1) := by decide +kernel
theorem d_MD_putChain_80 : decode b_MD_putChain 80 = .ok (.invokevirtual 105, 3) := by decide +kernel
theorem d_MD_putChain_83 : decode b_MD_putChain 83 = .ok (.istore 8, 2) := by decide +kernel
theorem d_MD_putChain_85 : decode b_MD_putChain 85 = .ok (.iload_n 1, 1) := by decide +kernel
theorem d_MD_putChain_86 : decode b_MD_putChain 86 = .ok (.iload 4, 2) := by decide +kernel
theorem d_MD_putChain_88 : decode b_MD_putChain 88 = .ok (.invokestatic 84, 3) := by decide +kernel
theorem d_MD_putChain_91 : decode b_MD_putChain 91 = .ok (.istore 9, 2) := by decide +kernel
theorem d_MD_putChain_93 : decode b_MD_putChain 93 = .ok (.aload_n 0, 1) := by decide +kernel
theorem d_MD_putChain_94 : decode b_MD_putChain 94 = .ok (.iload 9, 2) := by decide +kernel
theorem d_MD_putChain_96 : decode b_MD_putChain 96 = .ok (.iload 8, 2) := by decide +kernel
theorem d_MD_putChain_98 : decode b_MD_putChain 98 = .ok (.iconst 1, 1) := by decide +kernel
theorem d_MD_putChain_99 : decode b_MD_putChain 99 = .ok (.iadd, 1) := by decide +kernel
theorem d_MD_putChain_100 : decode b_MD_putChain 100 = .ok (.invokevirtual 101, 3) := by decide +kernel
theorem d_MD_putChain_103 : decode b_MD_putChain 103 = .ok (.aload_n 0, 1) := by decide +kernel
theorem d_MD_putChain_104 : decode b_MD_putChain 104 = .ok (.iload 9, 2) := by decide +kernel
theorem d_MD_putChain_106 : decode b_MD_putChain 106 = .ok (.iconst 1, 1) := by decide +kernel
theorem d_MD_putChain_107 : decode b_MD_putChain 107 = .ok (.iadd, 1) := by decide +kernel
theorem d_MD_putChain_108 : decode b_MD_putChain 108 = .ok (.iload 6, 2) := by decide +kernel
theorem d_MD_putChain_110 : decode b_MD_putChain 110 = .ok (.invokevirtual 101, 3) := by decide +kernel
theorem d_MD_putChain_113 : decode b_MD_putChain 113 = .ok (.aload_n 0, 1) := by decide +kernel
theorem d_MD_putChain_114 : decode b_MD_putChain 114 = .ok (.iload 9, 2) := by decide +kernel
theorem d_MD_putChain_116 : decode b_MD_putChain 116 = .ok (.iconst 2, 1) := by decide +kernel
theorem d_MD_putChain_117 : decode b_MD_putChain 117 = .ok (.iadd, 1) := by decide +kernel
theorem d_MD_putChain_118 : decode b_MD_putChain 118 = .ok (.iload_n 2, 1) := by decide +kernel
theorem d_MD_putChain_119 : decode b_MD_putChain 119 = .ok (.invokevirtual 101, 3) := by decide +kernel
theorem d_MD_putChain_122 : decode b_MD_putChain 122 = .ok (.iconst 0, 1) := by decide +kernel
theorem d_MD_putChain_123 : decode b_MD_putChain 123 = .ok (.istore 10, 2) := by decide +kernel
theorem d_MD_putChain_125 : decode b_MD_putChain 125 = .ok (.iload 10, 2) := by decide +kernel
theorem d_MD_putChain_127 : decode b_MD_putChain 127 = .ok (.bipush 25, 2) := by decide +kernel
theorem d_MD_putChain_129 : decode b_MD_putChain 129 = .ok (.if_icmp .ge 41, 3) := by decide +kernel
theorem d_MD_putChain_132 : decode b_MD_putChain 132 = .ok (.aload_n 0, 1) := by decide +kernel
theorem d_MD_putChain_133 : decode b_MD_putChain 133 = .ok (.iload 9, 2) := by decide +kernel
theorem d_MD_putChain_135 : decode b_MD_putChain 135 = .ok (.iconst 3, 1) := by decide +kernel
theorem d_MD_putChain_136 : decode b_MD_putChain 136 = .ok (.iadd, 1) := by decide +kernel
theorem d_MD_putChain_137 : decode b_MD_putChain 137 = .ok (.iload 10, 2) := by decide +kernel
theorem d_MD_putChain_139 : decode b_MD_putChain 139 = .ok (.iadd, 1) := by decide +kernel
theorem d_MD_putChain_140 : decode b_MD_putChain 140 = .ok (.iload 10, 2) := by decide +kernel
theorem d_MD_putChain_142 : decode b_MD_putChain 142 = .ok (.iload 6, 2) := by decide +kernel
theorem d_MD_putChain_144 : decode b_MD_putChain 144 = .ok (.if_icmp .ge 16, 3) := by decide +kernel
theorem d_MD_putChain_147 : decode b_MD_putChain 147 = .ok (.aload_n 0, 1) := by decide +kernel
theorem d_MD_putChain_148 : decode b_MD_putChain 148 = .ok (.getfield 23, 3) := by decide +kernel
theorem d_MD_putChain_151 : decode b_MD_putChain 151 = .ok (.iload 5, 2) := by decide +kernel
theorem d_MD_putChain_153 : decode b_MD_putChain 153 = .ok (.iload 10, 2) := by decide +kernel
theorem d_MD_putChain_155 : decode b_MD_putChain 155 = .ok (.iadd, 1) := by decide +kernel
theorem d_MD_putChain_156 : decode b_MD_putChain 156 = .ok (.iaload, 1) := by decide +kernel
theorem d_MD_putChain_157 : decode b_MD_putChain 157 = .ok (.goto 4, 3) := by decide +kernel
theorem d_MD_putChain_160 : decode b_MD_putChain 160 = .ok (.iconst 0, 1) := by decide +kernel
theorem d_MD_putChain_161 : decode b_MD_putChain 161 = .ok (.invokevirtual 101, 3) := by decide +kernel
theorem d_MD_putChain_164 : decode b_MD_putChain 164 = .ok (.iinc 10 1, 3) := by decide +kernel
theorem d_MD_putChain_167 : decode b_MD_putChain 167 = .ok (.goto (-42), 3) := by decide +kernel
theorem d_MD_putChain_170 : decode b_MD_putChain 170 = .ok (.aload_n 0, 1) := by decide +kernel
theorem d_MD_putChain_171 : decode b_MD_putChain 171 = .ok (.bipush 28, 2) := by decide +kernel
theorem d_MD_putChain_173 : decode b_MD_putChain 173 = .ok (.iload 9, 2) := by decide +kernel
theorem d_MD_putChain_175 : decode b_MD_putChain 175 = .ok (.invokevirtual 108, 3) := by decide +kernel
theorem d_MD_putChain_178 : decode b_MD_putChain 178 = .ok (.iload 8, 2) := by decide +kernel
theorem d_MD_putChain_180 : decode b_MD_putChain 180 = .ok (.istore 4, 2) := by decide +kernel
theorem d_MD_putChain_182 : decode b_MD_putChain 182 = .ok (.iinc 5 25, 3) := by decide +kernel
theorem d_MD_putChain_185 : decode b_MD_putChain 185 = .ok (.goto (-173), 3) := by decide +kernel
theorem d_MD_putChain_188 : decode b_MD_putChain 188 = .ok (.iload_n 3, 1) := by decide +kernel
theorem d_MD_putChain_189 : decode b_MD_putChain 189 = .ok (.ireturn, 1) := by decide +kernel
theorem d_MD_putTable_0 : decode b_MD_putTable 0 = .ok (.aload_n 0, 1) := by decide +kernel
theorem d_MD_putTable_1 : decode b_MD_putTable 1 = .ok (.invokevirtual 60, 3) := by decide +kernel
theorem d_MD_putTable_4 : decode b_MD_putTable 4 = .ok (.istore 4, 2) := by decide +kernel
theorem d_MD_putTable_6 : decode b_MD_putTable 6 = .ok (.iload 4, 2) := by decide +kernel
theorem d_MD_putTable_8 : decode b_MD_putTable 8 = .ok (.ifCond .ge 7, 3) := by decide +kernel
theorem d_MD_putTable_11 : decode b_MD_putTable 11 = .ok (.iconst 0, 1) := by decide +kernel
theorem d_MD_putTable_12 : decode b_MD_putTable 12 = .ok (.goto 7, 3) := by decide +kernel
theorem d_MD_putTable_15 : decode b_MD_putTable 15 = .ok (.iconst 1, 1) := by decide +kernel
theorem d_MD_putTable_16 : decode b_MD_putTable 16 = .ok (.iload 4, 2) := by decide +kernel
theorem d_MD_putTable_18 : decode b_MD_putTable 18 = .ok (.isub, 1) := by decide +kernel
theorem d_MD_putTable_19 : decode b_MD_putTable 19 = .ok (.istore 5, 2) := by decide +kernel
theorem d_MD_putTable_21 : decode b_MD_putTable 21 = .ok (.sipush 1280, 3) := by decide +kernel
theorem d_MD_putTable_24 : decode b_MD_putTable 24 = .ok (.bipush 40, 2) := by decide +kernel
theorem d_MD_putTable_26 : decode b_MD_putTable 26 = .ok (.iload 5, 2) := by decide +kernel
theorem d_MD_putTable_28 : decode b_MD_putTable 28 = .ok (.imul, 1) := by decide +kernel
theorem d_MD_putTable_29 : decode b_MD_putTable 29 = .ok (.iadd, 1) := by decide +kernel
theorem d_MD_putTable_30 : decode b_MD_putTable 30 = .ok (.istore 6, 2) := by decide +kernel
theorem d_MD_putTable_32 : decode b_MD_putTable 32 = .ok (.iload 4, 2) := by decide +kernel
theorem d_MD_putTable_34 : decode b_MD_putTable 34 = .ok (.ifCond .ge 7, 3) := by decide +kernel
theorem d_MD_putTable_37 : decode b_MD_putTable 37 = .ok (.iconst 1, 1) := by decide +kernel
theorem d_MD_putTable_38 : decode b_MD_putTable 38 = .ok (.goto 20, 3) := by decide +kernel
theorem d_MD_putTable_41 : decode b_MD_putTable 41 = .ok (.aload_n 0, 1) := by decide +kernel
theorem d_MD_putTable_42 : decode b_MD_putTable 42 = .ok (.getfield 7, 3) := by decide +kernel
theorem d_MD_putTable_45 : decode b_MD_putTable 45 = .ok (.sipush 1280, 3) := by decide +kernel
theorem d_MD_putTable_48 : decode b_MD_putTable 48 = .ok (.bipush 40, 2) := by decide +kernel
theorem d_MD_putTable_50 : decode b_MD_putTable 50 = .ok (.iload 4, 2) := by decide +kernel
theorem d_MD_putTable_52 : decode b_MD_putTable 52 = .ok (.imul, 1) := by decide +kernel
theorem d_MD_putTable_53 : decode b_MD_putTable 53 = .ok (.iadd, 1) := by decide +kernel
theorem d_MD_putTable_54 : decode b_MD_putTable 54 = .ok (.iaload, 1) := by decide +kernel
theorem d_MD_putTable_55 : decode b_MD_putTable 55 = .ok (.invokestatic 56, 3) := by decide +kernel
theorem d_MD_putTable_58 : decode b_MD_putTable 58 = .ok (.istore 7, 2) := by decide +kernel
theorem d_MD_putTable_60 : decode b_MD_putTable 60 = .ok (.aload_n 0, 1) := by decide +kernel
theorem d_MD_putTable_61 : decode b_MD_putTable 61 = .ok (.iload 6, 2) := by decide +kernel
theorem d_MD_putTable_63 : decode b_MD_putTable 63 = .ok (.iload 7, 2) := by decide +kernel
theorem d_MD_putTable_65 : decode b_MD_putTable 65 = .ok (.invokevirtual 101, 3) := by decide +kernel
theorem d_MD_putTable_68 : decode b_MD_putTable 68 = .ok (.iconst 1, 1) := by decide +kernel
theorem d_MD_putTable_69 : decode b_MD_putTable 69 = .ok (.istore 8, 2) := by decide +kernel
theorem d_MD_putTable_71 : decode b_MD_putTable 71 = .ok (.iload 8, 2) := by decide +kernel
theorem d_MD_putTable_73 : decode b_MD_putTable 73 = .ok (.bipush 36, 2) := by decide +kernel
theorem d_MD_putTable_75 : decode b_MD_putTable 75 = .ok (.if_icmp .ge 68, 3) := by decide +kernel
theorem d_MD_putTable_78 : decode b_MD_putTable 78 = .ok (.iload 8, 2) := by decide +kernel
theorem d_MD_putTable_80 : decode b_MD_putTable 80 = .ok (.bipush 25, 2) := by decide +kernel
theorem d_MD_putTable_82 : decode b_MD_putTable 82 = .ok (.if_icmp .ge 12, 3) := by decide +kernel
theorem d_MD_putTable_85 : decode b_MD_putTable 85 = .ok (.aload_n 0, 1) := by decide +kernel
theorem d_MD_putTable_86 : decode b_MD_putTable 86 = .ok (.iload 8, 2) := by decide +kernel
theorem d_MD_putTable_88 : decode b_MD_putTable 88 = .ok (.invokevirtual 64, 3) := by decide +kernel
theorem d_MD_putTable_91 : decode b_MD_putTable 91 = .ok (.goto 4, 3) := by decide +kernel
theorem d_MD_putTable_94 : decode b_MD_putTable 94 = .ok (.iconst 0, 1) := by decide +kernel
theorem d_MD_putTable_95 : decode b_MD_putTable 95 = .ok (.istore 9, 2) := by decide +kernel
theorem d_MD_putTable_97 : decode b_MD_putTable 97 = .ok (.iload 8, 2) := by decide +kernel
theorem d_MD_putTable_99 : decode b_MD_putTable 99 = .ok (.iconst 1, 1) := by decide +kernel
theorem d_MD_putTable_100 : decode b_MD_putTable 100 = .ok (.iload_n 1, 1) := by decide +kernel
theorem d_MD_putTable_101 : decode b_MD_putTable 101 = .ok (.iadd, 1) := by decide +kernel
theorem d_MD_putTable_102 : decode b_MD_putTable 102 = .ok (.if_icmp .ne 7, 3) := by decide +kernel
theorem d_MD_putTable_105 : decode b_MD_putTable 105 = .ok (.iload_n 2, 1) := by decide +kernel
theorem d_MD_putTable_106 : decode b_MD_putTable 106 = .ok (.goto 18, 3) := by decide +kernel
theorem d_MD_putTable_109 : decode b_MD_putTable 109 = .ok (.iload 8, 2) := by decide +kernel
theorem d_MD_putTable_111 : decode b_MD_putTable 111 = .ok (.bipush 13, 2) := by decide +kernel
theorem d_MD_putTable_113 : decode b_MD_putTable 113 = .ok (.iload_n 1, 1) := by decide +kernel
theorem d_MD_putTable_114 : decode b_MD_putTable 114 = .ok (.iadd, 1) := by decide +kernel
theorem d_MD_putTable_115 : decode b_MD_putTable 115 = .ok (.if_icmp .ne 7, 3) := by decide +kernel
theorem d_MD_putTable_118 : decode b_MD_putTable 118 = .ok (.iload_n 3, 1) := by decide +kernel
theorem d_MD_putTable_119 : decode b_MD_putTable 119 = .ok (.goto 5, 3) := by decide +kernel
theorem d_MD_putTable_122 : decode b_MD_putTable 122 = .ok (.iload 9, 2) := by decide +kernel
theorem d_MD_putTable_124 : decode b_MD_putTable 124 = .ok (.istore 9, 2) := by decide +kernel
theorem d_MD_putTable_126 : decode b_MD_putTable 126 = .ok (.aload_n 0, 1) := by decide +kernel
theorem d_MD_putTable_127 : decode b_MD_putTable 127 = .ok (.iload 6, 2) := by decide +kernel
theorem d_MD_putTable_129 : decode b_MD_putTable 129 = .ok (.iload 8, 2) := by decide +kernel
theorem d_MD_putTable_131 : decode b_MD_putTable 131 = .ok (.iadd, 1) := by decide +kernel
theorem d_MD_putTable_132 : decode b_MD_putTable 132 = .ok (.iload 9, 2) := by decide +kernel
theorem d_MD_putTable_134 : decode b_MD_putTable 134 = .ok (.invokevirtual 101, 3) := by decide +kernel
theorem d_MD_putTable_137 : decode b_MD_putTable 137 = .ok (.iinc 8 1, 3) := by decide +kernel
theorem d_MD_putTable_140 : decode b_MD_putTable 140 = .ok (.goto (-69), 3) := by decide +kernel
theorem d_MD_putTable_143 : decode b_MD_putTable 143 = .ok (.aload_n 0, 1) := by decide +kernel
theorem d_MD_putTable_144 : decode b_MD_putTable 144 = .ok (.bipush 36, 2) := by decide +kernel
theorem d_MD_putTable_146 : decode b_MD_putTable 146 = .ok (.iload 6, 2) := by decide +kernel
theorem d_MD_putTable_148 : decode b_MD_putTable 148 = .ok (.invokevirtual 108, 3) := by decide +kernel
theorem d_MD_putTable_151 : decode b_MD_putTable 151 = .ok (.return_, 1) := by decide +kernel
theorem d_MD_comes_0 : decode b_MD_comes 0 = .ok (.aload_n 0, 1) := by decide +kernel
theorem d_MD_comes_1 : decode b_MD_comes 1 = .ok (.getfield 13, 3) := by decide +kernel
theorem d_MD_comes_4 : decode b_MD_comes 4 = .ok (.ifCond .lt 18, 3) := by decide +kernel
theorem d_MD_comes_7 : decode b_MD_comes 7 = .ok (.aload_n 0, 1) := by decide +kernel
theorem d_MD_comes_8 : decode b_MD_comes 8 = .ok (.getfield 98, 3) := by decide +kernel
theorem d_MD_comes_11 : decode b_MD_comes 11 = .ok (.aload_n 0, 1) := by decide +kernel
theorem d_MD_comes_12 : decode b_MD_comes 12 = .ok (.getfield 13, 3) := by decide +kernel
theorem d_MD_comes_15 : decode b_MD_comes 15 = .ok (.if_icmp .le 7, 3) := by decide +kernel
theorem d_MD_comes_18 : decode b_MD_comes 18 = .ok (.iconst 1, 1) := by decide +kernel
theorem d_MD_comes_19 : decode b_MD_comes 19 = .ok (.goto 4, 3) := by decide +kernel
theorem d_MD_comes_22 : decode b_MD_comes 22 = .ok (.iconst 0, 1) := by decide +kernel
theorem d_MD_comes_23 : decode b_MD_comes 23 = .ok (.istore_n 1, 1) := by decide +kernel
theorem d_MD_comes_24 : decode b_MD_comes 24 = .ok (.iload_n 1, 1) := by decide +kernel
theorem d_MD_comes_25 : decode b_MD_comes 25 = .ok (.ifCond .eq 10, 3) := by decide +kernel
theorem d_MD_comes_28 : decode b_MD_comes 28 = .ok (.aload_n 0, 1) := by decide +kernel
theorem d_MD_comes_29 : decode b_MD_comes 29 = .ok (.getfield 13, 3) := by decide +kernel
theorem d_MD_comes_32 : decode b_MD_comes 32 = .ok (.goto 7, 3) := by decide +kernel
theorem d_MD_comes_35 : decode b_MD_comes 35 = .ok (.aload_n 0, 1) := by decide +kernel
theorem d_MD_comes_36 : decode b_MD_comes 36 = .ok (.getfield 98, 3) := by decide +kernel
theorem d_MD_comes_39 : decode b_MD_comes 39 = .ok (.istore_n 2, 1) := by decide +kernel
theorem d_MD_comes_40 : decode b_MD_comes 40 = .ok (.iconst 0, 1) := by decide +kernel
theorem d_MD_comes_41 : decode b_MD_comes 41 = .ok (.istore_n 3, 1) := by decide +kernel
theorem d_MD_comes_42 : decode b_MD_comes 42 = .ok (.iload_n 3, 1) := by decide +kernel
theorem d_MD_comes_43 : decode b_MD_comes 43 = .ok (.iload_n 2, 1) := by decide +kernel
theorem d_MD_comes_44 : decode b_MD_comes 44 = .ok (.if_icmp .ge 26, 3) := by decide +kernel
theorem d_MD_comes_47 : decode b_MD_comes 47 = .ok (.aload_n 0, 1) := by decide +kernel
theorem d_MD_comes_48 : decode b_MD_comes 48 = .ok (.getfield 7, 3) := by decide +kernel
theorem d_MD_comes_51 : decode b_MD_comes 51 = .ok (.aload_n 0, 1) := by decide +kernel
theorem d_MD_comes_52 : decode b_MD_comes 52 = .ok (.getfield 30, 3) := by decide +kernel
theorem d_MD_comes_55 : decode b_MD_comes 55 = .ok (.iload_n 3, 1) := by decide +kernel
theorem d_MD_comes_56 : decode b_MD_comes 56 = .ok (.iaload, 1) := by decide +kernel
theorem d_MD_comes_57 : decode b_MD_comes 57 = .ok (.aload_n 0, 1) := by decide +kernel
theorem d_MD_comes_58 : decode b_MD_comes 58 = .ok (.getfield 33, 3) := by decide +kernel
theorem d_MD_comes_61 : decode b_MD_comes 61 = .ok (.iload_n 3, 1) := by decide +kernel
theorem d_MD_comes_62 : decode b_MD_comes 62 = .ok (.iaload, 1) := by decide +kernel
theorem d_MD_comes_63 : decode b_MD_comes 63 = .ok (.iastore, 1) := by decide +kernel
theorem d_MD_comes_64 : decode b_MD_comes 64 = .ok (.iinc 3 1, 3) := by decide +kernel
theorem d_MD_comes_67 : decode b_MD_comes 67 = .ok (.goto (-25), 3) := by decide +kernel
theorem d_MD_comes_70 : decode b_MD_comes 70 = .ok (.aload_n 0, 1) := by decide +kernel
theorem d_MD_comes_71 : decode b_MD_comes 71 = .ok (.iconst (-1), 1) := by decide +kernel
theorem d_MD_comes_72 : decode b_MD_comes 72 = .ok (.putfield 13, 3) := by decide +kernel
theorem d_MD_comes_75 : decode b_MD_comes 75 = .ok (.aload_n 0, 1) := by decide +kernel
theorem d_MD_comes_76 : decode b_MD_comes 76 = .ok (.aload_n 0, 1) := by decide +kernel
theorem d_MD_comes_77 : decode b_MD_comes 77 = .ok (.getfield 111, 3) := by decide +kernel
theorem d_MD_comes_80 : decode b_MD_comes 80 = .ok (.ifCond .ne 7, 3) := by decide +kernel
theorem d_MD_comes_83 : decode b_MD_comes 83 = .ok (.iload_n 1, 1) := by decide +kernel
theorem d_MD_comes_84 : decode b_MD_comes 84 = .ok (.ifCond .eq 7, 3) := by decide +kernel
theorem d_MD_comes_87 : decode b_MD_comes 87 = .ok (.iconst 1, 1) := by decide +kernel
theorem d_MD_comes_88 : decode b_MD_comes 88 = .ok (.goto 4, 3) := by decide +kernel
theorem d_MD_comes_91 : decode b_MD_comes 91 = .ok (.iconst 0, 1) := by decide +kernel
theorem d_MD_comes_92 : decode b_MD_comes 92 = .ok (.putfield 111, 3) := by decide +kernel
theorem d_MD_comes_95 : decode b_MD_comes 95 = .ok (.iload_n 1, 1) := by decide +kernel
theorem d_MD_comes_96 : decode b_MD_comes 96 = .ok (.ifCond .ne 7, 3) := by decide +kernel
theorem d_MD_comes_99 : decode b_MD_comes 99 = .ok (.iconst 1, 1) := by decide +kernel
theorem d_MD_comes_100 : decode b_MD_comes 100 = .ok (.goto 4, 3) := by decide +kernel
theorem d_MD_comes_103 : decode b_MD_comes 103 = .ok (.iconst 0, 1) := by decide +kernel
theorem d_MD_comes_104 : decode b_MD_comes 104 = .ok (.ireturn, 1) := by decide +kernel
theorem f_MD_freeFrom_ok {xtk : Nat → Int32} {fr P : Nat} (hP : P ≤ 24) : ∀ (fu k j : Nat), k + fu = 25 → fr + k ≤ j → j < P → xtk j = 0 → ∃ z : Nat, f_MD_freeFrom_l2 xtk fr fu k = nI z ∧ z < P ∧ md_nf xtk (fr + k) (P - (fr + k)) = 1 + md_nf xtk (z + 1) (P - (z + 1)) := by
  intro fu
  induction fu with
  | zero => intro k j h1 h2 h3 h4; omega
  | succ fu ih =>
    intro k j h1 h2 h3 h4
    rw [f_MD_freeFrom_l2]
    have e1 : md_nf xtk (fr + k) (P - (fr + k)) = (if xtk (fr + k) = 0 then 1 else 0) + md_nf xtk (fr + k + 1) (P - (fr + k + 1)) := by
      rw [show P - (fr + k) = (P - (fr + k + 1)) + 1 by omega]
      rfl
    by_cases c : xtk (fr + k) = 0
    · rw [if_pos c] at e1 ⊢
      exact ⟨fr + k, rfl, by omega, e1⟩
    · rw [if_neg c] at e1 ⊢
      rw [e1]
      rcases Nat.lt_or_ge (fr + k) j with h9 | h9
      · obtain ⟨z, h5, h6, h7⟩ := ih (k + 1) j (by omega) (by omega) h3 h4
        exact ⟨z, h5, h6, by rw [Nat.zero_add]; exact h7⟩
      · exact absurd (by rw [show fr + k = j by omega]; exact h4) c
theorem md_FF {xtk : Nat → Int32} {fr P z : Nat} {x : Int32} (hx : x = f_MD_freeFrom xtk fr) (hP : P ≤ 24) (h : 1 ≤ md_nf xtk fr (P - fr)) (hz : z = x.toNatClampNeg) : x = nI z ∧ z < P ∧ md_nf xtk fr (P - fr) = 1 + md_nf xtk (z + 1) (P - (z + 1)) := by
  obtain ⟨j, h1, h2, h3⟩ := md_nf_ex _ h
  obtain ⟨y, h4, h5, h6⟩ := f_MD_freeFrom_ok (xtk := xtk) (fr := fr) hP 25 0 j (by omega) (by omega) (by omega) h3
  have h7 : x = nI y := by rw [hx]; exact h4
  rw [h7, nI_clamp (by omega)] at hz
  subst hz
  exact ⟨h7, h5, h6⟩
theorem md_pc {vp : Int32} {z P : Nat} {X : Nat → Prop} (hP : P ≤ 24) (hz : z = vp.toNatClampNeg) (h : ∃ y : Nat, vp = nI y ∧ y < P ∧ X y) : vp = nI z ∧ z < P ∧ X z := by
  obtain ⟨y, h1, h2, h3⟩ := h
  rw [h1, nI_clamp (by omega)] at hz
  subst hz
  exact ⟨h1, h2, h3⟩
def f_MD_putChain_0_l125_0 (xhe : Nat → Int32) (ho : Nat) (mn : Nat) (vp : Int32) (k : Nat) : Nat → Nat → (Nat → Int32) → (Nat → Int32) → ((Nat → Int32) × (Nat → Int32))
  | 0, _, _, _ => ((fun _ => 0), (fun _ => 0))
  | fu + 1, kk, yt, yw =>
    if 25 ≤ (nI kk) then
      (yt, yw)
    else
      f_MD_putChain_0_l125_0 xhe ho mn vp k fu (kk + 1) (upd yt (((((mn + (32 * k)) + 1) + 1) + 1) + kk) (nI (((0 + (32 * (vp.toNatClampNeg))) + 3) + kk))) (upd yw (((((mn + (32 * k)) + 1) + 1) + 1) + kk) (xhe ((25 * k) + kk)))
def f_MD_putChain_0_l125_1 (xhe : Nat → Int32) (ho : Nat) (mn : Nat) (vp : Int32) (k : Nat) : Nat → Nat → (Nat → Int32) → (Nat → Int32) → ((Nat → Int32) × (Nat → Int32))
  | 0, _, _, _ => ((fun _ => 0), (fun _ => 0))
  | fu + 1, kk, yt, yw =>
    if 25 ≤ (nI kk) then
      (yt, yw)
    else
      if (nI (ho - (25 * k))) ≤ (nI kk) then
        f_MD_putChain_0_l125_1 xhe ho mn vp k fu (kk + 1) (upd yt (((((mn + (32 * k)) + 1) + 1) + 1) + kk) (nI (((0 + (32 * (vp.toNatClampNeg))) + 3) + kk))) (upd yw (((((mn + (32 * k)) + 1) + 1) + 1) + kk) 0)
      else
        f_MD_putChain_0_l125_1 xhe ho mn vp k fu (kk + 1) (upd yt (((((mn + (32 * k)) + 1) + 1) + 1) + kk) (nI (((0 + (32 * (vp.toNatClampNeg))) + 3) + kk))) (upd yw (((((mn + (32 * k)) + 1) + 1) + 1) + kk) (xhe ((25 * k) + kk)))
def f_MD_putChain_0_l12 (xhe : Nat → Int32) (xtk : Nat → Int32) (ho : Nat) (mn : Nat) (mo : Int32) : Nat → Nat → Int32 → Int32 → (Nat → Int32) → (Nat → Int32) → (Int32 × (Nat → Int32) × (Nat → Int32))
  | 0, _, _, _, _, _ => (0, (fun _ => 0), (fun _ => 0))
  | fu + 1, k, vf, vp, vt, vw =>
    if (nI ho) ≤ (nI (25 * k)) then
      (vf, vt, vw)
    else
      if 25 ≤ (nI (ho - (25 * k))) then
        if (nI ((25 * k) + 25)) = (nI ho) then
          f_MD_putChain_0_l12 xhe xtk ho mn mo fu (k + 1) vf (-1) (f_MD_putSum (f_MD_putChain_0_l125_0 xhe ho mn vp k (25 + 1) 0 (upd (upd (upd vt (mn + (32 * k)) (nI (0 + (32 * (vp.toNatClampNeg))))) ((mn + (32 * k)) + 1) (nI ((0 + (32 * (vp.toNatClampNeg))) + 1))) (((mn + (32 * k)) + 1) + 1) (nI ((0 + (32 * (vp.toNatClampNeg))) + 2))) (upd (upd (upd vw (mn + (32 * k)) ((-1) + 1)) ((mn + (32 * k)) + 1) 25) (((mn + (32 * k)) + 1) + 1) mo)).1 (f_MD_putChain_0_l125_0 xhe ho mn vp k (25 + 1) 0 (upd (upd (upd vt (mn + (32 * k)) (nI (0 + (32 * (vp.toNatClampNeg))))) ((mn + (32 * k)) + 1) (nI ((0 + (32 * (vp.toNatClampNeg))) + 1))) (((mn + (32 * k)) + 1) + 1) (nI ((0 + (32 * (vp.toNatClampNeg))) + 2))) (upd (upd (upd vw (mn + (32 * k)) ((-1) + 1)) ((mn + (32 * k)) + 1) 25) (((mn + (32 * k)) + 1) + 1) mo)).2 (((((mn + (32 * k)) + 1) + 1) + 1) + 25) 28 (0 + (32 * (vp.toNatClampNeg)))).1 (f_MD_putSum (f_MD_putChain_0_l125_0 xhe ho mn vp k (25 + 1) 0 (upd (upd (upd vt (mn + (32 * k)) (nI (0 + (32 * (vp.toNatClampNeg))))) ((mn + (32 * k)) + 1) (nI ((0 + (32 * (vp.toNatClampNeg))) + 1))) (((mn + (32 * k)) + 1) + 1) (nI ((0 + (32 * (vp.toNatClampNeg))) + 2))) (upd (upd (upd vw (mn + (32 * k)) ((-1) + 1)) ((mn + (32 * k)) + 1) 25) (((mn + (32 * k)) + 1) + 1) mo)).1 (f_MD_putChain_0_l125_0 xhe ho mn vp k (25 + 1) 0 (upd (upd (upd vt (mn + (32 * k)) (nI (0 + (32 * (vp.toNatClampNeg))))) ((mn + (32 * k)) + 1) (nI ((0 + (32 * (vp.toNatClampNeg))) + 1))) (((mn + (32 * k)) + 1) + 1) (nI ((0 + (32 * (vp.toNatClampNeg))) + 2))) (upd (upd (upd vw (mn + (32 * k)) ((-1) + 1)) ((mn + (32 * k)) + 1) 25) (((mn + (32 * k)) + 1) + 1) mo)).2 (((((mn + (32 * k)) + 1) + 1) + 1) + 25) 28 (0 + (32 * (vp.toNatClampNeg)))).2
        else
          f_MD_putChain_0_l12 xhe xtk ho mn mo fu (k + 1) vf (nI ((f_MD_freeFrom xtk ((vp.toNatClampNeg) + 1)).toNatClampNeg)) (f_MD_putSum (f_MD_putChain_0_l125_0 xhe ho mn vp k (25 + 1) 0 (upd (upd (upd vt (mn + (32 * k)) (nI (0 + (32 * (vp.toNatClampNeg))))) ((mn + (32 * k)) + 1) (nI ((0 + (32 * (vp.toNatClampNeg))) + 1))) (((mn + (32 * k)) + 1) + 1) (nI ((0 + (32 * (vp.toNatClampNeg))) + 2))) (upd (upd (upd vw (mn + (32 * k)) (nI (((f_MD_freeFrom xtk ((vp.toNatClampNeg) + 1)).toNatClampNeg) + 1))) ((mn + (32 * k)) + 1) 25) (((mn + (32 * k)) + 1) + 1) mo)).1 (f_MD_putChain_0_l125_0 xhe ho mn vp k (25 + 1) 0 (upd (upd (upd vt (mn + (32 * k)) (nI (0 + (32 * (vp.toNatClampNeg))))) ((mn + (32 * k)) + 1) (nI ((0 + (32 * (vp.toNatClampNeg))) + 1))) (((mn + (32 * k)) + 1) + 1) (nI ((0 + (32 * (vp.toNatClampNeg))) + 2))) (upd (upd (upd vw (mn + (32 * k)) (nI (((f_MD_freeFrom xtk ((vp.toNatClampNeg) + 1)).toNatClampNeg) + 1))) ((mn + (32 * k)) + 1) 25) (((mn + (32 * k)) + 1) + 1) mo)).2 (((((mn + (32 * k)) + 1) + 1) + 1) + 25) 28 (0 + (32 * (vp.toNatClampNeg)))).1 (f_MD_putSum (f_MD_putChain_0_l125_0 xhe ho mn vp k (25 + 1) 0 (upd (upd (upd vt (mn + (32 * k)) (nI (0 + (32 * (vp.toNatClampNeg))))) ((mn + (32 * k)) + 1) (nI ((0 + (32 * (vp.toNatClampNeg))) + 1))) (((mn + (32 * k)) + 1) + 1) (nI ((0 + (32 * (vp.toNatClampNeg))) + 2))) (upd (upd (upd vw (mn + (32 * k)) (nI (((f_MD_freeFrom xtk ((vp.toNatClampNeg) + 1)).toNatClampNeg) + 1))) ((mn + (32 * k)) + 1) 25) (((mn + (32 * k)) + 1) + 1) mo)).1 (f_MD_putChain_0_l125_0 xhe ho mn vp k (25 + 1) 0 (upd (upd (upd vt (mn + (32 * k)) (nI (0 + (32 * (vp.toNatClampNeg))))) ((mn + (32 * k)) + 1) (nI ((0 + (32 * (vp.toNatClampNeg))) + 1))) (((mn + (32 * k)) + 1) + 1) (nI ((0 + (32 * (vp.toNatClampNeg))) + 2))) (upd (upd (upd vw (mn + (32 * k)) (nI (((f_MD_freeFrom xtk ((vp.toNatClampNeg) + 1)).toNatClampNeg) + 1))) ((mn + (32 * k)) + 1) 25) (((mn + (32 * k)) + 1) + 1) mo)).2 (((((mn + (32 * k)) + 1) + 1) + 1) + 25) 28 (0 + (32 * (vp.toNatClampNeg)))).2
      else
        f_MD_putChain_0_l12 xhe xtk ho mn mo fu (k + 1) vf (-1) (f_MD_putSum (f_MD_putChain_0_l125_1 xhe ho mn vp k (25 + 1) 0 (upd (upd (upd vt (mn + (32 * k)) (nI (0 + (32 * (vp.toNatClampNeg))))) ((mn + (32 * k)) + 1) (nI ((0 + (32 * (vp.toNatClampNeg))) + 1))) (((mn + (32 * k)) + 1) + 1) (nI ((0 + (32 * (vp.toNatClampNeg))) + 2))) (upd (upd (upd vw (mn + (32 * k)) ((-1) + 1)) ((mn + (32 * k)) + 1) (nI (ho - (25 * k)))) (((mn + (32 * k)) + 1) + 1) mo)).1 (f_MD_putChain_0_l125_1 xhe ho mn vp k (25 + 1) 0 (upd (upd (upd vt (mn + (32 * k)) (nI (0 + (32 * (vp.toNatClampNeg))))) ((mn + (32 * k)) + 1) (nI ((0 + (32 * (vp.toNatClampNeg))) + 1))) (((mn + (32 * k)) + 1) + 1) (nI ((0 + (32 * (vp.toNatClampNeg))) + 2))) (upd (upd (upd vw (mn + (32 * k)) ((-1) + 1)) ((mn + (32 * k)) + 1) (nI (ho - (25 * k)))) (((mn + (32 * k)) + 1) + 1) mo)).2 (((((mn + (32 * k)) + 1) + 1) + 1) + 25) 28 (0 + (32 * (vp.toNatClampNeg)))).1 (f_MD_putSum (f_MD_putChain_0_l125_1 xhe ho mn vp k (25 + 1) 0 (upd (upd (upd vt (mn + (32 * k)) (nI (0 + (32 * (vp.toNatClampNeg))))) ((mn + (32 * k)) + 1) (nI ((0 + (32 * (vp.toNatClampNeg))) + 1))) (((mn + (32 * k)) + 1) + 1) (nI ((0 + (32 * (vp.toNatClampNeg))) + 2))) (upd (upd (upd vw (mn + (32 * k)) ((-1) + 1)) ((mn + (32 * k)) + 1) (nI (ho - (25 * k)))) (((mn + (32 * k)) + 1) + 1) mo)).1 (f_MD_putChain_0_l125_1 xhe ho mn vp k (25 + 1) 0 (upd (upd (upd vt (mn + (32 * k)) (nI (0 + (32 * (vp.toNatClampNeg))))) ((mn + (32 * k)) + 1) (nI ((0 + (32 * (vp.toNatClampNeg))) + 1))) (((mn + (32 * k)) + 1) + 1) (nI ((0 + (32 * (vp.toNatClampNeg))) + 2))) (upd (upd (upd vw (mn + (32 * k)) ((-1) + 1)) ((mn + (32 * k)) + 1) (nI (ho - (25 * k)))) (((mn + (32 * k)) + 1) + 1) mo)).2 (((((mn + (32 * k)) + 1) + 1) + 1) + 25) 28 (0 + (32 * (vp.toNatClampNeg)))).2
def f_MD_putChain_0 (xhe : Nat → Int32) (xtk : Nat → Int32) (xto : Nat → Int32) (xwa : Nat → Int32) (ho : Nat) (mn : Nat) (mo : Int32) : (Int32 × (Nat → Int32) × (Nat → Int32)) :=
  f_MD_putChain_0_l12 xhe xtk ho mn mo (3 + 1) 0 (nI ((f_MD_freeFrom xtk 0).toNatClampNeg)) (nI ((f_MD_freeFrom xtk 0).toNatClampNeg)) xto xwa
set_option maxHeartbeats 1000000 in
set_option maxRecDepth 100000 in
/-- putChain -/
theorem c_MD_putChain_0 (l : Launch) (D : va_G) (cI cZ cJ : ClassId) (q : Nat → Nat) (xth : Int32) (xB : Nat → Int32) (xsh : Int32) (xcu : Int32) (xtp : Nat → Int32) (xtd : Int32) (xpa : Nat → Int32) (xsp : Int32) (xwh : Int32) (xhe : Nat → Int32) (xtk : Nat → Int32) (xto : Nat → Int32) (xwa : Nat → Int32) (ho : Nat) (mn : Nat) (mo : Int32) (h1 : 1 ≤ ho) (h2 : ho ≤ 75) (hm : mn + 96 ≤ 136) (hfr : (ho + 24) / 25 ≤ md_nf xtk 0 (24 - 0)) : sf_M (S := (Int32 × (Nat → Int32) × (Nat → Int32))) l D classes (sf_tys cI cZ cJ) y_MD_putChain (sf_ws y_MD_putChain b_MD_putChain 11 (some .int)) 2 46 [.ref (q 0), .int 0, .int mo] (md_w q cI cZ xth xB xsh xcu xtp xtd xpa xsp xwh xhe (nI ho) xtk xto xwa (nI mn)) (fun r => some (.int r.1)) (fun r => r = f_MD_putChain_0 xhe xtk xto xwa ho mn mo) (fun r => (md_w q cI cZ xth xB xsh xcu xtp xtd xpa xsp xwh xhe (nI ho) xtk r.2.1 r.2.2 (nI (mn + 32 * ((ho + 24) / 25))))) := by
  refine sf_ofW (S := (Int32 × (Nat → Int32) × (Nat → Int32))) (by decide) (Nat.le_of_ble_eq_true rfl) ?_
  intro p e s m below meth c A ls R args Q hR hArgs hQ hC0 hr hK hP hD hl
  obtain ⟨hx, hb, hml, hown, hts, hA, hlk⟩ := hC0
  have hS : va_S A s.heap s.heap [] := va_S.rf
  have hl : lv_has ls 11 [(0, .ref (q 0)), (1, .int 0), (2, .int mo)] := hl
  refine lv_aload_n hx hb d_MD_putChain_0 rfl (lv_at hl 0 rfl) ?_
  refine lv_iconst (v := 0) hx hb d_MD_putChain_1 (by decide) ?_
  refine sf_callVw (S := Int32) (rest := []) ⟨hx, hb, hml, hown, hts⟩ (c_MD_freeFrom l D cI cZ cJ q xth xB xsh xcu xtp xtd xpa xsp xwh xhe (nI ho) xtk xto xwa (nI mn) 0 (md_nf_ex24 (P := 24) (by omega) (by omega))) (sf_cwV lk_MD_105 hts (fun _ h => h) (by rw [hR]; exact ⟨Nat.le_of_ble_eq_true rfl, Nat.le_of_ble_eq_true rfl⟩)) hK hP hD hS hA (fun _ => by simp only [md_w_fst]) (ci := 3) (q0 := 0) rfl rfl rfl rfl rfl hl.1 (Nat.le_of_ble_eq_true rfl) d_MD_putChain_2 ⟨Nat.zero_le _, Nat.zero_le _⟩ (fun u_1 H locs hu_1 hP hD hS => ?_)
  have hP : va_P D classes (md_w q cI cZ xth xB xsh xcu xtp xtd xpa xsp xwh xhe (nI ho) xtk xto xwa (nI mn)) H := hP
  have hD : va_D A (md_w q cI cZ xth xB xsh xcu xtp xtd xpa xsp xwh xhe (nI ho) xtk xto xwa (nI mn)) := hD
  obtain ⟨u_2, hu_2⟩ : ∃ z, z = u_1.toNatClampNeg := ⟨_, rfl⟩
  obtain ⟨he_u_2, hb_u_2, hc_u_2⟩ := md_FF (P := 24) (fr := 0) hu_1 (by omega) (by omega) hu_2
  rw [he_u_2]
  refine lv_istore_n (lv' := [(3, .int (nI u_2)), (0, .ref (q 0)), (1, .int 0), (2, .int mo)]) hx hb d_MD_putChain_5 rfl hl (by decide) rfl (fun ls hl => ?_)
  refine lv_iload_n hx hb d_MD_putChain_6 rfl (lv_at hl 0 rfl) ?_
  refine lv_istore (lv' := [(4, .int (nI u_2)), (3, .int (nI u_2)), (0, .ref (q 0)), (1, .int 0), (2, .int mo)]) hx hb d_MD_putChain_7 hl (by decide) rfl (fun ls hl => ?_)
  refine lv_iconst (v := 0) hx hb d_MD_putChain_9 (by decide) ?_
  refine lv_istore (lv' := [(5, .int 0), (4, .int (nI u_2)), (3, .int (nI u_2)), (0, .ref (q 0)), (1, .int 0), (2, .int mo)]) hx hb d_MD_putChain_10 hl (by decide) rfl (fun ls hl => ?_)
  have loop12 : ∀ (fu k : Nat) (vf : Int32) (vp : Int32) (vt : (Nat → Int32)) (vw : (Nat → Int32)), k ≤ 3 → k + fu = 3 + 1 → (25 * k < ho → ∃ z : Nat, vp = nI z ∧ z < 24 ∧ (ho + 24) / 25 ≤ k + 1 + md_nf xtk (z + 1) (24 - (z + 1))) → 25 * k < ho + 25 → f_MD_putChain_0_l12 xhe xtk ho mn mo fu k vf vp vt vw = f_MD_putChain_0 xhe xtk xto xwa ho mn mo → ∀ (H : Heap) (locs : List Loc), va_P D classes (md_w q cI cZ xth xB xsh xcu xtp xtd xpa xsp xwh xhe (nI ho) xtk vt vw (nI (mn + (32 * k)))) H → va_D A (md_w q cI cZ xth xB xsh xcu xtp xtd xpa xsp xwh xhe (nI ho) xtk vt vw (nI (mn + (32 * k)))) → va_S A s.heap H locs → ∀ (ls : Array Slot), lv_has ls 11 [(0, .ref (q 0)), (1, .int 0), (2, .int mo), (3, .int vf), (4, .int vp), (5, .int (nI (25 * k)))] → W p l e R s m args below meth c H locs 0 0 Q (F0 m 12 ls []) := by
    intro fu
    induction fu with
    | zero =>
      intro k vf vp vt vw h1 h2
      exact absurd h2 (by omega)
    | succ fu ih12 =>
      intro k vf vp vt vw hk12 hkn12 hi120 hi121 heq12 H locs hP hD hS ls hl
      refine lv_iload hx hb d_MD_putChain_12 (lv_at hl 5 rfl) ?_
      refine lv_aload_n hx hb d_MD_putChain_14 rfl (lv_at hl 0 rfl) ?_
      refine va_get (D := D) (ci := 3) (v := .int (nI ho)) (C := R_MD) (T := F_MD) (N := 15) hx hb hts i_MD hown hK hP 0 rfl rfl 10 (by decide) (hts _ wd_585) (fun _ h9 => h9) rfl d_MD_putChain_15 ?_
      refine lv_icmp_ge (tgt := 188) hx hb d_MD_putChain_18 (by decide) (fun c_3 => ?_) (fun c_3 => ?_)
      · have hle9 : ho ≤ 25 * k := (nI_leI (by omega) (by omega)).mp c_3
        have hk9 : mn + (32 * k) = mn + 32 * ((ho + 24) / 25) := by omega
        rw [hk9] at hP hD
        refine lv_iload_n hx hb d_MD_putChain_188 rfl (lv_at hl 3 rfl) ?_
        rw [hQ]
        exact sf_iret (vf, vt, vw) hx hb hr hlk hS rfl rfl (by rw [← heq12]; simp only [f_MD_putChain_0_l12, ← hu_1, ← hu_2, eq_true c_3, ↓reduceIte]) hP d_MD_putChain_189
      · have hlt : 25 * k < ho := sf_lt_of (N := ho) (k := 25 * k) (by omega) (by omega) c_3
        obtain ⟨u_4, hu_4⟩ : ∃ z, z = vp.toNatClampNeg := ⟨_, rfl⟩
        obtain ⟨he_u_4, hb_u_4, hc_u_4⟩ := md_pc (P := 24) (by omega) hu_4 (hi120 hlt)
        rw [he_u_4] at hl
        refine lv_aload_n hx hb d_MD_putChain_21 rfl (lv_at hl 0 rfl) ?_
        refine va_get (D := D) (ci := 3) (v := .int (nI ho)) (C := R_MD) (T := F_MD) (N := 15) hx hb hts i_MD hown hK hP 0 rfl rfl 10 (by decide) (hts _ wd_585) (fun _ h9 => h9) rfl d_MD_putChain_22 ?_
        refine lv_iload hx hb d_MD_putChain_25 (lv_at hl 5 rfl) ?_
        refine lv_isub hx hb d_MD_putChain_27 ?_
        rw [show (((nI ho) - (nI (25 * k))) : Int32) = (nI (ho - (25 * k))) from pk_sub (a := ho) (b := (25 * k)) (by omega)]
        refine lv_bipush (v := 25) hx hb d_MD_putChain_28 (by decide) ?_
        refine lv_icmp_ge (tgt := 43) hx hb d_MD_putChain_30 (by decide) (fun c_5 => ?_) (fun c_5 => ?_)
        · have hn8 : 25 ≤ ho - 25 * k := (nI_leI (a := 25) (by omega) (by omega)).mp c_5
          refine lv_bipush (v := 25) hx hb d_MD_putChain_43 (by decide) ?_
          refine lv_istore (lv' := [(6, .int 25), (0, .ref (q 0)), (1, .int 0), (2, .int mo), (3, .int vf), (4, .int (nI u_4)), (5, .int (nI (25 * k)))]) hx hb d_MD_putChain_45 hl (by decide) rfl (fun ls hl => ?_)
          refine lv_iload hx hb d_MD_putChain_47 (lv_at hl 6 rfl) ?_
          refine lv_iload hx hb d_MD_putChain_49 (lv_at hl 0 rfl) ?_
          refine lv_iadd hx hb d_MD_putChain_51 ?_
          rw [show (((nI (25 * k)) + 25) : Int32) = (nI ((25 * k) + 25)) from nI_add (25 * k) 25]
          refine lv_aload_n hx hb d_MD_putChain_52 rfl (lv_at hl 1 rfl) ?_
          refine va_get (D := D) (ci := 3) (v := .int (nI ho)) (C := R_MD) (T := F_MD) (N := 15) hx hb hts i_MD hown hK hP 0 rfl rfl 10 (by decide) (hts _ wd_585) (fun _ h9 => h9) rfl d_MD_putChain_53 ?_
          refine lv_icmp_ne (tgt := 63) hx hb d_MD_putChain_56 (by decide) (fun c_6 => ?_) (fun c_6 => ?_)
          · have hn9 : ¬ 25 * k + 25 = ho := fun h9 => c_6 (congrArg nI h9)
            refine lv_iconst (v := 0) hx hb d_MD_putChain_63 (by decide) ?_
            refine lv_istore (lv' := [(7, .int 0), (6, .int 25), (0, .ref (q 0)), (1, .int 0), (2, .int mo), (3, .int vf), (4, .int (nI u_4)), (5, .int (nI (25 * k)))]) hx hb d_MD_putChain_64 hl (by decide) rfl (fun ls hl => ?_)
            refine lv_iload hx hb d_MD_putChain_66 (lv_at hl 0 rfl) ?_
            refine lv_if_eq (tgt := 75) hx hb d_MD_putChain_68 (by decide) (fun c_7 => ?_) (fun c_7 => absurd (by decide) c_7)
            refine lv_aload_n hx hb d_MD_putChain_75 rfl (lv_at hl 2 rfl) ?_
            refine lv_iload hx hb d_MD_putChain_76 (lv_at hl 6 rfl) ?_
            refine lv_iconst (v := 1) hx hb d_MD_putChain_78 (by decide) ?_
            refine lv_iadd hx hb d_MD_putChain_79 ?_
            rw [show (((nI u_4) + 1) : Int32) = (nI (u_4 + 1)) from nI_add u_4 1]
            refine sf_callVw (S := Int32) (rest := []) ⟨hx, hb, hml, hown, hts⟩ (c_MD_freeFrom l D cI cZ cJ q xth xB xsh xcu xtp xtd xpa xsp xwh xhe (nI ho) xtk vt vw (nI (mn + (32 * k))) (u_4 + 1) (md_nf_ex24 (P := 24) (by omega) (by omega))) (sf_cwV lk_MD_105 hts (fun _ h => h) (by rw [hR]; exact ⟨Nat.le_of_ble_eq_true rfl, Nat.le_of_ble_eq_true rfl⟩)) hK hP hD hS hA (fun _ => by simp only [md_w_fst]) (ci := 3) (q0 := 0) rfl rfl rfl rfl rfl hl.1 (Nat.le_of_ble_eq_true rfl) d_MD_putChain_80 ⟨Nat.zero_le _, Nat.zero_le _⟩ (fun u_8 H locs hu_8 hP hD hS => ?_)
            have hP : va_P D classes (md_w q cI cZ xth xB xsh xcu xtp xtd xpa xsp xwh xhe (nI ho) xtk vt vw (nI (mn + (32 * k)))) H := hP
            have hD : va_D A (md_w q cI cZ xth xB xsh xcu xtp xtd xpa xsp xwh xhe (nI ho) xtk vt vw (nI (mn + (32 * k)))) := hD
            obtain ⟨u_9, hu_9⟩ : ∃ z, z = u_8.toNatClampNeg := ⟨_, rfl⟩
            obtain ⟨he_u_9, hb_u_9, hc_u_9⟩ := md_FF (P := 24) (fr := (u_4 + 1)) hu_8 (by omega) (by omega) hu_9
            rw [he_u_9]
            refine lv_istore (lv' := [(8, .int (nI u_9)), (7, .int 0), (6, .int 25), (0, .ref (q 0)), (1, .int 0), (2, .int mo), (3, .int vf), (4, .int (nI u_4)), (5, .int (nI (25 * k)))]) hx hb d_MD_putChain_83 hl (by decide) rfl (fun ls hl => ?_)
            refine lv_iload_n hx hb d_MD_putChain_85 rfl (lv_at hl 4 rfl) ?_
            refine lv_iload hx hb d_MD_putChain_86 (lv_at hl 7 rfl) ?_
            refine sf_callSr (S := Unit) (rest := []) ⟨hx, hb, hml, hown, hts⟩ (c_MD_begin_0 l D cI cZ cJ u_4) (sf_cwS lk_MD_84 hts (fun _ h => h) (by rw [hR]; exact ⟨Nat.le_of_ble_eq_true rfl, Nat.le_of_ble_eq_true rfl⟩)) hK hP hD hS hA [] rfl rfl (fun _ => rfl) rfl rfl hl.1 (Nat.le_of_ble_eq_true rfl) d_MD_putChain_88 ⟨Nat.zero_le _, Nat.zero_le _⟩ (fun u H locs hu hP hS => ?_)
            refine lv_istore (lv' := [(9, .int (nI (0 + (32 * u_4)))), (8, .int (nI u_9)), (7, .int 0), (6, .int 25), (0, .ref (q 0)), (1, .int 0), (2, .int mo), (3, .int vf), (4, .int (nI u_4)), (5, .int (nI (25 * k)))]) hx hb d_MD_putChain_91 hl (by decide) rfl (fun ls hl => ?_)
            refine lv_aload_n hx hb d_MD_putChain_93 rfl (lv_at hl 4 rfl) ?_
            refine lv_iload hx hb d_MD_putChain_94 (lv_at hl 0 rfl) ?_
            refine lv_iload hx hb d_MD_putChain_96 (lv_at hl 1 rfl) ?_
            refine lv_iconst (v := 1) hx hb d_MD_putChain_98 (by decide) ?_
            refine lv_iadd hx hb d_MD_putChain_99 ?_
            rw [show (((nI u_9) + 1) : Int32) = (nI (u_9 + 1)) from nI_add u_9 1]
            refine sf_callVw (S := Unit) (rest := []) ⟨hx, hb, hml, hown, hts⟩ (c_MD_put l D cI cZ cJ q xth xB xsh xcu xtp xtd xpa xsp xwh xhe (nI ho) xtk vt vw (mn + (32 * k)) (nI (0 + (32 * u_4))) (nI (u_9 + 1)) (by omega)) (sf_cwV lk_MD_101 hts (fun _ h => h) (by rw [hR]; exact ⟨Nat.le_of_ble_eq_true rfl, Nat.le_of_ble_eq_true rfl⟩)) hK hP hD hS hA (fun _ => by simp only [md_w_fst]) (ci := 3) (q0 := 0) rfl rfl rfl rfl rfl hl.1 (Nat.le_of_ble_eq_true rfl) d_MD_putChain_100 ⟨Nat.zero_le _, Nat.zero_le _⟩ (fun u H locs hu hP hD hS => ?_)
            have hP : va_P D classes (md_w q cI cZ xth xB xsh xcu xtp xtd xpa xsp xwh xhe (nI ho) xtk (upd vt (mn + (32 * k)) (nI (0 + (32 * u_4)))) (upd vw (mn + (32 * k)) (nI (u_9 + 1))) (nI ((mn + (32 * k)) + 1))) H := hP
            have hD : va_D A (md_w q cI cZ xth xB xsh xcu xtp xtd xpa xsp xwh xhe (nI ho) xtk (upd vt (mn + (32 * k)) (nI (0 + (32 * u_4)))) (upd vw (mn + (32 * k)) (nI (u_9 + 1))) (nI ((mn + (32 * k)) + 1))) := hD
            refine lv_aload_n hx hb d_MD_putChain_103 rfl (lv_at hl 4 rfl) ?_
            refine lv_iload hx hb d_MD_putChain_104 (lv_at hl 0 rfl) ?_
            refine lv_iconst (v := 1) hx hb d_MD_putChain_106 (by decide) ?_
            refine lv_iadd hx hb d_MD_putChain_107 ?_
            rw [show (((nI (0 + (32 * u_4))) + 1) : Int32) = (nI ((0 + (32 * u_4)) + 1)) from nI_add (0 + (32 * u_4)) 1]
            refine lv_iload hx hb d_MD_putChain_108 (lv_at hl 3 rfl) ?_
            refine sf_callVw (S := Unit) (rest := []) ⟨hx, hb, hml, hown, hts⟩ (c_MD_put l D cI cZ cJ q xth xB xsh xcu xtp xtd xpa xsp xwh xhe (nI ho) xtk (upd vt (mn + (32 * k)) (nI (0 + (32 * u_4)))) (upd vw (mn + (32 * k)) (nI (u_9 + 1))) ((mn + (32 * k)) + 1) (nI ((0 + (32 * u_4)) + 1)) 25 (by omega)) (sf_cwV lk_MD_101 hts (fun _ h => h) (by rw [hR]; exact ⟨Nat.le_of_ble_eq_true rfl, Nat.le_of_ble_eq_true rfl⟩)) hK hP hD hS hA (fun _ => by simp only [md_w_fst]) (ci := 3) (q0 := 0) rfl rfl rfl rfl rfl hl.1 (Nat.le_of_ble_eq_true rfl) d_MD_putChain_110 ⟨Nat.zero_le _, Nat.zero_le _⟩ (fun u H locs hu hP hD hS => ?_)
            have hP : va_P D classes (md_w q cI cZ xth xB xsh xcu xtp xtd xpa xsp xwh xhe (nI ho) xtk (upd (upd vt (mn + (32 * k)) (nI (0 + (32 * u_4)))) ((mn + (32 * k)) + 1) (nI ((0 + (32 * u_4)) + 1))) (upd (upd vw (mn + (32 * k)) (nI (u_9 + 1))) ((mn + (32 * k)) + 1) 25) (nI (((mn + (32 * k)) + 1) + 1))) H := hP
            have hD : va_D A (md_w q cI cZ xth xB xsh xcu xtp xtd xpa xsp xwh xhe (nI ho) xtk (upd (upd vt (mn + (32 * k)) (nI (0 + (32 * u_4)))) ((mn + (32 * k)) + 1) (nI ((0 + (32 * u_4)) + 1))) (upd (upd vw (mn + (32 * k)) (nI (u_9 + 1))) ((mn + (32 * k)) + 1) 25) (nI (((mn + (32 * k)) + 1) + 1))) := hD
            refine lv_aload_n hx hb d_MD_putChain_113 rfl (lv_at hl 4 rfl) ?_
            refine lv_iload hx hb d_MD_putChain_114 (lv_at hl 0 rfl) ?_
            refine lv_iconst (v := 2) hx hb d_MD_putChain_116 (by decide) ?_
            refine lv_iadd hx hb d_MD_putChain_117 ?_
            rw [show (((nI (0 + (32 * u_4))) + 2) : Int32) = (nI ((0 + (32 * u_4)) + 2)) from nI_add (0 + (32 * u_4)) 2]
            refine lv_iload_n hx hb d_MD_putChain_118 rfl (lv_at hl 6 rfl) ?_
            refine sf_callVw (S := Unit) (rest := []) ⟨hx, hb, hml, hown, hts⟩ (c_MD_put l D cI cZ cJ q xth xB xsh xcu xtp xtd xpa xsp xwh xhe (nI ho) xtk (upd (upd vt (mn + (32 * k)) (nI (0 + (32 * u_4)))) ((mn + (32 * k)) + 1) (nI ((0 + (32 * u_4)) + 1))) (upd (upd vw (mn + (32 * k)) (nI (u_9 + 1))) ((mn + (32 * k)) + 1) 25) (((mn + (32 * k)) + 1) + 1) (nI ((0 + (32 * u_4)) + 2)) mo (by omega)) (sf_cwV lk_MD_101 hts (fun _ h => h) (by rw [hR]; exact ⟨Nat.le_of_ble_eq_true rfl, Nat.le_of_ble_eq_true rfl⟩)) hK hP hD hS hA (fun _ => by simp only [md_w_fst]) (ci := 3) (q0 := 0) rfl rfl rfl rfl rfl hl.1 (Nat.le_of_ble_eq_true rfl) d_MD_putChain_119 ⟨Nat.zero_le _, Nat.zero_le _⟩ (fun u H locs hu hP hD hS => ?_)
            have hP : va_P D classes (md_w q cI cZ xth xB xsh xcu xtp xtd xpa xsp xwh xhe (nI ho) xtk (upd (upd (upd vt (mn + (32 * k)) (nI (0 + (32 * u_4)))) ((mn + (32 * k)) + 1) (nI ((0 + (32 * u_4)) + 1))) (((mn + (32 * k)) + 1) + 1) (nI ((0 + (32 * u_4)) + 2))) (upd (upd (upd vw (mn + (32 * k)) (nI (u_9 + 1))) ((mn + (32 * k)) + 1) 25) (((mn + (32 * k)) + 1) + 1) mo) (nI ((((mn + (32 * k)) + 1) + 1) + 1))) H := hP
            have hD : va_D A (md_w q cI cZ xth xB xsh xcu xtp xtd xpa xsp xwh xhe (nI ho) xtk (upd (upd (upd vt (mn + (32 * k)) (nI (0 + (32 * u_4)))) ((mn + (32 * k)) + 1) (nI ((0 + (32 * u_4)) + 1))) (((mn + (32 * k)) + 1) + 1) (nI ((0 + (32 * u_4)) + 2))) (upd (upd (upd vw (mn + (32 * k)) (nI (u_9 + 1))) ((mn + (32 * k)) + 1) 25) (((mn + (32 * k)) + 1) + 1) mo) (nI ((((mn + (32 * k)) + 1) + 1) + 1))) := hD
            refine lv_iconst (v := 0) hx hb d_MD_putChain_122 (by decide) ?_
            refine lv_istore (lv' := [(10, .int 0), (9, .int (nI (0 + (32 * u_4)))), (8, .int (nI u_9)), (7, .int 0), (6, .int 25), (0, .ref (q 0)), (1, .int 0), (2, .int mo), (3, .int vf), (4, .int (nI u_4)), (5, .int (nI (25 * k)))]) hx hb d_MD_putChain_123 hl (by decide) rfl (fun ls hl => ?_)
            obtain ⟨u_10, hu_10⟩ : ∃ z, z = (f_MD_putChain_0_l125_0 xhe ho mn vp k (25 + 1) 0 (upd (upd (upd vt (mn + (32 * k)) (nI (0 + (32 * u_4)))) ((mn + (32 * k)) + 1) (nI ((0 + (32 * u_4)) + 1))) (((mn + (32 * k)) + 1) + 1) (nI ((0 + (32 * u_4)) + 2))) (upd (upd (upd vw (mn + (32 * k)) (nI (u_9 + 1))) ((mn + (32 * k)) + 1) 25) (((mn + (32 * k)) + 1) + 1) mo)) := ⟨_, rfl⟩
            have loop125 : ∀ (fukk kk : Nat) (yt : (Nat → Int32)) (yw : (Nat → Int32)), kk ≤ 25 → kk + fukk = 25 + 1 → f_MD_putChain_0_l125_0 xhe ho mn vp k fukk kk yt yw = u_10 → ∀ (H : Heap) (locs : List Loc), va_P D classes (md_w q cI cZ xth xB xsh xcu xtp xtd xpa xsp xwh xhe (nI ho) xtk yt yw (nI (((((mn + (32 * k)) + 1) + 1) + 1) + kk))) H → va_D A (md_w q cI cZ xth xB xsh xcu xtp xtd xpa xsp xwh xhe (nI ho) xtk yt yw (nI (((((mn + (32 * k)) + 1) + 1) + 1) + kk))) → va_S A s.heap H locs → ∀ (ls : Array Slot), lv_has ls 11 [(0, .ref (q 0)), (1, .int 0), (2, .int mo), (3, .int vf), (4, .int (nI u_4)), (5, .int (nI (25 * k))), (6, .int 25), (7, .int 0), (8, .int (nI u_9)), (9, .int (nI (0 + (32 * u_4)))), (10, .int (nI kk))] → W p l e R s m args below meth c H locs 0 0 Q (F0 m 125 ls []) := by
              intro fukk
              induction fukk with
              | zero =>
                intro kk yt yw h1 h2
                exact absurd h2 (by omega)
              | succ fukk ih125 =>
                intro kk yt yw hk125 hkn125 heq125 H locs hP hD hS ls hl
                refine lv_iload hx hb d_MD_putChain_125 (lv_at hl 10 rfl) ?_
                refine lv_bipush (v := 25) hx hb d_MD_putChain_127 (by decide) ?_
                refine lv_icmp_ge (tgt := 170) hx hb d_MD_putChain_129 (by decide) (fun c_11 => ?_) (fun c_11 => ?_)
                · skip
                  have hv125 : (yt, yw) = u_10 := by rw [← heq125]; simp only [f_MD_putChain_0_l125_0, ← hu_1, ← hu_2, ← hu_4, ← hu_8, ← hu_9, eq_true c_11, ↓reduceIte]
                  have hv125_0 : yt = u_10.1 := by rw [← hv125]
                  rw [hv125_0] at hP hD
                  have hv125_1 : yw = u_10.2 := by rw [← hv125]
                  rw [hv125_1] at hP hD
                  have hke125 : kk = 25 := sf_eq_of (N := 25) (by omega) (by omega) hk125 c_11
                  subst hke125
                  refine lv_aload_n hx hb d_MD_putChain_170 rfl (lv_at hl 0 rfl) ?_
                  refine lv_bipush (v := 28) hx hb d_MD_putChain_171 (by decide) ?_
                  refine lv_iload hx hb d_MD_putChain_173 (lv_at hl 9 rfl) ?_
                  refine sf_callVw (S := ((Nat → Int32) × (Nat → Int32))) (rest := []) ⟨hx, hb, hml, hown, hts⟩ (c_MD_putSum l D cI cZ cJ q xth xB xsh xcu xtp xtd xpa xsp xwh xhe (nI ho) xtk u_10.1 u_10.2 (((((mn + (32 * k)) + 1) + 1) + 1) + 25) 28 (0 + (32 * u_4)) (by omega) (by omega)) (sf_cwV lk_MD_108 hts (fun _ h => h) (by rw [hR]; exact ⟨Nat.le_of_ble_eq_true rfl, Nat.le_of_ble_eq_true rfl⟩)) hK hP hD hS hA (fun _ => by simp only [md_w_fst]) (ci := 3) (q0 := 0) rfl rfl rfl rfl rfl hl.1 (Nat.le_of_ble_eq_true rfl) d_MD_putChain_175 ⟨Nat.zero_le _, Nat.zero_le _⟩ (fun u_13 H locs hu_13 hP hD hS => ?_)
                  have hP : va_P D classes (md_w q cI cZ xth xB xsh xcu xtp xtd xpa xsp xwh xhe (nI ho) xtk u_13.1 u_13.2 (nI ((((((mn + (32 * k)) + 1) + 1) + 1) + 25) + 4))) H := hP
                  have hD : va_D A (md_w q cI cZ xth xB xsh xcu xtp xtd xpa xsp xwh xhe (nI ho) xtk u_13.1 u_13.2 (nI ((((((mn + (32 * k)) + 1) + 1) + 1) + 25) + 4))) := hD
                  refine lv_iload hx hb d_MD_putChain_178 (lv_at hl 8 rfl) ?_
                  refine lv_istore (lv' := [(4, .int (nI u_9)), (0, .ref (q 0)), (1, .int 0), (2, .int mo), (3, .int vf), (5, .int (nI (25 * k))), (6, .int 25), (7, .int 0), (8, .int (nI u_9)), (9, .int (nI (0 + (32 * u_4)))), (10, .int (nI 25))]) hx hb d_MD_putChain_180 hl (by decide) rfl (fun ls hl => ?_)
                  refine lv_iinc (v := (nI (25 * (k + 1)))) (lv' := [(5, .int (nI (25 * (k + 1)))), (4, .int (nI u_9)), (0, .ref (q 0)), (1, .int 0), (2, .int mo), (3, .int vf), (6, .int 25), (7, .int 0), (8, .int (nI u_9)), (9, .int (nI (0 + (32 * u_4)))), (10, .int (nI 25))]) hx hb d_MD_putChain_182 hl (k := 5) rfl (nI_add (25 * k) 25) (by decide) rfl (fun ls hl => ?_)
                  refine lv_goto (tgt := 12) hx hb d_MD_putChain_185 (by decide) ?_
                  rw [show ((((((mn + (32 * k)) + 1) + 1) + 1) + 25) + 4) = (mn + (32 * (k + 1))) by omega] at hP hD
                  exact ih12 (k + 1) vf (nI u_9) u_13.1 u_13.2 (by omega) (by omega) (fun _ => ⟨_, rfl, by omega, by omega⟩) (by omega) (by rw [← heq12]; simp only [f_MD_putChain_0_l12, ← hu_1, ← hu_2, ← hu_4, ← hu_8, ← hu_9, ← hu_10, ← hu_13, eq_false c_3, eq_true c_5, eq_false c_6, ↓reduceIte]) _ _ hP hD hS ls (lv_sub hl [2, 3, 4, 5, 1, 0] rfl)
                · have hlt : kk < 25 := sf_lt_of (N := 25) (by omega) (by omega) c_11
                  refine lv_aload_n hx hb d_MD_putChain_132 rfl (lv_at hl 0 rfl) ?_
                  refine lv_iload hx hb d_MD_putChain_133 (lv_at hl 9 rfl) ?_
                  refine lv_iconst (v := 3) hx hb d_MD_putChain_135 (by decide) ?_
                  refine lv_iadd hx hb d_MD_putChain_136 ?_
                  rw [show (((nI (0 + (32 * u_4))) + 3) : Int32) = (nI ((0 + (32 * u_4)) + 3)) from nI_add (0 + (32 * u_4)) 3]
                  refine lv_iload hx hb d_MD_putChain_137 (lv_at hl 10 rfl) ?_
                  refine lv_iadd hx hb d_MD_putChain_139 ?_
                  rw [show (((nI ((0 + (32 * u_4)) + 3)) + (nI kk)) : Int32) = (nI (((0 + (32 * u_4)) + 3) + kk)) from nI_add ((0 + (32 * u_4)) + 3) kk]
                  refine lv_iload hx hb d_MD_putChain_140 (lv_at hl 10 rfl) ?_
                  refine lv_iload hx hb d_MD_putChain_142 (lv_at hl 6 rfl) ?_
                  refine lv_icmp_ge (tgt := 160) hx hb d_MD_putChain_144 (by decide) (fun c_12 => absurd c_12 c_11) (fun c_12 => ?_)
                  refine lv_aload_n hx hb d_MD_putChain_147 rfl (lv_at hl 0 rfl) ?_
                  refine va_get (D := D) (ci := 3) (v := .ref (q 4)) (C := R_MD) (T := F_MD) (N := 15) hx hb hts i_MD hown hK hP 0 rfl rfl 9 (by decide) (hts _ wd_584) (fun _ h9 => h9) rfl d_MD_putChain_148 ?_
                  refine lv_iload hx hb d_MD_putChain_151 (lv_at hl 5 rfl) ?_
                  refine lv_iload hx hb d_MD_putChain_153 (lv_at hl 10 rfl) ?_
                  refine lv_iadd hx hb d_MD_putChain_155 ?_
                  rw [show (((nI (25 * k)) + (nI kk)) : Int32) = (nI ((25 * k) + kk)) from nI_add (25 * k) kk]
                  refine va_iald hx hb hK hP 4 0 rfl rfl (show vp_in (nI ((25 * k) + kk)) 75 from vp_in_nI (n := ((25 * k) + kk)) (by omega) (by omega)) d_MD_putChain_156 ?_
                  rw [show ((nI ((25 * k) + kk)) : Int32).toNatClampNeg = ((25 * k) + kk) from nI_clamp (n := ((25 * k) + kk)) (by omega)]
                  refine lv_goto (tgt := 161) hx hb d_MD_putChain_157 (by decide) ?_
                  refine sf_callVw (S := Unit) (rest := []) ⟨hx, hb, hml, hown, hts⟩ (c_MD_put l D cI cZ cJ q xth xB xsh xcu xtp xtd xpa xsp xwh xhe (nI ho) xtk yt yw (((((mn + (32 * k)) + 1) + 1) + 1) + kk) (nI (((0 + (32 * u_4)) + 3) + kk)) (xhe ((25 * k) + kk)) (by omega)) (sf_cwV lk_MD_101 hts (fun _ h => h) (by rw [hR]; exact ⟨Nat.le_of_ble_eq_true rfl, Nat.le_of_ble_eq_true rfl⟩)) hK hP hD hS hA (fun _ => by simp only [md_w_fst]) (ci := 3) (q0 := 0) rfl rfl rfl rfl rfl hl.1 (Nat.le_of_ble_eq_true rfl) d_MD_putChain_161 ⟨Nat.zero_le _, Nat.zero_le _⟩ (fun u H locs hu hP hD hS => ?_)
                  have hP : va_P D classes (md_w q cI cZ xth xB xsh xcu xtp xtd xpa xsp xwh xhe (nI ho) xtk (upd yt (((((mn + (32 * k)) + 1) + 1) + 1) + kk) (nI (((0 + (32 * u_4)) + 3) + kk))) (upd yw (((((mn + (32 * k)) + 1) + 1) + 1) + kk) (xhe ((25 * k) + kk))) (nI ((((((mn + (32 * k)) + 1) + 1) + 1) + kk) + 1))) H := hP
                  have hD : va_D A (md_w q cI cZ xth xB xsh xcu xtp xtd xpa xsp xwh xhe (nI ho) xtk (upd yt (((((mn + (32 * k)) + 1) + 1) + 1) + kk) (nI (((0 + (32 * u_4)) + 3) + kk))) (upd yw (((((mn + (32 * k)) + 1) + 1) + 1) + kk) (xhe ((25 * k) + kk))) (nI ((((((mn + (32 * k)) + 1) + 1) + 1) + kk) + 1))) := hD
                  refine lv_iinc (v := (nI (kk + 1))) (lv' := [(10, .int (nI (kk + 1))), (0, .ref (q 0)), (1, .int 0), (2, .int mo), (3, .int vf), (4, .int (nI u_4)), (5, .int (nI (25 * k))), (6, .int 25), (7, .int 0), (8, .int (nI u_9)), (9, .int (nI (0 + (32 * u_4))))]) hx hb d_MD_putChain_164 hl (k := 10) rfl (nI_1 kk) (by decide) rfl (fun ls hl => ?_)
                  refine lv_goto (tgt := 125) hx hb d_MD_putChain_167 (by decide) ?_
                  exact ih125 (kk + 1) (upd yt (((((mn + (32 * k)) + 1) + 1) + 1) + kk) (nI (((0 + (32 * u_4)) + 3) + kk))) (upd yw (((((mn + (32 * k)) + 1) + 1) + 1) + kk) (xhe ((25 * k) + kk))) (by omega) (by omega) (by rw [← heq125]; simp only [f_MD_putChain_0_l125_0, ← hu_1, ← hu_2, ← hu_4, ← hu_8, ← hu_9, eq_false c_11, ↓reduceIte]) _ _ hP hD hS ls (lv_sub hl [1, 2, 3, 4, 5, 6, 7, 8, 9, 10, 0] rfl)
            exact loop125 (25 + 1) 0 (upd (upd (upd vt (mn + (32 * k)) (nI (0 + (32 * u_4)))) ((mn + (32 * k)) + 1) (nI ((0 + (32 * u_4)) + 1))) (((mn + (32 * k)) + 1) + 1) (nI ((0 + (32 * u_4)) + 2))) (upd (upd (upd vw (mn + (32 * k)) (nI (u_9 + 1))) ((mn + (32 * k)) + 1) 25) (((mn + (32 * k)) + 1) + 1) mo) (by omega) (by omega) hu_10.symm _ _ hP hD hS ls (lv_sub hl [5, 6, 7, 8, 9, 10, 4, 3, 2, 1, 0] rfl)
          · have hn9 : 25 * k + 25 = ho := (nI_eq (by omega) (by omega)).mp c_6
            refine lv_iconst (v := 1) hx hb d_MD_putChain_59 (by decide) ?_
            refine lv_goto (tgt := 64) hx hb d_MD_putChain_60 (by decide) ?_
            refine lv_istore (lv' := [(7, .int 1), (6, .int 25), (0, .ref (q 0)), (1, .int 0), (2, .int mo), (3, .int vf), (4, .int (nI u_4)), (5, .int (nI (25 * k)))]) hx hb d_MD_putChain_64 hl (by decide) rfl (fun ls hl => ?_)
            refine lv_iload hx hb d_MD_putChain_66 (lv_at hl 0 rfl) ?_
            refine lv_if_eq (tgt := 75) hx hb d_MD_putChain_68 (by decide) (fun c_14 => absurd c_14 (by decide)) (fun c_14 => ?_)
            refine lv_iconst (v := (-1)) hx hb d_MD_putChain_71 (by decide) ?_
            refine lv_goto (tgt := 83) hx hb d_MD_putChain_72 (by decide) ?_
            refine lv_istore (lv' := [(8, .int (-1)), (7, .int 1), (6, .int 25), (0, .ref (q 0)), (1, .int 0), (2, .int mo), (3, .int vf), (4, .int (nI u_4)), (5, .int (nI (25 * k)))]) hx hb d_MD_putChain_83 hl (by decide) rfl (fun ls hl => ?_)
            refine lv_iload_n hx hb d_MD_putChain_85 rfl (lv_at hl 4 rfl) ?_
            refine lv_iload hx hb d_MD_putChain_86 (lv_at hl 7 rfl) ?_
            refine sf_callSr (S := Unit) (rest := []) ⟨hx, hb, hml, hown, hts⟩ (c_MD_begin_0 l D cI cZ cJ u_4) (sf_cwS lk_MD_84 hts (fun _ h => h) (by rw [hR]; exact ⟨Nat.le_of_ble_eq_true rfl, Nat.le_of_ble_eq_true rfl⟩)) hK hP hD hS hA [] rfl rfl (fun _ => rfl) rfl rfl hl.1 (Nat.le_of_ble_eq_true rfl) d_MD_putChain_88 ⟨Nat.zero_le _, Nat.zero_le _⟩ (fun u H locs hu hP hS => ?_)
            refine lv_istore (lv' := [(9, .int (nI (0 + (32 * u_4)))), (8, .int (-1)), (7, .int 1), (6, .int 25), (0, .ref (q 0)), (1, .int 0), (2, .int mo), (3, .int vf), (4, .int (nI u_4)), (5, .int (nI (25 * k)))]) hx hb d_MD_putChain_91 hl (by decide) rfl (fun ls hl => ?_)
            refine lv_aload_n hx hb d_MD_putChain_93 rfl (lv_at hl 4 rfl) ?_
            refine lv_iload hx hb d_MD_putChain_94 (lv_at hl 0 rfl) ?_
            refine lv_iload hx hb d_MD_putChain_96 (lv_at hl 1 rfl) ?_
            refine lv_iconst (v := 1) hx hb d_MD_putChain_98 (by decide) ?_
            refine lv_iadd hx hb d_MD_putChain_99 ?_
            refine sf_callVw (S := Unit) (rest := []) ⟨hx, hb, hml, hown, hts⟩ (c_MD_put l D cI cZ cJ q xth xB xsh xcu xtp xtd xpa xsp xwh xhe (nI ho) xtk vt vw (mn + (32 * k)) (nI (0 + (32 * u_4))) ((-1) + 1) (by omega)) (sf_cwV lk_MD_101 hts (fun _ h => h) (by rw [hR]; exact ⟨Nat.le_of_ble_eq_true rfl, Nat.le_of_ble_eq_true rfl⟩)) hK hP hD hS hA (fun _ => by simp only [md_w_fst]) (ci := 3) (q0 := 0) rfl rfl rfl rfl rfl hl.1 (Nat.le_of_ble_eq_true rfl) d_MD_putChain_100 ⟨Nat.zero_le _, Nat.zero_le _⟩ (fun u H locs hu hP hD hS => ?_)
            have hP : va_P D classes (md_w q cI cZ xth xB xsh xcu xtp xtd xpa xsp xwh xhe (nI ho) xtk (upd vt (mn + (32 * k)) (nI (0 + (32 * u_4)))) (upd vw (mn + (32 * k)) ((-1) + 1)) (nI ((mn + (32 * k)) + 1))) H := hP
            have hD : va_D A (md_w q cI cZ xth xB xsh xcu xtp xtd xpa xsp xwh xhe (nI ho) xtk (upd vt (mn + (32 * k)) (nI (0 + (32 * u_4)))) (upd vw (mn + (32 * k)) ((-1) + 1)) (nI ((mn + (32 * k)) + 1))) := hD
            refine lv_aload_n hx hb d_MD_putChain_103 rfl (lv_at hl 4 rfl) ?_
            refine lv_iload hx hb d_MD_putChain_104 (lv_at hl 0 rfl) ?_
            refine lv_iconst (v := 1) hx hb d_MD_putChain_106 (by decide) ?_
            refine lv_iadd hx hb d_MD_putChain_107 ?_
            rw [show (((nI (0 + (32 * u_4))) + 1) : Int32) = (nI ((0 + (32 * u_4)) + 1)) from nI_add (0 + (32 * u_4)) 1]
            refine lv_iload hx hb d_MD_putChain_108 (lv_at hl 3 rfl) ?_
            refine sf_callVw (S := Unit) (rest := []) ⟨hx, hb, hml, hown, hts⟩ (c_MD_put l D cI cZ cJ q xth xB xsh xcu xtp xtd xpa xsp xwh xhe (nI ho) xtk (upd vt (mn + (32 * k)) (nI (0 + (32 * u_4)))) (upd vw (mn + (32 * k)) ((-1) + 1)) ((mn + (32 * k)) + 1) (nI ((0 + (32 * u_4)) + 1)) 25 (by omega)) (sf_cwV lk_MD_101 hts (fun _ h => h) (by rw [hR]; exact ⟨Nat.le_of_ble_eq_true rfl, Nat.le_of_ble_eq_true rfl⟩)) hK hP hD hS hA (fun _ => by simp only [md_w_fst]) (ci := 3) (q0 := 0) rfl rfl rfl rfl rfl hl.1 (Nat.le_of_ble_eq_true rfl) d_MD_putChain_110 ⟨Nat.zero_le _, Nat.zero_le _⟩ (fun u H locs hu hP hD hS => ?_)
            have hP : va_P D classes (md_w q cI cZ xth xB xsh xcu xtp xtd xpa xsp xwh xhe (nI ho) xtk (upd (upd vt (mn + (32 * k)) (nI (0 + (32 * u_4)))) ((mn + (32 * k)) + 1) (nI ((0 + (32 * u_4)) + 1))) (upd (upd vw (mn + (32 * k)) ((-1) + 1)) ((mn + (32 * k)) + 1) 25) (nI (((mn + (32 * k)) + 1) + 1))) H := hP
            have hD : va_D A (md_w q cI cZ xth xB xsh xcu xtp xtd xpa xsp xwh xhe (nI ho) xtk (upd (upd vt (mn + (32 * k)) (nI (0 + (32 * u_4)))) ((mn + (32 * k)) + 1) (nI ((0 + (32 * u_4)) + 1))) (upd (upd vw (mn + (32 * k)) ((-1) + 1)) ((mn + (32 * k)) + 1) 25) (nI (((mn + (32 * k)) + 1) + 1))) := hD
            refine lv_aload_n hx hb d_MD_putChain_113 rfl (lv_at hl 4 rfl) ?_
            refine lv_iload hx hb d_MD_putChain_114 (lv_at hl 0 rfl) ?_
            refine lv_iconst (v := 2) hx hb d_MD_putChain_116 (by decide) ?_
            refine lv_iadd hx hb d_MD_putChain_117 ?_
            rw [show (((nI (0 + (32 * u_4))) + 2) : Int32) = (nI ((0 + (32 * u_4)) + 2)) from nI_add (0 + (32 * u_4)) 2]
            refine lv_iload_n hx hb d_MD_putChain_118 rfl (lv_at hl 6 rfl) ?_
            refine sf_callVw (S := Unit) (rest := []) ⟨hx, hb, hml, hown, hts⟩ (c_MD_put l D cI cZ cJ q xth xB xsh xcu xtp xtd xpa xsp xwh xhe (nI ho) xtk (upd (upd vt (mn + (32 * k)) (nI (0 + (32 * u_4)))) ((mn + (32 * k)) + 1) (nI ((0 + (32 * u_4)) + 1))) (upd (upd vw (mn + (32 * k)) ((-1) + 1)) ((mn + (32 * k)) + 1) 25) (((mn + (32 * k)) + 1) + 1) (nI ((0 + (32 * u_4)) + 2)) mo (by omega)) (sf_cwV lk_MD_101 hts (fun _ h => h) (by rw [hR]; exact ⟨Nat.le_of_ble_eq_true rfl, Nat.le_of_ble_eq_true rfl⟩)) hK hP hD hS hA (fun _ => by simp only [md_w_fst]) (ci := 3) (q0 := 0) rfl rfl rfl rfl rfl hl.1 (Nat.le_of_ble_eq_true rfl) d_MD_putChain_119 ⟨Nat.zero_le _, Nat.zero_le _⟩ (fun u H locs hu hP hD hS => ?_)
            have hP : va_P D classes (md_w q cI cZ xth xB xsh xcu xtp xtd xpa xsp xwh xhe (nI ho) xtk (upd (upd (upd vt (mn + (32 * k)) (nI (0 + (32 * u_4)))) ((mn + (32 * k)) + 1) (nI ((0 + (32 * u_4)) + 1))) (((mn + (32 * k)) + 1) + 1) (nI ((0 + (32 * u_4)) + 2))) (upd (upd (upd vw (mn + (32 * k)) ((-1) + 1)) ((mn + (32 * k)) + 1) 25) (((mn + (32 * k)) + 1) + 1) mo) (nI ((((mn + (32 * k)) + 1) + 1) + 1))) H := hP
            have hD : va_D A (md_w q cI cZ xth xB xsh xcu xtp xtd xpa xsp xwh xhe (nI ho) xtk (upd (upd (upd vt (mn + (32 * k)) (nI (0 + (32 * u_4)))) ((mn + (32 * k)) + 1) (nI ((0 + (32 * u_4)) + 1))) (((mn + (32 * k)) + 1) + 1) (nI ((0 + (32 * u_4)) + 2))) (upd (upd (upd vw (mn + (32 * k)) ((-1) + 1)) ((mn + (32 * k)) + 1) 25) (((mn + (32 * k)) + 1) + 1) mo) (nI ((((mn + (32 * k)) + 1) + 1) + 1))) := hD
            refine lv_iconst (v := 0) hx hb d_MD_putChain_122 (by decide) ?_
            refine lv_istore (lv' := [(10, .int 0), (9, .int (nI (0 + (32 * u_4)))), (8, .int (-1)), (7, .int 1), (6, .int 25), (0, .ref (q 0)), (1, .int 0), (2, .int mo), (3, .int vf), (4, .int (nI u_4)), (5, .int (nI (25 * k)))]) hx hb d_MD_putChain_123 hl (by decide) rfl (fun ls hl => ?_)
            obtain ⟨u_15, hu_15⟩ : ∃ z, z = (f_MD_putChain_0_l125_0 xhe ho mn vp k (25 + 1) 0 (upd (upd (upd vt (mn + (32 * k)) (nI (0 + (32 * u_4)))) ((mn + (32 * k)) + 1) (nI ((0 + (32 * u_4)) + 1))) (((mn + (32 * k)) + 1) + 1) (nI ((0 + (32 * u_4)) + 2))) (upd (upd (upd vw (mn + (32 * k)) ((-1) + 1)) ((mn + (32 * k)) + 1) 25) (((mn + (32 * k)) + 1) + 1) mo)) := ⟨_, rfl⟩
            have loop125 : ∀ (fukk kk : Nat) (yt : (Nat → Int32)) (yw : (Nat → Int32)), kk ≤ 25 → kk + fukk = 25 + 1 → f_MD_putChain_0_l125_0 xhe ho mn vp k fukk kk yt yw = u_15 → ∀ (H : Heap) (locs : List Loc), va_P D classes (md_w q cI cZ xth xB xsh xcu xtp xtd xpa xsp xwh xhe (nI ho) xtk yt yw (nI (((((mn + (32 * k)) + 1) + 1) + 1) + kk))) H → va_D A (md_w q cI cZ xth xB xsh xcu xtp xtd xpa xsp xwh xhe (nI ho) xtk yt yw (nI (((((mn + (32 * k)) + 1) + 1) + 1) + kk))) → va_S A s.heap H locs → ∀ (ls : Array Slot), lv_has ls 11 [(0, .ref (q 0)), (1, .int 0), (2, .int mo), (3, .int vf), (4, .int (nI u_4)), (5, .int (nI (25 * k))), (6, .int 25), (7, .int 1), (8, .int (-1)), (9, .int (nI (0 + (32 * u_4)))), (10, .int (nI kk))] → W p l e R s m args below meth c H locs 0 0 Q (F0 m 125 ls []) := by
              intro fukk
              induction fukk with
              | zero =>
                intro kk yt yw h1 h2
                exact absurd h2 (by omega)
              | succ fukk ih125 =>
                intro kk yt yw hk125 hkn125 heq125 H locs hP hD hS ls hl
                refine lv_iload hx hb d_MD_putChain_125 (lv_at hl 10 rfl) ?_
                refine lv_bipush (v := 25) hx hb d_MD_putChain_127 (by decide) ?_
                refine lv_icmp_ge (tgt := 170) hx hb d_MD_putChain_129 (by decide) (fun c_16 => ?_) (fun c_16 => ?_)
                · skip
                  have hv125 : (yt, yw) = u_15 := by rw [← heq125]; simp only [f_MD_putChain_0_l125_0, ← hu_1, ← hu_2, ← hu_4, eq_true c_16, ↓reduceIte]
                  have hv125_0 : yt = u_15.1 := by rw [← hv125]
                  rw [hv125_0] at hP hD
                  have hv125_1 : yw = u_15.2 := by rw [← hv125]
                  rw [hv125_1] at hP hD
                  have hke125 : kk = 25 := sf_eq_of (N := 25) (by omega) (by omega) hk125 c_16
                  subst hke125
                  refine lv_aload_n hx hb d_MD_putChain_170 rfl (lv_at hl 0 rfl) ?_
                  refine lv_bipush (v := 28) hx hb d_MD_putChain_171 (by decide) ?_
                  refine lv_iload hx hb d_MD_putChain_173 (lv_at hl 9 rfl) ?_
                  refine sf_callVw (S := ((Nat → Int32) × (Nat → Int32))) (rest := []) ⟨hx, hb, hml, hown, hts⟩ (c_MD_putSum l D cI cZ cJ q xth xB xsh xcu xtp xtd xpa xsp xwh xhe (nI ho) xtk u_15.1 u_15.2 (((((mn + (32 * k)) + 1) + 1) + 1) + 25) 28 (0 + (32 * u_4)) (by omega) (by omega)) (sf_cwV lk_MD_108 hts (fun _ h => h) (by rw [hR]; exact ⟨Nat.le_of_ble_eq_true rfl, Nat.le_of_ble_eq_true rfl⟩)) hK hP hD hS hA (fun _ => by simp only [md_w_fst]) (ci := 3) (q0 := 0) rfl rfl rfl rfl rfl hl.1 (Nat.le_of_ble_eq_true rfl) d_MD_putChain_175 ⟨Nat.zero_le _, Nat.zero_le _⟩ (fun u_18 H locs hu_18 hP hD hS => ?_)
                  have hP : va_P D classes (md_w q cI cZ xth xB xsh xcu xtp xtd xpa xsp xwh xhe (nI ho) xtk u_18.1 u_18.2 (nI ((((((mn + (32 * k)) + 1) + 1) + 1) + 25) + 4))) H := hP
                  have hD : va_D A (md_w q cI cZ xth xB xsh xcu xtp xtd xpa xsp xwh xhe (nI ho) xtk u_18.1 u_18.2 (nI ((((((mn + (32 * k)) + 1) + 1) + 1) + 25) + 4))) := hD
                  refine lv_iload hx hb d_MD_putChain_178 (lv_at hl 8 rfl) ?_
                  refine lv_istore (lv' := [(4, .int (-1)), (0, .ref (q 0)), (1, .int 0), (2, .int mo), (3, .int vf), (5, .int (nI (25 * k))), (6, .int 25), (7, .int 1), (8, .int (-1)), (9, .int (nI (0 + (32 * u_4)))), (10, .int (nI 25))]) hx hb d_MD_putChain_180 hl (by decide) rfl (fun ls hl => ?_)
                  refine lv_iinc (v := (nI (25 * (k + 1)))) (lv' := [(5, .int (nI (25 * (k + 1)))), (4, .int (-1)), (0, .ref (q 0)), (1, .int 0), (2, .int mo), (3, .int vf), (6, .int 25), (7, .int 1), (8, .int (-1)), (9, .int (nI (0 + (32 * u_4)))), (10, .int (nI 25))]) hx hb d_MD_putChain_182 hl (k := 5) rfl (nI_add (25 * k) 25) (by decide) rfl (fun ls hl => ?_)
                  refine lv_goto (tgt := 12) hx hb d_MD_putChain_185 (by decide) ?_
                  rw [show ((((((mn + (32 * k)) + 1) + 1) + 1) + 25) + 4) = (mn + (32 * (k + 1))) by omega] at hP hD
                  exact ih12 (k + 1) vf (-1) u_18.1 u_18.2 (by omega) (by omega) (fun h9 => absurd h9 (by omega)) (by omega) (by rw [← heq12]; simp only [f_MD_putChain_0_l12, ← hu_1, ← hu_2, ← hu_4, ← hu_15, ← hu_18, eq_false c_3, eq_true c_5, eq_true c_6, ↓reduceIte]) _ _ hP hD hS ls (lv_sub hl [2, 3, 4, 5, 1, 0] rfl)
                · have hlt : kk < 25 := sf_lt_of (N := 25) (by omega) (by omega) c_16
                  refine lv_aload_n hx hb d_MD_putChain_132 rfl (lv_at hl 0 rfl) ?_
                  refine lv_iload hx hb d_MD_putChain_133 (lv_at hl 9 rfl) ?_
                  refine lv_iconst (v := 3) hx hb d_MD_putChain_135 (by decide) ?_
                  refine lv_iadd hx hb d_MD_putChain_136 ?_
                  rw [show (((nI (0 + (32 * u_4))) + 3) : Int32) = (nI ((0 + (32 * u_4)) + 3)) from nI_add (0 + (32 * u_4)) 3]
                  refine lv_iload hx hb d_MD_putChain_137 (lv_at hl 10 rfl) ?_
                  refine lv_iadd hx hb d_MD_putChain_139 ?_
                  rw [show (((nI ((0 + (32 * u_4)) + 3)) + (nI kk)) : Int32) = (nI (((0 + (32 * u_4)) + 3) + kk)) from nI_add ((0 + (32 * u_4)) + 3) kk]
                  refine lv_iload hx hb d_MD_putChain_140 (lv_at hl 10 rfl) ?_
                  refine lv_iload hx hb d_MD_putChain_142 (lv_at hl 6 rfl) ?_
                  refine lv_icmp_ge (tgt := 160) hx hb d_MD_putChain_144 (by decide) (fun c_17 => absurd c_17 c_16) (fun c_17 => ?_)
                  refine lv_aload_n hx hb d_MD_putChain_147 rfl (lv_at hl 0 rfl) ?_
                  refine va_get (D := D) (ci := 3) (v := .ref (q 4)) (C := R_MD) (T := F_MD) (N := 15) hx hb hts i_MD hown hK hP 0 rfl rfl 9 (by decide) (hts _ wd_584) (fun _ h9 => h9) rfl d_MD_putChain_148 ?_
                  refine lv_iload hx hb d_MD_putChain_151 (lv_at hl 5 rfl) ?_
                  refine lv_iload hx hb d_MD_putChain_153 (lv_at hl 10 rfl) ?_
                  refine lv_iadd hx hb d_MD_putChain_155 ?_
                  rw [show (((nI (25 * k)) + (nI kk)) : Int32) = (nI ((25 * k) + kk)) from nI_add (25 * k) kk]
                  refine va_iald hx hb hK hP 4 0 rfl rfl (show vp_in (nI ((25 * k) + kk)) 75 from vp_in_nI (n := ((25 * k) + kk)) (by omega) (by omega)) d_MD_putChain_156 ?_
                  rw [show ((nI ((25 * k) + kk)) : Int32).toNatClampNeg = ((25 * k) + kk) from nI_clamp (n := ((25 * k) + kk)) (by omega)]
                  refine lv_goto (tgt := 161) hx hb d_MD_putChain_157 (by decide) ?_
                  refine sf_callVw (S := Unit) (rest := []) ⟨hx, hb, hml, hown, hts⟩ (c_MD_put l D cI cZ cJ q xth xB xsh xcu xtp xtd xpa xsp xwh xhe (nI ho) xtk yt yw (((((mn + (32 * k)) + 1) + 1) + 1) + kk) (nI (((0 + (32 * u_4)) + 3) + kk)) (xhe ((25 * k) + kk)) (by omega)) (sf_cwV lk_MD_101 hts (fun _ h => h) (by rw [hR]; exact ⟨Nat.le_of_ble_eq_true rfl, Nat.le_of_ble_eq_true rfl⟩)) hK hP hD hS hA (fun _ => by simp only [md_w_fst]) (ci := 3) (q0 := 0) rfl rfl rfl rfl rfl hl.1 (Nat.le_of_ble_eq_true rfl) d_MD_putChain_161 ⟨Nat.zero_le _, Nat.zero_le _⟩ (fun u H locs hu hP hD hS => ?_)
                  have hP : va_P D classes (md_w q cI cZ xth xB xsh xcu xtp xtd xpa xsp xwh xhe (nI ho) xtk (upd yt (((((mn + (32 * k)) + 1) + 1) + 1) + kk) (nI (((0 + (32 * u_4)) + 3) + kk))) (upd yw (((((mn + (32 * k)) + 1) + 1) + 1) + kk) (xhe ((25 * k) + kk))) (nI ((((((mn + (32 * k)) + 1) + 1) + 1) + kk) + 1))) H := hP
                  have hD : va_D A (md_w q cI cZ xth xB xsh xcu xtp xtd xpa xsp xwh xhe (nI ho) xtk (upd yt (((((mn + (32 * k)) + 1) + 1) + 1) + kk) (nI (((0 + (32 * u_4)) + 3) + kk))) (upd yw (((((mn + (32 * k)) + 1) + 1) + 1) + kk) (xhe ((25 * k) + kk))) (nI ((((((mn + (32 * k)) + 1) + 1) + 1) + kk) + 1))) := hD
                  refine lv_iinc (v := (nI (kk + 1))) (lv' := [(10, .int (nI (kk + 1))), (0, .ref (q 0)), (1, .int 0), (2, .int mo), (3, .int vf), (4, .int (nI u_4)), (5, .int (nI (25 * k))), (6, .int 25), (7, .int 1), (8, .int (-1)), (9, .int (nI (0 + (32 * u_4))))]) hx hb d_MD_putChain_164 hl (k := 10) rfl (nI_1 kk) (by decide) rfl (fun ls hl => ?_)
                  refine lv_goto (tgt := 125) hx hb d_MD_putChain_167 (by decide) ?_
                  exact ih125 (kk + 1) (upd yt (((((mn + (32 * k)) + 1) + 1) + 1) + kk) (nI (((0 + (32 * u_4)) + 3) + kk))) (upd yw (((((mn + (32 * k)) + 1) + 1) + 1) + kk) (xhe ((25 * k) + kk))) (by omega) (by omega) (by rw [← heq125]; simp only [f_MD_putChain_0_l125_0, ← hu_1, ← hu_2, ← hu_4, eq_false c_16, ↓reduceIte]) _ _ hP hD hS ls (lv_sub hl [1, 2, 3, 4, 5, 6, 7, 8, 9, 10, 0] rfl)
            exact loop125 (25 + 1) 0 (upd (upd (upd vt (mn + (32 * k)) (nI (0 + (32 * u_4)))) ((mn + (32 * k)) + 1) (nI ((0 + (32 * u_4)) + 1))) (((mn + (32 * k)) + 1) + 1) (nI ((0 + (32 * u_4)) + 2))) (upd (upd (upd vw (mn + (32 * k)) ((-1) + 1)) ((mn + (32 * k)) + 1) 25) (((mn + (32 * k)) + 1) + 1) mo) (by omega) (by omega) hu_15.symm _ _ hP hD hS ls (lv_sub hl [5, 6, 7, 8, 9, 10, 4, 3, 2, 1, 0] rfl)
        · have hn8 : ho - 25 * k < 25 := sf_lt_of (N := 25) (by omega) (by omega) c_5
          refine lv_aload_n hx hb d_MD_putChain_33 rfl (lv_at hl 0 rfl) ?_
          refine va_get (D := D) (ci := 3) (v := .int (nI ho)) (C := R_MD) (T := F_MD) (N := 15) hx hb hts i_MD hown hK hP 0 rfl rfl 10 (by decide) (hts _ wd_585) (fun _ h9 => h9) rfl d_MD_putChain_34 ?_
          refine lv_iload hx hb d_MD_putChain_37 (lv_at hl 5 rfl) ?_
          refine lv_isub hx hb d_MD_putChain_39 ?_
          rw [show (((nI ho) - (nI (25 * k))) : Int32) = (nI (ho - (25 * k))) from pk_sub (a := ho) (b := (25 * k)) (by omega)]
          refine lv_goto (tgt := 45) hx hb d_MD_putChain_40 (by decide) ?_
          refine lv_istore (lv' := [(6, .int (nI (ho - (25 * k)))), (0, .ref (q 0)), (1, .int 0), (2, .int mo), (3, .int vf), (4, .int (nI u_4)), (5, .int (nI (25 * k)))]) hx hb d_MD_putChain_45 hl (by decide) rfl (fun ls hl => ?_)
          refine lv_iload hx hb d_MD_putChain_47 (lv_at hl 6 rfl) ?_
          refine lv_iload hx hb d_MD_putChain_49 (lv_at hl 0 rfl) ?_
          refine lv_iadd hx hb d_MD_putChain_51 ?_
          rw [show (((nI (25 * k)) + (nI (ho - (25 * k)))) : Int32) = (nI ((25 * k) + (ho - (25 * k)))) from nI_add (25 * k) (ho - (25 * k))]
          refine lv_aload_n hx hb d_MD_putChain_52 rfl (lv_at hl 1 rfl) ?_
          refine va_get (D := D) (ci := 3) (v := .int (nI ho)) (C := R_MD) (T := F_MD) (N := 15) hx hb hts i_MD hown hK hP 0 rfl rfl 10 (by decide) (hts _ wd_585) (fun _ h9 => h9) rfl d_MD_putChain_53 ?_
          refine lv_icmp_ne (tgt := 63) hx hb d_MD_putChain_56 (by decide) (fun c_19 => absurd (congrArg nI (show 25 * k + (ho - 25 * k) = ho by omega)) c_19) (fun c_19 => ?_)
          refine lv_iconst (v := 1) hx hb d_MD_putChain_59 (by decide) ?_
          refine lv_goto (tgt := 64) hx hb d_MD_putChain_60 (by decide) ?_
          refine lv_istore (lv' := [(7, .int 1), (6, .int (nI (ho - (25 * k)))), (0, .ref (q 0)), (1, .int 0), (2, .int mo), (3, .int vf), (4, .int (nI u_4)), (5, .int (nI (25 * k)))]) hx hb d_MD_putChain_64 hl (by decide) rfl (fun ls hl => ?_)
          refine lv_iload hx hb d_MD_putChain_66 (lv_at hl 0 rfl) ?_
          refine lv_if_eq (tgt := 75) hx hb d_MD_putChain_68 (by decide) (fun c_20 => absurd c_20 (by decide)) (fun c_20 => ?_)
          refine lv_iconst (v := (-1)) hx hb d_MD_putChain_71 (by decide) ?_
          refine lv_goto (tgt := 83) hx hb d_MD_putChain_72 (by decide) ?_
          refine lv_istore (lv' := [(8, .int (-1)), (7, .int 1), (6, .int (nI (ho - (25 * k)))), (0, .ref (q 0)), (1, .int 0), (2, .int mo), (3, .int vf), (4, .int (nI u_4)), (5, .int (nI (25 * k)))]) hx hb d_MD_putChain_83 hl (by decide) rfl (fun ls hl => ?_)
          refine lv_iload_n hx hb d_MD_putChain_85 rfl (lv_at hl 4 rfl) ?_
          refine lv_iload hx hb d_MD_putChain_86 (lv_at hl 7 rfl) ?_
          refine sf_callSr (S := Unit) (rest := []) ⟨hx, hb, hml, hown, hts⟩ (c_MD_begin_0 l D cI cZ cJ u_4) (sf_cwS lk_MD_84 hts (fun _ h => h) (by rw [hR]; exact ⟨Nat.le_of_ble_eq_true rfl, Nat.le_of_ble_eq_true rfl⟩)) hK hP hD hS hA [] rfl rfl (fun _ => rfl) rfl rfl hl.1 (Nat.le_of_ble_eq_true rfl) d_MD_putChain_88 ⟨Nat.zero_le _, Nat.zero_le _⟩ (fun u H locs hu hP hS => ?_)
          refine lv_istore (lv' := [(9, .int (nI (0 + (32 * u_4)))), (8, .int (-1)), (7, .int 1), (6, .int (nI (ho - (25 * k)))), (0, .ref (q 0)), (1, .int 0), (2, .int mo), (3, .int vf), (4, .int (nI u_4)), (5, .int (nI (25 * k)))]) hx hb d_MD_putChain_91 hl (by decide) rfl (fun ls hl => ?_)
          refine lv_aload_n hx hb d_MD_putChain_93 rfl (lv_at hl 4 rfl) ?_
          refine lv_iload hx hb d_MD_putChain_94 (lv_at hl 0 rfl) ?_
          refine lv_iload hx hb d_MD_putChain_96 (lv_at hl 1 rfl) ?_
          refine lv_iconst (v := 1) hx hb d_MD_putChain_98 (by decide) ?_
          refine lv_iadd hx hb d_MD_putChain_99 ?_
          refine sf_callVw (S := Unit) (rest := []) ⟨hx, hb, hml, hown, hts⟩ (c_MD_put l D cI cZ cJ q xth xB xsh xcu xtp xtd xpa xsp xwh xhe (nI ho) xtk vt vw (mn + (32 * k)) (nI (0 + (32 * u_4))) ((-1) + 1) (by omega)) (sf_cwV lk_MD_101 hts (fun _ h => h) (by rw [hR]; exact ⟨Nat.le_of_ble_eq_true rfl, Nat.le_of_ble_eq_true rfl⟩)) hK hP hD hS hA (fun _ => by simp only [md_w_fst]) (ci := 3) (q0 := 0) rfl rfl rfl rfl rfl hl.1 (Nat.le_of_ble_eq_true rfl) d_MD_putChain_100 ⟨Nat.zero_le _, Nat.zero_le _⟩ (fun u H locs hu hP hD hS => ?_)
          have hP : va_P D classes (md_w q cI cZ xth xB xsh xcu xtp xtd xpa xsp xwh xhe (nI ho) xtk (upd vt (mn + (32 * k)) (nI (0 + (32 * u_4)))) (upd vw (mn + (32 * k)) ((-1) + 1)) (nI ((mn + (32 * k)) + 1))) H := hP
          have hD : va_D A (md_w q cI cZ xth xB xsh xcu xtp xtd xpa xsp xwh xhe (nI ho) xtk (upd vt (mn + (32 * k)) (nI (0 + (32 * u_4)))) (upd vw (mn + (32 * k)) ((-1) + 1)) (nI ((mn + (32 * k)) + 1))) := hD
          refine lv_aload_n hx hb d_MD_putChain_103 rfl (lv_at hl 4 rfl) ?_
          refine lv_iload hx hb d_MD_putChain_104 (lv_at hl 0 rfl) ?_
          refine lv_iconst (v := 1) hx hb d_MD_putChain_106 (by decide) ?_
          refine lv_iadd hx hb d_MD_putChain_107 ?_
          rw [show (((nI (0 + (32 * u_4))) + 1) : Int32) = (nI ((0 + (32 * u_4)) + 1)) from nI_add (0 + (32 * u_4)) 1]
          refine lv_iload hx hb d_MD_putChain_108 (lv_at hl 3 rfl) ?_
          refine sf_callVw (S := Unit) (rest := []) ⟨hx, hb, hml, hown, hts⟩ (c_MD_put l D cI cZ cJ q xth xB xsh xcu xtp xtd xpa xsp xwh xhe (nI ho) xtk (upd vt (mn + (32 * k)) (nI (0 + (32 * u_4)))) (upd vw (mn + (32 * k)) ((-1) + 1)) ((mn + (32 * k)) + 1) (nI ((0 + (32 * u_4)) + 1)) (nI (ho - (25 * k))) (by omega)) (sf_cwV lk_MD_101 hts (fun _ h => h) (by rw [hR]; exact ⟨Nat.le_of_ble_eq_true rfl, Nat.le_of_ble_eq_true rfl⟩)) hK hP hD hS hA (fun _ => by simp only [md_w_fst]) (ci := 3) (q0 := 0) rfl rfl rfl rfl rfl hl.1 (Nat.le_of_ble_eq_true rfl) d_MD_putChain_110 ⟨Nat.zero_le _, Nat.zero_le _⟩ (fun u H locs hu hP hD hS => ?_)
          have hP : va_P D classes (md_w q cI cZ xth xB xsh xcu xtp xtd xpa xsp xwh xhe (nI ho) xtk (upd (upd vt (mn + (32 * k)) (nI (0 + (32 * u_4)))) ((mn + (32 * k)) + 1) (nI ((0 + (32 * u_4)) + 1))) (upd (upd vw (mn + (32 * k)) ((-1) + 1)) ((mn + (32 * k)) + 1) (nI (ho - (25 * k)))) (nI (((mn + (32 * k)) + 1) + 1))) H := hP
          have hD : va_D A (md_w q cI cZ xth xB xsh xcu xtp xtd xpa xsp xwh xhe (nI ho) xtk (upd (upd vt (mn + (32 * k)) (nI (0 + (32 * u_4)))) ((mn + (32 * k)) + 1) (nI ((0 + (32 * u_4)) + 1))) (upd (upd vw (mn + (32 * k)) ((-1) + 1)) ((mn + (32 * k)) + 1) (nI (ho - (25 * k)))) (nI (((mn + (32 * k)) + 1) + 1))) := hD
          refine lv_aload_n hx hb d_MD_putChain_113 rfl (lv_at hl 4 rfl) ?_
          refine lv_iload hx hb d_MD_putChain_114 (lv_at hl 0 rfl) ?_
          refine lv_iconst (v := 2) hx hb d_MD_putChain_116 (by decide) ?_
          refine lv_iadd hx hb d_MD_putChain_117 ?_
          rw [show (((nI (0 + (32 * u_4))) + 2) : Int32) = (nI ((0 + (32 * u_4)) + 2)) from nI_add (0 + (32 * u_4)) 2]
          refine lv_iload_n hx hb d_MD_putChain_118 rfl (lv_at hl 6 rfl) ?_
          refine sf_callVw (S := Unit) (rest := []) ⟨hx, hb, hml, hown, hts⟩ (c_MD_put l D cI cZ cJ q xth xB xsh xcu xtp xtd xpa xsp xwh xhe (nI ho) xtk (upd (upd vt (mn + (32 * k)) (nI (0 + (32 * u_4)))) ((mn + (32 * k)) + 1) (nI ((0 + (32 * u_4)) + 1))) (upd (upd vw (mn + (32 * k)) ((-1) + 1)) ((mn + (32 * k)) + 1) (nI (ho - (25 * k)))) (((mn + (32 * k)) + 1) + 1) (nI ((0 + (32 * u_4)) + 2)) mo (by omega)) (sf_cwV lk_MD_101 hts (fun _ h => h) (by rw [hR]; exact ⟨Nat.le_of_ble_eq_true rfl, Nat.le_of_ble_eq_true rfl⟩)) hK hP hD hS hA (fun _ => by simp only [md_w_fst]) (ci := 3) (q0 := 0) rfl rfl rfl rfl rfl hl.1 (Nat.le_of_ble_eq_true rfl) d_MD_putChain_119 ⟨Nat.zero_le _, Nat.zero_le _⟩ (fun u H locs hu hP hD hS => ?_)
          have hP : va_P D classes (md_w q cI cZ xth xB xsh xcu xtp xtd xpa xsp xwh xhe (nI ho) xtk (upd (upd (upd vt (mn + (32 * k)) (nI (0 + (32 * u_4)))) ((mn + (32 * k)) + 1) (nI ((0 + (32 * u_4)) + 1))) (((mn + (32 * k)) + 1) + 1) (nI ((0 + (32 * u_4)) + 2))) (upd (upd (upd vw (mn + (32 * k)) ((-1) + 1)) ((mn + (32 * k)) + 1) (nI (ho - (25 * k)))) (((mn + (32 * k)) + 1) + 1) mo) (nI ((((mn + (32 * k)) + 1) + 1) + 1))) H := hP
          have hD : va_D A (md_w q cI cZ xth xB xsh xcu xtp xtd xpa xsp xwh xhe (nI ho) xtk (upd (upd (upd vt (mn + (32 * k)) (nI (0 + (32 * u_4)))) ((mn + (32 * k)) + 1) (nI ((0 + (32 * u_4)) + 1))) (((mn + (32 * k)) + 1) + 1) (nI ((0 + (32 * u_4)) + 2))) (upd (upd (upd vw (mn + (32 * k)) ((-1) + 1)) ((mn + (32 * k)) + 1) (nI (ho - (25 * k)))) (((mn + (32 * k)) + 1) + 1) mo) (nI ((((mn + (32 * k)) + 1) + 1) + 1))) := hD
          refine lv_iconst (v := 0) hx hb d_MD_putChain_122 (by decide) ?_
          refine lv_istore (lv' := [(10, .int 0), (9, .int (nI (0 + (32 * u_4)))), (8, .int (-1)), (7, .int 1), (6, .int (nI (ho - (25 * k)))), (0, .ref (q 0)), (1, .int 0), (2, .int mo), (3, .int vf), (4, .int (nI u_4)), (5, .int (nI (25 * k)))]) hx hb d_MD_putChain_123 hl (by decide) rfl (fun ls hl => ?_)
          obtain ⟨u_21, hu_21⟩ : ∃ z, z = (f_MD_putChain_0_l125_1 xhe ho mn vp k (25 + 1) 0 (upd (upd (upd vt (mn + (32 * k)) (nI (0 + (32 * u_4)))) ((mn + (32 * k)) + 1) (nI ((0 + (32 * u_4)) + 1))) (((mn + (32 * k)) + 1) + 1) (nI ((0 + (32 * u_4)) + 2))) (upd (upd (upd vw (mn + (32 * k)) ((-1) + 1)) ((mn + (32 * k)) + 1) (nI (ho - (25 * k)))) (((mn + (32 * k)) + 1) + 1) mo)) := ⟨_, rfl⟩
          have loop125 : ∀ (fukk kk : Nat) (yt : (Nat → Int32)) (yw : (Nat → Int32)), kk ≤ 25 → kk + fukk = 25 + 1 → f_MD_putChain_0_l125_1 xhe ho mn vp k fukk kk yt yw = u_21 → ∀ (H : Heap) (locs : List Loc), va_P D classes (md_w q cI cZ xth xB xsh xcu xtp xtd xpa xsp xwh xhe (nI ho) xtk yt yw (nI (((((mn + (32 * k)) + 1) + 1) + 1) + kk))) H → va_D A (md_w q cI cZ xth xB xsh xcu xtp xtd xpa xsp xwh xhe (nI ho) xtk yt yw (nI (((((mn + (32 * k)) + 1) + 1) + 1) + kk))) → va_S A s.heap H locs → ∀ (ls : Array Slot), lv_has ls 11 [(0, .ref (q 0)), (1, .int 0), (2, .int mo), (3, .int vf), (4, .int (nI u_4)), (5, .int (nI (25 * k))), (6, .int (nI (ho - (25 * k)))), (7, .int 1), (8, .int (-1)), (9, .int (nI (0 + (32 * u_4)))), (10, .int (nI kk))] → W p l e R s m args below meth c H locs 0 0 Q (F0 m 125 ls []) := by
            intro fukk
            induction fukk with
            | zero =>
              intro kk yt yw h1 h2
              exact absurd h2 (by omega)
            | succ fukk ih125 =>
              intro kk yt yw hk125 hkn125 heq125 H locs hP hD hS ls hl
              refine lv_iload hx hb d_MD_putChain_125 (lv_at hl 10 rfl) ?_
              refine lv_bipush (v := 25) hx hb d_MD_putChain_127 (by decide) ?_
              refine lv_icmp_ge (tgt := 170) hx hb d_MD_putChain_129 (by decide) (fun c_22 => ?_) (fun c_22 => ?_)
              · skip
                have hv125 : (yt, yw) = u_21 := by rw [← heq125]; simp only [f_MD_putChain_0_l125_1, ← hu_1, ← hu_2, ← hu_4, eq_true c_22, ↓reduceIte]
                have hv125_0 : yt = u_21.1 := by rw [← hv125]
                rw [hv125_0] at hP hD
                have hv125_1 : yw = u_21.2 := by rw [← hv125]
                rw [hv125_1] at hP hD
                have hke125 : kk = 25 := sf_eq_of (N := 25) (by omega) (by omega) hk125 c_22
                subst hke125
                refine lv_aload_n hx hb d_MD_putChain_170 rfl (lv_at hl 0 rfl) ?_
                refine lv_bipush (v := 28) hx hb d_MD_putChain_171 (by decide) ?_
                refine lv_iload hx hb d_MD_putChain_173 (lv_at hl 9 rfl) ?_
                refine sf_callVw (S := ((Nat → Int32) × (Nat → Int32))) (rest := []) ⟨hx, hb, hml, hown, hts⟩ (c_MD_putSum l D cI cZ cJ q xth xB xsh xcu xtp xtd xpa xsp xwh xhe (nI ho) xtk u_21.1 u_21.2 (((((mn + (32 * k)) + 1) + 1) + 1) + 25) 28 (0 + (32 * u_4)) (by omega) (by omega)) (sf_cwV lk_MD_108 hts (fun _ h => h) (by rw [hR]; exact ⟨Nat.le_of_ble_eq_true rfl, Nat.le_of_ble_eq_true rfl⟩)) hK hP hD hS hA (fun _ => by simp only [md_w_fst]) (ci := 3) (q0 := 0) rfl rfl rfl rfl rfl hl.1 (Nat.le_of_ble_eq_true rfl) d_MD_putChain_175 ⟨Nat.zero_le _, Nat.zero_le _⟩ (fun u_24 H locs hu_24 hP hD hS => ?_)
                have hP : va_P D classes (md_w q cI cZ xth xB xsh xcu xtp xtd xpa xsp xwh xhe (nI ho) xtk u_24.1 u_24.2 (nI ((((((mn + (32 * k)) + 1) + 1) + 1) + 25) + 4))) H := hP
                have hD : va_D A (md_w q cI cZ xth xB xsh xcu xtp xtd xpa xsp xwh xhe (nI ho) xtk u_24.1 u_24.2 (nI ((((((mn + (32 * k)) + 1) + 1) + 1) + 25) + 4))) := hD
                refine lv_iload hx hb d_MD_putChain_178 (lv_at hl 8 rfl) ?_
                refine lv_istore (lv' := [(4, .int (-1)), (0, .ref (q 0)), (1, .int 0), (2, .int mo), (3, .int vf), (5, .int (nI (25 * k))), (6, .int (nI (ho - (25 * k)))), (7, .int 1), (8, .int (-1)), (9, .int (nI (0 + (32 * u_4)))), (10, .int (nI 25))]) hx hb d_MD_putChain_180 hl (by decide) rfl (fun ls hl => ?_)
                refine lv_iinc (v := (nI (25 * (k + 1)))) (lv' := [(5, .int (nI (25 * (k + 1)))), (4, .int (-1)), (0, .ref (q 0)), (1, .int 0), (2, .int mo), (3, .int vf), (6, .int (nI (ho - (25 * k)))), (7, .int 1), (8, .int (-1)), (9, .int (nI (0 + (32 * u_4)))), (10, .int (nI 25))]) hx hb d_MD_putChain_182 hl (k := 5) rfl (nI_add (25 * k) 25) (by decide) rfl (fun ls hl => ?_)
                refine lv_goto (tgt := 12) hx hb d_MD_putChain_185 (by decide) ?_
                rw [show ((((((mn + (32 * k)) + 1) + 1) + 1) + 25) + 4) = (mn + (32 * (k + 1))) by omega] at hP hD
                exact ih12 (k + 1) vf (-1) u_24.1 u_24.2 (by omega) (by omega) (fun h9 => absurd h9 (by omega)) (by omega) (by rw [← heq12]; simp only [f_MD_putChain_0_l12, ← hu_1, ← hu_2, ← hu_4, ← hu_21, ← hu_24, eq_false c_3, eq_false c_5, ↓reduceIte]) _ _ hP hD hS ls (lv_sub hl [2, 3, 4, 5, 1, 0] rfl)
              · have hlt : kk < 25 := sf_lt_of (N := 25) (by omega) (by omega) c_22
                refine lv_aload_n hx hb d_MD_putChain_132 rfl (lv_at hl 0 rfl) ?_
                refine lv_iload hx hb d_MD_putChain_133 (lv_at hl 9 rfl) ?_
                refine lv_iconst (v := 3) hx hb d_MD_putChain_135 (by decide) ?_
                refine lv_iadd hx hb d_MD_putChain_136 ?_
                rw [show (((nI (0 + (32 * u_4))) + 3) : Int32) = (nI ((0 + (32 * u_4)) + 3)) from nI_add (0 + (32 * u_4)) 3]
                refine lv_iload hx hb d_MD_putChain_137 (lv_at hl 10 rfl) ?_
                refine lv_iadd hx hb d_MD_putChain_139 ?_
                rw [show (((nI ((0 + (32 * u_4)) + 3)) + (nI kk)) : Int32) = (nI (((0 + (32 * u_4)) + 3) + kk)) from nI_add ((0 + (32 * u_4)) + 3) kk]
                refine lv_iload hx hb d_MD_putChain_140 (lv_at hl 10 rfl) ?_
                refine lv_iload hx hb d_MD_putChain_142 (lv_at hl 6 rfl) ?_
                refine lv_icmp_ge (tgt := 160) hx hb d_MD_putChain_144 (by decide) (fun c_23 => ?_) (fun c_23 => ?_)
                · refine lv_iconst (v := 0) hx hb d_MD_putChain_160 (by decide) ?_
                  refine sf_callVw (S := Unit) (rest := []) ⟨hx, hb, hml, hown, hts⟩ (c_MD_put l D cI cZ cJ q xth xB xsh xcu xtp xtd xpa xsp xwh xhe (nI ho) xtk yt yw (((((mn + (32 * k)) + 1) + 1) + 1) + kk) (nI (((0 + (32 * u_4)) + 3) + kk)) 0 (by omega)) (sf_cwV lk_MD_101 hts (fun _ h => h) (by rw [hR]; exact ⟨Nat.le_of_ble_eq_true rfl, Nat.le_of_ble_eq_true rfl⟩)) hK hP hD hS hA (fun _ => by simp only [md_w_fst]) (ci := 3) (q0 := 0) rfl rfl rfl rfl rfl hl.1 (Nat.le_of_ble_eq_true rfl) d_MD_putChain_161 ⟨Nat.zero_le _, Nat.zero_le _⟩ (fun u H locs hu hP hD hS => ?_)
                  have hP : va_P D classes (md_w q cI cZ xth xB xsh xcu xtp xtd xpa xsp xwh xhe (nI ho) xtk (upd yt (((((mn + (32 * k)) + 1) + 1) + 1) + kk) (nI (((0 + (32 * u_4)) + 3) + kk))) (upd yw (((((mn + (32 * k)) + 1) + 1) + 1) + kk) 0) (nI ((((((mn + (32 * k)) + 1) + 1) + 1) + kk) + 1))) H := hP
                  have hD : va_D A (md_w q cI cZ xth xB xsh xcu xtp xtd xpa xsp xwh xhe (nI ho) xtk (upd yt (((((mn + (32 * k)) + 1) + 1) + 1) + kk) (nI (((0 + (32 * u_4)) + 3) + kk))) (upd yw (((((mn + (32 * k)) + 1) + 1) + 1) + kk) 0) (nI ((((((mn + (32 * k)) + 1) + 1) + 1) + kk) + 1))) := hD
                  refine lv_iinc (v := (nI (kk + 1))) (lv' := [(10, .int (nI (kk + 1))), (0, .ref (q 0)), (1, .int 0), (2, .int mo), (3, .int vf), (4, .int (nI u_4)), (5, .int (nI (25 * k))), (6, .int (nI (ho - (25 * k)))), (7, .int 1), (8, .int (-1)), (9, .int (nI (0 + (32 * u_4))))]) hx hb d_MD_putChain_164 hl (k := 10) rfl (nI_1 kk) (by decide) rfl (fun ls hl => ?_)
                  refine lv_goto (tgt := 125) hx hb d_MD_putChain_167 (by decide) ?_
                  exact ih125 (kk + 1) (upd yt (((((mn + (32 * k)) + 1) + 1) + 1) + kk) (nI (((0 + (32 * u_4)) + 3) + kk))) (upd yw (((((mn + (32 * k)) + 1) + 1) + 1) + kk) 0) (by omega) (by omega) (by rw [← heq125]; simp only [f_MD_putChain_0_l125_1, ← hu_1, ← hu_2, ← hu_4, eq_false c_22, eq_true c_23, ↓reduceIte]) _ _ hP hD hS ls (lv_sub hl [1, 2, 3, 4, 5, 6, 7, 8, 9, 10, 0] rfl)
                · have hn7 : kk < ho - 25 * k := sf_lt_of (by omega) (by omega) c_23
                  refine lv_aload_n hx hb d_MD_putChain_147 rfl (lv_at hl 0 rfl) ?_
                  refine va_get (D := D) (ci := 3) (v := .ref (q 4)) (C := R_MD) (T := F_MD) (N := 15) hx hb hts i_MD hown hK hP 0 rfl rfl 9 (by decide) (hts _ wd_584) (fun _ h9 => h9) rfl d_MD_putChain_148 ?_
                  refine lv_iload hx hb d_MD_putChain_151 (lv_at hl 5 rfl) ?_
                  refine lv_iload hx hb d_MD_putChain_153 (lv_at hl 10 rfl) ?_
                  refine lv_iadd hx hb d_MD_putChain_155 ?_
                  rw [show (((nI (25 * k)) + (nI kk)) : Int32) = (nI ((25 * k) + kk)) from nI_add (25 * k) kk]
                  refine va_iald hx hb hK hP 4 0 rfl rfl (show vp_in (nI ((25 * k) + kk)) 75 from vp_in_nI (n := ((25 * k) + kk)) (by omega) (by omega)) d_MD_putChain_156 ?_
                  rw [show ((nI ((25 * k) + kk)) : Int32).toNatClampNeg = ((25 * k) + kk) from nI_clamp (n := ((25 * k) + kk)) (by omega)]
                  refine lv_goto (tgt := 161) hx hb d_MD_putChain_157 (by decide) ?_
                  refine sf_callVw (S := Unit) (rest := []) ⟨hx, hb, hml, hown, hts⟩ (c_MD_put l D cI cZ cJ q xth xB xsh xcu xtp xtd xpa xsp xwh xhe (nI ho) xtk yt yw (((((mn + (32 * k)) + 1) + 1) + 1) + kk) (nI (((0 + (32 * u_4)) + 3) + kk)) (xhe ((25 * k) + kk)) (by omega)) (sf_cwV lk_MD_101 hts (fun _ h => h) (by rw [hR]; exact ⟨Nat.le_of_ble_eq_true rfl, Nat.le_of_ble_eq_true rfl⟩)) hK hP hD hS hA (fun _ => by simp only [md_w_fst]) (ci := 3) (q0 := 0) rfl rfl rfl rfl rfl hl.1 (Nat.le_of_ble_eq_true rfl) d_MD_putChain_161 ⟨Nat.zero_le _, Nat.zero_le _⟩ (fun u H locs hu hP hD hS => ?_)
                  have hP : va_P D classes (md_w q cI cZ xth xB xsh xcu xtp xtd xpa xsp xwh xhe (nI ho) xtk (upd yt (((((mn + (32 * k)) + 1) + 1) + 1) + kk) (nI (((0 + (32 * u_4)) + 3) + kk))) (upd yw (((((mn + (32 * k)) + 1) + 1) + 1) + kk) (xhe ((25 * k) + kk))) (nI ((((((mn + (32 * k)) + 1) + 1) + 1) + kk) + 1))) H := hP
                  have hD : va_D A (md_w q cI cZ xth xB xsh xcu xtp xtd xpa xsp xwh xhe (nI ho) xtk (upd yt (((((mn + (32 * k)) + 1) + 1) + 1) + kk) (nI (((0 + (32 * u_4)) + 3) + kk))) (upd yw (((((mn + (32 * k)) + 1) + 1) + 1) + kk) (xhe ((25 * k) + kk))) (nI ((((((mn + (32 * k)) + 1) + 1) + 1) + kk) + 1))) := hD
                  refine lv_iinc (v := (nI (kk + 1))) (lv' := [(10, .int (nI (kk + 1))), (0, .ref (q 0)), (1, .int 0), (2, .int mo), (3, .int vf), (4, .int (nI u_4)), (5, .int (nI (25 * k))), (6, .int (nI (ho - (25 * k)))), (7, .int 1), (8, .int (-1)), (9, .int (nI (0 + (32 * u_4))))]) hx hb d_MD_putChain_164 hl (k := 10) rfl (nI_1 kk) (by decide) rfl (fun ls hl => ?_)
                  refine lv_goto (tgt := 125) hx hb d_MD_putChain_167 (by decide) ?_
                  exact ih125 (kk + 1) (upd yt (((((mn + (32 * k)) + 1) + 1) + 1) + kk) (nI (((0 + (32 * u_4)) + 3) + kk))) (upd yw (((((mn + (32 * k)) + 1) + 1) + 1) + kk) (xhe ((25 * k) + kk))) (by omega) (by omega) (by rw [← heq125]; simp only [f_MD_putChain_0_l125_1, ← hu_1, ← hu_2, ← hu_4, eq_false c_22, eq_false c_23, ↓reduceIte]) _ _ hP hD hS ls (lv_sub hl [1, 2, 3, 4, 5, 6, 7, 8, 9, 10, 0] rfl)
          exact loop125 (25 + 1) 0 (upd (upd (upd vt (mn + (32 * k)) (nI (0 + (32 * u_4)))) ((mn + (32 * k)) + 1) (nI ((0 + (32 * u_4)) + 1))) (((mn + (32 * k)) + 1) + 1) (nI ((0 + (32 * u_4)) + 2))) (upd (upd (upd vw (mn + (32 * k)) ((-1) + 1)) ((mn + (32 * k)) + 1) (nI (ho - (25 * k)))) (((mn + (32 * k)) + 1) + 1) mo) (by omega) (by omega) hu_21.symm _ _ hP hD hS ls (lv_sub hl [5, 6, 7, 8, 9, 10, 4, 3, 2, 1, 0] rfl)
  exact loop12 (3 + 1) 0 (nI u_2) (nI u_2) xto xwa (by omega) (by omega) (fun _ => ⟨_, rfl, by omega, by omega⟩) (by omega) (by simp only [f_MD_putChain_0, ← hu_1, ← hu_2, ↓reduceIte]) _ _ hP hD hS ls (lv_sub hl [3, 4, 5, 2, 1, 0] rfl)
def f_MD_putChain_1_l125_0 (xhe : Nat → Int32) (ho : Nat) (mn : Nat) (vp : Int32) (k : Nat) : Nat → Nat → (Nat → Int32) → (Nat → Int32) → ((Nat → Int32) × (Nat → Int32))
  | 0, _, _, _ => ((fun _ => 0), (fun _ => 0))
  | fu + 1, kk, yt, yw =>
    if 25 ≤ (nI kk) then
      (yt, yw)
    else
      f_MD_putChain_1_l125_0 xhe ho mn vp k fu (kk + 1) (upd yt (((((mn + (32 * k)) + 1) + 1) + 1) + kk) (nI (((768 + (32 * (vp.toNatClampNeg))) + 3) + kk))) (upd yw (((((mn + (32 * k)) + 1) + 1) + 1) + kk) (xhe ((25 * k) + kk)))
def f_MD_putChain_1_l125_1 (xhe : Nat → Int32) (ho : Nat) (mn : Nat) (vp : Int32) (k : Nat) : Nat → Nat → (Nat → Int32) → (Nat → Int32) → ((Nat → Int32) × (Nat → Int32))
  | 0, _, _, _ => ((fun _ => 0), (fun _ => 0))
  | fu + 1, kk, yt, yw =>
    if 25 ≤ (nI kk) then
      (yt, yw)
    else
      if (nI (ho - (25 * k))) ≤ (nI kk) then
        f_MD_putChain_1_l125_1 xhe ho mn vp k fu (kk + 1) (upd yt (((((mn + (32 * k)) + 1) + 1) + 1) + kk) (nI (((768 + (32 * (vp.toNatClampNeg))) + 3) + kk))) (upd yw (((((mn + (32 * k)) + 1) + 1) + 1) + kk) 0)
      else
        f_MD_putChain_1_l125_1 xhe ho mn vp k fu (kk + 1) (upd yt (((((mn + (32 * k)) + 1) + 1) + 1) + kk) (nI (((768 + (32 * (vp.toNatClampNeg))) + 3) + kk))) (upd yw (((((mn + (32 * k)) + 1) + 1) + 1) + kk) (xhe ((25 * k) + kk)))
def f_MD_putChain_1_l12 (xhe : Nat → Int32) (xtk : Nat → Int32) (ho : Nat) (mn : Nat) (mo : Int32) : Nat → Nat → Int32 → Int32 → (Nat → Int32) → (Nat → Int32) → (Int32 × (Nat → Int32) × (Nat → Int32))
  | 0, _, _, _, _, _ => (0, (fun _ => 0), (fun _ => 0))
  | fu + 1, k, vf, vp, vt, vw =>
    if (nI ho) ≤ (nI (25 * k)) then
      (vf, vt, vw)
    else
      if 25 ≤ (nI (ho - (25 * k))) then
        if (nI ((25 * k) + 25)) = (nI ho) then
          f_MD_putChain_1_l12 xhe xtk ho mn mo fu (k + 1) vf (-1) (f_MD_putSum (f_MD_putChain_1_l125_0 xhe ho mn vp k (25 + 1) 0 (upd (upd (upd vt (mn + (32 * k)) (nI (768 + (32 * (vp.toNatClampNeg))))) ((mn + (32 * k)) + 1) (nI ((768 + (32 * (vp.toNatClampNeg))) + 1))) (((mn + (32 * k)) + 1) + 1) (nI ((768 + (32 * (vp.toNatClampNeg))) + 2))) (upd (upd (upd vw (mn + (32 * k)) ((-1) + 1)) ((mn + (32 * k)) + 1) 25) (((mn + (32 * k)) + 1) + 1) mo)).1 (f_MD_putChain_1_l125_0 xhe ho mn vp k (25 + 1) 0 (upd (upd (upd vt (mn + (32 * k)) (nI (768 + (32 * (vp.toNatClampNeg))))) ((mn + (32 * k)) + 1) (nI ((768 + (32 * (vp.toNatClampNeg))) + 1))) (((mn + (32 * k)) + 1) + 1) (nI ((768 + (32 * (vp.toNatClampNeg))) + 2))) (upd (upd (upd vw (mn + (32 * k)) ((-1) + 1)) ((mn + (32 * k)) + 1) 25) (((mn + (32 * k)) + 1) + 1) mo)).2 (((((mn + (32 * k)) + 1) + 1) + 1) + 25) 28 (768 + (32 * (vp.toNatClampNeg)))).1 (f_MD_putSum (f_MD_putChain_1_l125_0 xhe ho mn vp k (25 + 1) 0 (upd (upd (upd vt (mn + (32 * k)) (nI (768 + (32 * (vp.toNatClampNeg))))) ((mn + (32 * k)) + 1) (nI ((768 + (32 * (vp.toNatClampNeg))) + 1))) (((mn + (32 * k)) + 1) + 1) (nI ((768 + (32 * (vp.toNatClampNeg))) + 2))) (upd (upd (upd vw (mn + (32 * k)) ((-1) + 1)) ((mn + (32 * k)) + 1) 25) (((mn + (32 * k)) + 1) + 1) mo)).1 (f_MD_putChain_1_l125_0 xhe ho mn vp k (25 + 1) 0 (upd (upd (upd vt (mn + (32 * k)) (nI (768 + (32 * (vp.toNatClampNeg))))) ((mn + (32 * k)) + 1) (nI ((768 + (32 * (vp.toNatClampNeg))) + 1))) (((mn + (32 * k)) + 1) + 1) (nI ((768 + (32 * (vp.toNatClampNeg))) + 2))) (upd (upd (upd vw (mn + (32 * k)) ((-1) + 1)) ((mn + (32 * k)) + 1) 25) (((mn + (32 * k)) + 1) + 1) mo)).2 (((((mn + (32 * k)) + 1) + 1) + 1) + 25) 28 (768 + (32 * (vp.toNatClampNeg)))).2
        else
          f_MD_putChain_1_l12 xhe xtk ho mn mo fu (k + 1) vf (nI ((f_MD_freeFrom xtk ((vp.toNatClampNeg) + 1)).toNatClampNeg)) (f_MD_putSum (f_MD_putChain_1_l125_0 xhe ho mn vp k (25 + 1) 0 (upd (upd (upd vt (mn + (32 * k)) (nI (768 + (32 * (vp.toNatClampNeg))))) ((mn + (32 * k)) + 1) (nI ((768 + (32 * (vp.toNatClampNeg))) + 1))) (((mn + (32 * k)) + 1) + 1) (nI ((768 + (32 * (vp.toNatClampNeg))) + 2))) (upd (upd (upd vw (mn + (32 * k)) (nI (((f_MD_freeFrom xtk ((vp.toNatClampNeg) + 1)).toNatClampNeg) + 1))) ((mn + (32 * k)) + 1) 25) (((mn + (32 * k)) + 1) + 1) mo)).1 (f_MD_putChain_1_l125_0 xhe ho mn vp k (25 + 1) 0 (upd (upd (upd vt (mn + (32 * k)) (nI (768 + (32 * (vp.toNatClampNeg))))) ((mn + (32 * k)) + 1) (nI ((768 + (32 * (vp.toNatClampNeg))) + 1))) (((mn + (32 * k)) + 1) + 1) (nI ((768 + (32 * (vp.toNatClampNeg))) + 2))) (upd (upd (upd vw (mn + (32 * k)) (nI (((f_MD_freeFrom xtk ((vp.toNatClampNeg) + 1)).toNatClampNeg) + 1))) ((mn + (32 * k)) + 1) 25) (((mn + (32 * k)) + 1) + 1) mo)).2 (((((mn + (32 * k)) + 1) + 1) + 1) + 25) 28 (768 + (32 * (vp.toNatClampNeg)))).1 (f_MD_putSum (f_MD_putChain_1_l125_0 xhe ho mn vp k (25 + 1) 0 (upd (upd (upd vt (mn + (32 * k)) (nI (768 + (32 * (vp.toNatClampNeg))))) ((mn + (32 * k)) + 1) (nI ((768 + (32 * (vp.toNatClampNeg))) + 1))) (((mn + (32 * k)) + 1) + 1) (nI ((768 + (32 * (vp.toNatClampNeg))) + 2))) (upd (upd (upd vw (mn + (32 * k)) (nI (((f_MD_freeFrom xtk ((vp.toNatClampNeg) + 1)).toNatClampNeg) + 1))) ((mn + (32 * k)) + 1) 25) (((mn + (32 * k)) + 1) + 1) mo)).1 (f_MD_putChain_1_l125_0 xhe ho mn vp k (25 + 1) 0 (upd (upd (upd vt (mn + (32 * k)) (nI (768 + (32 * (vp.toNatClampNeg))))) ((mn + (32 * k)) + 1) (nI ((768 + (32 * (vp.toNatClampNeg))) + 1))) (((mn + (32 * k)) + 1) + 1) (nI ((768 + (32 * (vp.toNatClampNeg))) + 2))) (upd (upd (upd vw (mn + (32 * k)) (nI (((f_MD_freeFrom xtk ((vp.toNatClampNeg) + 1)).toNatClampNeg) + 1))) ((mn + (32 * k)) + 1) 25) (((mn + (32 * k)) + 1) + 1) mo)).2 (((((mn + (32 * k)) + 1) + 1) + 1) + 25) 28 (768 + (32 * (vp.toNatClampNeg)))).2
      else
        f_MD_putChain_1_l12 xhe xtk ho mn mo fu (k + 1) vf (-1) (f_MD_putSum (f_MD_putChain_1_l125_1 xhe ho mn vp k (25 + 1) 0 (upd (upd (upd vt (mn + (32 * k)) (nI (768 + (32 * (vp.toNatClampNeg))))) ((mn + (32 * k)) + 1) (nI ((768 + (32 * (vp.toNatClampNeg))) + 1))) (((mn + (32 * k)) + 1) + 1) (nI ((768 + (32 * (vp.toNatClampNeg))) + 2))) (upd (upd (upd vw (mn + (32 * k)) ((-1) + 1)) ((mn + (32 * k)) + 1) (nI (ho - (25 * k)))) (((mn + (32 * k)) + 1) + 1) mo)).1 (f_MD_putChain_1_l125_1 xhe ho mn vp k (25 + 1) 0 (upd (upd (upd vt (mn + (32 * k)) (nI (768 + (32 * (vp.toNatClampNeg))))) ((mn + (32 * k)) + 1) (nI ((768 + (32 * (vp.toNatClampNeg))) + 1))) (((mn + (32 * k)) + 1) + 1) (nI ((768 + (32 * (vp.toNatClampNeg))) + 2))) (upd (upd (upd vw (mn + (32 * k)) ((-1) + 1)) ((mn + (32 * k)) + 1) (nI (ho - (25 * k)))) (((mn + (32 * k)) + 1) + 1) mo)).2 (((((mn + (32 * k)) + 1) + 1) + 1) + 25) 28 (768 + (32 * (vp.toNatClampNeg)))).1 (f_MD_putSum (f_MD_putChain_1_l125_1 xhe ho mn vp k (25 + 1) 0 (upd (upd (upd vt (mn + (32 * k)) (nI (768 + (32 * (vp.toNatClampNeg))))) ((mn + (32 * k)) + 1) (nI ((768 + (32 * (vp.toNatClampNeg))) + 1))) (((mn + (32 * k)) + 1) + 1) (nI ((768 + (32 * (vp.toNatClampNeg))) + 2))) (upd (upd (upd vw (mn + (32 * k)) ((-1) + 1)) ((mn + (32 * k)) + 1) (nI (ho - (25 * k)))) (((mn + (32 * k)) + 1) + 1) mo)).1 (f_MD_putChain_1_l125_1 xhe ho mn vp k (25 + 1) 0 (upd (upd (upd vt (mn + (32 * k)) (nI (768 + (32 * (vp.toNatClampNeg))))) ((mn + (32 * k)) + 1) (nI ((768 + (32 * (vp.toNatClampNeg))) + 1))) (((mn + (32 * k)) + 1) + 1) (nI ((768 + (32 * (vp.toNatClampNeg))) + 2))) (upd (upd (upd vw (mn + (32 * k)) ((-1) + 1)) ((mn + (32 * k)) + 1) (nI (ho - (25 * k)))) (((mn + (32 * k)) + 1) + 1) mo)).2 (((((mn + (32 * k)) + 1) + 1) + 1) + 25) 28 (768 + (32 * (vp.toNatClampNeg)))).2
def f_MD_putChain_1 (xhe : Nat → Int32) (xtk : Nat → Int32) (xto : Nat → Int32) (xwa : Nat → Int32) (ho : Nat) (mn : Nat) (mo : Int32) : (Int32 × (Nat → Int32) × (Nat → Int32)) :=
  f_MD_putChain_1_l12 xhe xtk ho mn mo (3 + 1) 0 (nI ((f_MD_freeFrom xtk 0).toNatClampNeg)) (nI ((f_MD_freeFrom xtk 0).toNatClampNeg)) xto xwa
set_option maxHeartbeats 1000000 in
set_option maxRecDepth 100000 in
/-- putChain -/
theorem c_MD_putChain_1 (l : Launch) (D : va_G) (cI cZ cJ : ClassId) (q : Nat → Nat) (xth : Int32) (xB : Nat → Int32) (xsh : Int32) (xcu : Int32) (xtp : Nat → Int32) (xtd : Int32) (xpa : Nat → Int32) (xsp : Int32) (xwh : Int32) (xhe : Nat → Int32) (xtk : Nat → Int32) (xto : Nat → Int32) (xwa : Nat → Int32) (ho : Nat) (mn : Nat) (mo : Int32) (h1 : 1 ≤ ho) (h2 : ho ≤ 75) (hm : mn + 96 ≤ 136) (hfr : (ho + 24) / 25 ≤ md_nf xtk 0 (16 - 0)) : sf_M (S := (Int32 × (Nat → Int32) × (Nat → Int32))) l D classes (sf_tys cI cZ cJ) y_MD_putChain (sf_ws y_MD_putChain b_MD_putChain 11 (some .int)) 2 46 [.ref (q 0), .int 1, .int mo] (md_w q cI cZ xth xB xsh xcu xtp xtd xpa xsp xwh xhe (nI ho) xtk xto xwa (nI mn)) (fun r => some (.int r.1)) (fun r => r = f_MD_putChain_1 xhe xtk xto xwa ho mn mo) (fun r => (md_w q cI cZ xth xB xsh xcu xtp xtd xpa xsp xwh xhe (nI ho) xtk r.2.1 r.2.2 (nI (mn + 32 * ((ho + 24) / 25))))) := by
  refine sf_ofW (S := (Int32 × (Nat → Int32) × (Nat → Int32))) (by decide) (Nat.le_of_ble_eq_true rfl) ?_
  intro p e s m below meth c A ls R args Q hR hArgs hQ hC0 hr hK hP hD hl
  obtain ⟨hx, hb, hml, hown, hts, hA, hlk⟩ := hC0
  have hS : va_S A s.heap s.heap [] := va_S.rf
  have hl : lv_has ls 11 [(0, .ref (q 0)), (1, .int 1), (2, .int mo)] := hl
  refine lv_aload_n hx hb d_MD_putChain_0 rfl (lv_at hl 0 rfl) ?_
  refine lv_iconst (v := 0) hx hb d_MD_putChain_1 (by decide) ?_
  refine sf_callVw (S := Int32) (rest := []) ⟨hx, hb, hml, hown, hts⟩ (c_MD_freeFrom l D cI cZ cJ q xth xB xsh xcu xtp xtd xpa xsp xwh xhe (nI ho) xtk xto xwa (nI mn) 0 (md_nf_ex24 (P := 16) (by omega) (by omega))) (sf_cwV lk_MD_105 hts (fun _ h => h) (by rw [hR]; exact ⟨Nat.le_of_ble_eq_true rfl, Nat.le_of_ble_eq_true rfl⟩)) hK hP hD hS hA (fun _ => by simp only [md_w_fst]) (ci := 3) (q0 := 0) rfl rfl rfl rfl rfl hl.1 (Nat.le_of_ble_eq_true rfl) d_MD_putChain_2 ⟨Nat.zero_le _, Nat.zero_le _⟩ (fun u_1 H locs hu_1 hP hD hS => ?_)
  have hP : va_P D classes (md_w q cI cZ xth xB xsh xcu xtp xtd xpa xsp xwh xhe (nI ho) xtk xto xwa (nI mn)) H := hP
  have hD : va_D A (md_w q cI cZ xth xB xsh xcu xtp xtd xpa xsp xwh xhe (nI ho) xtk xto xwa (nI mn)) := hD
  obtain ⟨u_2, hu_2⟩ : ∃ z, z = u_1.toNatClampNeg := ⟨_, rfl⟩
  obtain ⟨he_u_2, hb_u_2, hc_u_2⟩ := md_FF (P := 16) (fr := 0) hu_1 (by omega) (by omega) hu_2
  rw [he_u_2]
  refine lv_istore_n (lv' := [(3, .int (nI u_2)), (0, .ref (q 0)), (1, .int 1), (2, .int mo)]) hx hb d_MD_putChain_5 rfl hl (by decide) rfl (fun ls hl => ?_)
  refine lv_iload_n hx hb d_MD_putChain_6 rfl (lv_at hl 0 rfl) ?_
  refine lv_istore (lv' := [(4, .int (nI u_2)), (3, .int (nI u_2)), (0, .ref (q 0)), (1, .int 1), (2, .int mo)]) hx hb d_MD_putChain_7 hl (by decide) rfl (fun ls hl => ?_)
  refine lv_iconst (v := 0) hx hb d_MD_putChain_9 (by decide) ?_
  refine lv_istore (lv' := [(5, .int 0), (4, .int (nI u_2)), (3, .int (nI u_2)), (0, .ref (q 0)), (1, .int 1), (2, .int mo)]) hx hb d_MD_putChain_10 hl (by decide) rfl (fun ls hl => ?_)
  have loop12 : ∀ (fu k : Nat) (vf : Int32) (vp : Int32) (vt : (Nat → Int32)) (vw : (Nat → Int32)), k ≤ 3 → k + fu = 3 + 1 → (25 * k < ho → ∃ z : Nat, vp = nI z ∧ z < 16 ∧ (ho + 24) / 25 ≤ k + 1 + md_nf xtk (z + 1) (16 - (z + 1))) → 25 * k < ho + 25 → f_MD_putChain_1_l12 xhe xtk ho mn mo fu k vf vp vt vw = f_MD_putChain_1 xhe xtk xto xwa ho mn mo → ∀ (H : Heap) (locs : List Loc), va_P D classes (md_w q cI cZ xth xB xsh xcu xtp xtd xpa xsp xwh xhe (nI ho) xtk vt vw (nI (mn + (32 * k)))) H → va_D A (md_w q cI cZ xth xB xsh xcu xtp xtd xpa xsp xwh xhe (nI ho) xtk vt vw (nI (mn + (32 * k)))) → va_S A s.heap H locs → ∀ (ls : Array Slot), lv_has ls 11 [(0, .ref (q 0)), (1, .int 1), (2, .int mo), (3, .int vf), (4, .int vp), (5, .int (nI (25 * k)))] → W p l e R s m args below meth c H locs 0 0 Q (F0 m 12 ls []) := by
    intro fu
    induction fu with
    | zero =>
      intro k vf vp vt vw h1 h2
      exact absurd h2 (by omega)
    | succ fu ih12 =>
      intro k vf vp vt vw hk12 hkn12 hi120 hi121 heq12 H locs hP hD hS ls hl
      refine lv_iload hx hb d_MD_putChain_12 (lv_at hl 5 rfl) ?_
      refine lv_aload_n hx hb d_MD_putChain_14 rfl (lv_at hl 0 rfl) ?_
      refine va_get (D := D) (ci := 3) (v := .int (nI ho)) (C := R_MD) (T := F_MD) (N := 15) hx hb hts i_MD hown hK hP 0 rfl rfl 10 (by decide) (hts _ wd_585) (fun _ h9 => h9) rfl d_MD_putChain_15 ?_
      refine lv_icmp_ge (tgt := 188) hx hb d_MD_putChain_18 (by decide) (fun c_3 => ?_) (fun c_3 => ?_)
      · have hle9 : ho ≤ 25 * k := (nI_leI (by omega) (by omega)).mp c_3
        have hk9 : mn + (32 * k) = mn + 32 * ((ho + 24) / 25) := by omega
        rw [hk9] at hP hD
        refine lv_iload_n hx hb d_MD_putChain_188 rfl (lv_at hl 3 rfl) ?_
        rw [hQ]
        exact sf_iret (vf, vt, vw) hx hb hr hlk hS rfl rfl (by rw [← heq12]; simp only [f_MD_putChain_1_l12, ← hu_1, ← hu_2, eq_true c_3, ↓reduceIte]) hP d_MD_putChain_189
      · have hlt : 25 * k < ho := sf_lt_of (N := ho) (k := 25 * k) (by omega) (by omega) c_3
        obtain ⟨u_4, hu_4⟩ : ∃ z, z = vp.toNatClampNeg := ⟨_, rfl⟩
        obtain ⟨he_u_4, hb_u_4, hc_u_4⟩ := md_pc (P := 16) (by omega) hu_4 (hi120 hlt)
        rw [he_u_4] at hl
        refine lv_aload_n hx hb d_MD_putChain_21 rfl (lv_at hl 0 rfl) ?_
        refine va_get (D := D) (ci := 3) (v := .int (nI ho)) (C := R_MD) (T := F_MD) (N := 15) hx hb hts i_MD hown hK hP 0 rfl rfl 10 (by decide) (hts _ wd_585) (fun _ h9 => h9) rfl d_MD_putChain_22 ?_
        refine lv_iload hx hb d_MD_putChain_25 (lv_at hl 5 rfl) ?_
        refine lv_isub hx hb d_MD_putChain_27 ?_
        rw [show (((nI ho) - (nI (25 * k))) : Int32) = (nI (ho - (25 * k))) from pk_sub (a := ho) (b := (25 * k)) (by omega)]
        refine lv_bipush (v := 25) hx hb d_MD_putChain_28 (by decide) ?_
        refine lv_icmp_ge (tgt := 43) hx hb d_MD_putChain_30 (by decide) (fun c_5 => ?_) (fun c_5 => ?_)
        · have hn8 : 25 ≤ ho - 25 * k := (nI_leI (a := 25) (by omega) (by omega)).mp c_5
          refine lv_bipush (v := 25) hx hb d_MD_putChain_43 (by decide) ?_
          refine lv_istore (lv' := [(6, .int 25), (0, .ref (q 0)), (1, .int 1), (2, .int mo), (3, .int vf), (4, .int (nI u_4)), (5, .int (nI (25 * k)))]) hx hb d_MD_putChain_45 hl (by decide) rfl (fun ls hl => ?_)
          refine lv_iload hx hb d_MD_putChain_47 (lv_at hl 6 rfl) ?_
          refine lv_iload hx hb d_MD_putChain_49 (lv_at hl 0 rfl) ?_
          refine lv_iadd hx hb d_MD_putChain_51 ?_
          rw [show (((nI (25 * k)) + 25) : Int32) = (nI ((25 * k) + 25)) from nI_add (25 * k) 25]
          refine lv_aload_n hx hb d_MD_putChain_52 rfl (lv_at hl 1 rfl) ?_
          refine va_get (D := D) (ci := 3) (v := .int (nI ho)) (C := R_MD) (T := F_MD) (N := 15) hx hb hts i_MD hown hK hP 0 rfl rfl 10 (by decide) (hts _ wd_585) (fun _ h9 => h9) rfl d_MD_putChain_53 ?_
          refine lv_icmp_ne (tgt := 63) hx hb d_MD_putChain_56 (by decide) (fun c_6 => ?_) (fun c_6 => ?_)
          · have hn9 : ¬ 25 * k + 25 = ho := fun h9 => c_6 (congrArg nI h9)
            refine lv_iconst (v := 0) hx hb d_MD_putChain_63 (by decide) ?_
            refine lv_istore (lv' := [(7, .int 0), (6, .int 25), (0, .ref (q 0)), (1, .int 1), (2, .int mo), (3, .int vf), (4, .int (nI u_4)), (5, .int (nI (25 * k)))]) hx hb d_MD_putChain_64 hl (by decide) rfl (fun ls hl => ?_)
            refine lv_iload hx hb d_MD_putChain_66 (lv_at hl 0 rfl) ?_
            refine lv_if_eq (tgt := 75) hx hb d_MD_putChain_68 (by decide) (fun c_7 => ?_) (fun c_7 => absurd (by decide) c_7)
            refine lv_aload_n hx hb d_MD_putChain_75 rfl (lv_at hl 2 rfl) ?_
            refine lv_iload hx hb d_MD_putChain_76 (lv_at hl 6 rfl) ?_
            refine lv_iconst (v := 1) hx hb d_MD_putChain_78 (by decide) ?_
            refine lv_iadd hx hb d_MD_putChain_79 ?_
            rw [show (((nI u_4) + 1) : Int32) = (nI (u_4 + 1)) from nI_add u_4 1]
            refine sf_callVw (S := Int32) (rest := []) ⟨hx, hb, hml, hown, hts⟩ (c_MD_freeFrom l D cI cZ cJ q xth xB xsh xcu xtp xtd xpa xsp xwh xhe (nI ho) xtk vt vw (nI (mn + (32 * k))) (u_4 + 1) (md_nf_ex24 (P := 16) (by omega) (by omega))) (sf_cwV lk_MD_105 hts (fun _ h => h) (by rw [hR]; exact ⟨Nat.le_of_ble_eq_true rfl, Nat.le_of_ble_eq_true rfl⟩)) hK hP hD hS hA (fun _ => by simp only [md_w_fst]) (ci := 3) (q0 := 0) rfl rfl rfl rfl rfl hl.1 (Nat.le_of_ble_eq_true rfl) d_MD_putChain_80 ⟨Nat.zero_le _, Nat.zero_le _⟩ (fun u_8 H locs hu_8 hP hD hS => ?_)
            have hP : va_P D classes (md_w q cI cZ xth xB xsh xcu xtp xtd xpa xsp xwh xhe (nI ho) xtk vt vw (nI (mn + (32 * k)))) H := hP
            have hD : va_D A (md_w q cI cZ xth xB xsh xcu xtp xtd xpa xsp xwh xhe (nI ho) xtk vt vw (nI (mn + (32 * k)))) := hD
            obtain ⟨u_9, hu_9⟩ : ∃ z, z = u_8.toNatClampNeg := ⟨_, rfl⟩
            obtain ⟨he_u_9, hb_u_9, hc_u_9⟩ := md_FF (P := 16) (fr := (u_4 + 1)) hu_8 (by omega) (by omega) hu_9
            rw [he_u_9]
            refine lv_istore (lv' := [(8, .int (nI u_9)), (7, .int 0), (6, .int 25), (0, .ref (q 0)), (1, .int 1), (2, .int mo), (3, .int vf), (4, .int (nI u_4)), (5, .int (nI (25 * k)))]) hx hb d_MD_putChain_83 hl (by decide) rfl (fun ls hl => ?_)
            refine lv_iload_n hx hb d_MD_putChain_85 rfl (lv_at hl 4 rfl) ?_
            refine lv_iload hx hb d_MD_putChain_86 (lv_at hl 7 rfl) ?_
            refine sf_callSr (S := Unit) (rest := []) ⟨hx, hb, hml, hown, hts⟩ (c_MD_begin_1 l D cI cZ cJ u_4) (sf_cwS lk_MD_84 hts (fun _ h => h) (by rw [hR]; exact ⟨Nat.le_of_ble_eq_true rfl, Nat.le_of_ble_eq_true rfl⟩)) hK hP hD hS hA [] rfl rfl (fun _ => rfl) rfl rfl hl.1 (Nat.le_of_ble_eq_true rfl) d_MD_putChain_88 ⟨Nat.zero_le _, Nat.zero_le _⟩ (fun u H locs hu hP hS => ?_)
            refine lv_istore (lv' := [(9, .int (nI (768 + (32 * u_4)))), (8, .int (nI u_9)), (7, .int 0), (6, .int 25), (0, .ref (q 0)), (1, .int 1), (2, .int mo), (3, .int vf), (4, .int (nI u_4)), (5, .int (nI (25 * k)))]) hx hb d_MD_putChain_91 hl (by decide) rfl (fun ls hl => ?_)
            refine lv_aload_n hx hb d_MD_putChain_93 rfl (lv_at hl 4 rfl) ?_
            refine lv_iload hx hb d_MD_putChain_94 (lv_at hl 0 rfl) ?_
            refine lv_iload hx hb d_MD_putChain_96 (lv_at hl 1 rfl) ?_
            refine lv_iconst (v := 1) hx hb d_MD_putChain_98 (by decide) ?_
            refine lv_iadd hx hb d_MD_putChain_99 ?_
            rw [show (((nI u_9) + 1) : Int32) = (nI (u_9 + 1)) from nI_add u_9 1]
            refine sf_callVw (S := Unit) (rest := []) ⟨hx, hb, hml, hown, hts⟩ (c_MD_put l D cI cZ cJ q xth xB xsh xcu xtp xtd xpa xsp xwh xhe (nI ho) xtk vt vw (mn + (32 * k)) (nI (768 + (32 * u_4))) (nI (u_9 + 1)) (by omega)) (sf_cwV lk_MD_101 hts (fun _ h => h) (by rw [hR]; exact ⟨Nat.le_of_ble_eq_true rfl, Nat.le_of_ble_eq_true rfl⟩)) hK hP hD hS hA (fun _ => by simp only [md_w_fst]) (ci := 3) (q0 := 0) rfl rfl rfl rfl rfl hl.1 (Nat.le_of_ble_eq_true rfl) d_MD_putChain_100 ⟨Nat.zero_le _, Nat.zero_le _⟩ (fun u H locs hu hP hD hS => ?_)
            have hP : va_P D classes (md_w q cI cZ xth xB xsh xcu xtp xtd xpa xsp xwh xhe (nI ho) xtk (upd vt (mn + (32 * k)) (nI (768 + (32 * u_4)))) (upd vw (mn + (32 * k)) (nI (u_9 + 1))) (nI ((mn + (32 * k)) + 1))) H := hP
            have hD : va_D A (md_w q cI cZ xth xB xsh xcu xtp xtd xpa xsp xwh xhe (nI ho) xtk (upd vt (mn + (32 * k)) (nI (768 + (32 * u_4)))) (upd vw (mn + (32 * k)) (nI (u_9 + 1))) (nI ((mn + (32 * k)) + 1))) := hD
            refine lv_aload_n hx hb d_MD_putChain_103 rfl (lv_at hl 4 rfl) ?_
            refine lv_iload hx hb d_MD_putChain_104 (lv_at hl 0 rfl) ?_
            refine lv_iconst (v := 1) hx hb d_MD_putChain_106 (by decide) ?_
            refine lv_iadd hx hb d_MD_putChain_107 ?_
            rw [show (((nI (768 + (32 * u_4))) + 1) : Int32) = (nI ((768 + (32 * u_4)) + 1)) from nI_add (768 + (32 * u_4)) 1]
            refine lv_iload hx hb d_MD_putChain_108 (lv_at hl 3 rfl) ?_
            refine sf_callVw (S := Unit) (rest := []) ⟨hx, hb, hml, hown, hts⟩ (c_MD_put l D cI cZ cJ q xth xB xsh xcu xtp xtd xpa xsp xwh xhe (nI ho) xtk (upd vt (mn + (32 * k)) (nI (768 + (32 * u_4)))) (upd vw (mn + (32 * k)) (nI (u_9 + 1))) ((mn + (32 * k)) + 1) (nI ((768 + (32 * u_4)) + 1)) 25 (by omega)) (sf_cwV lk_MD_101 hts (fun _ h => h) (by rw [hR]; exact ⟨Nat.le_of_ble_eq_true rfl, Nat.le_of_ble_eq_true rfl⟩)) hK hP hD hS hA (fun _ => by simp only [md_w_fst]) (ci := 3) (q0 := 0) rfl rfl rfl rfl rfl hl.1 (Nat.le_of_ble_eq_true rfl) d_MD_putChain_110 ⟨Nat.zero_le _, Nat.zero_le _⟩ (fun u H locs hu hP hD hS => ?_)
            have hP : va_P D classes (md_w q cI cZ xth xB xsh xcu xtp xtd xpa xsp xwh xhe (nI ho) xtk (upd (upd vt (mn + (32 * k)) (nI (768 + (32 * u_4)))) ((mn + (32 * k)) + 1) (nI ((768 + (32 * u_4)) + 1))) (upd (upd vw (mn + (32 * k)) (nI (u_9 + 1))) ((mn + (32 * k)) + 1) 25) (nI (((mn + (32 * k)) + 1) + 1))) H := hP
            have hD : va_D A (md_w q cI cZ xth xB xsh xcu xtp xtd xpa xsp xwh xhe (nI ho) xtk (upd (upd vt (mn + (32 * k)) (nI (768 + (32 * u_4)))) ((mn + (32 * k)) + 1) (nI ((768 + (32 * u_4)) + 1))) (upd (upd vw (mn + (32 * k)) (nI (u_9 + 1))) ((mn + (32 * k)) + 1) 25) (nI (((mn + (32 * k)) + 1) + 1))) := hD
            refine lv_aload_n hx hb d_MD_putChain_113 rfl (lv_at hl 4 rfl) ?_
            refine lv_iload hx hb d_MD_putChain_114 (lv_at hl 0 rfl) ?_
            refine lv_iconst (v := 2) hx hb d_MD_putChain_116 (by decide) ?_
            refine lv_iadd hx hb d_MD_putChain_117 ?_
            rw [show (((nI (768 + (32 * u_4))) + 2) : Int32) = (nI ((768 + (32 * u_4)) + 2)) from nI_add (768 + (32 * u_4)) 2]
            refine lv_iload_n hx hb d_MD_putChain_118 rfl (lv_at hl 6 rfl) ?_
            refine sf_callVw (S := Unit) (rest := []) ⟨hx, hb, hml, hown, hts⟩ (c_MD_put l D cI cZ cJ q xth xB xsh xcu xtp xtd xpa xsp xwh xhe (nI ho) xtk (upd (upd vt (mn + (32 * k)) (nI (768 + (32 * u_4)))) ((mn + (32 * k)) + 1) (nI ((768 + (32 * u_4)) + 1))) (upd (upd vw (mn + (32 * k)) (nI (u_9 + 1))) ((mn + (32 * k)) + 1) 25) (((mn + (32 * k)) + 1) + 1) (nI ((768 + (32 * u_4)) + 2)) mo (by omega)) (sf_cwV lk_MD_101 hts (fun _ h => h) (by rw [hR]; exact ⟨Nat.le_of_ble_eq_true rfl, Nat.le_of_ble_eq_true rfl⟩)) hK hP hD hS hA (fun _ => by simp only [md_w_fst]) (ci := 3) (q0 := 0) rfl rfl rfl rfl rfl hl.1 (Nat.le_of_ble_eq_true rfl) d_MD_putChain_119 ⟨Nat.zero_le _, Nat.zero_le _⟩ (fun u H locs hu hP hD hS => ?_)
            have hP : va_P D classes (md_w q cI cZ xth xB xsh xcu xtp xtd xpa xsp xwh xhe (nI ho) xtk (upd (upd (upd vt (mn + (32 * k)) (nI (768 + (32 * u_4)))) ((mn + (32 * k)) + 1) (nI ((768 + (32 * u_4)) + 1))) (((mn + (32 * k)) + 1) + 1) (nI ((768 + (32 * u_4)) + 2))) (upd (upd (upd vw (mn + (32 * k)) (nI (u_9 + 1))) ((mn + (32 * k)) + 1) 25) (((mn + (32 * k)) + 1) + 1) mo) (nI ((((mn + (32 * k)) + 1) + 1) + 1))) H := hP
            have hD : va_D A (md_w q cI cZ xth xB xsh xcu xtp xtd xpa xsp xwh xhe (nI ho) xtk (upd (upd (upd vt (mn + (32 * k)) (nI (768 + (32 * u_4)))) ((mn + (32 * k)) + 1) (nI ((768 + (32 * u_4)) + 1))) (((mn + (32 * k)) + 1) + 1) (nI ((768 + (32 * u_4)) + 2))) (upd (upd (upd vw (mn + (32 * k)) (nI (u_9 + 1))) ((mn + (32 * k)) + 1) 25) (((mn + (32 * k)) + 1) + 1) mo) (nI ((((mn + (32 * k)) + 1) + 1) + 1))) := hD
            refine lv_iconst (v := 0) hx hb d_MD_putChain_122 (by decide) ?_
            refine lv_istore (lv' := [(10, .int 0), (9, .int (nI (768 + (32 * u_4)))), (8, .int (nI u_9)), (7, .int 0), (6, .int 25), (0, .ref (q 0)), (1, .int 1), (2, .int mo), (3, .int vf), (4, .int (nI u_4)), (5, .int (nI (25 * k)))]) hx hb d_MD_putChain_123 hl (by decide) rfl (fun ls hl => ?_)
            obtain ⟨u_10, hu_10⟩ : ∃ z, z = (f_MD_putChain_1_l125_0 xhe ho mn vp k (25 + 1) 0 (upd (upd (upd vt (mn + (32 * k)) (nI (768 + (32 * u_4)))) ((mn + (32 * k)) + 1) (nI ((768 + (32 * u_4)) + 1))) (((mn + (32 * k)) + 1) + 1) (nI ((768 + (32 * u_4)) + 2))) (upd (upd (upd vw (mn + (32 * k)) (nI (u_9 + 1))) ((mn + (32 * k)) + 1) 25) (((mn + (32 * k)) + 1) + 1) mo)) := ⟨_, rfl⟩
            have loop125 : ∀ (fukk kk : Nat) (yt : (Nat → Int32)) (yw : (Nat → Int32)), kk ≤ 25 → kk + fukk = 25 + 1 → f_MD_putChain_1_l125_0 xhe ho mn vp k fukk kk yt yw = u_10 → ∀ (H : Heap) (locs : List Loc), va_P D classes (md_w q cI cZ xth xB xsh xcu xtp xtd xpa xsp xwh xhe (nI ho) xtk yt yw (nI (((((mn + (32 * k)) + 1) + 1) + 1) + kk))) H → va_D A (md_w q cI cZ xth xB xsh xcu xtp xtd xpa xsp xwh xhe (nI ho) xtk yt yw (nI (((((mn + (32 * k)) + 1) + 1) + 1) + kk))) → va_S A s.heap H locs → ∀ (ls : Array Slot), lv_has ls 11 [(0, .ref (q 0)), (1, .int 1), (2, .int mo), (3, .int vf), (4, .int (nI u_4)), (5, .int (nI (25 * k))), (6, .int 25), (7, .int 0), (8, .int (nI u_9)), (9, .int (nI (768 + (32 * u_4)))), (10, .int (nI kk))] → W p l e R s m args below meth c H locs 0 0 Q (F0 m 125 ls []) := by
              intro fukk
              induction fukk with
              | zero =>
                intro kk yt yw h1 h2
                exact absurd h2 (by omega)
              | succ fukk ih125 =>
                intro kk yt yw hk125 hkn125 heq125 H locs hP hD hS ls hl
                refine lv_iload hx hb d_MD_putChain_125 (lv_at hl 10 rfl) ?_
                refine lv_bipush (v := 25) hx hb d_MD_putChain_127 (by decide) ?_
                refine lv_icmp_ge (tgt := 170) hx hb d_MD_putChain_129 (by decide) (fun c_11 => ?_) (fun c_11 => ?_)
                · skip
                  have hv125 : (yt, yw) = u_10 := by rw [← heq125]; simp only [f_MD_putChain_1_l125_0, ← hu_1, ← hu_2, ← hu_4, ← hu_8, ← hu_9, eq_true c_11, ↓reduceIte]
                  have hv125_0 : yt = u_10.1 := by rw [← hv125]
                  rw [hv125_0] at hP hD
                  have hv125_1 : yw = u_10.2 := by rw [← hv125]
                  rw [hv125_1] at hP hD
                  have hke125 : kk = 25 := sf_eq_of (N := 25) (by omega) (by omega) hk125 c_11
                  subst hke125
                  refine lv_aload_n hx hb d_MD_putChain_170 rfl (lv_at hl 0 rfl) ?_
                  refine lv_bipush (v := 28) hx hb d_MD_putChain_171 (by decide) ?_
                  refine lv_iload hx hb d_MD_putChain_173 (lv_at hl 9 rfl) ?_
                  refine sf_callVw (S := ((Nat → Int32) × (Nat → Int32))) (rest := []) ⟨hx, hb, hml, hown, hts⟩ (c_MD_putSum l D cI cZ cJ q xth xB xsh xcu xtp xtd xpa xsp xwh xhe (nI ho) xtk u_10.1 u_10.2 (((((mn + (32 * k)) + 1) + 1) + 1) + 25) 28 (768 + (32 * u_4)) (by omega) (by omega)) (sf_cwV lk_MD_108 hts (fun _ h => h) (by rw [hR]; exact ⟨Nat.le_of_ble_eq_true rfl, Nat.le_of_ble_eq_true rfl⟩)) hK hP hD hS hA (fun _ => by simp only [md_w_fst]) (ci := 3) (q0 := 0) rfl rfl rfl rfl rfl hl.1 (Nat.le_of_ble_eq_true rfl) d_MD_putChain_175 ⟨Nat.zero_le _, Nat.zero_le _⟩ (fun u_13 H locs hu_13 hP hD hS => ?_)
                  have hP : va_P D classes (md_w q cI cZ xth xB xsh xcu xtp xtd xpa xsp xwh xhe (nI ho) xtk u_13.1 u_13.2 (nI ((((((mn + (32 * k)) + 1) + 1) + 1) + 25) + 4))) H := hP
                  have hD : va_D A (md_w q cI cZ xth xB xsh xcu xtp xtd xpa xsp xwh xhe (nI ho) xtk u_13.1 u_13.2 (nI ((((((mn + (32 * k)) + 1) + 1) + 1) + 25) + 4))) := hD
                  refine lv_iload hx hb d_MD_putChain_178 (lv_at hl 8 rfl) ?_
                  refine lv_istore (lv' := [(4, .int (nI u_9)), (0, .ref (q 0)), (1, .int 1), (2, .int mo), (3, .int vf), (5, .int (nI (25 * k))), (6, .int 25), (7, .int 0), (8, .int (nI u_9)), (9, .int (nI (768 + (32 * u_4)))), (10, .int (nI 25))]) hx hb d_MD_putChain_180 hl (by decide) rfl (fun ls hl => ?_)
                  refine lv_iinc (v := (nI (25 * (k + 1)))) (lv' := [(5, .int (nI (25 * (k + 1)))), (4, .int (nI u_9)), (0, .ref (q 0)), (1, .int 1), (2, .int mo), (3, .int vf), (6, .int 25), (7, .int 0), (8, .int (nI u_9)), (9, .int (nI (768 + (32 * u_4)))), (10, .int (nI 25))]) hx hb d_MD_putChain_182 hl (k := 5) rfl (nI_add (25 * k) 25) (by decide) rfl (fun ls hl => ?_)
                  refine lv_goto (tgt := 12) hx hb d_MD_putChain_185 (by decide) ?_
                  rw [show ((((((mn + (32 * k)) + 1) + 1) + 1) + 25) + 4) = (mn + (32 * (k + 1))) by omega] at hP hD
                  exact ih12 (k + 1) vf (nI u_9) u_13.1 u_13.2 (by omega) (by omega) (fun _ => ⟨_, rfl, by omega, by omega⟩) (by omega) (by rw [← heq12]; simp only [f_MD_putChain_1_l12, ← hu_1, ← hu_2, ← hu_4, ← hu_8, ← hu_9, ← hu_10, ← hu_13, eq_false c_3, eq_true c_5, eq_false c_6, ↓reduceIte]) _ _ hP hD hS ls (lv_sub hl [2, 3, 4, 5, 1, 0] rfl)
                · have hlt : kk < 25 := sf_lt_of (N := 25) (by omega) (by omega) c_11
                  refine lv_aload_n hx hb d_MD_putChain_132 rfl (lv_at hl 0 rfl) ?_
                  refine lv_iload hx hb d_MD_putChain_133 (lv_at hl 9 rfl) ?_
                  refine lv_iconst (v := 3) hx hb d_MD_putChain_135 (by decide) ?_
                  refine lv_iadd hx hb d_MD_putChain_136 ?_
                  rw [show (((nI (768 + (32 * u_4))) + 3) : Int32) = (nI ((768 + (32 * u_4)) + 3)) from nI_add (768 + (32 * u_4)) 3]
                  refine lv_iload hx hb d_MD_putChain_137 (lv_at hl 10 rfl) ?_
                  refine lv_iadd hx hb d_MD_putChain_139 ?_
                  rw [show (((nI ((768 + (32 * u_4)) + 3)) + (nI kk)) : Int32) = (nI (((768 + (32 * u_4)) + 3) + kk)) from nI_add ((768 + (32 * u_4)) + 3) kk]
                  refine lv_iload hx hb d_MD_putChain_140 (lv_at hl 10 rfl) ?_
                  refine lv_iload hx hb d_MD_putChain_142 (lv_at hl 6 rfl) ?_
                  refine lv_icmp_ge (tgt := 160) hx hb d_MD_putChain_144 (by decide) (fun c_12 => absurd c_12 c_11) (fun c_12 => ?_)
                  refine lv_aload_n hx hb d_MD_putChain_147 rfl (lv_at hl 0 rfl) ?_
                  refine va_get (D := D) (ci := 3) (v := .ref (q 4)) (C := R_MD) (T := F_MD) (N := 15) hx hb hts i_MD hown hK hP 0 rfl rfl 9 (by decide) (hts _ wd_584) (fun _ h9 => h9) rfl d_MD_putChain_148 ?_
                  refine lv_iload hx hb d_MD_putChain_151 (lv_at hl 5 rfl) ?_
                  refine lv_iload hx hb d_MD_putChain_153 (lv_at hl 10 rfl) ?_
                  refine lv_iadd hx hb d_MD_putChain_155 ?_
                  rw [show (((nI (25 * k)) + (nI kk)) : Int32) = (nI ((25 * k) + kk)) from nI_add (25 * k) kk]
                  refine va_iald hx hb hK hP 4 0 rfl rfl (show vp_in (nI ((25 * k) + kk)) 75 from vp_in_nI (n := ((25 * k) + kk)) (by omega) (by omega)) d_MD_putChain_156 ?_
                  rw [show ((nI ((25 * k) + kk)) : Int32).toNatClampNeg = ((25 * k) + kk) from nI_clamp (n := ((25 * k) + kk)) (by omega)]
                  refine lv_goto (tgt := 161) hx hb d_MD_putChain_157 (by decide) ?_
                  refine sf_callVw (S := Unit) (rest := []) ⟨hx, hb, hml, hown, hts⟩ (c_MD_put l D cI cZ cJ q xth xB xsh xcu xtp xtd xpa xsp xwh xhe (nI ho) xtk yt yw (((((mn + (32 * k)) + 1) + 1) + 1) + kk) (nI (((768 + (32 * u_4)) + 3) + kk)) (xhe ((25 * k) + kk)) (by omega)) (sf_cwV lk_MD_101 hts (fun _ h => h) (by rw [hR]; exact ⟨Nat.le_of_ble_eq_true rfl, Nat.le_of_ble_eq_true rfl⟩)) hK hP hD hS hA (fun _ => by simp only [md_w_fst]) (ci := 3) (q0 := 0) rfl rfl rfl rfl rfl hl.1 (Nat.le_of_ble_eq_true rfl) d_MD_putChain_161 ⟨Nat.zero_le _, Nat.zero_le _⟩ (fun u H locs hu hP hD hS => ?_)
                  have hP : va_P D classes (md_w q cI cZ xth xB xsh xcu xtp xtd xpa xsp xwh xhe (nI ho) xtk (upd yt (((((mn + (32 * k)) + 1) + 1) + 1) + kk) (nI (((768 + (32 * u_4)) + 3) + kk))) (upd yw (((((mn + (32 * k)) + 1) + 1) + 1) + kk) (xhe ((25 * k) + kk))) (nI ((((((mn + (32 * k)) + 1) + 1) + 1) + kk) + 1))) H := hP
                  have hD : va_D A (md_w q cI cZ xth xB xsh xcu xtp xtd xpa xsp xwh xhe (nI ho) xtk (upd yt (((((mn + (32 * k)) + 1) + 1) + 1) + kk) (nI (((768 + (32 * u_4)) + 3) + kk))) (upd yw (((((mn + (32 * k)) + 1) + 1) + 1) + kk) (xhe ((25 * k) + kk))) (nI ((((((mn + (32 * k)) + 1) + 1) + 1) + kk) + 1))) := hD
                  refine lv_iinc (v := (nI (kk + 1))) (lv' := [(10, .int (nI (kk + 1))), (0, .ref (q 0)), (1, .int 1), (2, .int mo), (3, .int vf), (4, .int (nI u_4)), (5, .int (nI (25 * k))), (6, .int 25), (7, .int 0), (8, .int (nI u_9)), (9, .int (nI (768 + (32 * u_4))))]) hx hb d_MD_putChain_164 hl (k := 10) rfl (nI_1 kk) (by decide) rfl (fun ls hl => ?_)
                  refine lv_goto (tgt := 125) hx hb d_MD_putChain_167 (by decide) ?_
                  exact ih125 (kk + 1) (upd yt (((((mn + (32 * k)) + 1) + 1) + 1) + kk) (nI (((768 + (32 * u_4)) + 3) + kk))) (upd yw (((((mn + (32 * k)) + 1) + 1) + 1) + kk) (xhe ((25 * k) + kk))) (by omega) (by omega) (by rw [← heq125]; simp only [f_MD_putChain_1_l125_0, ← hu_1, ← hu_2, ← hu_4, ← hu_8, ← hu_9, eq_false c_11, ↓reduceIte]) _ _ hP hD hS ls (lv_sub hl [1, 2, 3, 4, 5, 6, 7, 8, 9, 10, 0] rfl)
            exact loop125 (25 + 1) 0 (upd (upd (upd vt (mn + (32 * k)) (nI (768 + (32 * u_4)))) ((mn + (32 * k)) + 1) (nI ((768 + (32 * u_4)) + 1))) (((mn + (32 * k)) + 1) + 1) (nI ((768 + (32 * u_4)) + 2))) (upd (upd (upd vw (mn + (32 * k)) (nI (u_9 + 1))) ((mn + (32 * k)) + 1) 25) (((mn + (32 * k)) + 1) + 1) mo) (by omega) (by omega) hu_10.symm _ _ hP hD hS ls (lv_sub hl [5, 6, 7, 8, 9, 10, 4, 3, 2, 1, 0] rfl)
          · have hn9 : 25 * k + 25 = ho := (nI_eq (by omega) (by omega)).mp c_6
            refine lv_iconst (v := 1) hx hb d_MD_putChain_59 (by decide) ?_
            refine lv_goto (tgt := 64) hx hb d_MD_putChain_60 (by decide) ?_
            refine lv_istore (lv' := [(7, .int 1), (6, .int 25), (0, .ref (q 0)), (1, .int 1), (2, .int mo), (3, .int vf), (4, .int (nI u_4)), (5, .int (nI (25 * k)))]) hx hb d_MD_putChain_64 hl (by decide) rfl (fun ls hl => ?_)
            refine lv_iload hx hb d_MD_putChain_66 (lv_at hl 0 rfl) ?_
            refine lv_if_eq (tgt := 75) hx hb d_MD_putChain_68 (by decide) (fun c_14 => absurd c_14 (by decide)) (fun c_14 => ?_)
            refine lv_iconst (v := (-1)) hx hb d_MD_putChain_71 (by decide) ?_
            refine lv_goto (tgt := 83) hx hb d_MD_putChain_72 (by decide) ?_
            refine lv_istore (lv' := [(8, .int (-1)), (7, .int 1), (6, .int 25), (0, .ref (q 0)), (1, .int 1), (2, .int mo), (3, .int vf), (4, .int (nI u_4)), (5, .int (nI (25 * k)))]) hx hb d_MD_putChain_83 hl (by decide) rfl (fun ls hl => ?_)
            refine lv_iload_n hx hb d_MD_putChain_85 rfl (lv_at hl 4 rfl) ?_
            refine lv_iload hx hb d_MD_putChain_86 (lv_at hl 7 rfl) ?_
            refine sf_callSr (S := Unit) (rest := []) ⟨hx, hb, hml, hown, hts⟩ (c_MD_begin_1 l D cI cZ cJ u_4) (sf_cwS lk_MD_84 hts (fun _ h => h) (by rw [hR]; exact ⟨Nat.le_of_ble_eq_true rfl, Nat.le_of_ble_eq_true rfl⟩)) hK hP hD hS hA [] rfl rfl (fun _ => rfl) rfl rfl hl.1 (Nat.le_of_ble_eq_true rfl) d_MD_putChain_88 ⟨Nat.zero_le _, Nat.zero_le _⟩ (fun u H locs hu hP hS => ?_)
            refine lv_istore (lv' := [(9, .int (nI (768 + (32 * u_4)))), (8, .int (-1)), (7, .int 1), (6, .int 25), (0, .ref (q 0)), (1, .int 1), (2, .int mo), (3, .int vf), (4, .int (nI u_4)), (5, .int (nI (25 * k)))]) hx hb d_MD_putChain_91 hl (by decide) rfl (fun ls hl => ?_)
            refine lv_aload_n hx hb d_MD_putChain_93 rfl (lv_at hl 4 rfl) ?_
            refine lv_iload hx hb d_MD_putChain_94 (lv_at hl 0 rfl) ?_
            refine lv_iload hx hb d_MD_putChain_96 (lv_at hl 1 rfl) ?_
            refine lv_iconst (v := 1) hx hb d_MD_putChain_98 (by decide) ?_
            refine lv_iadd hx hb d_MD_putChain_99 ?_
            refine sf_callVw (S := Unit) (rest := []) ⟨hx, hb, hml, hown, hts⟩ (c_MD_put l D cI cZ cJ q xth xB xsh xcu xtp xtd xpa xsp xwh xhe (nI ho) xtk vt vw (mn + (32 * k)) (nI (768 + (32 * u_4))) ((-1) + 1) (by omega)) (sf_cwV lk_MD_101 hts (fun _ h => h) (by rw [hR]; exact ⟨Nat.le_of_ble_eq_true rfl, Nat.le_of_ble_eq_true rfl⟩)) hK hP hD hS hA (fun _ => by simp only [md_w_fst]) (ci := 3) (q0 := 0) rfl rfl rfl rfl rfl hl.1 (Nat.le_of_ble_eq_true rfl) d_MD_putChain_100 ⟨Nat.zero_le _, Nat.zero_le _⟩ (fun u H locs hu hP hD hS => ?_)
            have hP : va_P D classes (md_w q cI cZ xth xB xsh xcu xtp xtd xpa xsp xwh xhe (nI ho) xtk (upd vt (mn + (32 * k)) (nI (768 + (32 * u_4)))) (upd vw (mn + (32 * k)) ((-1) + 1)) (nI ((mn + (32 * k)) + 1))) H := hP
            have hD : va_D A (md_w q cI cZ xth xB xsh xcu xtp xtd xpa xsp xwh xhe (nI ho) xtk (upd vt (mn + (32 * k)) (nI (768 + (32 * u_4)))) (upd vw (mn + (32 * k)) ((-1) + 1)) (nI ((mn + (32 * k)) + 1))) := hD
            refine lv_aload_n hx hb d_MD_putChain_103 rfl (lv_at hl 4 rfl) ?_
            refine lv_iload hx hb d_MD_putChain_104 (lv_at hl 0 rfl) ?_
            refine lv_iconst (v := 1) hx hb d_MD_putChain_106 (by decide) ?_
            refine lv_iadd hx hb d_MD_putChain_107 ?_
            rw [show (((nI (768 + (32 * u_4))) + 1) : Int32) = (nI ((768 + (32 * u_4)) + 1)) from nI_add (768 + (32 * u_4)) 1]
            refine lv_iload hx hb d_MD_putChain_108 (lv_at hl 3 rfl) ?_
            refine sf_callVw (S := Unit) (rest := []) ⟨hx, hb, hml, hown, hts⟩ (c_MD_put l D cI cZ cJ q xth xB xsh xcu xtp xtd xpa xsp xwh xhe (nI ho) xtk (upd vt (mn + (32 * k)) (nI (768 + (32 * u_4)))) (upd vw (mn + (32 * k)) ((-1) + 1)) ((mn + (32 * k)) + 1) (nI ((768 + (32 * u_4)) + 1)) 25 (by omega)) (sf_cwV lk_MD_101 hts (fun _ h => h) (by rw [hR]; exact ⟨Nat.le_of_ble_eq_true rfl, Nat.le_of_ble_eq_true rfl⟩)) hK hP hD hS hA (fun _ => by simp only [md_w_fst]) (ci := 3) (q0 := 0) rfl rfl rfl rfl rfl hl.1 (Nat.le_of_ble_eq_true rfl) d_MD_putChain_110 ⟨Nat.zero_le _, Nat.zero_le _⟩ (fun u H locs hu hP hD hS => ?_)
            have hP : va_P D classes (md_w q cI cZ xth xB xsh xcu xtp xtd xpa xsp xwh xhe (nI ho) xtk (upd (upd vt (mn + (32 * k)) (nI (768 + (32 * u_4)))) ((mn + (32 * k)) + 1) (nI ((768 + (32 * u_4)) + 1))) (upd (upd vw (mn + (32 * k)) ((-1) + 1)) ((mn + (32 * k)) + 1) 25) (nI (((mn + (32 * k)) + 1) + 1))) H := hP
            have hD : va_D A (md_w q cI cZ xth xB xsh xcu xtp xtd xpa xsp xwh xhe (nI ho) xtk (upd (upd vt (mn + (32 * k)) (nI (768 + (32 * u_4)))) ((mn + (32 * k)) + 1) (nI ((768 + (32 * u_4)) + 1))) (upd (upd vw (mn + (32 * k)) ((-1) + 1)) ((mn + (32 * k)) + 1) 25) (nI (((mn + (32 * k)) + 1) + 1))) := hD
            refine lv_aload_n hx hb d_MD_putChain_113 rfl (lv_at hl 4 rfl) ?_
            refine lv_iload hx hb d_MD_putChain_114 (lv_at hl 0 rfl) ?_
            refine lv_iconst (v := 2) hx hb d_MD_putChain_116 (by decide) ?_
            refine lv_iadd hx hb d_MD_putChain_117 ?_
            rw [show (((nI (768 + (32 * u_4))) + 2) : Int32) = (nI ((768 + (32 * u_4)) + 2)) from nI_add (768 + (32 * u_4)) 2]
            refine lv_iload_n hx hb d_MD_putChain_118 rfl (lv_at hl 6 rfl) ?_
            refine sf_callVw (S := Unit) (rest := []) ⟨hx, hb, hml, hown, hts⟩ (c_MD_put l D cI cZ cJ q xth xB xsh xcu xtp xtd xpa xsp xwh xhe (nI ho) xtk (upd (upd vt (mn + (32 * k)) (nI (768 + (32 * u_4)))) ((mn + (32 * k)) + 1) (nI ((768 + (32 * u_4)) + 1))) (upd (upd vw (mn + (32 * k)) ((-1) + 1)) ((mn + (32 * k)) + 1) 25) (((mn + (32 * k)) + 1) + 1) (nI ((768 + (32 * u_4)) + 2)) mo (by omega)) (sf_cwV lk_MD_101 hts (fun _ h => h) (by rw [hR]; exact ⟨Nat.le_of_ble_eq_true rfl, Nat.le_of_ble_eq_true rfl⟩)) hK hP hD hS hA (fun _ => by simp only [md_w_fst]) (ci := 3) (q0 := 0) rfl rfl rfl rfl rfl hl.1 (Nat.le_of_ble_eq_true rfl) d_MD_putChain_119 ⟨Nat.zero_le _, Nat.zero_le _⟩ (fun u H locs hu hP hD hS => ?_)
            have hP : va_P D classes (md_w q cI cZ xth xB xsh xcu xtp xtd xpa xsp xwh xhe (nI ho) xtk (upd (upd (upd vt (mn + (32 * k)) (nI (768 + (32 * u_4)))) ((mn + (32 * k)) + 1) (nI ((768 + (32 * u_4)) + 1))) (((mn + (32 * k)) + 1) + 1) (nI ((768 + (32 * u_4)) + 2))) (upd (upd (upd vw (mn + (32 * k)) ((-1) + 1)) ((mn + (32 * k)) + 1) 25) (((mn + (32 * k)) + 1) + 1) mo) (nI ((((mn + (32 * k)) + 1) + 1) + 1))) H := hP
            have hD : va_D A (md_w q cI cZ xth xB xsh xcu xtp xtd xpa xsp xwh xhe (nI ho) xtk (upd (upd (upd vt (mn + (32 * k)) (nI (768 + (32 * u_4)))) ((mn + (32 * k)) + 1) (nI ((768 + (32 * u_4)) + 1))) (((mn + (32 * k)) + 1) + 1) (nI ((768 + (32 * u_4)) + 2))) (upd (upd (upd vw (mn + (32 * k)) ((-1) + 1)) ((mn + (32 * k)) + 1) 25) (((mn + (32 * k)) + 1) + 1) mo) (nI ((((mn + (32 * k)) + 1) + 1) + 1))) := hD
            refine lv_iconst (v := 0) hx hb d_MD_putChain_122 (by decide) ?_
            refine lv_istore (lv' := [(10, .int 0), (9, .int (nI (768 + (32 * u_4)))), (8, .int (-1)), (7, .int 1), (6, .int 25), (0, .ref (q 0)), (1, .int 1), (2, .int mo), (3, .int vf), (4, .int (nI u_4)), (5, .int (nI (25 * k)))]) hx hb d_MD_putChain_123 hl (by decide) rfl (fun ls hl => ?_)
            obtain ⟨u_15, hu_15⟩ : ∃ z, z = (f_MD_putChain_1_l125_0 xhe ho mn vp k (25 + 1) 0 (upd (upd (upd vt (mn + (32 * k)) (nI (768 + (32 * u_4)))) ((mn + (32 * k)) + 1) (nI ((768 + (32 * u_4)) + 1))) (((mn + (32 * k)) + 1) + 1) (nI ((768 + (32 * u_4)) + 2))) (upd (upd (upd vw (mn + (32 * k)) ((-1) + 1)) ((mn + (32 * k)) + 1) 25) (((mn + (32 * k)) + 1) + 1) mo)) := ⟨_, rfl⟩
            have loop125 : ∀ (fukk kk : Nat) (yt : (Nat → Int32)) (yw : (Nat → Int32)), kk ≤ 25 → kk + fukk = 25 + 1 → f_MD_putChain_1_l125_0 xhe ho mn vp k fukk kk yt yw = u_15 → ∀ (H : Heap) (locs : List Loc), va_P D classes (md_w q cI cZ xth xB xsh xcu xtp xtd xpa xsp xwh xhe (nI ho) xtk yt yw (nI (((((mn + (32 * k)) + 1) + 1) + 1) + kk))) H → va_D A (md_w q cI cZ xth xB xsh xcu xtp xtd xpa xsp xwh xhe (nI ho) xtk yt yw (nI (((((mn + (32 * k)) + 1) + 1) + 1) + kk))) → va_S A s.heap H locs → ∀ (ls : Array Slot), lv_has ls 11 [(0, .ref (q 0)), (1, .int 1), (2, .int mo), (3, .int vf), (4, .int (nI u_4)), (5, .int (nI (25 * k))), (6, .int 25), (7, .int 1), (8, .int (-1)), (9, .int (nI (768 + (32 * u_4)))), (10, .int (nI kk))] → W p l e R s m args below meth c H locs 0 0 Q (F0 m 125 ls []) := by
              intro fukk
              induction fukk with
              | zero =>
                intro kk yt yw h1 h2
                exact absurd h2 (by omega)
              | succ fukk ih125 =>
                intro kk yt yw hk125 hkn125 heq125 H locs hP hD hS ls hl
                refine lv_iload hx hb d_MD_putChain_125 (lv_at hl 10 rfl) ?_
                refine lv_bipush (v := 25) hx hb d_MD_putChain_127 (by decide) ?_
                refine lv_icmp_ge (tgt := 170) hx hb d_MD_putChain_129 (by decide) (fun c_16 => ?_) (fun c_16 => ?_)
                · skip
                  have hv125 : (yt, yw) = u_15 := by rw [← heq125]; simp only [f_MD_putChain_1_l125_0, ← hu_1, ← hu_2, ← hu_4, eq_true c_16, ↓reduceIte]
                  have hv125_0 : yt = u_15.1 := by rw [← hv125]
                  rw [hv125_0] at hP hD
                  have hv125_1 : yw = u_15.2 := by rw [← hv125]
                  rw [hv125_1] at hP hD
                  have hke125 : kk = 25 := sf_eq_of (N := 25) (by omega) (by omega) hk125 c_16
                  subst hke125
                  refine lv_aload_n hx hb d_MD_putChain_170 rfl (lv_at hl 0 rfl) ?_
                  refine lv_bipush (v := 28) hx hb d_MD_putChain_171 (by decide) ?_
                  refine lv_iload hx hb d_MD_putChain_173 (lv_at hl 9 rfl) ?_
                  refine sf_callVw (S := ((Nat → Int32) × (Nat → Int32))) (rest := []) ⟨hx, hb, hml, hown, hts⟩ (c_MD_putSum l D cI cZ cJ q xth xB xsh xcu xtp xtd xpa xsp xwh xhe (nI ho) xtk u_15.1 u_15.2 (((((mn + (32 * k)) + 1) + 1) + 1) + 25) 28 (768 + (32 * u_4)) (by omega) (by omega)) (sf_cwV lk_MD_108 hts (fun _ h => h) (by rw [hR]; exact ⟨Nat.le_of_ble_eq_true rfl, Nat.le_of_ble_eq_true rfl⟩)) hK hP hD hS hA (fun _ => by simp only [md_w_fst]) (ci := 3) (q0 := 0) rfl rfl rfl rfl rfl hl.1 (Nat.le_of_ble_eq_true rfl) d_MD_putChain_175 ⟨Nat.zero_le _, Nat.zero_le _⟩ (fun u_18 H locs hu_18 hP hD hS => ?_)
                  have hP : va_P D classes (md_w q cI cZ xth xB xsh xcu xtp xtd xpa xsp xwh xhe (nI ho) xtk u_18.1 u_18.2 (nI ((((((mn + (32 * k)) + 1) + 1) + 1) + 25) + 4))) H := hP
                  have hD : va_D A (md_w q cI cZ xth xB xsh xcu xtp xtd xpa xsp xwh xhe (nI ho) xtk u_18.1 u_18.2 (nI ((((((mn + (32 * k)) + 1) + 1) + 1) + 25) + 4))) := hD
                  refine lv_iload hx hb d_MD_putChain_178 (lv_at hl 8 rfl) ?_
                  refine lv_istore (lv' := [(4, .int (-1)), (0, .ref (q 0)), (1, .int 1), (2, .int mo), (3, .int vf), (5, .int (nI (25 * k))), (6, .int 25), (7, .int 1), (8, .int (-1)), (9, .int (nI (768 + (32 * u_4)))), (10, .int (nI 25))]) hx hb d_MD_putChain_180 hl (by decide) rfl (fun ls hl => ?_)
                  refine lv_iinc (v := (nI (25 * (k + 1)))) (lv' := [(5, .int (nI (25 * (k + 1)))), (4, .int (-1)), (0, .ref (q 0)), (1, .int 1), (2, .int mo), (3, .int vf), (6, .int 25), (7, .int 1), (8, .int (-1)), (9, .int (nI (768 + (32 * u_4)))), (10, .int (nI 25))]) hx hb d_MD_putChain_182 hl (k := 5) rfl (nI_add (25 * k) 25) (by decide) rfl (fun ls hl => ?_)
                  refine lv_goto (tgt := 12) hx hb d_MD_putChain_185 (by decide) ?_
                  rw [show ((((((mn + (32 * k)) + 1) + 1) + 1) + 25) + 4) = (mn + (32 * (k + 1))) by omega] at hP hD
                  exact ih12 (k + 1) vf (-1) u_18.1 u_18.2 (by omega) (by omega) (fun h9 => absurd h9 (by omega)) (by omega) (by rw [← heq12]; simp only [f_MD_putChain_1_l12, ← hu_1, ← hu_2, ← hu_4, ← hu_15, ← hu_18, eq_false c_3, eq_true c_5, eq_true c_6, ↓reduceIte]) _ _ hP hD hS ls (lv_sub hl [2, 3, 4, 5, 1, 0] rfl)
                · have hlt : kk < 25 := sf_lt_of (N := 25) (by omega) (by omega) c_16
                  refine lv_aload_n hx hb d_MD_putChain_132 rfl (lv_at hl 0 rfl) ?_
                  refine lv_iload hx hb d_MD_putChain_133 (lv_at hl 9 rfl) ?_
                  refine lv_iconst (v := 3) hx hb d_MD_putChain_135 (by decide) ?_
                  refine lv_iadd hx hb d_MD_putChain_136 ?_
                  rw [show (((nI (768 + (32 * u_4))) + 3) : Int32) = (nI ((768 + (32 * u_4)) + 3)) from nI_add (768 + (32 * u_4)) 3]
                  refine lv_iload hx hb d_MD_putChain_137 (lv_at hl 10 rfl) ?_
                  refine lv_iadd hx hb d_MD_putChain_139 ?_
                  rw [show (((nI ((768 + (32 * u_4)) + 3)) + (nI kk)) : Int32) = (nI (((768 + (32 * u_4)) + 3) + kk)) from nI_add ((768 + (32 * u_4)) + 3) kk]
                  refine lv_iload hx hb d_MD_putChain_140 (lv_at hl 10 rfl) ?_
                  refine lv_iload hx hb d_MD_putChain_142 (lv_at hl 6 rfl) ?_
                  refine lv_icmp_ge (tgt := 160) hx hb d_MD_putChain_144 (by decide) (fun c_17 => absurd c_17 c_16) (fun c_17 => ?_)
                  refine lv_aload_n hx hb d_MD_putChain_147 rfl (lv_at hl 0 rfl) ?_
                  refine va_get (D := D) (ci := 3) (v := .ref (q 4)) (C := R_MD) (T := F_MD) (N := 15) hx hb hts i_MD hown hK hP 0 rfl rfl 9 (by decide) (hts _ wd_584) (fun _ h9 => h9) rfl d_MD_putChain_148 ?_
                  refine lv_iload hx hb d_MD_putChain_151 (lv_at hl 5 rfl) ?_
                  refine lv_iload hx hb d_MD_putChain_153 (lv_at hl 10 rfl) ?_
                  refine lv_iadd hx hb d_MD_putChain_155 ?_
                  rw [show (((nI (25 * k)) + (nI kk)) : Int32) = (nI ((25 * k) + kk)) from nI_add (25 * k) kk]
                  refine va_iald hx hb hK hP 4 0 rfl rfl (show vp_in (nI ((25 * k) + kk)) 75 from vp_in_nI (n := ((25 * k) + kk)) (by omega) (by omega)) d_MD_putChain_156 ?_
                  rw [show ((nI ((25 * k) + kk)) : Int32).toNatClampNeg = ((25 * k) + kk) from nI_clamp (n := ((25 * k) + kk)) (by omega)]
                  refine lv_goto (tgt := 161) hx hb d_MD_putChain_157 (by decide) ?_
                  refine sf_callVw (S := Unit) (rest := []) ⟨hx, hb, hml, hown, hts⟩ (c_MD_put l D cI cZ cJ q xth xB xsh xcu xtp xtd xpa xsp xwh xhe (nI ho) xtk yt yw (((((mn + (32 * k)) + 1) + 1) + 1) + kk) (nI (((768 + (32 * u_4)) + 3) + kk)) (xhe ((25 * k) + kk)) (by omega)) (sf_cwV lk_MD_101 hts (fun _ h => h) (by rw [hR]; exact ⟨Nat.le_of_ble_eq_true rfl, Nat.le_of_ble_eq_true rfl⟩)) hK hP hD hS hA (fun _ => by simp only [md_w_fst]) (ci := 3) (q0 := 0) rfl rfl rfl rfl rfl hl.1 (Nat.le_of_ble_eq_true rfl) d_MD_putChain_161 ⟨Nat.zero_le _, Nat.zero_le _⟩ (fun u H locs hu hP hD hS => ?_)
                  have hP : va_P D classes (md_w q cI cZ xth xB xsh xcu xtp xtd xpa xsp xwh xhe (nI ho) xtk (upd yt (((((mn + (32 * k)) + 1) + 1) + 1) + kk) (nI (((768 + (32 * u_4)) + 3) + kk))) (upd yw (((((mn + (32 * k)) + 1) + 1) + 1) + kk) (xhe ((25 * k) + kk))) (nI ((((((mn + (32 * k)) + 1) + 1) + 1) + kk) + 1))) H := hP
                  have hD : va_D A (md_w q cI cZ xth xB xsh xcu xtp xtd xpa xsp xwh xhe (nI ho) xtk (upd yt (((((mn + (32 * k)) + 1) + 1) + 1) + kk) (nI (((768 + (32 * u_4)) + 3) + kk))) (upd yw (((((mn + (32 * k)) + 1) + 1) + 1) + kk) (xhe ((25 * k) + kk))) (nI ((((((mn + (32 * k)) + 1) + 1) + 1) + kk) + 1))) := hD
                  refine lv_iinc (v := (nI (kk + 1))) (lv' := [(10, .int (nI (kk + 1))), (0, .ref (q 0)), (1, .int 1), (2, .int mo), (3, .int vf), (4, .int (nI u_4)), (5, .int (nI (25 * k))), (6, .int 25), (7, .int 1), (8, .int (-1)), (9, .int (nI (768 + (32 * u_4))))]) hx hb d_MD_putChain_164 hl (k := 10) rfl (nI_1 kk) (by decide) rfl (fun ls hl => ?_)
                  refine lv_goto (tgt := 125) hx hb d_MD_putChain_167 (by decide) ?_
                  exact ih125 (kk + 1) (upd yt (((((mn + (32 * k)) + 1) + 1) + 1) + kk) (nI (((768 + (32 * u_4)) + 3) + kk))) (upd yw (((((mn + (32 * k)) + 1) + 1) + 1) + kk) (xhe ((25 * k) + kk))) (by omega) (by omega) (by rw [← heq125]; simp only [f_MD_putChain_1_l125_0, ← hu_1, ← hu_2, ← hu_4, eq_false c_16, ↓reduceIte]) _ _ hP hD hS ls (lv_sub hl [1, 2, 3, 4, 5, 6, 7, 8, 9, 10, 0] rfl)
            exact loop125 (25 + 1) 0 (upd (upd (upd vt (mn + (32 * k)) (nI (768 + (32 * u_4)))) ((mn + (32 * k)) + 1) (nI ((768 + (32 * u_4)) + 1))) (((mn + (32 * k)) + 1) + 1) (nI ((768 + (32 * u_4)) + 2))) (upd (upd (upd vw (mn + (32 * k)) ((-1) + 1)) ((mn + (32 * k)) + 1) 25) (((mn + (32 * k)) + 1) + 1) mo) (by omega) (by omega) hu_15.symm _ _ hP hD hS ls (lv_sub hl [5, 6, 7, 8, 9, 10, 4, 3, 2, 1, 0] rfl)
        · have hn8 : ho - 25 * k < 25 := sf_lt_of (N := 25) (by omega) (by omega) c_5
          refine lv_aload_n hx hb d_MD_putChain_33 rfl (lv_at hl 0 rfl) ?_
          refine va_get (D := D) (ci := 3) (v := .int (nI ho)) (C := R_MD) (T := F_MD) (N := 15) hx hb hts i_MD hown hK hP 0 rfl rfl 10 (by decide) (hts _ wd_585) (fun _ h9 => h9) rfl d_MD_putChain_34 ?_
          refine lv_iload hx hb d_MD_putChain_37 (lv_at hl 5 rfl) ?_
          refine lv_isub hx hb d_MD_putChain_39 ?_
          rw [show (((nI ho) - (nI (25 * k))) : Int32) = (nI (ho - (25 * k))) from pk_sub (a := ho) (b := (25 * k)) (by omega)]
          refine lv_goto (tgt := 45) hx hb d_MD_putChain_40 (by decide) ?_
          refine lv_istore (lv' := [(6, .int (nI (ho - (25 * k)))), (0, .ref (q 0)), (1, .int 1), (2, .int mo), (3, .int vf), (4, .int (nI u_4)), (5, .int (nI (25 * k)))]) hx hb d_MD_putChain_45 hl (by decide) rfl (fun ls hl => ?_)
          refine lv_iload hx hb d_MD_putChain_47 (lv_at hl 6 rfl) ?_
          refine lv_iload hx hb d_MD_putChain_49 (lv_at hl 0 rfl) ?_
          refine lv_iadd hx hb d_MD_putChain_51 ?_
          rw [show (((nI (25 * k)) + (nI (ho - (25 * k)))) : Int32) = (nI ((25 * k) + (ho - (25 * k)))) from nI_add (25 * k) (ho - (25 * k))]
          refine lv_aload_n hx hb d_MD_putChain_52 rfl (lv_at hl 1 rfl) ?_
          refine va_get (D := D) (ci := 3) (v := .int (nI ho)) (C := R_MD) (T := F_MD) (N := 15) hx hb hts i_MD hown hK hP 0 rfl rfl 10 (by decide) (hts _ wd_585) (fun _ h9 => h9) rfl d_MD_putChain_53 ?_
          refine lv_icmp_ne (tgt := 63) hx hb d_MD_putChain_56 (by decide) (fun c_19 => absurd (congrArg nI (show 25 * k + (ho - 25 * k) = ho by omega)) c_19) (fun c_19 => ?_)
          refine lv_iconst (v := 1) hx hb d_MD_putChain_59 (by decide) ?_
          refine lv_goto (tgt := 64) hx hb d_MD_putChain_60 (by decide) ?_
          refine lv_istore (lv' := [(7, .int 1), (6, .int (nI (ho - (25 * k)))), (0, .ref (q 0)), (1, .int 1), (2, .int mo), (3, .int vf), (4, .int (nI u_4)), (5, .int (nI (25 * k)))]) hx hb d_MD_putChain_64 hl (by decide) rfl (fun ls hl => ?_)
          refine lv_iload hx hb d_MD_putChain_66 (lv_at hl 0 rfl) ?_
          refine lv_if_eq (tgt := 75) hx hb d_MD_putChain_68 (by decide) (fun c_20 => absurd c_20 (by decide)) (fun c_20 => ?_)
          refine lv_iconst (v := (-1)) hx hb d_MD_putChain_71 (by decide) ?_
          refine lv_goto (tgt := 83) hx hb d_MD_putChain_72 (by decide) ?_
          refine lv_istore (lv' := [(8, .int (-1)), (7, .int 1), (6, .int (nI (ho - (25 * k)))), (0, .ref (q 0)), (1, .int 1), (2, .int mo), (3, .int vf), (4, .int (nI u_4)), (5, .int (nI (25 * k)))]) hx hb d_MD_putChain_83 hl (by decide) rfl (fun ls hl => ?_)
          refine lv_iload_n hx hb d_MD_putChain_85 rfl (lv_at hl 4 rfl) ?_
          refine lv_iload hx hb d_MD_putChain_86 (lv_at hl 7 rfl) ?_
          refine sf_callSr (S := Unit) (rest := []) ⟨hx, hb, hml, hown, hts⟩ (c_MD_begin_1 l D cI cZ cJ u_4) (sf_cwS lk_MD_84 hts (fun _ h => h) (by rw [hR]; exact ⟨Nat.le_of_ble_eq_true rfl, Nat.le_of_ble_eq_true rfl⟩)) hK hP hD hS hA [] rfl rfl (fun _ => rfl) rfl rfl hl.1 (Nat.le_of_ble_eq_true rfl) d_MD_putChain_88 ⟨Nat.zero_le _, Nat.zero_le _⟩ (fun u H locs hu hP hS => ?_)
          refine lv_istore (lv' := [(9, .int (nI (768 + (32 * u_4)))), (8, .int (-1)), (7, .int 1), (6, .int (nI (ho - (25 * k)))), (0, .ref (q 0)), (1, .int 1), (2, .int mo), (3, .int vf), (4, .int (nI u_4)), (5, .int (nI (25 * k)))]) hx hb d_MD_putChain_91 hl (by decide) rfl (fun ls hl => ?_)
          refine lv_aload_n hx hb d_MD_putChain_93 rfl (lv_at hl 4 rfl) ?_
          refine lv_iload hx hb d_MD_putChain_94 (lv_at hl 0 rfl) ?_
          refine lv_iload hx hb d_MD_putChain_96 (lv_at hl 1 rfl) ?_
          refine lv_iconst (v := 1) hx hb d_MD_putChain_98 (by decide) ?_
          refine lv_iadd hx hb d_MD_putChain_99 ?_
          refine sf_callVw (S := Unit) (rest := []) ⟨hx, hb, hml, hown, hts⟩ (c_MD_put l D cI cZ cJ q xth xB xsh xcu xtp xtd xpa xsp xwh xhe (nI ho) xtk vt vw (mn + (32 * k)) (nI (768 + (32 * u_4))) ((-1) + 1) (by omega)) (sf_cwV lk_MD_101 hts (fun _ h => h) (by rw [hR]; exact ⟨Nat.le_of_ble_eq_true rfl, Nat.le_of_ble_eq_true rfl⟩)) hK hP hD hS hA (fun _ => by simp only [md_w_fst]) (ci := 3) (q0 := 0) rfl rfl rfl rfl rfl hl.1 (Nat.le_of_ble_eq_true rfl) d_MD_putChain_100 ⟨Nat.zero_le _, Nat.zero_le _⟩ (fun u H locs hu hP hD hS => ?_)
          have hP : va_P D classes (md_w q cI cZ xth xB xsh xcu xtp xtd xpa xsp xwh xhe (nI ho) xtk (upd vt (mn + (32 * k)) (nI (768 + (32 * u_4)))) (upd vw (mn + (32 * k)) ((-1) + 1)) (nI ((mn + (32 * k)) + 1))) H := hP
          have hD : va_D A (md_w q cI cZ xth xB xsh xcu xtp xtd xpa xsp xwh xhe (nI ho) xtk (upd vt (mn + (32 * k)) (nI (768 + (32 * u_4)))) (upd vw (mn + (32 * k)) ((-1) + 1)) (nI ((mn + (32 * k)) + 1))) := hD
          refine lv_aload_n hx hb d_MD_putChain_103 rfl (lv_at hl 4 rfl) ?_
          refine lv_iload hx hb d_MD_putChain_104 (lv_at hl 0 rfl) ?_
          refine lv_iconst (v := 1) hx hb d_MD_putChain_106 (by decide) ?_
          refine lv_iadd hx hb d_MD_putChain_107 ?_
          rw [show (((nI (768 + (32 * u_4))) + 1) : Int32) = (nI ((768 + (32 * u_4)) + 1)) from nI_add (768 + (32 * u_4)) 1]
          refine lv_iload hx hb d_MD_putChain_108 (lv_at hl 3 rfl) ?_
          refine sf_callVw (S := Unit) (rest := []) ⟨hx, hb, hml, hown, hts⟩ (c_MD_put l D cI cZ cJ q xth xB xsh xcu xtp xtd xpa xsp xwh xhe (nI ho) xtk (upd vt (mn + (32 * k)) (nI (768 + (32 * u_4)))) (upd vw (mn + (32 * k)) ((-1) + 1)) ((mn + (32 * k)) + 1) (nI ((768 + (32 * u_4)) + 1)) (nI (ho - (25 * k))) (by omega)) (sf_cwV lk_MD_101 hts (fun _ h => h) (by rw [hR]; exact ⟨Nat.le_of_ble_eq_true rfl, Nat.le_of_ble_eq_true rfl⟩)) hK hP hD hS hA (fun _ => by simp only [md_w_fst]) (ci := 3) (q0 := 0) rfl rfl rfl rfl rfl hl.1 (Nat.le_of_ble_eq_true rfl) d_MD_putChain_110 ⟨Nat.zero_le _, Nat.zero_le _⟩ (fun u H locs hu hP hD hS => ?_)
          have hP : va_P D classes (md_w q cI cZ xth xB xsh xcu xtp xtd xpa xsp xwh xhe (nI ho) xtk (upd (upd vt (mn + (32 * k)) (nI (768 + (32 * u_4)))) ((mn + (32 * k)) + 1) (nI ((768 + (32 * u_4)) + 1))) (upd (upd vw (mn + (32 * k)) ((-1) + 1)) ((mn + (32 * k)) + 1) (nI (ho - (25 * k)))) (nI (((mn + (32 * k)) + 1) + 1))) H := hP
          have hD : va_D A (md_w q cI cZ xth xB xsh xcu xtp xtd xpa xsp xwh xhe (nI ho) xtk (upd (upd vt (mn + (32 * k)) (nI (768 + (32 * u_4)))) ((mn + (32 * k)) + 1) (nI ((768 + (32 * u_4)) + 1))) (upd (upd vw (mn + (32 * k)) ((-1) + 1)) ((mn + (32 * k)) + 1) (nI (ho - (25 * k)))) (nI (((mn + (32 * k)) + 1) + 1))) := hD
          refine lv_aload_n hx hb d_MD_putChain_113 rfl (lv_at hl 4 rfl) ?_
          refine lv_iload hx hb d_MD_putChain_114 (lv_at hl 0 rfl) ?_
          refine lv_iconst (v := 2) hx hb d_MD_putChain_116 (by decide) ?_
          refine lv_iadd hx hb d_MD_putChain_117 ?_
          rw [show (((nI (768 + (32 * u_4))) + 2) : Int32) = (nI ((768 + (32 * u_4)) + 2)) from nI_add (768 + (32 * u_4)) 2]
          refine lv_iload_n hx hb d_MD_putChain_118 rfl (lv_at hl 6 rfl) ?_
          refine sf_callVw (S := Unit) (rest := []) ⟨hx, hb, hml, hown, hts⟩ (c_MD_put l D cI cZ cJ q xth xB xsh xcu xtp xtd xpa xsp xwh xhe (nI ho) xtk (upd (upd vt (mn + (32 * k)) (nI (768 + (32 * u_4)))) ((mn + (32 * k)) + 1) (nI ((768 + (32 * u_4)) + 1))) (upd (upd vw (mn + (32 * k)) ((-1) + 1)) ((mn + (32 * k)) + 1) (nI (ho - (25 * k)))) (((mn + (32 * k)) + 1) + 1) (nI ((768 + (32 * u_4)) + 2)) mo (by omega)) (sf_cwV lk_MD_101 hts (fun _ h => h) (by rw [hR]; exact ⟨Nat.le_of_ble_eq_true rfl, Nat.le_of_ble_eq_true rfl⟩)) hK hP hD hS hA (fun _ => by simp only [md_w_fst]) (ci := 3) (q0 := 0) rfl rfl rfl rfl rfl hl.1 (Nat.le_of_ble_eq_true rfl) d_MD_putChain_119 ⟨Nat.zero_le _, Nat.zero_le _⟩ (fun u H locs hu hP hD hS => ?_)
          have hP : va_P D classes (md_w q cI cZ xth xB xsh xcu xtp xtd xpa xsp xwh xhe (nI ho) xtk (upd (upd (upd vt (mn + (32 * k)) (nI (768 + (32 * u_4)))) ((mn + (32 * k)) + 1) (nI ((768 + (32 * u_4)) + 1))) (((mn + (32 * k)) + 1) + 1) (nI ((768 + (32 * u_4)) + 2))) (upd (upd (upd vw (mn + (32 * k)) ((-1) + 1)) ((mn + (32 * k)) + 1) (nI (ho - (25 * k)))) (((mn + (32 * k)) + 1) + 1) mo) (nI ((((mn + (32 * k)) + 1) + 1) + 1))) H := hP
          have hD : va_D A (md_w q cI cZ xth xB xsh xcu xtp xtd xpa xsp xwh xhe (nI ho) xtk (upd (upd (upd vt (mn + (32 * k)) (nI (768 + (32 * u_4)))) ((mn + (32 * k)) + 1) (nI ((768 + (32 * u_4)) + 1))) (((mn + (32 * k)) + 1) + 1) (nI ((768 + (32 * u_4)) + 2))) (upd (upd (upd vw (mn + (32 * k)) ((-1) + 1)) ((mn + (32 * k)) + 1) (nI (ho - (25 * k)))) (((mn + (32 * k)) + 1) + 1) mo) (nI ((((mn + (32 * k)) + 1) + 1) + 1))) := hD
          refine lv_iconst (v := 0) hx hb d_MD_putChain_122 (by decide) ?_
          refine lv_istore (lv' := [(10, .int 0), (9, .int (nI (768 + (32 * u_4)))), (8, .int (-1)), (7, .int 1), (6, .int (nI (ho - (25 * k)))), (0, .ref (q 0)), (1, .int 1), (2, .int mo), (3, .int vf), (4, .int (nI u_4)), (5, .int (nI (25 * k)))]) hx hb d_MD_putChain_123 hl (by decide) rfl (fun ls hl => ?_)
          obtain ⟨u_21, hu_21⟩ : ∃ z, z = (f_MD_putChain_1_l125_1 xhe ho mn vp k (25 + 1) 0 (upd (upd (upd vt (mn + (32 * k)) (nI (768 + (32 * u_4)))) ((mn + (32 * k)) + 1) (nI ((768 + (32 * u_4)) + 1))) (((mn + (32 * k)) + 1) + 1) (nI ((768 + (32 * u_4)) + 2))) (upd (upd (upd vw (mn + (32 * k)) ((-1) + 1)) ((mn + (32 * k)) + 1) (nI (ho - (25 * k)))) (((mn + (32 * k)) + 1) + 1) mo)) := ⟨_, rfl⟩
          have loop125 : ∀ (fukk kk : Nat) (yt : (Nat → Int32)) (yw : (Nat → Int32)), kk ≤ 25 → kk + fukk = 25 + 1 → f_MD_putChain_1_l125_1 xhe ho mn vp k fukk kk yt yw = u_21 → ∀ (H : Heap) (locs : List Loc), va_P D classes (md_w q cI cZ xth xB xsh xcu xtp xtd xpa xsp xwh xhe (nI ho) xtk yt yw (nI (((((mn + (32 * k)) + 1) + 1) + 1) + kk))) H → va_D A (md_w q cI cZ xth xB xsh xcu xtp xtd xpa xsp xwh xhe (nI ho) xtk yt yw (nI (((((mn + (32 * k)) + 1) + 1) + 1) + kk))) → va_S A s.heap H locs → ∀ (ls : Array Slot), lv_has ls 11 [(0, .ref (q 0)), (1, .int 1), (2, .int mo), (3, .int vf), (4, .int (nI u_4)), (5, .int (nI (25 * k))), (6, .int (nI (ho - (25 * k)))), (7, .int 1), (8, .int (-1)), (9, .int (nI (768 + (32 * u_4)))), (10, .int (nI kk))] → W p l e R s m args below meth c H locs 0 0 Q (F0 m 125 ls []) := by
            intro fukk
            induction fukk with
            | zero =>
              intro kk yt yw h1 h2
              exact absurd h2 (by omega)
            | succ fukk ih125 =>
              intro kk yt yw hk125 hkn125 heq125 H locs hP hD hS ls hl
              refine lv_iload hx hb d_MD_putChain_125 (lv_at hl 10 rfl) ?_
              refine lv_bipush (v := 25) hx hb d_MD_putChain_127 (by decide) ?_
              refine lv_icmp_ge (tgt := 170) hx hb d_MD_putChain_129 (by decide) (fun c_22 => ?_) (fun c_22 => ?_)
              · skip
                have hv125 : (yt, yw) = u_21 := by rw [← heq125]; simp only [f_MD_putChain_1_l125_1, ← hu_1, ← hu_2, ← hu_4, eq_true c_22, ↓reduceIte]
                have hv125_0 : yt = u_21.1 := by rw [← hv125]
                rw [hv125_0] at hP hD
                have hv125_1 : yw = u_21.2 := by rw [← hv125]
                rw [hv125_1] at hP hD
                have hke125 : kk = 25 := sf_eq_of (N := 25) (by omega) (by omega) hk125 c_22
                subst hke125
                refine lv_aload_n hx hb d_MD_putChain_170 rfl (lv_at hl 0 rfl) ?_
                refine lv_bipush (v := 28) hx hb d_MD_putChain_171 (by decide) ?_
                refine lv_iload hx hb d_MD_putChain_173 (lv_at hl 9 rfl) ?_
                refine sf_callVw (S := ((Nat → Int32) × (Nat → Int32))) (rest := []) ⟨hx, hb, hml, hown, hts⟩ (c_MD_putSum l D cI cZ cJ q xth xB xsh xcu xtp xtd xpa xsp xwh xhe (nI ho) xtk u_21.1 u_21.2 (((((mn + (32 * k)) + 1) + 1) + 1) + 25) 28 (768 + (32 * u_4)) (by omega) (by omega)) (sf_cwV lk_MD_108 hts (fun _ h => h) (by rw [hR]; exact ⟨Nat.le_of_ble_eq_true rfl, Nat.le_of_ble_eq_true rfl⟩)) hK hP hD hS hA (fun _ => by simp only [md_w_fst]) (ci := 3) (q0 := 0) rfl rfl rfl rfl rfl hl.1 (Nat.le_of_ble_eq_true rfl) d_MD_putChain_175 ⟨Nat.zero_le _, Nat.zero_le _⟩ (fun u_24 H locs hu_24 hP hD hS => ?_)
                have hP : va_P D classes (md_w q cI cZ xth xB xsh xcu xtp xtd xpa xsp xwh xhe (nI ho) xtk u_24.1 u_24.2 (nI ((((((mn + (32 * k)) + 1) + 1) + 1) + 25) + 4))) H := hP
                have hD : va_D A (md_w q cI cZ xth xB xsh xcu xtp xtd xpa xsp xwh xhe (nI ho) xtk u_24.1 u_24.2 (nI ((((((mn + (32 * k)) + 1) + 1) + 1) + 25) + 4))) := hD
                refine lv_iload hx hb d_MD_putChain_178 (lv_at hl 8 rfl) ?_
                refine lv_istore (lv' := [(4, .int (-1)), (0, .ref (q 0)), (1, .int 1), (2, .int mo), (3, .int vf), (5, .int (nI (25 * k))), (6, .int (nI (ho - (25 * k)))), (7, .int 1), (8, .int (-1)), (9, .int (nI (768 + (32 * u_4)))), (10, .int (nI 25))]) hx hb d_MD_putChain_180 hl (by decide) rfl (fun ls hl => ?_)
                refine lv_iinc (v := (nI (25 * (k + 1)))) (lv' := [(5, .int (nI (25 * (k + 1)))), (4, .int (-1)), (0, .ref (q 0)), (1, .int 1), (2, .int mo), (3, .int vf), (6, .int (nI (ho - (25 * k)))), (7, .int 1), (8, .int (-1)), (9, .int (nI (768 + (32 * u_4)))), (10, .int (nI 25))]) hx hb d_MD_putChain_182 hl (k := 5) rfl (nI_add (25 * k) 25) (by decide) rfl (fun ls hl => ?_)
                refine lv_goto (tgt := 12) hx hb d_MD_putChain_185 (by decide) ?_
                rw [show ((((((mn + (32 * k)) + 1) + 1) + 1) + 25) + 4) = (mn + (32 * (k + 1))) by omega] at hP hD
                exact ih12 (k + 1) vf (-1) u_24.1 u_24.2 (by omega) (by omega) (fun h9 => absurd h9 (by omega)) (by omega) (by rw [← heq12]; simp only [f_MD_putChain_1_l12, ← hu_1, ← hu_2, ← hu_4, ← hu_21, ← hu_24, eq_false c_3, eq_false c_5, ↓reduceIte]) _ _ hP hD hS ls (lv_sub hl [2, 3, 4, 5, 1, 0] rfl)
              · have hlt : kk < 25 := sf_lt_of (N := 25) (by omega) (by omega) c_22
                refine lv_aload_n hx hb d_MD_putChain_132 rfl (lv_at hl 0 rfl) ?_
                refine lv_iload hx hb d_MD_putChain_133 (lv_at hl 9 rfl) ?_
                refine lv_iconst (v := 3) hx hb d_MD_putChain_135 (by decide) ?_
                refine lv_iadd hx hb d_MD_putChain_136 ?_
                rw [show (((nI (768 + (32 * u_4))) + 3) : Int32) = (nI ((768 + (32 * u_4)) + 3)) from nI_add (768 + (32 * u_4)) 3]
                refine lv_iload hx hb d_MD_putChain_137 (lv_at hl 10 rfl) ?_
                refine lv_iadd hx hb d_MD_putChain_139 ?_
                rw [show (((nI ((768 + (32 * u_4)) + 3)) + (nI kk)) : Int32) = (nI (((768 + (32 * u_4)) + 3) + kk)) from nI_add ((768 + (32 * u_4)) + 3) kk]
                refine lv_iload hx hb d_MD_putChain_140 (lv_at hl 10 rfl) ?_
                refine lv_iload hx hb d_MD_putChain_142 (lv_at hl 6 rfl) ?_
                refine lv_icmp_ge (tgt := 160) hx hb d_MD_putChain_144 (by decide) (fun c_23 => ?_) (fun c_23 => ?_)
                · refine lv_iconst (v := 0) hx hb d_MD_putChain_160 (by decide) ?_
                  refine sf_callVw (S := Unit) (rest := []) ⟨hx, hb, hml, hown, hts⟩ (c_MD_put l D cI cZ cJ q xth xB xsh xcu xtp xtd xpa xsp xwh xhe (nI ho) xtk yt yw (((((mn + (32 * k)) + 1) + 1) + 1) + kk) (nI (((768 + (32 * u_4)) + 3) + kk)) 0 (by omega)) (sf_cwV lk_MD_101 hts (fun _ h => h) (by rw [hR]; exact ⟨Nat.le_of_ble_eq_true rfl, Nat.le_of_ble_eq_true rfl⟩)) hK hP hD hS hA (fun _ => by simp only [md_w_fst]) (ci := 3) (q0 := 0) rfl rfl rfl rfl rfl hl.1 (Nat.le_of_ble_eq_true rfl) d_MD_putChain_161 ⟨Nat.zero_le _, Nat.zero_le _⟩ (fun u H locs hu hP hD hS => ?_)
                  have hP : va_P D classes (md_w q cI cZ xth xB xsh xcu xtp xtd xpa xsp xwh xhe (nI ho) xtk (upd yt (((((mn + (32 * k)) + 1) + 1) + 1) + kk) (nI (((768 + (32 * u_4)) + 3) + kk))) (upd yw (((((mn + (32 * k)) + 1) + 1) + 1) + kk) 0) (nI ((((((mn + (32 * k)) + 1) + 1) + 1) + kk) + 1))) H := hP
                  have hD : va_D A (md_w q cI cZ xth xB xsh xcu xtp xtd xpa xsp xwh xhe (nI ho) xtk (upd yt (((((mn + (32 * k)) + 1) + 1) + 1) + kk) (nI (((768 + (32 * u_4)) + 3) + kk))) (upd yw (((((mn + (32 * k)) + 1) + 1) + 1) + kk) 0) (nI ((((((mn + (32 * k)) + 1) + 1) + 1) + kk) + 1))) := hD
                  refine lv_iinc (v := (nI (kk + 1))) (lv' := [(10, .int (nI (kk + 1))), (0, .ref (q 0)), (1, .int 1), (2, .int mo), (3, .int vf), (4, .int (nI u_4)), (5, .int (nI (25 * k))), (6, .int (nI (ho - (25 * k)))), (7, .int 1), (8, .int (-1)), (9, .int (nI (768 + (32 * u_4))))]) hx hb d_MD_putChain_164 hl (k := 10) rfl (nI_1 kk) (by decide) rfl (fun ls hl => ?_)
                  refine lv_goto (tgt := 125) hx hb d_MD_putChain_167 (by decide) ?_
                  exact ih125 (kk + 1) (upd yt (((((mn + (32 * k)) + 1) + 1) + 1) + kk) (nI (((768 + (32 * u_4)) + 3) + kk))) (upd yw (((((mn + (32 * k)) + 1) + 1) + 1) + kk) 0) (by omega) (by omega) (by rw [← heq125]; simp only [f_MD_putChain_1_l125_1, ← hu_1, ← hu_2, ← hu_4, eq_false c_22, eq_true c_23, ↓reduceIte]) _ _ hP hD hS ls (lv_sub hl [1, 2, 3, 4, 5, 6, 7, 8, 9, 10, 0] rfl)
                · have hn7 : kk < ho - 25 * k := sf_lt_of (by omega) (by omega) c_23
                  refine lv_aload_n hx hb d_MD_putChain_147 rfl (lv_at hl 0 rfl) ?_
                  refine va_get (D := D) (ci := 3) (v := .ref (q 4)) (C := R_MD) (T := F_MD) (N := 15) hx hb hts i_MD hown hK hP 0 rfl rfl 9 (by decide) (hts _ wd_584) (fun _ h9 => h9) rfl d_MD_putChain_148 ?_
                  refine lv_iload hx hb d_MD_putChain_151 (lv_at hl 5 rfl) ?_
                  refine lv_iload hx hb d_MD_putChain_153 (lv_at hl 10 rfl) ?_
                  refine lv_iadd hx hb d_MD_putChain_155 ?_
                  rw [show (((nI (25 * k)) + (nI kk)) : Int32) = (nI ((25 * k) + kk)) from nI_add (25 * k) kk]
                  refine va_iald hx hb hK hP 4 0 rfl rfl (show vp_in (nI ((25 * k) + kk)) 75 from vp_in_nI (n := ((25 * k) + kk)) (by omega) (by omega)) d_MD_putChain_156 ?_
                  rw [show ((nI ((25 * k) + kk)) : Int32).toNatClampNeg = ((25 * k) + kk) from nI_clamp (n := ((25 * k) + kk)) (by omega)]
                  refine lv_goto (tgt := 161) hx hb d_MD_putChain_157 (by decide) ?_
                  refine sf_callVw (S := Unit) (rest := []) ⟨hx, hb, hml, hown, hts⟩ (c_MD_put l D cI cZ cJ q xth xB xsh xcu xtp xtd xpa xsp xwh xhe (nI ho) xtk yt yw (((((mn + (32 * k)) + 1) + 1) + 1) + kk) (nI (((768 + (32 * u_4)) + 3) + kk)) (xhe ((25 * k) + kk)) (by omega)) (sf_cwV lk_MD_101 hts (fun _ h => h) (by rw [hR]; exact ⟨Nat.le_of_ble_eq_true rfl, Nat.le_of_ble_eq_true rfl⟩)) hK hP hD hS hA (fun _ => by simp only [md_w_fst]) (ci := 3) (q0 := 0) rfl rfl rfl rfl rfl hl.1 (Nat.le_of_ble_eq_true rfl) d_MD_putChain_161 ⟨Nat.zero_le _, Nat.zero_le _⟩ (fun u H locs hu hP hD hS => ?_)
                  have hP : va_P D classes (md_w q cI cZ xth xB xsh xcu xtp xtd xpa xsp xwh xhe (nI ho) xtk (upd yt (((((mn + (32 * k)) + 1) + 1) + 1) + kk) (nI (((768 + (32 * u_4)) + 3) + kk))) (upd yw (((((mn + (32 * k)) + 1) + 1) + 1) + kk) (xhe ((25 * k) + kk))) (nI ((((((mn + (32 * k)) + 1) + 1) + 1) + kk) + 1))) H := hP
                  have hD : va_D A (md_w q cI cZ xth xB xsh xcu xtp xtd xpa xsp xwh xhe (nI ho) xtk (upd yt (((((mn + (32 * k)) + 1) + 1) + 1) + kk) (nI (((768 + (32 * u_4)) + 3) + kk))) (upd yw (((((mn + (32 * k)) + 1) + 1) + 1) + kk) (xhe ((25 * k) + kk))) (nI ((((((mn + (32 * k)) + 1) + 1) + 1) + kk) + 1))) := hD
                  refine lv_iinc (v := (nI (kk + 1))) (lv' := [(10, .int (nI (kk + 1))), (0, .ref (q 0)), (1, .int 1), (2, .int mo), (3, .int vf), (4, .int (nI u_4)), (5, .int (nI (25 * k))), (6, .int (nI (ho - (25 * k)))), (7, .int 1), (8, .int (-1)), (9, .int (nI (768 + (32 * u_4))))]) hx hb d_MD_putChain_164 hl (k := 10) rfl (nI_1 kk) (by decide) rfl (fun ls hl => ?_)
                  refine lv_goto (tgt := 125) hx hb d_MD_putChain_167 (by decide) ?_
                  exact ih125 (kk + 1) (upd yt (((((mn + (32 * k)) + 1) + 1) + 1) + kk) (nI (((768 + (32 * u_4)) + 3) + kk))) (upd yw (((((mn + (32 * k)) + 1) + 1) + 1) + kk) (xhe ((25 * k) + kk))) (by omega) (by omega) (by rw [← heq125]; simp only [f_MD_putChain_1_l125_1, ← hu_1, ← hu_2, ← hu_4, eq_false c_22, eq_false c_23, ↓reduceIte]) _ _ hP hD hS ls (lv_sub hl [1, 2, 3, 4, 5, 6, 7, 8, 9, 10, 0] rfl)
          exact loop125 (25 + 1) 0 (upd (upd (upd vt (mn + (32 * k)) (nI (768 + (32 * u_4)))) ((mn + (32 * k)) + 1) (nI ((768 + (32 * u_4)) + 1))) (((mn + (32 * k)) + 1) + 1) (nI ((768 + (32 * u_4)) + 2))) (upd (upd (upd vw (mn + (32 * k)) ((-1) + 1)) ((mn + (32 * k)) + 1) (nI (ho - (25 * k)))) (((mn + (32 * k)) + 1) + 1) mo) (by omega) (by omega) hu_21.symm _ _ hP hD hS ls (lv_sub hl [5, 6, 7, 8, 9, 10, 4, 3, 2, 1, 0] rfl)
  exact loop12 (3 + 1) 0 (nI u_2) (nI u_2) xto xwa (by omega) (by omega) (fun _ => ⟨_, rfl, by omega, by omega⟩) (by omega) (by simp only [f_MD_putChain_1, ← hu_1, ← hu_2, ↓reduceIte]) _ _ hP hD hS ls (lv_sub hl [3, 4, 5, 2, 1, 0] rfl)
def f_MD_putTable_l71_0 (xB : Nat → Int32) (mn : Nat) (ro : Nat) (fi : Int32) (sl : Int32) : Nat → Nat → (Nat → Int32) → (Nat → Int32) → ((Nat → Int32) × (Nat → Int32))
  | 0, _, _, _ => ((fun _ => 0), (fun _ => 0))
  | fu + 1, k, vt, vw =>
    if 36 ≤ (nI (1 + k)) then
      ((f_MD_putSum vt vw ((mn + 1) + 35) 36 1280).1, (f_MD_putSum vt vw ((mn + 1) + 35) 36 1280).2)
    else
      if 25 ≤ (nI (1 + k)) then
        if (nI (1 + k)) = (nI (1 + ro)) then
          f_MD_putTable_l71_0 xB mn ro fi sl fu (k + 1) (upd vt ((mn + 1) + k) (nI (1280 + (1 + k)))) (upd vw ((mn + 1) + k) fi)
        else
          if (nI (1 + k)) = (nI (13 + ro)) then
            f_MD_putTable_l71_0 xB mn ro fi sl fu (k + 1) (upd vt ((mn + 1) + k) (nI (1280 + (1 + k)))) (upd vw ((mn + 1) + k) sl)
          else
            f_MD_putTable_l71_0 xB mn ro fi sl fu (k + 1) (upd vt ((mn + 1) + k) (nI (1280 + (1 + k)))) (upd vw ((mn + 1) + k) 0)
      else
        if (nI (1 + k)) = (nI (1 + ro)) then
          f_MD_putTable_l71_0 xB mn ro fi sl fu (k + 1) (upd vt ((mn + 1) + k) (nI (1280 + (1 + k)))) (upd vw ((mn + 1) + k) fi)
        else
          if (nI (1 + k)) = (nI (13 + ro)) then
            f_MD_putTable_l71_0 xB mn ro fi sl fu (k + 1) (upd vt ((mn + 1) + k) (nI (1280 + (1 + k)))) (upd vw ((mn + 1) + k) sl)
          else
            f_MD_putTable_l71_0 xB mn ro fi sl fu (k + 1) (upd vt ((mn + 1) + k) (nI (1280 + (1 + k)))) (upd vw ((mn + 1) + k) (f_MD_entry xB (1 + k)))
def f_MD_putTable_l71_1 (xB : Nat → Int32) (mn : Nat) (ro : Nat) (fi : Int32) (sl : Int32) : Nat → Nat → (Nat → Int32) → (Nat → Int32) → ((Nat → Int32) × (Nat → Int32))
  | 0, _, _, _ => ((fun _ => 0), (fun _ => 0))
  | fu + 1, k, vt, vw =>
    if 36 ≤ (nI (1 + k)) then
      ((f_MD_putSum vt vw ((mn + 1) + 35) 36 1320).1, (f_MD_putSum vt vw ((mn + 1) + 35) 36 1320).2)
    else
      if 25 ≤ (nI (1 + k)) then
        if (nI (1 + k)) = (nI (1 + ro)) then
          f_MD_putTable_l71_1 xB mn ro fi sl fu (k + 1) (upd vt ((mn + 1) + k) (nI (1320 + (1 + k)))) (upd vw ((mn + 1) + k) fi)
        else
          if (nI (1 + k)) = (nI (13 + ro)) then
            f_MD_putTable_l71_1 xB mn ro fi sl fu (k + 1) (upd vt ((mn + 1) + k) (nI (1320 + (1 + k)))) (upd vw ((mn + 1) + k) sl)
          else
            f_MD_putTable_l71_1 xB mn ro fi sl fu (k + 1) (upd vt ((mn + 1) + k) (nI (1320 + (1 + k)))) (upd vw ((mn + 1) + k) 0)
      else
        if (nI (1 + k)) = (nI (1 + ro)) then
          f_MD_putTable_l71_1 xB mn ro fi sl fu (k + 1) (upd vt ((mn + 1) + k) (nI (1320 + (1 + k)))) (upd vw ((mn + 1) + k) fi)
        else
          if (nI (1 + k)) = (nI (13 + ro)) then
            f_MD_putTable_l71_1 xB mn ro fi sl fu (k + 1) (upd vt ((mn + 1) + k) (nI (1320 + (1 + k)))) (upd vw ((mn + 1) + k) sl)
          else
            f_MD_putTable_l71_1 xB mn ro fi sl fu (k + 1) (upd vt ((mn + 1) + k) (nI (1320 + (1 + k)))) (upd vw ((mn + 1) + k) (f_MD_entry xB (1 + k)))
def f_MD_putTable (xB : Nat → Int32) (xto : Nat → Int32) (xwa : Nat → Int32) (mn : Nat) (ro : Nat) (fi : Int32) (sl : Int32) : ((Nat → Int32) × (Nat → Int32)) :=
  if (f_MD_counting xB) = (-1) then
    f_MD_putTable_l71_0 xB mn ro fi sl (35 + 1) 0 (upd xto mn 1280) (upd xwa mn 1)
  else
    if (f_MD_counting xB) = 0 then
      f_MD_putTable_l71_1 xB mn ro fi sl (35 + 1) 0 (upd xto mn 1320) (upd xwa mn (f_MD_next (xB 1280)))
    else
      f_MD_putTable_l71_0 xB mn ro fi sl (35 + 1) 0 (upd xto mn 1280) (upd xwa mn (f_MD_next (xB 1320)))
set_option maxHeartbeats 1000000 in
set_option maxRecDepth 100000 in
/-- putTable -/
theorem c_MD_putTable (l : Launch) (D : va_G) (cI cZ cJ : ClassId) (q : Nat → Nat) (xth : Int32) (xB : Nat → Int32) (xsh : Int32) (xcu : Int32) (xtp : Nat → Int32) (xtd : Int32) (xpa : Nat → Int32) (xsp : Int32) (xwh : Int32) (xhe : Nat → Int32) (xho : Int32) (xtk : Nat → Int32) (xto : Nat → Int32) (xwa : Nat → Int32) (mn : Nat) (ro : Nat) (fi : Int32) (sl : Int32) (hro : ro < 12) (hm : mn + 40 ≤ 136) : sf_M (S := ((Nat → Int32) × (Nat → Int32))) l D classes (sf_tys cI cZ cJ) y_MD_putTable (sf_ws y_MD_putTable b_MD_putTable 10 none) 5 110 [.ref (q 0), .int (nI ro), .int fi, .int sl] (md_w q cI cZ xth xB xsh xcu xtp xtd xpa xsp xwh xhe xho xtk xto xwa (nI mn)) (fun _ => none) (fun r => r = f_MD_putTable xB xto xwa mn ro fi sl) (fun r => (md_w q cI cZ xth xB xsh xcu xtp xtd xpa xsp xwh xhe xho xtk r.1 r.2 (nI (mn + 40)))) := by
  refine sf_ofW (S := ((Nat → Int32) × (Nat → Int32))) (by decide) (Nat.le_of_ble_eq_true rfl) ?_
  intro p e s m below meth c A ls R args Q hR hArgs hQ hC0 hr hK hP hD hl
  obtain ⟨hx, hb, hml, hown, hts, hA, hlk⟩ := hC0
  have hS : va_S A s.heap s.heap [] := va_S.rf
  have hl : lv_has ls 10 [(0, .ref (q 0)), (1, .int (nI ro)), (2, .int fi), (3, .int sl)] := hl
  refine lv_aload_n hx hb d_MD_putTable_0 rfl (lv_at hl 0 rfl) ?_
  refine sf_callVw (S := Int32) (rest := []) ⟨hx, hb, hml, hown, hts⟩ (c_MD_counting l D cI cZ cJ q xth xB xsh xcu xtp xtd xpa xsp xwh xhe xho xtk xto xwa (nI mn)) (sf_cwV lk_MD_60 hts (fun _ h => h) (by rw [hR]; exact ⟨Nat.le_of_ble_eq_true rfl, Nat.le_of_ble_eq_true rfl⟩)) hK hP hD hS hA (fun _ => by simp only [md_w_fst]) (ci := 3) (q0 := 0) rfl rfl rfl rfl rfl hl.1 (Nat.le_of_ble_eq_true rfl) d_MD_putTable_1 ⟨Nat.zero_le _, Nat.zero_le _⟩ (fun u_1 H locs hu_1 hP hD hS => ?_)
  have hP : va_P D classes (md_w q cI cZ xth xB xsh xcu xtp xtd xpa xsp xwh xhe xho xtk xto xwa (nI mn)) H := hP
  have hD : va_D A (md_w q cI cZ xth xB xsh xcu xtp xtd xpa xsp xwh xhe xho xtk xto xwa (nI mn)) := hD
  refine lv_istore (lv' := [(4, .int u_1), (0, .ref (q 0)), (1, .int (nI ro)), (2, .int fi), (3, .int sl)]) hx hb d_MD_putTable_4 hl (by decide) rfl (fun ls hl => ?_)
  rcases (show u_1 = -1 ∨ u_1 = 0 ∨ u_1 = 1 by rw [hu_1]; exact f_MD_counting_3 _) with hw | hw | hw
  · rw [hw] at hl
    have hw9 : u_1 = (-1) := by rw [hw]
    refine lv_iload hx hb d_MD_putTable_6 (lv_at hl 0 rfl) ?_
    refine lv_if_ge (tgt := 15) hx hb d_MD_putTable_8 (by decide) (fun c_2 => absurd c_2 (by decide)) (fun c_2 => ?_)
    refine lv_iconst (v := 0) hx hb d_MD_putTable_11 (by decide) ?_
    refine lv_goto (tgt := 19) hx hb d_MD_putTable_12 (by decide) ?_
    refine lv_istore (lv' := [(5, .int 0), (4, .int (-1)), (0, .ref (q 0)), (1, .int (nI ro)), (2, .int fi), (3, .int sl)]) hx hb d_MD_putTable_19 hl (by decide) rfl (fun ls hl => ?_)
    refine lv_sipush (v := 1280) hx hb d_MD_putTable_21 (by decide) ?_
    refine lv_bipush (v := 40) hx hb d_MD_putTable_24 (by decide) ?_
    refine lv_iload hx hb d_MD_putTable_26 (lv_at hl 0 rfl) ?_
    refine lv_imul hx hb d_MD_putTable_28 ?_
    rw [show ((40 * 0) : Int32) = 0 from by decide]
    refine lv_iadd hx hb d_MD_putTable_29 ?_
    rw [show ((1280 + 0) : Int32) = 1280 from by decide]
    refine lv_istore (lv' := [(6, .int 1280), (5, .int 0), (4, .int (-1)), (0, .ref (q 0)), (1, .int (nI ro)), (2, .int fi), (3, .int sl)]) hx hb d_MD_putTable_30 hl (by decide) rfl (fun ls hl => ?_)
    refine lv_iload hx hb d_MD_putTable_32 (lv_at hl 2 rfl) ?_
    refine lv_if_ge (tgt := 41) hx hb d_MD_putTable_34 (by decide) (fun c_3 => absurd c_3 (by decide)) (fun c_3 => ?_)
    refine lv_iconst (v := 1) hx hb d_MD_putTable_37 (by decide) ?_
    refine lv_goto (tgt := 58) hx hb d_MD_putTable_38 (by decide) ?_
    refine lv_istore (lv' := [(7, .int 1), (6, .int 1280), (5, .int 0), (4, .int (-1)), (0, .ref (q 0)), (1, .int (nI ro)), (2, .int fi), (3, .int sl)]) hx hb d_MD_putTable_58 hl (by decide) rfl (fun ls hl => ?_)
    refine lv_aload_n hx hb d_MD_putTable_60 rfl (lv_at hl 4 rfl) ?_
    refine lv_iload hx hb d_MD_putTable_61 (lv_at hl 1 rfl) ?_
    refine lv_iload hx hb d_MD_putTable_63 (lv_at hl 0 rfl) ?_
    refine sf_callVw (S := Unit) (rest := []) ⟨hx, hb, hml, hown, hts⟩ (c_MD_put l D cI cZ cJ q xth xB xsh xcu xtp xtd xpa xsp xwh xhe xho xtk xto xwa mn 1280 1 (by omega)) (sf_cwV lk_MD_101 hts (fun _ h => h) (by rw [hR]; exact ⟨Nat.le_of_ble_eq_true rfl, Nat.le_of_ble_eq_true rfl⟩)) hK hP hD hS hA (fun _ => by simp only [md_w_fst]) (ci := 3) (q0 := 0) rfl rfl rfl rfl rfl hl.1 (Nat.le_of_ble_eq_true rfl) d_MD_putTable_65 ⟨Nat.zero_le _, Nat.zero_le _⟩ (fun u H locs hu hP hD hS => ?_)
    have hP : va_P D classes (md_w q cI cZ xth xB xsh xcu xtp xtd xpa xsp xwh xhe xho xtk (upd xto mn 1280) (upd xwa mn 1) (nI (mn + 1))) H := hP
    have hD : va_D A (md_w q cI cZ xth xB xsh xcu xtp xtd xpa xsp xwh xhe xho xtk (upd xto mn 1280) (upd xwa mn 1) (nI (mn + 1))) := hD
    refine lv_iconst (v := 1) hx hb d_MD_putTable_68 (by decide) ?_
    refine lv_istore (lv' := [(8, .int 1), (7, .int 1), (6, .int 1280), (5, .int 0), (4, .int (-1)), (0, .ref (q 0)), (1, .int (nI ro)), (2, .int fi), (3, .int sl)]) hx hb d_MD_putTable_69 hl (by decide) rfl (fun ls hl => ?_)
    have loop71 : ∀ (fu k : Nat) (vt : (Nat → Int32)) (vw : (Nat → Int32)), k ≤ 35 → k + fu = 35 + 1 → f_MD_putTable_l71_0 xB mn ro fi sl fu k vt vw = f_MD_putTable xB xto xwa mn ro fi sl → ∀ (H : Heap) (locs : List Loc), va_P D classes (md_w q cI cZ xth xB xsh xcu xtp xtd xpa xsp xwh xhe xho xtk vt vw (nI ((mn + 1) + k))) H → va_D A (md_w q cI cZ xth xB xsh xcu xtp xtd xpa xsp xwh xhe xho xtk vt vw (nI ((mn + 1) + k))) → va_S A s.heap H locs → ∀ (ls : Array Slot), lv_has ls 10 [(0, .ref (q 0)), (1, .int (nI ro)), (2, .int fi), (3, .int sl), (4, .int (-1)), (5, .int 0), (6, .int 1280), (7, .int 1), (8, .int (nI (1 + k)))] → W p l e R s m args below meth c H locs 0 0 Q (F0 m 71 ls []) := by
      intro fu
      induction fu with
      | zero =>
        intro k vt vw h1 h2
        exact absurd h2 (by omega)
      | succ fu ih71 =>
        intro k vt vw hk71 hkn71 heq71 H locs hP hD hS ls hl
        refine lv_iload hx hb d_MD_putTable_71 (lv_at hl 8 rfl) ?_
        refine lv_bipush (v := 36) hx hb d_MD_putTable_73 (by decide) ?_
        refine lv_icmp_ge (tgt := 143) hx hb d_MD_putTable_75 (by decide) (fun c_4 => ?_) (fun c_4 => ?_)
        · have hle9 : 36 ≤ 1 + k := (nI_leI (a := 36) (by omega) (by omega)).mp c_4
          have hk9 : k = 35 := by omega
          subst hk9
          refine lv_aload_n hx hb d_MD_putTable_143 rfl (lv_at hl 0 rfl) ?_
          refine lv_bipush (v := 36) hx hb d_MD_putTable_144 (by decide) ?_
          refine lv_iload hx hb d_MD_putTable_146 (lv_at hl 6 rfl) ?_
          refine sf_callVw (S := ((Nat → Int32) × (Nat → Int32))) (rest := []) ⟨hx, hb, hml, hown, hts⟩ (c_MD_putSum l D cI cZ cJ q xth xB xsh xcu xtp xtd xpa xsp xwh xhe xho xtk vt vw ((mn + 1) + 35) 36 1280 (by omega) (by omega)) (sf_cwV lk_MD_108 hts (fun _ h => h) (by rw [hR]; exact ⟨Nat.le_of_ble_eq_true rfl, Nat.le_of_ble_eq_true rfl⟩)) hK hP hD hS hA (fun _ => by simp only [md_w_fst]) (ci := 3) (q0 := 0) rfl rfl rfl rfl rfl hl.1 (Nat.le_of_ble_eq_true rfl) d_MD_putTable_148 ⟨Nat.zero_le _, Nat.zero_le _⟩ (fun u_5 H locs hu_5 hP hD hS => ?_)
          have hP : va_P D classes (md_w q cI cZ xth xB xsh xcu xtp xtd xpa xsp xwh xhe xho xtk u_5.1 u_5.2 (nI (((mn + 1) + 35) + 4))) H := hP
          have hD : va_D A (md_w q cI cZ xth xB xsh xcu xtp xtd xpa xsp xwh xhe xho xtk u_5.1 u_5.2 (nI (((mn + 1) + 35) + 4))) := hD
          rw [hQ]
          exact sf_vret (u_5.1, u_5.2) hx hb hr hlk hS rfl (by rw [← heq71]; simp only [f_MD_putTable_l71_0, ← hu_1, ← hu_5, eq_true c_4, ↓reduceIte]) hP d_MD_putTable_151
        · have hlt : k < 35 := by have := sf_lt_of (N := 36) (k := 1 + k) (by omega) (by omega) c_4; omega
          refine lv_iload hx hb d_MD_putTable_78 (lv_at hl 8 rfl) ?_
          refine lv_bipush (v := 25) hx hb d_MD_putTable_80 (by decide) ?_
          refine lv_icmp_ge (tgt := 94) hx hb d_MD_putTable_82 (by decide) (fun c_6 => ?_) (fun c_6 => ?_)
          · refine lv_iconst (v := 0) hx hb d_MD_putTable_94 (by decide) ?_
            refine lv_istore (lv' := [(9, .int 0), (0, .ref (q 0)), (1, .int (nI ro)), (2, .int fi), (3, .int sl), (4, .int (-1)), (5, .int 0), (6, .int 1280), (7, .int 1), (8, .int (nI (1 + k)))]) hx hb d_MD_putTable_95 hl (by decide) rfl (fun ls hl => ?_)
            refine lv_iload hx hb d_MD_putTable_97 (lv_at hl 9 rfl) ?_
            refine lv_iconst (v := 1) hx hb d_MD_putTable_99 (by decide) ?_
            refine lv_iload_n hx hb d_MD_putTable_100 rfl (lv_at hl 2 rfl) ?_
            refine lv_iadd hx hb d_MD_putTable_101 ?_
            rw [show ((1 + (nI ro)) : Int32) = (nI (1 + ro)) from nI_add 1 ro]
            refine lv_icmp_ne (tgt := 109) hx hb d_MD_putTable_102 (by decide) (fun c_7 => ?_) (fun c_7 => ?_)
            · refine lv_iload hx hb d_MD_putTable_109 (lv_at hl 9 rfl) ?_
              refine lv_bipush (v := 13) hx hb d_MD_putTable_111 (by decide) ?_
              refine lv_iload_n hx hb d_MD_putTable_113 rfl (lv_at hl 2 rfl) ?_
              refine lv_iadd hx hb d_MD_putTable_114 ?_
              rw [show ((13 + (nI ro)) : Int32) = (nI (13 + ro)) from nI_add 13 ro]
              refine lv_icmp_ne (tgt := 122) hx hb d_MD_putTable_115 (by decide) (fun c_8 => ?_) (fun c_8 => ?_)
              · refine lv_iload hx hb d_MD_putTable_122 (lv_at hl 0 rfl) ?_
                refine lv_istore (lv' := [(9, .int 0), (0, .ref (q 0)), (1, .int (nI ro)), (2, .int fi), (3, .int sl), (4, .int (-1)), (5, .int 0), (6, .int 1280), (7, .int 1), (8, .int (nI (1 + k)))]) hx hb d_MD_putTable_124 hl (by decide) rfl (fun ls hl => ?_)
                refine lv_aload_n hx hb d_MD_putTable_126 rfl (lv_at hl 1 rfl) ?_
                refine lv_iload hx hb d_MD_putTable_127 (lv_at hl 7 rfl) ?_
                refine lv_iload hx hb d_MD_putTable_129 (lv_at hl 9 rfl) ?_
                refine lv_iadd hx hb d_MD_putTable_131 ?_
                rw [show ((1280 + (nI (1 + k))) : Int32) = (nI (1280 + (1 + k))) from nI_add 1280 (1 + k)]
                refine lv_iload hx hb d_MD_putTable_132 (lv_at hl 0 rfl) ?_
                refine sf_callVw (S := Unit) (rest := []) ⟨hx, hb, hml, hown, hts⟩ (c_MD_put l D cI cZ cJ q xth xB xsh xcu xtp xtd xpa xsp xwh xhe xho xtk vt vw ((mn + 1) + k) (nI (1280 + (1 + k))) 0 (by omega)) (sf_cwV lk_MD_101 hts (fun _ h => h) (by rw [hR]; exact ⟨Nat.le_of_ble_eq_true rfl, Nat.le_of_ble_eq_true rfl⟩)) hK hP hD hS hA (fun _ => by simp only [md_w_fst]) (ci := 3) (q0 := 0) rfl rfl rfl rfl rfl hl.1 (Nat.le_of_ble_eq_true rfl) d_MD_putTable_134 ⟨Nat.zero_le _, Nat.zero_le _⟩ (fun u H locs hu hP hD hS => ?_)
                have hP : va_P D classes (md_w q cI cZ xth xB xsh xcu xtp xtd xpa xsp xwh xhe xho xtk (upd vt ((mn + 1) + k) (nI (1280 + (1 + k)))) (upd vw ((mn + 1) + k) 0) (nI (((mn + 1) + k) + 1))) H := hP
                have hD : va_D A (md_w q cI cZ xth xB xsh xcu xtp xtd xpa xsp xwh xhe xho xtk (upd vt ((mn + 1) + k) (nI (1280 + (1 + k)))) (upd vw ((mn + 1) + k) 0) (nI (((mn + 1) + k) + 1))) := hD
                refine lv_iinc (v := (nI (1 + (k + 1)))) (lv' := [(8, .int (nI (1 + (k + 1)))), (9, .int 0), (0, .ref (q 0)), (1, .int (nI ro)), (2, .int fi), (3, .int sl), (4, .int (-1)), (5, .int 0), (6, .int 1280), (7, .int 1)]) hx hb d_MD_putTable_137 hl (k := 9) rfl (nI_1 (1 + k)) (by decide) rfl (fun ls hl => ?_)
                refine lv_goto (tgt := 71) hx hb d_MD_putTable_140 (by decide) ?_
                exact ih71 (k + 1) (upd vt ((mn + 1) + k) (nI (1280 + (1 + k)))) (upd vw ((mn + 1) + k) 0) (by omega) (by omega) (by rw [← heq71]; simp only [f_MD_putTable_l71_0, ← hu_1, eq_false c_4, eq_true c_6, eq_false c_7, eq_false c_8, ↓reduceIte]) _ _ hP hD hS ls (lv_sub hl [2, 3, 4, 5, 6, 7, 8, 9, 0] rfl)
              · refine lv_iload_n hx hb d_MD_putTable_118 rfl (lv_at hl 4 rfl) ?_
                refine lv_goto (tgt := 124) hx hb d_MD_putTable_119 (by decide) ?_
                refine lv_istore (lv' := [(9, .int sl), (0, .ref (q 0)), (1, .int (nI ro)), (2, .int fi), (3, .int sl), (4, .int (-1)), (5, .int 0), (6, .int 1280), (7, .int 1), (8, .int (nI (1 + k)))]) hx hb d_MD_putTable_124 hl (by decide) rfl (fun ls hl => ?_)
                refine lv_aload_n hx hb d_MD_putTable_126 rfl (lv_at hl 1 rfl) ?_
                refine lv_iload hx hb d_MD_putTable_127 (lv_at hl 7 rfl) ?_
                refine lv_iload hx hb d_MD_putTable_129 (lv_at hl 9 rfl) ?_
                refine lv_iadd hx hb d_MD_putTable_131 ?_
                rw [show ((1280 + (nI (1 + k))) : Int32) = (nI (1280 + (1 + k))) from nI_add 1280 (1 + k)]
                refine lv_iload hx hb d_MD_putTable_132 (lv_at hl 0 rfl) ?_
                refine sf_callVw (S := Unit) (rest := []) ⟨hx, hb, hml, hown, hts⟩ (c_MD_put l D cI cZ cJ q xth xB xsh xcu xtp xtd xpa xsp xwh xhe xho xtk vt vw ((mn + 1) + k) (nI (1280 + (1 + k))) sl (by omega)) (sf_cwV lk_MD_101 hts (fun _ h => h) (by rw [hR]; exact ⟨Nat.le_of_ble_eq_true rfl, Nat.le_of_ble_eq_true rfl⟩)) hK hP hD hS hA (fun _ => by simp only [md_w_fst]) (ci := 3) (q0 := 0) rfl rfl rfl rfl rfl hl.1 (Nat.le_of_ble_eq_true rfl) d_MD_putTable_134 ⟨Nat.zero_le _, Nat.zero_le _⟩ (fun u H locs hu hP hD hS => ?_)
                have hP : va_P D classes (md_w q cI cZ xth xB xsh xcu xtp xtd xpa xsp xwh xhe xho xtk (upd vt ((mn + 1) + k) (nI (1280 + (1 + k)))) (upd vw ((mn + 1) + k) sl) (nI (((mn + 1) + k) + 1))) H := hP
                have hD : va_D A (md_w q cI cZ xth xB xsh xcu xtp xtd xpa xsp xwh xhe xho xtk (upd vt ((mn + 1) + k) (nI (1280 + (1 + k)))) (upd vw ((mn + 1) + k) sl) (nI (((mn + 1) + k) + 1))) := hD
                refine lv_iinc (v := (nI (1 + (k + 1)))) (lv' := [(8, .int (nI (1 + (k + 1)))), (9, .int sl), (0, .ref (q 0)), (1, .int (nI ro)), (2, .int fi), (3, .int sl), (4, .int (-1)), (5, .int 0), (6, .int 1280), (7, .int 1)]) hx hb d_MD_putTable_137 hl (k := 9) rfl (nI_1 (1 + k)) (by decide) rfl (fun ls hl => ?_)
                refine lv_goto (tgt := 71) hx hb d_MD_putTable_140 (by decide) ?_
                exact ih71 (k + 1) (upd vt ((mn + 1) + k) (nI (1280 + (1 + k)))) (upd vw ((mn + 1) + k) sl) (by omega) (by omega) (by rw [← heq71]; simp only [f_MD_putTable_l71_0, ← hu_1, eq_false c_4, eq_true c_6, eq_false c_7, eq_true c_8, ↓reduceIte]) _ _ hP hD hS ls (lv_sub hl [2, 3, 4, 5, 6, 7, 8, 9, 0] rfl)
            · refine lv_iload_n hx hb d_MD_putTable_105 rfl (lv_at hl 3 rfl) ?_
              refine lv_goto (tgt := 124) hx hb d_MD_putTable_106 (by decide) ?_
              refine lv_istore (lv' := [(9, .int fi), (0, .ref (q 0)), (1, .int (nI ro)), (2, .int fi), (3, .int sl), (4, .int (-1)), (5, .int 0), (6, .int 1280), (7, .int 1), (8, .int (nI (1 + k)))]) hx hb d_MD_putTable_124 hl (by decide) rfl (fun ls hl => ?_)
              refine lv_aload_n hx hb d_MD_putTable_126 rfl (lv_at hl 1 rfl) ?_
              refine lv_iload hx hb d_MD_putTable_127 (lv_at hl 7 rfl) ?_
              refine lv_iload hx hb d_MD_putTable_129 (lv_at hl 9 rfl) ?_
              refine lv_iadd hx hb d_MD_putTable_131 ?_
              rw [show ((1280 + (nI (1 + k))) : Int32) = (nI (1280 + (1 + k))) from nI_add 1280 (1 + k)]
              refine lv_iload hx hb d_MD_putTable_132 (lv_at hl 0 rfl) ?_
              refine sf_callVw (S := Unit) (rest := []) ⟨hx, hb, hml, hown, hts⟩ (c_MD_put l D cI cZ cJ q xth xB xsh xcu xtp xtd xpa xsp xwh xhe xho xtk vt vw ((mn + 1) + k) (nI (1280 + (1 + k))) fi (by omega)) (sf_cwV lk_MD_101 hts (fun _ h => h) (by rw [hR]; exact ⟨Nat.le_of_ble_eq_true rfl, Nat.le_of_ble_eq_true rfl⟩)) hK hP hD hS hA (fun _ => by simp only [md_w_fst]) (ci := 3) (q0 := 0) rfl rfl rfl rfl rfl hl.1 (Nat.le_of_ble_eq_true rfl) d_MD_putTable_134 ⟨Nat.zero_le _, Nat.zero_le _⟩ (fun u H locs hu hP hD hS => ?_)
              have hP : va_P D classes (md_w q cI cZ xth xB xsh xcu xtp xtd xpa xsp xwh xhe xho xtk (upd vt ((mn + 1) + k) (nI (1280 + (1 + k)))) (upd vw ((mn + 1) + k) fi) (nI (((mn + 1) + k) + 1))) H := hP
              have hD : va_D A (md_w q cI cZ xth xB xsh xcu xtp xtd xpa xsp xwh xhe xho xtk (upd vt ((mn + 1) + k) (nI (1280 + (1 + k)))) (upd vw ((mn + 1) + k) fi) (nI (((mn + 1) + k) + 1))) := hD
              refine lv_iinc (v := (nI (1 + (k + 1)))) (lv' := [(8, .int (nI (1 + (k + 1)))), (9, .int fi), (0, .ref (q 0)), (1, .int (nI ro)), (2, .int fi), (3, .int sl), (4, .int (-1)), (5, .int 0), (6, .int 1280), (7, .int 1)]) hx hb d_MD_putTable_137 hl (k := 9) rfl (nI_1 (1 + k)) (by decide) rfl (fun ls hl => ?_)
              refine lv_goto (tgt := 71) hx hb d_MD_putTable_140 (by decide) ?_
              exact ih71 (k + 1) (upd vt ((mn + 1) + k) (nI (1280 + (1 + k)))) (upd vw ((mn + 1) + k) fi) (by omega) (by omega) (by rw [← heq71]; simp only [f_MD_putTable_l71_0, ← hu_1, eq_false c_4, eq_true c_6, eq_true c_7, ↓reduceIte]) _ _ hP hD hS ls (lv_sub hl [2, 3, 4, 5, 6, 7, 8, 9, 0] rfl)
          · refine lv_aload_n hx hb d_MD_putTable_85 rfl (lv_at hl 0 rfl) ?_
            refine lv_iload hx hb d_MD_putTable_86 (lv_at hl 8 rfl) ?_
            refine sf_callVw (S := Int32) (rest := []) ⟨hx, hb, hml, hown, hts⟩ (c_MD_entry l D cI cZ cJ q xth xB xsh xcu xtp xtd xpa xsp xwh xhe xho xtk vt vw (nI ((mn + 1) + k)) (1 + k) (by omega)) (sf_cwV lk_MD_64 hts (fun _ h => h) (by rw [hR]; exact ⟨Nat.le_of_ble_eq_true rfl, Nat.le_of_ble_eq_true rfl⟩)) hK hP hD hS hA (fun _ => by simp only [md_w_fst]) (ci := 3) (q0 := 0) rfl rfl rfl rfl rfl hl.1 (Nat.le_of_ble_eq_true rfl) d_MD_putTable_88 ⟨Nat.zero_le _, Nat.zero_le _⟩ (fun u_9 H locs hu_9 hP hD hS => ?_)
            have hP : va_P D classes (md_w q cI cZ xth xB xsh xcu xtp xtd xpa xsp xwh xhe xho xtk vt vw (nI ((mn + 1) + k))) H := hP
            have hD : va_D A (md_w q cI cZ xth xB xsh xcu xtp xtd xpa xsp xwh xhe xho xtk vt vw (nI ((mn + 1) + k))) := hD
            refine lv_goto (tgt := 95) hx hb d_MD_putTable_91 (by decide) ?_
            refine lv_istore (lv' := [(9, .int u_9), (0, .ref (q 0)), (1, .int (nI ro)), (2, .int fi), (3, .int sl), (4, .int (-1)), (5, .int 0), (6, .int 1280), (7, .int 1), (8, .int (nI (1 + k)))]) hx hb d_MD_putTable_95 hl (by decide) rfl (fun ls hl => ?_)
            refine lv_iload hx hb d_MD_putTable_97 (lv_at hl 9 rfl) ?_
            refine lv_iconst (v := 1) hx hb d_MD_putTable_99 (by decide) ?_
            refine lv_iload_n hx hb d_MD_putTable_100 rfl (lv_at hl 2 rfl) ?_
            refine lv_iadd hx hb d_MD_putTable_101 ?_
            rw [show ((1 + (nI ro)) : Int32) = (nI (1 + ro)) from nI_add 1 ro]
            refine lv_icmp_ne (tgt := 109) hx hb d_MD_putTable_102 (by decide) (fun c_10 => ?_) (fun c_10 => ?_)
            · refine lv_iload hx hb d_MD_putTable_109 (lv_at hl 9 rfl) ?_
              refine lv_bipush (v := 13) hx hb d_MD_putTable_111 (by decide) ?_
              refine lv_iload_n hx hb d_MD_putTable_113 rfl (lv_at hl 2 rfl) ?_
              refine lv_iadd hx hb d_MD_putTable_114 ?_
              rw [show ((13 + (nI ro)) : Int32) = (nI (13 + ro)) from nI_add 13 ro]
              refine lv_icmp_ne (tgt := 122) hx hb d_MD_putTable_115 (by decide) (fun c_11 => ?_) (fun c_11 => ?_)
              · refine lv_iload hx hb d_MD_putTable_122 (lv_at hl 0 rfl) ?_
                refine lv_istore (lv' := [(9, .int u_9), (0, .ref (q 0)), (1, .int (nI ro)), (2, .int fi), (3, .int sl), (4, .int (-1)), (5, .int 0), (6, .int 1280), (7, .int 1), (8, .int (nI (1 + k)))]) hx hb d_MD_putTable_124 hl (by decide) rfl (fun ls hl => ?_)
                refine lv_aload_n hx hb d_MD_putTable_126 rfl (lv_at hl 1 rfl) ?_
                refine lv_iload hx hb d_MD_putTable_127 (lv_at hl 7 rfl) ?_
                refine lv_iload hx hb d_MD_putTable_129 (lv_at hl 9 rfl) ?_
                refine lv_iadd hx hb d_MD_putTable_131 ?_
                rw [show ((1280 + (nI (1 + k))) : Int32) = (nI (1280 + (1 + k))) from nI_add 1280 (1 + k)]
                refine lv_iload hx hb d_MD_putTable_132 (lv_at hl 0 rfl) ?_
                refine sf_callVw (S := Unit) (rest := []) ⟨hx, hb, hml, hown, hts⟩ (c_MD_put l D cI cZ cJ q xth xB xsh xcu xtp xtd xpa xsp xwh xhe xho xtk vt vw ((mn + 1) + k) (nI (1280 + (1 + k))) u_9 (by omega)) (sf_cwV lk_MD_101 hts (fun _ h => h) (by rw [hR]; exact ⟨Nat.le_of_ble_eq_true rfl, Nat.le_of_ble_eq_true rfl⟩)) hK hP hD hS hA (fun _ => by simp only [md_w_fst]) (ci := 3) (q0 := 0) rfl rfl rfl rfl rfl hl.1 (Nat.le_of_ble_eq_true rfl) d_MD_putTable_134 ⟨Nat.zero_le _, Nat.zero_le _⟩ (fun u H locs hu hP hD hS => ?_)
                have hP : va_P D classes (md_w q cI cZ xth xB xsh xcu xtp xtd xpa xsp xwh xhe xho xtk (upd vt ((mn + 1) + k) (nI (1280 + (1 + k)))) (upd vw ((mn + 1) + k) u_9) (nI (((mn + 1) + k) + 1))) H := hP
                have hD : va_D A (md_w q cI cZ xth xB xsh xcu xtp xtd xpa xsp xwh xhe xho xtk (upd vt ((mn + 1) + k) (nI (1280 + (1 + k)))) (upd vw ((mn + 1) + k) u_9) (nI (((mn + 1) + k) + 1))) := hD
                refine lv_iinc (v := (nI (1 + (k + 1)))) (lv' := [(8, .int (nI (1 + (k + 1)))), (9, .int u_9), (0, .ref (q 0)), (1, .int (nI ro)), (2, .int fi), (3, .int sl), (4, .int (-1)), (5, .int 0), (6, .int 1280), (7, .int 1)]) hx hb d_MD_putTable_137 hl (k := 9) rfl (nI_1 (1 + k)) (by decide) rfl (fun ls hl => ?_)
                refine lv_goto (tgt := 71) hx hb d_MD_putTable_140 (by decide) ?_
                exact ih71 (k + 1) (upd vt ((mn + 1) + k) (nI (1280 + (1 + k)))) (upd vw ((mn + 1) + k) u_9) (by omega) (by omega) (by rw [← heq71]; simp only [f_MD_putTable_l71_0, ← hu_1, ← hu_9, eq_false c_4, eq_false c_6, eq_false c_10, eq_false c_11, ↓reduceIte]) _ _ hP hD hS ls (lv_sub hl [2, 3, 4, 5, 6, 7, 8, 9, 0] rfl)
              · refine lv_iload_n hx hb d_MD_putTable_118 rfl (lv_at hl 4 rfl) ?_
                refine lv_goto (tgt := 124) hx hb d_MD_putTable_119 (by decide) ?_
                refine lv_istore (lv' := [(9, .int sl), (0, .ref (q 0)), (1, .int (nI ro)), (2, .int fi), (3, .int sl), (4, .int (-1)), (5, .int 0), (6, .int 1280), (7, .int 1), (8, .int (nI (1 + k)))]) hx hb d_MD_putTable_124 hl (by decide) rfl (fun ls hl => ?_)
                refine lv_aload_n hx hb d_MD_putTable_126 rfl (lv_at hl 1 rfl) ?_
                refine lv_iload hx hb d_MD_putTable_127 (lv_at hl 7 rfl) ?_
                refine lv_iload hx hb d_MD_putTable_129 (lv_at hl 9 rfl) ?_
                refine lv_iadd hx hb d_MD_putTable_131 ?_
                rw [show ((1280 + (nI (1 + k))) : Int32) = (nI (1280 + (1 + k))) from nI_add 1280 (1 + k)]
                refine lv_iload hx hb d_MD_putTable_132 (lv_at hl 0 rfl) ?_
                refine sf_callVw (S := Unit) (rest := []) ⟨hx, hb, hml, hown, hts⟩ (c_MD_put l D cI cZ cJ q xth xB xsh xcu xtp xtd xpa xsp xwh xhe xho xtk vt vw ((mn + 1) + k) (nI (1280 + (1 + k))) sl (by omega)) (sf_cwV lk_MD_101 hts (fun _ h => h) (by rw [hR]; exact ⟨Nat.le_of_ble_eq_true rfl, Nat.le_of_ble_eq_true rfl⟩)) hK hP hD hS hA (fun _ => by simp only [md_w_fst]) (ci := 3) (q0 := 0) rfl rfl rfl rfl rfl hl.1 (Nat.le_of_ble_eq_true rfl) d_MD_putTable_134 ⟨Nat.zero_le _, Nat.zero_le _⟩ (fun u H locs hu hP hD hS => ?_)
                have hP : va_P D classes (md_w q cI cZ xth xB xsh xcu xtp xtd xpa xsp xwh xhe xho xtk (upd vt ((mn + 1) + k) (nI (1280 + (1 + k)))) (upd vw ((mn + 1) + k) sl) (nI (((mn + 1) + k) + 1))) H := hP
                have hD : va_D A (md_w q cI cZ xth xB xsh xcu xtp xtd xpa xsp xwh xhe xho xtk (upd vt ((mn + 1) + k) (nI (1280 + (1 + k)))) (upd vw ((mn + 1) + k) sl) (nI (((mn + 1) + k) + 1))) := hD
                refine lv_iinc (v := (nI (1 + (k + 1)))) (lv' := [(8, .int (nI (1 + (k + 1)))), (9, .int sl), (0, .ref (q 0)), (1, .int (nI ro)), (2, .int fi), (3, .int sl), (4, .int (-1)), (5, .int 0), (6, .int 1280), (7, .int 1)]) hx hb d_MD_putTable_137 hl (k := 9) rfl (nI_1 (1 + k)) (by decide) rfl (fun ls hl => ?_)
                refine lv_goto (tgt := 71) hx hb d_MD_putTable_140 (by decide) ?_
                exact ih71 (k + 1) (upd vt ((mn + 1) + k) (nI (1280 + (1 + k)))) (upd vw ((mn + 1) + k) sl) (by omega) (by omega) (by rw [← heq71]; simp only [f_MD_putTable_l71_0, ← hu_1, ← hu_9, eq_false c_4, eq_false c_6, eq_false c_10, eq_true c_11, ↓reduceIte]) _ _ hP hD hS ls (lv_sub hl [2, 3, 4, 5, 6, 7, 8, 9, 0] rfl)
            · refine lv_iload_n hx hb d_MD_putTable_105 rfl (lv_at hl 3 rfl) ?_
              refine lv_goto (tgt := 124) hx hb d_MD_putTable_106 (by decide) ?_
              refine lv_istore (lv' := [(9, .int fi), (0, .ref (q 0)), (1, .int (nI ro)), (2, .int fi), (3, .int sl), (4, .int (-1)), (5, .int 0), (6, .int 1280), (7, .int 1), (8, .int (nI (1 + k)))]) hx hb d_MD_putTable_124 hl (by decide) rfl (fun ls hl => ?_)
              refine lv_aload_n hx hb d_MD_putTable_126 rfl (lv_at hl 1 rfl) ?_
              refine lv_iload hx hb d_MD_putTable_127 (lv_at hl 7 rfl) ?_
              refine lv_iload hx hb d_MD_putTable_129 (lv_at hl 9 rfl) ?_
              refine lv_iadd hx hb d_MD_putTable_131 ?_
              rw [show ((1280 + (nI (1 + k))) : Int32) = (nI (1280 + (1 + k))) from nI_add 1280 (1 + k)]
              refine lv_iload hx hb d_MD_putTable_132 (lv_at hl 0 rfl) ?_
              refine sf_callVw (S := Unit) (rest := []) ⟨hx, hb, hml, hown, hts⟩ (c_MD_put l D cI cZ cJ q xth xB xsh xcu xtp xtd xpa xsp xwh xhe xho xtk vt vw ((mn + 1) + k) (nI (1280 + (1 + k))) fi (by omega)) (sf_cwV lk_MD_101 hts (fun _ h => h) (by rw [hR]; exact ⟨Nat.le_of_ble_eq_true rfl, Nat.le_of_ble_eq_true rfl⟩)) hK hP hD hS hA (fun _ => by simp only [md_w_fst]) (ci := 3) (q0 := 0) rfl rfl rfl rfl rfl hl.1 (Nat.le_of_ble_eq_true rfl) d_MD_putTable_134 ⟨Nat.zero_le _, Nat.zero_le _⟩ (fun u H locs hu hP hD hS => ?_)
              have hP : va_P D classes (md_w q cI cZ xth xB xsh xcu xtp xtd xpa xsp xwh xhe xho xtk (upd vt ((mn + 1) + k) (nI (1280 + (1 + k)))) (upd vw ((mn + 1) + k) fi) (nI (((mn + 1) + k) + 1))) H := hP
              have hD : va_D A (md_w q cI cZ xth xB xsh xcu xtp xtd xpa xsp xwh xhe xho xtk (upd vt ((mn + 1) + k) (nI (1280 + (1 + k)))) (upd vw ((mn + 1) + k) fi) (nI (((mn + 1) + k) + 1))) := hD
              refine lv_iinc (v := (nI (1 + (k + 1)))) (lv' := [(8, .int (nI (1 + (k + 1)))), (9, .int fi), (0, .ref (q 0)), (1, .int (nI ro)), (2, .int fi), (3, .int sl), (4, .int (-1)), (5, .int 0), (6, .int 1280), (7, .int 1)]) hx hb d_MD_putTable_137 hl (k := 9) rfl (nI_1 (1 + k)) (by decide) rfl (fun ls hl => ?_)
              refine lv_goto (tgt := 71) hx hb d_MD_putTable_140 (by decide) ?_
              exact ih71 (k + 1) (upd vt ((mn + 1) + k) (nI (1280 + (1 + k)))) (upd vw ((mn + 1) + k) fi) (by omega) (by omega) (by rw [← heq71]; simp only [f_MD_putTable_l71_0, ← hu_1, ← hu_9, eq_false c_4, eq_false c_6, eq_true c_10, ↓reduceIte]) _ _ hP hD hS ls (lv_sub hl [2, 3, 4, 5, 6, 7, 8, 9, 0] rfl)
    skip
    exact loop71 (35 + 1) 0 (upd xto mn 1280) (upd xwa mn 1) (by omega) (by omega) (by simp only [f_MD_putTable, ← hu_1, eq_true hw9, ↓reduceIte]) _ _ hP hD hS ls (lv_sub hl [5, 6, 7, 8, 4, 3, 2, 1, 0] rfl)
  · rw [hw] at hl
    have hw9 : ¬ u_1 = (-1) := by rw [hw]; decide
    have hw0 : u_1 = 0 := by rw [hw]
    refine lv_iload hx hb d_MD_putTable_6 (lv_at hl 0 rfl) ?_
    refine lv_if_ge (tgt := 15) hx hb d_MD_putTable_8 (by decide) (fun c_12 => ?_) (fun c_12 => absurd (by decide) c_12)
    refine lv_iconst (v := 1) hx hb d_MD_putTable_15 (by decide) ?_
    refine lv_iload hx hb d_MD_putTable_16 (lv_at hl 0 rfl) ?_
    refine lv_isub hx hb d_MD_putTable_18 ?_
    rw [show ((1 - 0) : Int32) = 1 from by decide]
    refine lv_istore (lv' := [(5, .int 1), (4, .int 0), (0, .ref (q 0)), (1, .int (nI ro)), (2, .int fi), (3, .int sl)]) hx hb d_MD_putTable_19 hl (by decide) rfl (fun ls hl => ?_)
    refine lv_sipush (v := 1280) hx hb d_MD_putTable_21 (by decide) ?_
    refine lv_bipush (v := 40) hx hb d_MD_putTable_24 (by decide) ?_
    refine lv_iload hx hb d_MD_putTable_26 (lv_at hl 0 rfl) ?_
    refine lv_imul hx hb d_MD_putTable_28 ?_
    rw [show ((40 * 1) : Int32) = 40 from by decide]
    refine lv_iadd hx hb d_MD_putTable_29 ?_
    rw [show ((1280 + 40) : Int32) = 1320 from by decide]
    refine lv_istore (lv' := [(6, .int 1320), (5, .int 1), (4, .int 0), (0, .ref (q 0)), (1, .int (nI ro)), (2, .int fi), (3, .int sl)]) hx hb d_MD_putTable_30 hl (by decide) rfl (fun ls hl => ?_)
    refine lv_iload hx hb d_MD_putTable_32 (lv_at hl 2 rfl) ?_
    refine lv_if_ge (tgt := 41) hx hb d_MD_putTable_34 (by decide) (fun c_13 => ?_) (fun c_13 => absurd (by decide) c_13)
    refine lv_aload_n hx hb d_MD_putTable_41 rfl (lv_at hl 3 rfl) ?_
    refine va_get (D := D) (ci := 3) (v := .ref (q 1)) (C := R_MD) (T := F_MD) (N := 15) hx hb hts i_MD hown hK hP 0 rfl rfl 1 (by decide) (hts _ wd_576) (fun _ h9 => h9) rfl d_MD_putTable_42 ?_
    refine lv_sipush (v := 1280) hx hb d_MD_putTable_45 (by decide) ?_
    refine lv_bipush (v := 40) hx hb d_MD_putTable_48 (by decide) ?_
    refine lv_iload hx hb d_MD_putTable_50 (lv_at hl 2 rfl) ?_
    refine lv_imul hx hb d_MD_putTable_52 ?_
    rw [show ((40 * 0) : Int32) = 0 from by decide]
    refine lv_iadd hx hb d_MD_putTable_53 ?_
    rw [show ((1280 + 0) : Int32) = 1280 from by decide]
    refine va_iald hx hb hK hP 1 0 rfl rfl (show vp_in 1280 1360 from vp_in_nI (n := 1280) (by omega) (by omega)) d_MD_putTable_54 ?_
    rw [show (1280 : Int32).toNatClampNeg = 1280 from nI_clamp (n := 1280) (by omega)]
    refine sf_callSr (S := Int32) (rest := []) ⟨hx, hb, hml, hown, hts⟩ (c_MD_next l D cI cZ cJ (xB 1280)) (sf_cwS lk_MD_56 hts (fun _ h => h) (by rw [hR]; exact ⟨Nat.le_of_ble_eq_true rfl, Nat.le_of_ble_eq_true rfl⟩)) hK hP hD hS hA [] rfl rfl (fun _ => rfl) rfl rfl hl.1 (Nat.le_of_ble_eq_true rfl) d_MD_putTable_55 ⟨Nat.zero_le _, Nat.zero_le _⟩ (fun u_14 H locs hu_14 hP hS => ?_)
    refine lv_istore (lv' := [(7, .int u_14), (6, .int 1320), (5, .int 1), (4, .int 0), (0, .ref (q 0)), (1, .int (nI ro)), (2, .int fi), (3, .int sl)]) hx hb d_MD_putTable_58 hl (by decide) rfl (fun ls hl => ?_)
    refine lv_aload_n hx hb d_MD_putTable_60 rfl (lv_at hl 4 rfl) ?_
    refine lv_iload hx hb d_MD_putTable_61 (lv_at hl 1 rfl) ?_
    refine lv_iload hx hb d_MD_putTable_63 (lv_at hl 0 rfl) ?_
    refine sf_callVw (S := Unit) (rest := []) ⟨hx, hb, hml, hown, hts⟩ (c_MD_put l D cI cZ cJ q xth xB xsh xcu xtp xtd xpa xsp xwh xhe xho xtk xto xwa mn 1320 u_14 (by omega)) (sf_cwV lk_MD_101 hts (fun _ h => h) (by rw [hR]; exact ⟨Nat.le_of_ble_eq_true rfl, Nat.le_of_ble_eq_true rfl⟩)) hK hP hD hS hA (fun _ => by simp only [md_w_fst]) (ci := 3) (q0 := 0) rfl rfl rfl rfl rfl hl.1 (Nat.le_of_ble_eq_true rfl) d_MD_putTable_65 ⟨Nat.zero_le _, Nat.zero_le _⟩ (fun u H locs hu hP hD hS => ?_)
    have hP : va_P D classes (md_w q cI cZ xth xB xsh xcu xtp xtd xpa xsp xwh xhe xho xtk (upd xto mn 1320) (upd xwa mn u_14) (nI (mn + 1))) H := hP
    have hD : va_D A (md_w q cI cZ xth xB xsh xcu xtp xtd xpa xsp xwh xhe xho xtk (upd xto mn 1320) (upd xwa mn u_14) (nI (mn + 1))) := hD
    refine lv_iconst (v := 1) hx hb d_MD_putTable_68 (by decide) ?_
    refine lv_istore (lv' := [(8, .int 1), (7, .int u_14), (6, .int 1320), (5, .int 1), (4, .int 0), (0, .ref (q 0)), (1, .int (nI ro)), (2, .int fi), (3, .int sl)]) hx hb d_MD_putTable_69 hl (by decide) rfl (fun ls hl => ?_)
    have loop71 : ∀ (fu k : Nat) (vt : (Nat → Int32)) (vw : (Nat → Int32)), k ≤ 35 → k + fu = 35 + 1 → f_MD_putTable_l71_1 xB mn ro fi sl fu k vt vw = f_MD_putTable xB xto xwa mn ro fi sl → ∀ (H : Heap) (locs : List Loc), va_P D classes (md_w q cI cZ xth xB xsh xcu xtp xtd xpa xsp xwh xhe xho xtk vt vw (nI ((mn + 1) + k))) H → va_D A (md_w q cI cZ xth xB xsh xcu xtp xtd xpa xsp xwh xhe xho xtk vt vw (nI ((mn + 1) + k))) → va_S A s.heap H locs → ∀ (ls : Array Slot), lv_has ls 10 [(0, .ref (q 0)), (1, .int (nI ro)), (2, .int fi), (3, .int sl), (4, .int 0), (5, .int 1), (6, .int 1320), (7, .int u_14), (8, .int (nI (1 + k)))] → W p l e R s m args below meth c H locs 0 0 Q (F0 m 71 ls []) := by
      intro fu
      induction fu with
      | zero =>
        intro k vt vw h1 h2
        exact absurd h2 (by omega)
      | succ fu ih71 =>
        intro k vt vw hk71 hkn71 heq71 H locs hP hD hS ls hl
        refine lv_iload hx hb d_MD_putTable_71 (lv_at hl 8 rfl) ?_
        refine lv_bipush (v := 36) hx hb d_MD_putTable_73 (by decide) ?_
        refine lv_icmp_ge (tgt := 143) hx hb d_MD_putTable_75 (by decide) (fun c_15 => ?_) (fun c_15 => ?_)
        · have hle9 : 36 ≤ 1 + k := (nI_leI (a := 36) (by omega) (by omega)).mp c_15
          have hk9 : k = 35 := by omega
          subst hk9
          refine lv_aload_n hx hb d_MD_putTable_143 rfl (lv_at hl 0 rfl) ?_
          refine lv_bipush (v := 36) hx hb d_MD_putTable_144 (by decide) ?_
          refine lv_iload hx hb d_MD_putTable_146 (lv_at hl 6 rfl) ?_
          refine sf_callVw (S := ((Nat → Int32) × (Nat → Int32))) (rest := []) ⟨hx, hb, hml, hown, hts⟩ (c_MD_putSum l D cI cZ cJ q xth xB xsh xcu xtp xtd xpa xsp xwh xhe xho xtk vt vw ((mn + 1) + 35) 36 1320 (by omega) (by omega)) (sf_cwV lk_MD_108 hts (fun _ h => h) (by rw [hR]; exact ⟨Nat.le_of_ble_eq_true rfl, Nat.le_of_ble_eq_true rfl⟩)) hK hP hD hS hA (fun _ => by simp only [md_w_fst]) (ci := 3) (q0 := 0) rfl rfl rfl rfl rfl hl.1 (Nat.le_of_ble_eq_true rfl) d_MD_putTable_148 ⟨Nat.zero_le _, Nat.zero_le _⟩ (fun u_16 H locs hu_16 hP hD hS => ?_)
          have hP : va_P D classes (md_w q cI cZ xth xB xsh xcu xtp xtd xpa xsp xwh xhe xho xtk u_16.1 u_16.2 (nI (((mn + 1) + 35) + 4))) H := hP
          have hD : va_D A (md_w q cI cZ xth xB xsh xcu xtp xtd xpa xsp xwh xhe xho xtk u_16.1 u_16.2 (nI (((mn + 1) + 35) + 4))) := hD
          rw [hQ]
          exact sf_vret (u_16.1, u_16.2) hx hb hr hlk hS rfl (by rw [← heq71]; simp only [f_MD_putTable_l71_1, ← hu_1, ← hu_14, ← hu_16, eq_true c_15, ↓reduceIte]) hP d_MD_putTable_151
        · have hlt : k < 35 := by have := sf_lt_of (N := 36) (k := 1 + k) (by omega) (by omega) c_15; omega
          refine lv_iload hx hb d_MD_putTable_78 (lv_at hl 8 rfl) ?_
          refine lv_bipush (v := 25) hx hb d_MD_putTable_80 (by decide) ?_
          refine lv_icmp_ge (tgt := 94) hx hb d_MD_putTable_82 (by decide) (fun c_17 => ?_) (fun c_17 => ?_)
          · refine lv_iconst (v := 0) hx hb d_MD_putTable_94 (by decide) ?_
            refine lv_istore (lv' := [(9, .int 0), (0, .ref (q 0)), (1, .int (nI ro)), (2, .int fi), (3, .int sl), (4, .int 0), (5, .int 1), (6, .int 1320), (7, .int u_14), (8, .int (nI (1 + k)))]) hx hb d_MD_putTable_95 hl (by decide) rfl (fun ls hl => ?_)
            refine lv_iload hx hb d_MD_putTable_97 (lv_at hl 9 rfl) ?_
            refine lv_iconst (v := 1) hx hb d_MD_putTable_99 (by decide) ?_
            refine lv_iload_n hx hb d_MD_putTable_100 rfl (lv_at hl 2 rfl) ?_
            refine lv_iadd hx hb d_MD_putTable_101 ?_
            rw [show ((1 + (nI ro)) : Int32) = (nI (1 + ro)) from nI_add 1 ro]
            refine lv_icmp_ne (tgt := 109) hx hb d_MD_putTable_102 (by decide) (fun c_18 => ?_) (fun c_18 => ?_)
            · refine lv_iload hx hb d_MD_putTable_109 (lv_at hl 9 rfl) ?_
              refine lv_bipush (v := 13) hx hb d_MD_putTable_111 (by decide) ?_
              refine lv_iload_n hx hb d_MD_putTable_113 rfl (lv_at hl 2 rfl) ?_
              refine lv_iadd hx hb d_MD_putTable_114 ?_
              rw [show ((13 + (nI ro)) : Int32) = (nI (13 + ro)) from nI_add 13 ro]
              refine lv_icmp_ne (tgt := 122) hx hb d_MD_putTable_115 (by decide) (fun c_19 => ?_) (fun c_19 => ?_)
              · refine lv_iload hx hb d_MD_putTable_122 (lv_at hl 0 rfl) ?_
                refine lv_istore (lv' := [(9, .int 0), (0, .ref (q 0)), (1, .int (nI ro)), (2, .int fi), (3, .int sl), (4, .int 0), (5, .int 1), (6, .int 1320), (7, .int u_14), (8, .int (nI (1 + k)))]) hx hb d_MD_putTable_124 hl (by decide) rfl (fun ls hl => ?_)
                refine lv_aload_n hx hb d_MD_putTable_126 rfl (lv_at hl 1 rfl) ?_
                refine lv_iload hx hb d_MD_putTable_127 (lv_at hl 7 rfl) ?_
                refine lv_iload hx hb d_MD_putTable_129 (lv_at hl 9 rfl) ?_
                refine lv_iadd hx hb d_MD_putTable_131 ?_
                rw [show ((1320 + (nI (1 + k))) : Int32) = (nI (1320 + (1 + k))) from nI_add 1320 (1 + k)]
                refine lv_iload hx hb d_MD_putTable_132 (lv_at hl 0 rfl) ?_
                refine sf_callVw (S := Unit) (rest := []) ⟨hx, hb, hml, hown, hts⟩ (c_MD_put l D cI cZ cJ q xth xB xsh xcu xtp xtd xpa xsp xwh xhe xho xtk vt vw ((mn + 1) + k) (nI (1320 + (1 + k))) 0 (by omega)) (sf_cwV lk_MD_101 hts (fun _ h => h) (by rw [hR]; exact ⟨Nat.le_of_ble_eq_true rfl, Nat.le_of_ble_eq_true rfl⟩)) hK hP hD hS hA (fun _ => by simp only [md_w_fst]) (ci := 3) (q0 := 0) rfl rfl rfl rfl rfl hl.1 (Nat.le_of_ble_eq_true rfl) d_MD_putTable_134 ⟨Nat.zero_le _, Nat.zero_le _⟩ (fun u H locs hu hP hD hS => ?_)
                have hP : va_P D classes (md_w q cI cZ xth xB xsh xcu xtp xtd xpa xsp xwh xhe xho xtk (upd vt ((mn + 1) + k) (nI (1320 + (1 + k)))) (upd vw ((mn + 1) + k) 0) (nI (((mn + 1) + k) + 1))) H := hP
                have hD : va_D A (md_w q cI cZ xth xB xsh xcu xtp xtd xpa xsp xwh xhe xho xtk (upd vt ((mn + 1) + k) (nI (1320 + (1 + k)))) (upd vw ((mn + 1) + k) 0) (nI (((mn + 1) + k) + 1))) := hD
                refine lv_iinc (v := (nI (1 + (k + 1)))) (lv' := [(8, .int (nI (1 + (k + 1)))), (9, .int 0), (0, .ref (q 0)), (1, .int (nI ro)), (2, .int fi), (3, .int sl), (4, .int 0), (5, .int 1), (6, .int 1320), (7, .int u_14)]) hx hb d_MD_putTable_137 hl (k := 9) rfl (nI_1 (1 + k)) (by decide) rfl (fun ls hl => ?_)
                refine lv_goto (tgt := 71) hx hb d_MD_putTable_140 (by decide) ?_
                exact ih71 (k + 1) (upd vt ((mn + 1) + k) (nI (1320 + (1 + k)))) (upd vw ((mn + 1) + k) 0) (by omega) (by omega) (by rw [← heq71]; simp only [f_MD_putTable_l71_1, ← hu_1, ← hu_14, eq_false c_15, eq_true c_17, eq_false c_18, eq_false c_19, ↓reduceIte]) _ _ hP hD hS ls (lv_sub hl [2, 3, 4, 5, 6, 7, 8, 9, 0] rfl)
              · refine lv_iload_n hx hb d_MD_putTable_118 rfl (lv_at hl 4 rfl) ?_
                refine lv_goto (tgt := 124) hx hb d_MD_putTable_119 (by decide) ?_
                refine lv_istore (lv' := [(9, .int sl), (0, .ref (q 0)), (1, .int (nI ro)), (2, .int fi), (3, .int sl), (4, .int 0), (5, .int 1), (6, .int 1320), (7, .int u_14), (8, .int (nI (1 + k)))]) hx hb d_MD_putTable_124 hl (by decide) rfl (fun ls hl => ?_)
                refine lv_aload_n hx hb d_MD_putTable_126 rfl (lv_at hl 1 rfl) ?_
                refine lv_iload hx hb d_MD_putTable_127 (lv_at hl 7 rfl) ?_
                refine lv_iload hx hb d_MD_putTable_129 (lv_at hl 9 rfl) ?_
                refine lv_iadd hx hb d_MD_putTable_131 ?_
                rw [show ((1320 + (nI (1 + k))) : Int32) = (nI (1320 + (1 + k))) from nI_add 1320 (1 + k)]
                refine lv_iload hx hb d_MD_putTable_132 (lv_at hl 0 rfl) ?_
                refine sf_callVw (S := Unit) (rest := []) ⟨hx, hb, hml, hown, hts⟩ (c_MD_put l D cI cZ cJ q xth xB xsh xcu xtp xtd xpa xsp xwh xhe xho xtk vt vw ((mn + 1) + k) (nI (1320 + (1 + k))) sl (by omega)) (sf_cwV lk_MD_101 hts (fun _ h => h) (by rw [hR]; exact ⟨Nat.le_of_ble_eq_true rfl, Nat.le_of_ble_eq_true rfl⟩)) hK hP hD hS hA (fun _ => by simp only [md_w_fst]) (ci := 3) (q0 := 0) rfl rfl rfl rfl rfl hl.1 (Nat.le_of_ble_eq_true rfl) d_MD_putTable_134 ⟨Nat.zero_le _, Nat.zero_le _⟩ (fun u H locs hu hP hD hS => ?_)
                have hP : va_P D classes (md_w q cI cZ xth xB xsh xcu xtp xtd xpa xsp xwh xhe xho xtk (upd vt ((mn + 1) + k) (nI (1320 + (1 + k)))) (upd vw ((mn + 1) + k) sl) (nI (((mn + 1) + k) + 1))) H := hP
                have hD : va_D A (md_w q cI cZ xth xB xsh xcu xtp xtd xpa xsp xwh xhe xho xtk (upd vt ((mn + 1) + k) (nI (1320 + (1 + k)))) (upd vw ((mn + 1) + k) sl) (nI (((mn + 1) + k) + 1))) := hD
                refine lv_iinc (v := (nI (1 + (k + 1)))) (lv' := [(8, .int (nI (1 + (k + 1)))), (9, .int sl), (0, .ref (q 0)), (1, .int (nI ro)), (2, .int fi), (3, .int sl), (4, .int 0), (5, .int 1), (6, .int 1320), (7, .int u_14)]) hx hb d_MD_putTable_137 hl (k := 9) rfl (nI_1 (1 + k)) (by decide) rfl (fun ls hl => ?_)
                refine lv_goto (tgt := 71) hx hb d_MD_putTable_140 (by decide) ?_
                exact ih71 (k + 1) (upd vt ((mn + 1) + k) (nI (1320 + (1 + k)))) (upd vw ((mn + 1) + k) sl) (by omega) (by omega) (by rw [← heq71]; simp only [f_MD_putTable_l71_1, ← hu_1, ← hu_14, eq_false c_15, eq_true c_17, eq_false c_18, eq_true c_19, ↓reduceIte]) _ _ hP hD hS ls (lv_sub hl [2, 3, 4, 5, 6, 7, 8, 9, 0] rfl)
            · refine lv_iload_n hx hb d_MD_putTable_105 rfl (lv_at hl 3 rfl) ?_
              refine lv_goto (tgt := 124) hx hb d_MD_putTable_106 (by decide) ?_
              refine lv_istore (lv' := [(9, .int fi), (0, .ref (q 0)), (1, .int (nI ro)), (2, .int fi), (3, .int sl), (4, .int 0), (5, .int 1), (6, .int 1320), (7, .int u_14), (8, .int (nI (1 + k)))]) hx hb d_MD_putTable_124 hl (by decide) rfl (fun ls hl => ?_)
              refine lv_aload_n hx hb d_MD_putTable_126 rfl (lv_at hl 1 rfl) ?_
              refine lv_iload hx hb d_MD_putTable_127 (lv_at hl 7 rfl) ?_
              refine lv_iload hx hb d_MD_putTable_129 (lv_at hl 9 rfl) ?_
              refine lv_iadd hx hb d_MD_putTable_131 ?_
              rw [show ((1320 + (nI (1 + k))) : Int32) = (nI (1320 + (1 + k))) from nI_add 1320 (1 + k)]
              refine lv_iload hx hb d_MD_putTable_132 (lv_at hl 0 rfl) ?_
              refine sf_callVw (S := Unit) (rest := []) ⟨hx, hb, hml, hown, hts⟩ (c_MD_put l D cI cZ cJ q xth xB xsh xcu xtp xtd xpa xsp xwh xhe xho xtk vt vw ((mn + 1) + k) (nI (1320 + (1 + k))) fi (by omega)) (sf_cwV lk_MD_101 hts (fun _ h => h) (by rw [hR]; exact ⟨Nat.le_of_ble_eq_true rfl, Nat.le_of_ble_eq_true rfl⟩)) hK hP hD hS hA (fun _ => by simp only [md_w_fst]) (ci := 3) (q0 := 0) rfl rfl rfl rfl rfl hl.1 (Nat.le_of_ble_eq_true rfl) d_MD_putTable_134 ⟨Nat.zero_le _, Nat.zero_le _⟩ (fun u H locs hu hP hD hS => ?_)
              have hP : va_P D classes (md_w q cI cZ xth xB xsh xcu xtp xtd xpa xsp xwh xhe xho xtk (upd vt ((mn + 1) + k) (nI (1320 + (1 + k)))) (upd vw ((mn + 1) + k) fi) (nI (((mn + 1) + k) + 1))) H := hP
              have hD : va_D A (md_w q cI cZ xth xB xsh xcu xtp xtd xpa xsp xwh xhe xho xtk (upd vt ((mn + 1) + k) (nI (1320 + (1 + k)))) (upd vw ((mn + 1) + k) fi) (nI (((mn + 1) + k) + 1))) := hD
              refine lv_iinc (v := (nI (1 + (k + 1)))) (lv' := [(8, .int (nI (1 + (k + 1)))), (9, .int fi), (0, .ref (q 0)), (1, .int (nI ro)), (2, .int fi), (3, .int sl), (4, .int 0), (5, .int 1), (6, .int 1320), (7, .int u_14)]) hx hb d_MD_putTable_137 hl (k := 9) rfl (nI_1 (1 + k)) (by decide) rfl (fun ls hl => ?_)
              refine lv_goto (tgt := 71) hx hb d_MD_putTable_140 (by decide) ?_
              exact ih71 (k + 1) (upd vt ((mn + 1) + k) (nI (1320 + (1 + k)))) (upd vw ((mn + 1) + k) fi) (by omega) (by omega) (by rw [← heq71]; simp only [f_MD_putTable_l71_1, ← hu_1, ← hu_14, eq_false c_15, eq_true c_17, eq_true c_18, ↓reduceIte]) _ _ hP hD hS ls (lv_sub hl [2, 3, 4, 5, 6, 7, 8, 9, 0] rfl)
          · refine lv_aload_n hx hb d_MD_putTable_85 rfl (lv_at hl 0 rfl) ?_
            refine lv_iload hx hb d_MD_putTable_86 (lv_at hl 8 rfl) ?_
            refine sf_callVw (S := Int32) (rest := []) ⟨hx, hb, hml, hown, hts⟩ (c_MD_entry l D cI cZ cJ q xth xB xsh xcu xtp xtd xpa xsp xwh xhe xho xtk vt vw (nI ((mn + 1) + k)) (1 + k) (by omega)) (sf_cwV lk_MD_64 hts (fun _ h => h) (by rw [hR]; exact ⟨Nat.le_of_ble_eq_true rfl, Nat.le_of_ble_eq_true rfl⟩)) hK hP hD hS hA (fun _ => by simp only [md_w_fst]) (ci := 3) (q0 := 0) rfl rfl rfl rfl rfl hl.1 (Nat.le_of_ble_eq_true rfl) d_MD_putTable_88 ⟨Nat.zero_le _, Nat.zero_le _⟩ (fun u_20 H locs hu_20 hP hD hS => ?_)
            have hP : va_P D classes (md_w q cI cZ xth xB xsh xcu xtp xtd xpa xsp xwh xhe xho xtk vt vw (nI ((mn + 1) + k))) H := hP
            have hD : va_D A (md_w q cI cZ xth xB xsh xcu xtp xtd xpa xsp xwh xhe xho xtk vt vw (nI ((mn + 1) + k))) := hD
            refine lv_goto (tgt := 95) hx hb d_MD_putTable_91 (by decide) ?_
            refine lv_istore (lv' := [(9, .int u_20), (0, .ref (q 0)), (1, .int (nI ro)), (2, .int fi), (3, .int sl), (4, .int 0), (5, .int 1), (6, .int 1320), (7, .int u_14), (8, .int (nI (1 + k)))]) hx hb d_MD_putTable_95 hl (by decide) rfl (fun ls hl => ?_)
            refine lv_iload hx hb d_MD_putTable_97 (lv_at hl 9 rfl) ?_
            refine lv_iconst (v := 1) hx hb d_MD_putTable_99 (by decide) ?_
            refine lv_iload_n hx hb d_MD_putTable_100 rfl (lv_at hl 2 rfl) ?_
            refine lv_iadd hx hb d_MD_putTable_101 ?_
            rw [show ((1 + (nI ro)) : Int32) = (nI (1 + ro)) from nI_add 1 ro]
            refine lv_icmp_ne (tgt := 109) hx hb d_MD_putTable_102 (by decide) (fun c_21 => ?_) (fun c_21 => ?_)
            · refine lv_iload hx hb d_MD_putTable_109 (lv_at hl 9 rfl) ?_
              refine lv_bipush (v := 13) hx hb d_MD_putTable_111 (by decide) ?_
              refine lv_iload_n hx hb d_MD_putTable_113 rfl (lv_at hl 2 rfl) ?_
              refine lv_iadd hx hb d_MD_putTable_114 ?_
              rw [show ((13 + (nI ro)) : Int32) = (nI (13 + ro)) from nI_add 13 ro]
              refine lv_icmp_ne (tgt := 122) hx hb d_MD_putTable_115 (by decide) (fun c_22 => ?_) (fun c_22 => ?_)
              · refine lv_iload hx hb d_MD_putTable_122 (lv_at hl 0 rfl) ?_
                refine lv_istore (lv' := [(9, .int u_20), (0, .ref (q 0)), (1, .int (nI ro)), (2, .int fi), (3, .int sl), (4, .int 0), (5, .int 1), (6, .int 1320), (7, .int u_14), (8, .int (nI (1 + k)))]) hx hb d_MD_putTable_124 hl (by decide) rfl (fun ls hl => ?_)
                refine lv_aload_n hx hb d_MD_putTable_126 rfl (lv_at hl 1 rfl) ?_
                refine lv_iload hx hb d_MD_putTable_127 (lv_at hl 7 rfl) ?_
                refine lv_iload hx hb d_MD_putTable_129 (lv_at hl 9 rfl) ?_
                refine lv_iadd hx hb d_MD_putTable_131 ?_
                rw [show ((1320 + (nI (1 + k))) : Int32) = (nI (1320 + (1 + k))) from nI_add 1320 (1 + k)]
                refine lv_iload hx hb d_MD_putTable_132 (lv_at hl 0 rfl) ?_
                refine sf_callVw (S := Unit) (rest := []) ⟨hx, hb, hml, hown, hts⟩ (c_MD_put l D cI cZ cJ q xth xB xsh xcu xtp xtd xpa xsp xwh xhe xho xtk vt vw ((mn + 1) + k) (nI (1320 + (1 + k))) u_20 (by omega)) (sf_cwV lk_MD_101 hts (fun _ h => h) (by rw [hR]; exact ⟨Nat.le_of_ble_eq_true rfl, Nat.le_of_ble_eq_true rfl⟩)) hK hP hD hS hA (fun _ => by simp only [md_w_fst]) (ci := 3) (q0 := 0) rfl rfl rfl rfl rfl hl.1 (Nat.le_of_ble_eq_true rfl) d_MD_putTable_134 ⟨Nat.zero_le _, Nat.zero_le _⟩ (fun u H locs hu hP hD hS => ?_)
                have hP : va_P D classes (md_w q cI cZ xth xB xsh xcu xtp xtd xpa xsp xwh xhe xho xtk (upd vt ((mn + 1) + k) (nI (1320 + (1 + k)))) (upd vw ((mn + 1) + k) u_20) (nI (((mn + 1) + k) + 1))) H := hP
                have hD : va_D A (md_w q cI cZ xth xB xsh xcu xtp xtd xpa xsp xwh xhe xho xtk (upd vt ((mn + 1) + k) (nI (1320 + (1 + k)))) (upd vw ((mn + 1) + k) u_20) (nI (((mn + 1) + k) + 1))) := hD
                refine lv_iinc (v := (nI (1 + (k + 1)))) (lv' := [(8, .int (nI (1 + (k + 1)))), (9, .int u_20), (0, .ref (q 0)), (1, .int (nI ro)), (2, .int fi), (3, .int sl), (4, .int 0), (5, .int 1), (6, .int 1320), (7, .int u_14)]) hx hb d_MD_putTable_137 hl (k := 9) rfl (nI_1 (1 + k)) (by decide) rfl (fun ls hl => ?_)
                refine lv_goto (tgt := 71) hx hb d_MD_putTable_140 (by decide) ?_
                exact ih71 (k + 1) (upd vt ((mn + 1) + k) (nI (1320 + (1 + k)))) (upd vw ((mn + 1) + k) u_20) (by omega) (by omega) (by rw [← heq71]; simp only [f_MD_putTable_l71_1, ← hu_1, ← hu_14, ← hu_20, eq_false c_15, eq_false c_17, eq_false c_21, eq_false c_22, ↓reduceIte]) _ _ hP hD hS ls (lv_sub hl [2, 3, 4, 5, 6, 7, 8, 9, 0] rfl)
              · refine lv_iload_n hx hb d_MD_putTable_118 rfl (lv_at hl 4 rfl) ?_
                refine lv_goto (tgt := 124) hx hb d_MD_putTable_119 (by decide) ?_
                refine lv_istore (lv' := [(9, .int sl), (0, .ref (q 0)), (1, .int (nI ro)), (2, .int fi), (3, .int sl), (4, .int 0), (5, .int 1), (6, .int 1320), (7, .int u_14), (8, .int (nI (1 + k)))]) hx hb d_MD_putTable_124 hl (by decide) rfl (fun ls hl => ?_)
                refine lv_aload_n hx hb d_MD_putTable_126 rfl (lv_at hl 1 rfl) ?_
                refine lv_iload hx hb d_MD_putTable_127 (lv_at hl 7 rfl) ?_
                refine lv_iload hx hb d_MD_putTable_129 (lv_at hl 9 rfl) ?_
                refine lv_iadd hx hb d_MD_putTable_131 ?_
                rw [show ((1320 + (nI (1 + k))) : Int32) = (nI (1320 + (1 + k))) from nI_add 1320 (1 + k)]
                refine lv_iload hx hb d_MD_putTable_132 (lv_at hl 0 rfl) ?_
                refine sf_callVw (S := Unit) (rest := []) ⟨hx, hb, hml, hown, hts⟩ (c_MD_put l D cI cZ cJ q xth xB xsh xcu xtp xtd xpa xsp xwh xhe xho xtk vt vw ((mn + 1) + k) (nI (1320 + (1 + k))) sl (by omega)) (sf_cwV lk_MD_101 hts (fun _ h => h) (by rw [hR]; exact ⟨Nat.le_of_ble_eq_true rfl, Nat.le_of_ble_eq_true rfl⟩)) hK hP hD hS hA (fun _ => by simp only [md_w_fst]) (ci := 3) (q0 := 0) rfl rfl rfl rfl rfl hl.1 (Nat.le_of_ble_eq_true rfl) d_MD_putTable_134 ⟨Nat.zero_le _, Nat.zero_le _⟩ (fun u H locs hu hP hD hS => ?_)
                have hP : va_P D classes (md_w q cI cZ xth xB xsh xcu xtp xtd xpa xsp xwh xhe xho xtk (upd vt ((mn + 1) + k) (nI (1320 + (1 + k)))) (upd vw ((mn + 1) + k) sl) (nI (((mn + 1) + k) + 1))) H := hP
                have hD : va_D A (md_w q cI cZ xth xB xsh xcu xtp xtd xpa xsp xwh xhe xho xtk (upd vt ((mn + 1) + k) (nI (1320 + (1 + k)))) (upd vw ((mn + 1) + k) sl) (nI (((mn + 1) + k) + 1))) := hD
                refine lv_iinc (v := (nI (1 + (k + 1)))) (lv' := [(8, .int (nI (1 + (k + 1)))), (9, .int sl), (0, .ref (q 0)), (1, .int (nI ro)), (2, .int fi), (3, .int sl), (4, .int 0), (5, .int 1), (6, .int 1320), (7, .int u_14)]) hx hb d_MD_putTable_137 hl (k := 9) rfl (nI_1 (1 + k)) (by decide) rfl (fun ls hl => ?_)
                refine lv_goto (tgt := 71) hx hb d_MD_putTable_140 (by decide) ?_
                exact ih71 (k + 1) (upd vt ((mn + 1) + k) (nI (1320 + (1 + k)))) (upd vw ((mn + 1) + k) sl) (by omega) (by omega) (by rw [← heq71]; simp only [f_MD_putTable_l71_1, ← hu_1, ← hu_14, ← hu_20, eq_false c_15, eq_false c_17, eq_false c_21, eq_true c_22, ↓reduceIte]) _ _ hP hD hS ls (lv_sub hl [2, 3, 4, 5, 6, 7, 8, 9, 0] rfl)
            · refine lv_iload_n hx hb d_MD_putTable_105 rfl (lv_at hl 3 rfl) ?_
              refine lv_goto (tgt := 124) hx hb d_MD_putTable_106 (by decide) ?_
              refine lv_istore (lv' := [(9, .int fi), (0, .ref (q 0)), (1, .int (nI ro)), (2, .int fi), (3, .int sl), (4, .int 0), (5, .int 1), (6, .int 1320), (7, .int u_14), (8, .int (nI (1 + k)))]) hx hb d_MD_putTable_124 hl (by decide) rfl (fun ls hl => ?_)
              refine lv_aload_n hx hb d_MD_putTable_126 rfl (lv_at hl 1 rfl) ?_
              refine lv_iload hx hb d_MD_putTable_127 (lv_at hl 7 rfl) ?_
              refine lv_iload hx hb d_MD_putTable_129 (lv_at hl 9 rfl) ?_
              refine lv_iadd hx hb d_MD_putTable_131 ?_
              rw [show ((1320 + (nI (1 + k))) : Int32) = (nI (1320 + (1 + k))) from nI_add 1320 (1 + k)]
              refine lv_iload hx hb d_MD_putTable_132 (lv_at hl 0 rfl) ?_
              refine sf_callVw (S := Unit) (rest := []) ⟨hx, hb, hml, hown, hts⟩ (c_MD_put l D cI cZ cJ q xth xB xsh xcu xtp xtd xpa xsp xwh xhe xho xtk vt vw ((mn + 1) + k) (nI (1320 + (1 + k))) fi (by omega)) (sf_cwV lk_MD_101 hts (fun _ h => h) (by rw [hR]; exact ⟨Nat.le_of_ble_eq_true rfl, Nat.le_of_ble_eq_true rfl⟩)) hK hP hD hS hA (fun _ => by simp only [md_w_fst]) (ci := 3) (q0 := 0) rfl rfl rfl rfl rfl hl.1 (Nat.le_of_ble_eq_true rfl) d_MD_putTable_134 ⟨Nat.zero_le _, Nat.zero_le _⟩ (fun u H locs hu hP hD hS => ?_)
              have hP : va_P D classes (md_w q cI cZ xth xB xsh xcu xtp xtd xpa xsp xwh xhe xho xtk (upd vt ((mn + 1) + k) (nI (1320 + (1 + k)))) (upd vw ((mn + 1) + k) fi) (nI (((mn + 1) + k) + 1))) H := hP
              have hD : va_D A (md_w q cI cZ xth xB xsh xcu xtp xtd xpa xsp xwh xhe xho xtk (upd vt ((mn + 1) + k) (nI (1320 + (1 + k)))) (upd vw ((mn + 1) + k) fi) (nI (((mn + 1) + k) + 1))) := hD
              refine lv_iinc (v := (nI (1 + (k + 1)))) (lv' := [(8, .int (nI (1 + (k + 1)))), (9, .int fi), (0, .ref (q 0)), (1, .int (nI ro)), (2, .int fi), (3, .int sl), (4, .int 0), (5, .int 1), (6, .int 1320), (7, .int u_14)]) hx hb d_MD_putTable_137 hl (k := 9) rfl (nI_1 (1 + k)) (by decide) rfl (fun ls hl => ?_)
              refine lv_goto (tgt := 71) hx hb d_MD_putTable_140 (by decide) ?_
              exact ih71 (k + 1) (upd vt ((mn + 1) + k) (nI (1320 + (1 + k)))) (upd vw ((mn + 1) + k) fi) (by omega) (by omega) (by rw [← heq71]; simp only [f_MD_putTable_l71_1, ← hu_1, ← hu_14, ← hu_20, eq_false c_15, eq_false c_17, eq_true c_21, ↓reduceIte]) _ _ hP hD hS ls (lv_sub hl [2, 3, 4, 5, 6, 7, 8, 9, 0] rfl)
    skip
    exact loop71 (35 + 1) 0 (upd xto mn 1320) (upd xwa mn u_14) (by omega) (by omega) (by simp only [f_MD_putTable, ← hu_1, ← hu_14, eq_false hw9, eq_true hw0, ↓reduceIte]) _ _ hP hD hS ls (lv_sub hl [5, 6, 7, 8, 4, 3, 2, 1, 0] rfl)
  · rw [hw] at hl
    have hw9 : ¬ u_1 = (-1) := by rw [hw]; decide
    have hw0 : ¬ u_1 = 0 := by rw [hw]; decide
    refine lv_iload hx hb d_MD_putTable_6 (lv_at hl 0 rfl) ?_
    refine lv_if_ge (tgt := 15) hx hb d_MD_putTable_8 (by decide) (fun c_23 => ?_) (fun c_23 => absurd (by decide) c_23)
    refine lv_iconst (v := 1) hx hb d_MD_putTable_15 (by decide) ?_
    refine lv_iload hx hb d_MD_putTable_16 (lv_at hl 0 rfl) ?_
    refine lv_isub hx hb d_MD_putTable_18 ?_
    rw [show ((1 - 1) : Int32) = 0 from by decide]
    refine lv_istore (lv' := [(5, .int 0), (4, .int 1), (0, .ref (q 0)), (1, .int (nI ro)), (2, .int fi), (3, .int sl)]) hx hb d_MD_putTable_19 hl (by decide) rfl (fun ls hl => ?_)
    refine lv_sipush (v := 1280) hx hb d_MD_putTable_21 (by decide) ?_
    refine lv_bipush (v := 40) hx hb d_MD_putTable_24 (by decide) ?_
    refine lv_iload hx hb d_MD_putTable_26 (lv_at hl 0 rfl) ?_
    refine lv_imul hx hb d_MD_putTable_28 ?_
    rw [show ((40 * 0) : Int32) = 0 from by decide]
    refine lv_iadd hx hb d_MD_putTable_29 ?_
    rw [show ((1280 + 0) : Int32) = 1280 from by decide]
    refine lv_istore (lv' := [(6, .int 1280), (5, .int 0), (4, .int 1), (0, .ref (q 0)), (1, .int (nI ro)), (2, .int fi), (3, .int sl)]) hx hb d_MD_putTable_30 hl (by decide) rfl (fun ls hl => ?_)
    refine lv_iload hx hb d_MD_putTable_32 (lv_at hl 2 rfl) ?_
    refine lv_if_ge (tgt := 41) hx hb d_MD_putTable_34 (by decide) (fun c_24 => ?_) (fun c_24 => absurd (by decide) c_24)
    refine lv_aload_n hx hb d_MD_putTable_41 rfl (lv_at hl 3 rfl) ?_
    refine va_get (D := D) (ci := 3) (v := .ref (q 1)) (C := R_MD) (T := F_MD) (N := 15) hx hb hts i_MD hown hK hP 0 rfl rfl 1 (by decide) (hts _ wd_576) (fun _ h9 => h9) rfl d_MD_putTable_42 ?_
    refine lv_sipush (v := 1280) hx hb d_MD_putTable_45 (by decide) ?_
    refine lv_bipush (v := 40) hx hb d_MD_putTable_48 (by decide) ?_
    refine lv_iload hx hb d_MD_putTable_50 (lv_at hl 2 rfl) ?_
    refine lv_imul hx hb d_MD_putTable_52 ?_
    rw [show ((40 * 1) : Int32) = 40 from by decide]
    refine lv_iadd hx hb d_MD_putTable_53 ?_
    rw [show ((1280 + 40) : Int32) = 1320 from by decide]
    refine va_iald hx hb hK hP 1 0 rfl rfl (show vp_in 1320 1360 from vp_in_nI (n := 1320) (by omega) (by omega)) d_MD_putTable_54 ?_
    rw [show (1320 : Int32).toNatClampNeg = 1320 from nI_clamp (n := 1320) (by omega)]
    refine sf_callSr (S := Int32) (rest := []) ⟨hx, hb, hml, hown, hts⟩ (c_MD_next l D cI cZ cJ (xB 1320)) (sf_cwS lk_MD_56 hts (fun _ h => h) (by rw [hR]; exact ⟨Nat.le_of_ble_eq_true rfl, Nat.le_of_ble_eq_true rfl⟩)) hK hP hD hS hA [] rfl rfl (fun _ => rfl) rfl rfl hl.1 (Nat.le_of_ble_eq_true rfl) d_MD_putTable_55 ⟨Nat.zero_le _, Nat.zero_le _⟩ (fun u_25 H locs hu_25 hP hS => ?_)
    refine lv_istore (lv' := [(7, .int u_25), (6, .int 1280), (5, .int 0), (4, .int 1), (0, .ref (q 0)), (1, .int (nI ro)), (2, .int fi), (3, .int sl)]) hx hb d_MD_putTable_58 hl (by decide) rfl (fun ls hl => ?_)
    refine lv_aload_n hx hb d_MD_putTable_60 rfl (lv_at hl 4 rfl) ?_
    refine lv_iload hx hb d_MD_putTable_61 (lv_at hl 1 rfl) ?_
    refine lv_iload hx hb d_MD_putTable_63 (lv_at hl 0 rfl) ?_
    refine sf_callVw (S := Unit) (rest := []) ⟨hx, hb, hml, hown, hts⟩ (c_MD_put l D cI cZ cJ q xth xB xsh xcu xtp xtd xpa xsp xwh xhe xho xtk xto xwa mn 1280 u_25 (by omega)) (sf_cwV lk_MD_101 hts (fun _ h => h) (by rw [hR]; exact ⟨Nat.le_of_ble_eq_true rfl, Nat.le_of_ble_eq_true rfl⟩)) hK hP hD hS hA (fun _ => by simp only [md_w_fst]) (ci := 3) (q0 := 0) rfl rfl rfl rfl rfl hl.1 (Nat.le_of_ble_eq_true rfl) d_MD_putTable_65 ⟨Nat.zero_le _, Nat.zero_le _⟩ (fun u H locs hu hP hD hS => ?_)
    have hP : va_P D classes (md_w q cI cZ xth xB xsh xcu xtp xtd xpa xsp xwh xhe xho xtk (upd xto mn 1280) (upd xwa mn u_25) (nI (mn + 1))) H := hP
    have hD : va_D A (md_w q cI cZ xth xB xsh xcu xtp xtd xpa xsp xwh xhe xho xtk (upd xto mn 1280) (upd xwa mn u_25) (nI (mn + 1))) := hD
    refine lv_iconst (v := 1) hx hb d_MD_putTable_68 (by decide) ?_
    refine lv_istore (lv' := [(8, .int 1), (7, .int u_25), (6, .int 1280), (5, .int 0), (4, .int 1), (0, .ref (q 0)), (1, .int (nI ro)), (2, .int fi), (3, .int sl)]) hx hb d_MD_putTable_69 hl (by decide) rfl (fun ls hl => ?_)
    have loop71 : ∀ (fu k : Nat) (vt : (Nat → Int32)) (vw : (Nat → Int32)), k ≤ 35 → k + fu = 35 + 1 → f_MD_putTable_l71_0 xB mn ro fi sl fu k vt vw = f_MD_putTable xB xto xwa mn ro fi sl → ∀ (H : Heap) (locs : List Loc), va_P D classes (md_w q cI cZ xth xB xsh xcu xtp xtd xpa xsp xwh xhe xho xtk vt vw (nI ((mn + 1) + k))) H → va_D A (md_w q cI cZ xth xB xsh xcu xtp xtd xpa xsp xwh xhe xho xtk vt vw (nI ((mn + 1) + k))) → va_S A s.heap H locs → ∀ (ls : Array Slot), lv_has ls 10 [(0, .ref (q 0)), (1, .int (nI ro)), (2, .int fi), (3, .int sl), (4, .int 1), (5, .int 0), (6, .int 1280), (7, .int u_25), (8, .int (nI (1 + k)))] → W p l e R s m args below meth c H locs 0 0 Q (F0 m 71 ls []) := by
      intro fu
      induction fu with
      | zero =>
        intro k vt vw h1 h2
        exact absurd h2 (by omega)
      | succ fu ih71 =>
        intro k vt vw hk71 hkn71 heq71 H locs hP hD hS ls hl
        refine lv_iload hx hb d_MD_putTable_71 (lv_at hl 8 rfl) ?_
        refine lv_bipush (v := 36) hx hb d_MD_putTable_73 (by decide) ?_
        refine lv_icmp_ge (tgt := 143) hx hb d_MD_putTable_75 (by decide) (fun c_26 => ?_) (fun c_26 => ?_)
        · have hle9 : 36 ≤ 1 + k := (nI_leI (a := 36) (by omega) (by omega)).mp c_26
          have hk9 : k = 35 := by omega
          subst hk9
          refine lv_aload_n hx hb d_MD_putTable_143 rfl (lv_at hl 0 rfl) ?_
          refine lv_bipush (v := 36) hx hb d_MD_putTable_144 (by decide) ?_
          refine lv_iload hx hb d_MD_putTable_146 (lv_at hl 6 rfl) ?_
          refine sf_callVw (S := ((Nat → Int32) × (Nat → Int32))) (rest := []) ⟨hx, hb, hml, hown, hts⟩ (c_MD_putSum l D cI cZ cJ q xth xB xsh xcu xtp xtd xpa xsp xwh xhe xho xtk vt vw ((mn + 1) + 35) 36 1280 (by omega) (by omega)) (sf_cwV lk_MD_108 hts (fun _ h => h) (by rw [hR]; exact ⟨Nat.le_of_ble_eq_true rfl, Nat.le_of_ble_eq_true rfl⟩)) hK hP hD hS hA (fun _ => by simp only [md_w_fst]) (ci := 3) (q0 := 0) rfl rfl rfl rfl rfl hl.1 (Nat.le_of_ble_eq_true rfl) d_MD_putTable_148 ⟨Nat.zero_le _, Nat.zero_le _⟩ (fun u_27 H locs hu_27 hP hD hS => ?_)
          have hP : va_P D classes (md_w q cI cZ xth xB xsh xcu xtp xtd xpa xsp xwh xhe xho xtk u_27.1 u_27.2 (nI (((mn + 1) + 35) + 4))) H := hP
          have hD : va_D A (md_w q cI cZ xth xB xsh xcu xtp xtd xpa xsp xwh xhe xho xtk u_27.1 u_27.2 (nI (((mn + 1) + 35) + 4))) := hD
          rw [hQ]
          exact sf_vret (u_27.1, u_27.2) hx hb hr hlk hS rfl (by rw [← heq71]; simp only [f_MD_putTable_l71_0, ← hu_1, ← hu_25, ← hu_27, eq_true c_26, ↓reduceIte]) hP d_MD_putTable_151
        · have hlt : k < 35 := by have := sf_lt_of (N := 36) (k := 1 + k) (by omega) (by omega) c_26; omega
          refine lv_iload hx hb d_MD_putTable_78 (lv_at hl 8 rfl) ?_
          refine lv_bipush (v := 25) hx hb d_MD_putTable_80 (by decide) ?_
          refine lv_icmp_ge (tgt := 94) hx hb d_MD_putTable_82 (by decide) (fun c_28 => ?_) (fun c_28 => ?_)
          · refine lv_iconst (v := 0) hx hb d_MD_putTable_94 (by decide) ?_
            refine lv_istore (lv' := [(9, .int 0), (0, .ref (q 0)), (1, .int (nI ro)), (2, .int fi), (3, .int sl), (4, .int 1), (5, .int 0), (6, .int 1280), (7, .int u_25), (8, .int (nI (1 + k)))]) hx hb d_MD_putTable_95 hl (by decide) rfl (fun ls hl => ?_)
            refine lv_iload hx hb d_MD_putTable_97 (lv_at hl 9 rfl) ?_
            refine lv_iconst (v := 1) hx hb d_MD_putTable_99 (by decide) ?_
            refine lv_iload_n hx hb d_MD_putTable_100 rfl (lv_at hl 2 rfl) ?_
            refine lv_iadd hx hb d_MD_putTable_101 ?_
            rw [show ((1 + (nI ro)) : Int32) = (nI (1 + ro)) from nI_add 1 ro]
            refine lv_icmp_ne (tgt := 109) hx hb d_MD_putTable_102 (by decide) (fun c_29 => ?_) (fun c_29 => ?_)
            · refine lv_iload hx hb d_MD_putTable_109 (lv_at hl 9 rfl) ?_
              refine lv_bipush (v := 13) hx hb d_MD_putTable_111 (by decide) ?_
              refine lv_iload_n hx hb d_MD_putTable_113 rfl (lv_at hl 2 rfl) ?_
              refine lv_iadd hx hb d_MD_putTable_114 ?_
              rw [show ((13 + (nI ro)) : Int32) = (nI (13 + ro)) from nI_add 13 ro]
              refine lv_icmp_ne (tgt := 122) hx hb d_MD_putTable_115 (by decide) (fun c_30 => ?_) (fun c_30 => ?_)
              · refine lv_iload hx hb d_MD_putTable_122 (lv_at hl 0 rfl) ?_
                refine lv_istore (lv' := [(9, .int 0), (0, .ref (q 0)), (1, .int (nI ro)), (2, .int fi), (3, .int sl), (4, .int 1), (5, .int 0), (6, .int 1280), (7, .int u_25), (8, .int (nI (1 + k)))]) hx hb d_MD_putTable_124 hl (by decide) rfl (fun ls hl => ?_)
                refine lv_aload_n hx hb d_MD_putTable_126 rfl (lv_at hl 1 rfl) ?_
                refine lv_iload hx hb d_MD_putTable_127 (lv_at hl 7 rfl) ?_
                refine lv_iload hx hb d_MD_putTable_129 (lv_at hl 9 rfl) ?_
                refine lv_iadd hx hb d_MD_putTable_131 ?_
                rw [show ((1280 + (nI (1 + k))) : Int32) = (nI (1280 + (1 + k))) from nI_add 1280 (1 + k)]
                refine lv_iload hx hb d_MD_putTable_132 (lv_at hl 0 rfl) ?_
                refine sf_callVw (S := Unit) (rest := []) ⟨hx, hb, hml, hown, hts⟩ (c_MD_put l D cI cZ cJ q xth xB xsh xcu xtp xtd xpa xsp xwh xhe xho xtk vt vw ((mn + 1) + k) (nI (1280 + (1 + k))) 0 (by omega)) (sf_cwV lk_MD_101 hts (fun _ h => h) (by rw [hR]; exact ⟨Nat.le_of_ble_eq_true rfl, Nat.le_of_ble_eq_true rfl⟩)) hK hP hD hS hA (fun _ => by simp only [md_w_fst]) (ci := 3) (q0 := 0) rfl rfl rfl rfl rfl hl.1 (Nat.le_of_ble_eq_true rfl) d_MD_putTable_134 ⟨Nat.zero_le _, Nat.zero_le _⟩ (fun u H locs hu hP hD hS => ?_)
                have hP : va_P D classes (md_w q cI cZ xth xB xsh xcu xtp xtd xpa xsp xwh xhe xho xtk (upd vt ((mn + 1) + k) (nI (1280 + (1 + k)))) (upd vw ((mn + 1) + k) 0) (nI (((mn + 1) + k) + 1))) H := hP
                have hD : va_D A (md_w q cI cZ xth xB xsh xcu xtp xtd xpa xsp xwh xhe xho xtk (upd vt ((mn + 1) + k) (nI (1280 + (1 + k)))) (upd vw ((mn + 1) + k) 0) (nI (((mn + 1) + k) + 1))) := hD
                refine lv_iinc (v := (nI (1 + (k + 1)))) (lv' := [(8, .int (nI (1 + (k + 1)))), (9, .int 0), (0, .ref (q 0)), (1, .int (nI ro)), (2, .int fi), (3, .int sl), (4, .int 1), (5, .int 0), (6, .int 1280), (7, .int u_25)]) hx hb d_MD_putTable_137 hl (k := 9) rfl (nI_1 (1 + k)) (by decide) rfl (fun ls hl => ?_)
                refine lv_goto (tgt := 71) hx hb d_MD_putTable_140 (by decide) ?_
                exact ih71 (k + 1) (upd vt ((mn + 1) + k) (nI (1280 + (1 + k)))) (upd vw ((mn + 1) + k) 0) (by omega) (by omega) (by rw [← heq71]; simp only [f_MD_putTable_l71_0, ← hu_1, ← hu_25, eq_false c_26, eq_true c_28, eq_false c_29, eq_false c_30, ↓reduceIte]) _ _ hP hD hS ls (lv_sub hl [2, 3, 4, 5, 6, 7, 8, 9, 0] rfl)
              · refine lv_iload_n hx hb d_MD_putTable_118 rfl (lv_at hl 4 rfl) ?_
                refine lv_goto (tgt := 124) hx hb d_MD_putTable_119 (by decide) ?_
                refine lv_istore (lv' := [(9, .int sl), (0, .ref (q 0)), (1, .int (nI ro)), (2, .int fi), (3, .int sl), (4, .int 1), (5, .int 0), (6, .int 1280), (7, .int u_25), (8, .int (nI (1 + k)))]) hx hb d_MD_putTable_124 hl (by decide) rfl (fun ls hl => ?_)
                refine lv_aload_n hx hb d_MD_putTable_126 rfl (lv_at hl 1 rfl) ?_
                refine lv_iload hx hb d_MD_putTable_127 (lv_at hl 7 rfl) ?_
                refine lv_iload hx hb d_MD_putTable_129 (lv_at hl 9 rfl) ?_
                refine lv_iadd hx hb d_MD_putTable_131 ?_
                rw [show ((1280 + (nI (1 + k))) : Int32) = (nI (1280 + (1 + k))) from nI_add 1280 (1 + k)]
                refine lv_iload hx hb d_MD_putTable_132 (lv_at hl 0 rfl) ?_
                refine sf_callVw (S := Unit) (rest := []) ⟨hx, hb, hml, hown, hts⟩ (c_MD_put l D cI cZ cJ q xth xB xsh xcu xtp xtd xpa xsp xwh xhe xho xtk vt vw ((mn + 1) + k) (nI (1280 + (1 + k))) sl (by omega)) (sf_cwV lk_MD_101 hts (fun _ h => h) (by rw [hR]; exact ⟨Nat.le_of_ble_eq_true rfl, Nat.le_of_ble_eq_true rfl⟩)) hK hP hD hS hA (fun _ => by simp only [md_w_fst]) (ci := 3) (q0 := 0) rfl rfl rfl rfl rfl hl.1 (Nat.le_of_ble_eq_true rfl) d_MD_putTable_134 ⟨Nat.zero_le _, Nat.zero_le _⟩ (fun u H locs hu hP hD hS => ?_)
                have hP : va_P D classes (md_w q cI cZ xth xB xsh xcu xtp xtd xpa xsp xwh xhe xho xtk (upd vt ((mn + 1) + k) (nI (1280 + (1 + k)))) (upd vw ((mn + 1) + k) sl) (nI (((mn + 1) + k) + 1))) H := hP
                have hD : va_D A (md_w q cI cZ xth xB xsh xcu xtp xtd xpa xsp xwh xhe xho xtk (upd vt ((mn + 1) + k) (nI (1280 + (1 + k)))) (upd vw ((mn + 1) + k) sl) (nI (((mn + 1) + k) + 1))) := hD
                refine lv_iinc (v := (nI (1 + (k + 1)))) (lv' := [(8, .int (nI (1 + (k + 1)))), (9, .int sl), (0, .ref (q 0)), (1, .int (nI ro)), (2, .int fi), (3, .int sl), (4, .int 1), (5, .int 0), (6, .int 1280), (7, .int u_25)]) hx hb d_MD_putTable_137 hl (k := 9) rfl (nI_1 (1 + k)) (by decide) rfl (fun ls hl => ?_)
                refine lv_goto (tgt := 71) hx hb d_MD_putTable_140 (by decide) ?_
                exact ih71 (k + 1) (upd vt ((mn + 1) + k) (nI (1280 + (1 + k)))) (upd vw ((mn + 1) + k) sl) (by omega) (by omega) (by rw [← heq71]; simp only [f_MD_putTable_l71_0, ← hu_1, ← hu_25, eq_false c_26, eq_true c_28, eq_false c_29, eq_true c_30, ↓reduceIte]) _ _ hP hD hS ls (lv_sub hl [2, 3, 4, 5, 6, 7, 8, 9, 0] rfl)
            · refine lv_iload_n hx hb d_MD_putTable_105 rfl (lv_at hl 3 rfl) ?_
              refine lv_goto (tgt := 124) hx hb d_MD_putTable_106 (by decide) ?_
              refine lv_istore (lv' := [(9, .int fi), (0, .ref (q 0)), (1, .int (nI ro)), (2, .int fi), (3, .int sl), (4, .int 1), (5, .int 0), (6, .int 1280), (7, .int u_25), (8, .int (nI (1 + k)))]) hx hb d_MD_putTable_124 hl (by decide) rfl (fun ls hl => ?_)
              refine lv_aload_n hx hb d_MD_putTable_126 rfl (lv_at hl 1 rfl) ?_
              refine lv_iload hx hb d_MD_putTable_127 (lv_at hl 7 rfl) ?_
              refine lv_iload hx hb d_MD_putTable_129 (lv_at hl 9 rfl) ?_
              refine lv_iadd hx hb d_MD_putTable_131 ?_
              rw [show ((1280 + (nI (1 + k))) : Int32) = (nI (1280 + (1 + k))) from nI_add 1280 (1 + k)]
              refine lv_iload hx hb d_MD_putTable_132 (lv_at hl 0 rfl) ?_
              refine sf_callVw (S := Unit) (rest := []) ⟨hx, hb, hml, hown, hts⟩ (c_MD_put l D cI cZ cJ q xth xB xsh xcu xtp xtd xpa xsp xwh xhe xho xtk vt vw ((mn + 1) + k) (nI (1280 + (1 + k))) fi (by omega)) (sf_cwV lk_MD_101 hts (fun _ h => h) (by rw [hR]; exact ⟨Nat.le_of_ble_eq_true rfl, Nat.le_of_ble_eq_true rfl⟩)) hK hP hD hS hA (fun _ => by simp only [md_w_fst]) (ci := 3) (q0 := 0) rfl rfl rfl rfl rfl hl.1 (Nat.le_of_ble_eq_true rfl) d_MD_putTable_134 ⟨Nat.zero_le _, Nat.zero_le _⟩ (fun u H locs hu hP hD hS => ?_)
              have hP : va_P D classes (md_w q cI cZ xth xB xsh xcu xtp xtd xpa xsp xwh xhe xho xtk (upd vt ((mn + 1) + k) (nI (1280 + (1 + k)))) (upd vw ((mn + 1) + k) fi) (nI (((mn + 1) + k) + 1))) H := hP
              have hD : va_D A (md_w q cI cZ xth xB xsh xcu xtp xtd xpa xsp xwh xhe xho xtk (upd vt ((mn + 1) + k) (nI (1280 + (1 + k)))) (upd vw ((mn + 1) + k) fi) (nI (((mn + 1) + k) + 1))) := hD
              refine lv_iinc (v := (nI (1 + (k + 1)))) (lv' := [(8, .int (nI (1 + (k + 1)))), (9, .int fi), (0, .ref (q 0)), (1, .int (nI ro)), (2, .int fi), (3, .int sl), (4, .int 1), (5, .int 0), (6, .int 1280), (7, .int u_25)]) hx hb d_MD_putTable_137 hl (k := 9) rfl (nI_1 (1 + k)) (by decide) rfl (fun ls hl => ?_)
              refine lv_goto (tgt := 71) hx hb d_MD_putTable_140 (by decide) ?_
              exact ih71 (k + 1) (upd vt ((mn + 1) + k) (nI (1280 + (1 + k)))) (upd vw ((mn + 1) + k) fi) (by omega) (by omega) (by rw [← heq71]; simp only [f_MD_putTable_l71_0, ← hu_1, ← hu_25, eq_false c_26, eq_true c_28, eq_true c_29, ↓reduceIte]) _ _ hP hD hS ls (lv_sub hl [2, 3, 4, 5, 6, 7, 8, 9, 0] rfl)
          · refine lv_aload_n hx hb d_MD_putTable_85 rfl (lv_at hl 0 rfl) ?_
            refine lv_iload hx hb d_MD_putTable_86 (lv_at hl 8 rfl) ?_
            refine sf_callVw (S := Int32) (rest := []) ⟨hx, hb, hml, hown, hts⟩ (c_MD_entry l D cI cZ cJ q xth xB xsh xcu xtp xtd xpa xsp xwh xhe xho xtk vt vw (nI ((mn + 1) + k)) (1 + k) (by omega)) (sf_cwV lk_MD_64 hts (fun _ h => h) (by rw [hR]; exact ⟨Nat.le_of_ble_eq_true rfl, Nat.le_of_ble_eq_true rfl⟩)) hK hP hD hS hA (fun _ => by simp only [md_w_fst]) (ci := 3) (q0 := 0) rfl rfl rfl rfl rfl hl.1 (Nat.le_of_ble_eq_true rfl) d_MD_putTable_88 ⟨Nat.zero_le _, Nat.zero_le _⟩ (fun u_31 H locs hu_31 hP hD hS => ?_)
            have hP : va_P D classes (md_w q cI cZ xth xB xsh xcu xtp xtd xpa xsp xwh xhe xho xtk vt vw (nI ((mn + 1) + k))) H := hP
            have hD : va_D A (md_w q cI cZ xth xB xsh xcu xtp xtd xpa xsp xwh xhe xho xtk vt vw (nI ((mn + 1) + k))) := hD
            refine lv_goto (tgt := 95) hx hb d_MD_putTable_91 (by decide) ?_
            refine lv_istore (lv' := [(9, .int u_31), (0, .ref (q 0)), (1, .int (nI ro)), (2, .int fi), (3, .int sl), (4, .int 1), (5, .int 0), (6, .int 1280), (7, .int u_25), (8, .int (nI (1 + k)))]) hx hb d_MD_putTable_95 hl (by decide) rfl (fun ls hl => ?_)
            refine lv_iload hx hb d_MD_putTable_97 (lv_at hl 9 rfl) ?_
            refine lv_iconst (v := 1) hx hb d_MD_putTable_99 (by decide) ?_
            refine lv_iload_n hx hb d_MD_putTable_100 rfl (lv_at hl 2 rfl) ?_
            refine lv_iadd hx hb d_MD_putTable_101 ?_
            rw [show ((1 + (nI ro)) : Int32) = (nI (1 + ro)) from nI_add 1 ro]
            refine lv_icmp_ne (tgt := 109) hx hb d_MD_putTable_102 (by decide) (fun c_32 => ?_) (fun c_32 => ?_)
            · refine lv_iload hx hb d_MD_putTable_109 (lv_at hl 9 rfl) ?_
              refine lv_bipush (v := 13) hx hb d_MD_putTable_111 (by decide) ?_
              refine lv_iload_n hx hb d_MD_putTable_113 rfl (lv_at hl 2 rfl) ?_
              refine lv_iadd hx hb d_MD_putTable_114 ?_
              rw [show ((13 + (nI ro)) : Int32) = (nI (13 + ro)) from nI_add 13 ro]
              refine lv_icmp_ne (tgt := 122) hx hb d_MD_putTable_115 (by decide) (fun c_33 => ?_) (fun c_33 => ?_)
              · refine lv_iload hx hb d_MD_putTable_122 (lv_at hl 0 rfl) ?_
                refine lv_istore (lv' := [(9, .int u_31), (0, .ref (q 0)), (1, .int (nI ro)), (2, .int fi), (3, .int sl), (4, .int 1), (5, .int 0), (6, .int 1280), (7, .int u_25), (8, .int (nI (1 + k)))]) hx hb d_MD_putTable_124 hl (by decide) rfl (fun ls hl => ?_)
                refine lv_aload_n hx hb d_MD_putTable_126 rfl (lv_at hl 1 rfl) ?_
                refine lv_iload hx hb d_MD_putTable_127 (lv_at hl 7 rfl) ?_
                refine lv_iload hx hb d_MD_putTable_129 (lv_at hl 9 rfl) ?_
                refine lv_iadd hx hb d_MD_putTable_131 ?_
                rw [show ((1280 + (nI (1 + k))) : Int32) = (nI (1280 + (1 + k))) from nI_add 1280 (1 + k)]
                refine lv_iload hx hb d_MD_putTable_132 (lv_at hl 0 rfl) ?_
                refine sf_callVw (S := Unit) (rest := []) ⟨hx, hb, hml, hown, hts⟩ (c_MD_put l D cI cZ cJ q xth xB xsh xcu xtp xtd xpa xsp xwh xhe xho xtk vt vw ((mn + 1) + k) (nI (1280 + (1 + k))) u_31 (by omega)) (sf_cwV lk_MD_101 hts (fun _ h => h) (by rw [hR]; exact ⟨Nat.le_of_ble_eq_true rfl, Nat.le_of_ble_eq_true rfl⟩)) hK hP hD hS hA (fun _ => by simp only [md_w_fst]) (ci := 3) (q0 := 0) rfl rfl rfl rfl rfl hl.1 (Nat.le_of_ble_eq_true rfl) d_MD_putTable_134 ⟨Nat.zero_le _, Nat.zero_le _⟩ (fun u H locs hu hP hD hS => ?_)
                have hP : va_P D classes (md_w q cI cZ xth xB xsh xcu xtp xtd xpa xsp xwh xhe xho xtk (upd vt ((mn + 1) + k) (nI (1280 + (1 + k)))) (upd vw ((mn + 1) + k) u_31) (nI (((mn + 1) + k) + 1))) H := hP
                have hD : va_D A (md_w q cI cZ xth xB xsh xcu xtp xtd xpa xsp xwh xhe xho xtk (upd vt ((mn + 1) + k) (nI (1280 + (1 + k)))) (upd vw ((mn + 1) + k) u_31) (nI (((mn + 1) + k) + 1))) := hD
                refine lv_iinc (v := (nI (1 + (k + 1)))) (lv' := [(8, .int (nI (1 + (k + 1)))), (9, .int u_31), (0, .ref (q 0)), (1, .int (nI ro)), (2, .int fi), (3, .int sl), (4, .int 1), (5, .int 0), (6, .int 1280), (7, .int u_25)]) hx hb d_MD_putTable_137 hl (k := 9) rfl (nI_1 (1 + k)) (by decide) rfl (fun ls hl => ?_)
                refine lv_goto (tgt := 71) hx hb d_MD_putTable_140 (by decide) ?_
                exact ih71 (k + 1) (upd vt ((mn + 1) + k) (nI (1280 + (1 + k)))) (upd vw ((mn + 1) + k) u_31) (by omega) (by omega) (by rw [← heq71]; simp only [f_MD_putTable_l71_0, ← hu_1, ← hu_25, ← hu_31, eq_false c_26, eq_false c_28, eq_false c_32, eq_false c_33, ↓reduceIte]) _ _ hP hD hS ls (lv_sub hl [2, 3, 4, 5, 6, 7, 8, 9, 0] rfl)
              · refine lv_iload_n hx hb d_MD_putTable_118 rfl (lv_at hl 4 rfl) ?_
                refine lv_goto (tgt := 124) hx hb d_MD_putTable_119 (by decide) ?_
                refine lv_istore (lv' := [(9, .int sl), (0, .ref (q 0)), (1, .int (nI ro)), (2, .int fi), (3, .int sl), (4, .int 1), (5, .int 0), (6, .int 1280), (7, .int u_25), (8, .int (nI (1 + k)))]) hx hb d_MD_putTable_124 hl (by decide) rfl (fun ls hl => ?_)
                refine lv_aload_n hx hb d_MD_putTable_126 rfl (lv_at hl 1 rfl) ?_
                refine lv_iload hx hb d_MD_putTable_127 (lv_at hl 7 rfl) ?_
                refine lv_iload hx hb d_MD_putTable_129 (lv_at hl 9 rfl) ?_
                refine lv_iadd hx hb d_MD_putTable_131 ?_
                rw [show ((1280 + (nI (1 + k))) : Int32) = (nI (1280 + (1 + k))) from nI_add 1280 (1 + k)]
                refine lv_iload hx hb d_MD_putTable_132 (lv_at hl 0 rfl) ?_
                refine sf_callVw (S := Unit) (rest := []) ⟨hx, hb, hml, hown, hts⟩ (c_MD_put l D cI cZ cJ q xth xB xsh xcu xtp xtd xpa xsp xwh xhe xho xtk vt vw ((mn + 1) + k) (nI (1280 + (1 + k))) sl (by omega)) (sf_cwV lk_MD_101 hts (fun _ h => h) (by rw [hR]; exact ⟨Nat.le_of_ble_eq_true rfl, Nat.le_of_ble_eq_true rfl⟩)) hK hP hD hS hA (fun _ => by simp only [md_w_fst]) (ci := 3) (q0 := 0) rfl rfl rfl rfl rfl hl.1 (Nat.le_of_ble_eq_true rfl) d_MD_putTable_134 ⟨Nat.zero_le _, Nat.zero_le _⟩ (fun u H locs hu hP hD hS => ?_)
                have hP : va_P D classes (md_w q cI cZ xth xB xsh xcu xtp xtd xpa xsp xwh xhe xho xtk (upd vt ((mn + 1) + k) (nI (1280 + (1 + k)))) (upd vw ((mn + 1) + k) sl) (nI (((mn + 1) + k) + 1))) H := hP
                have hD : va_D A (md_w q cI cZ xth xB xsh xcu xtp xtd xpa xsp xwh xhe xho xtk (upd vt ((mn + 1) + k) (nI (1280 + (1 + k)))) (upd vw ((mn + 1) + k) sl) (nI (((mn + 1) + k) + 1))) := hD
                refine lv_iinc (v := (nI (1 + (k + 1)))) (lv' := [(8, .int (nI (1 + (k + 1)))), (9, .int sl), (0, .ref (q 0)), (1, .int (nI ro)), (2, .int fi), (3, .int sl), (4, .int 1), (5, .int 0), (6, .int 1280), (7, .int u_25)]) hx hb d_MD_putTable_137 hl (k := 9) rfl (nI_1 (1 + k)) (by decide) rfl (fun ls hl => ?_)
                refine lv_goto (tgt := 71) hx hb d_MD_putTable_140 (by decide) ?_
                exact ih71 (k + 1) (upd vt ((mn + 1) + k) (nI (1280 + (1 + k)))) (upd vw ((mn + 1) + k) sl) (by omega) (by omega) (by rw [← heq71]; simp only [f_MD_putTable_l71_0, ← hu_1, ← hu_25, ← hu_31, eq_false c_26, eq_false c_28, eq_false c_32, eq_true c_33, ↓reduceIte]) _ _ hP hD hS ls (lv_sub hl [2, 3, 4, 5, 6, 7, 8, 9, 0] rfl)
            · refine lv_iload_n hx hb d_MD_putTable_105 rfl (lv_at hl 3 rfl) ?_
              refine lv_goto (tgt := 124) hx hb d_MD_putTable_106 (by decide) ?_
              refine lv_istore (lv' := [(9, .int fi), (0, .ref (q 0)), (1, .int (nI ro)), (2, .int fi), (3, .int sl), (4, .int 1), (5, .int 0), (6, .int 1280), (7, .int u_25), (8, .int (nI (1 + k)))]) hx hb d_MD_putTable_124 hl (by decide) rfl (fun ls hl => ?_)
              refine lv_aload_n hx hb d_MD_putTable_126 rfl (lv_at hl 1 rfl) ?_
              refine lv_iload hx hb d_MD_putTable_127 (lv_at hl 7 rfl) ?_
              refine lv_iload hx hb d_MD_putTable_129 (lv_at hl 9 rfl) ?_
              refine lv_iadd hx hb d_MD_putTable_131 ?_
              rw [show ((1280 + (nI (1 + k))) : Int32) = (nI (1280 + (1 + k))) from nI_add 1280 (1 + k)]
              refine lv_iload hx hb d_MD_putTable_132 (lv_at hl 0 rfl) ?_
              refine sf_callVw (S := Unit) (rest := []) ⟨hx, hb, hml, hown, hts⟩ (c_MD_put l D cI cZ cJ q xth xB xsh xcu xtp xtd xpa xsp xwh xhe xho xtk vt vw ((mn + 1) + k) (nI (1280 + (1 + k))) fi (by omega)) (sf_cwV lk_MD_101 hts (fun _ h => h) (by rw [hR]; exact ⟨Nat.le_of_ble_eq_true rfl, Nat.le_of_ble_eq_true rfl⟩)) hK hP hD hS hA (fun _ => by simp only [md_w_fst]) (ci := 3) (q0 := 0) rfl rfl rfl rfl rfl hl.1 (Nat.le_of_ble_eq_true rfl) d_MD_putTable_134 ⟨Nat.zero_le _, Nat.zero_le _⟩ (fun u H locs hu hP hD hS => ?_)
              have hP : va_P D classes (md_w q cI cZ xth xB xsh xcu xtp xtd xpa xsp xwh xhe xho xtk (upd vt ((mn + 1) + k) (nI (1280 + (1 + k)))) (upd vw ((mn + 1) + k) fi) (nI (((mn + 1) + k) + 1))) H := hP
              have hD : va_D A (md_w q cI cZ xth xB xsh xcu xtp xtd xpa xsp xwh xhe xho xtk (upd vt ((mn + 1) + k) (nI (1280 + (1 + k)))) (upd vw ((mn + 1) + k) fi) (nI (((mn + 1) + k) + 1))) := hD
              refine lv_iinc (v := (nI (1 + (k + 1)))) (lv' := [(8, .int (nI (1 + (k + 1)))), (9, .int fi), (0, .ref (q 0)), (1, .int (nI ro)), (2, .int fi), (3, .int sl), (4, .int 1), (5, .int 0), (6, .int 1280), (7, .int u_25)]) hx hb d_MD_putTable_137 hl (k := 9) rfl (nI_1 (1 + k)) (by decide) rfl (fun ls hl => ?_)
              refine lv_goto (tgt := 71) hx hb d_MD_putTable_140 (by decide) ?_
              exact ih71 (k + 1) (upd vt ((mn + 1) + k) (nI (1280 + (1 + k)))) (upd vw ((mn + 1) + k) fi) (by omega) (by omega) (by rw [← heq71]; simp only [f_MD_putTable_l71_0, ← hu_1, ← hu_25, ← hu_31, eq_false c_26, eq_false c_28, eq_true c_32, ↓reduceIte]) _ _ hP hD hS ls (lv_sub hl [2, 3, 4, 5, 6, 7, 8, 9, 0] rfl)
    skip
    exact loop71 (35 + 1) 0 (upd xto mn 1280) (upd xwa mn u_25) (by omega) (by omega) (by simp only [f_MD_putTable, ← hu_1, ← hu_25, eq_false hw9, eq_false hw0, ↓reduceIte]) _ _ hP hD hS ls (lv_sub hl [5, 6, 7, 8, 4, 3, 2, 1, 0] rfl)
def f_MD_comes_l42_0 (xcu : Int32) (xto : Nat → Int32) (xwa : Nat → Int32) (mn : Nat) : Nat → Nat → (Nat → Int32) → ((Nat → Int32))
  | 0, _, _ => ((fun _ => 0))
  | fu + 1, kk, yB =>
    if (nI mn) ≤ (nI kk) then
      yB
    else
      f_MD_comes_l42_0 xcu xto xwa mn fu (kk + 1) (upd yB ((xto kk).toNatClampNeg) (xwa kk))
def f_MD_comes_l42_1 (xcu : Int32) (xto : Nat → Int32) (xwa : Nat → Int32) (mn : Nat) : Nat → Nat → (Nat → Int32) → ((Nat → Int32))
  | 0, _, _ => ((fun _ => 0))
  | fu + 1, kk, yB =>
    if (nI (xcu.toNatClampNeg)) ≤ (nI kk) then
      yB
    else
      f_MD_comes_l42_1 xcu xto xwa mn fu (kk + 1) (upd yB ((xto kk).toNatClampNeg) (xwa kk))
def f_MD_comes (xB : Nat → Int32) (xsh : Int32) (xcu : Int32) (xto : Nat → Int32) (xwa : Nat → Int32) (mn : Nat) : (Int32 × (Nat → Int32) × Int32) :=
  if xcu < 0 then
    if xsh = 0 then
      (1, (f_MD_comes_l42_0 xcu xto xwa mn (mn + 1) 0 xB), 0)
    else
      (1, (f_MD_comes_l42_0 xcu xto xwa mn (mn + 1) 0 xB), 1)
  else
    if (nI mn) ≤ xcu then
      if xsh = 0 then
        (1, (f_MD_comes_l42_0 xcu xto xwa mn (mn + 1) 0 xB), 0)
      else
        (1, (f_MD_comes_l42_0 xcu xto xwa mn (mn + 1) 0 xB), 1)
    else
      if xsh = 0 then
        (0, (f_MD_comes_l42_1 xcu xto xwa mn ((xcu.toNatClampNeg) + 1) 0 xB), 1)
      else
        (0, (f_MD_comes_l42_1 xcu xto xwa mn ((xcu.toNatClampNeg) + 1) 0 xB), 1)
set_option maxHeartbeats 1000000 in
set_option maxRecDepth 100000 in
/-- comes -/
theorem c_MD_comes (l : Launch) (D : va_G) (cI cZ cJ : ClassId) (q : Nat → Nat) (xth : Int32) (xB : Nat → Int32) (xsh : Int32) (xcu : Int32) (xtp : Nat → Int32) (xtd : Int32) (xpa : Nat → Int32) (xsp : Int32) (xwh : Int32) (xhe : Nat → Int32) (xho : Int32) (xtk : Nat → Int32) (xto : Nat → Int32) (xwa : Nat → Int32) (mn : Nat) (hm : mn ≤ 136) (hto : ∀ i, i < mn → vp_in (xto i) 1360) : sf_M (S := (Int32 × (Nat → Int32) × Int32)) l D classes (sf_tys cI cZ cJ) y_MD_comes (sf_ws y_MD_comes b_MD_comes 4 (some .boolean)) 0 0 [.ref (q 0)] (md_w q cI cZ xth xB xsh xcu xtp xtd xpa xsp xwh xhe xho xtk xto xwa (nI mn)) (fun r => some (.int r.1)) (fun r => r = f_MD_comes xB xsh xcu xto xwa mn) (fun r => (md_w q cI cZ xth r.2.1 r.2.2 (-1) xtp xtd xpa xsp xwh xhe xho xtk xto xwa (nI mn))) := by
  refine sf_ofW (S := (Int32 × (Nat → Int32) × Int32)) (by decide) (Nat.le_of_ble_eq_true rfl) ?_
  intro p e s m below meth c A ls R args Q hR hArgs hQ hC0 hr hK hP hD hl
  obtain ⟨hx, hb, hml, hown, hts, hA, hlk⟩ := hC0
  have hS : va_S A s.heap s.heap [] := va_S.rf
  have hl : lv_has ls 4 [(0, .ref (q 0))] := hl
  refine lv_aload_n hx hb d_MD_comes_0 rfl (lv_at hl 0 rfl) ?_
  refine va_get (D := D) (ci := 3) (v := .int xcu) (C := R_MD) (T := F_MD) (N := 15) hx hb hts i_MD hown hK hP 0 rfl rfl 3 (by decide) (hts _ wd_578) (fun _ h9 => h9) rfl d_MD_comes_1 ?_
  refine lv_if_lt (tgt := 22) hx hb d_MD_comes_4 (by decide) (fun c_1 => ?_) (fun c_1 => ?_)
  · refine lv_iconst (v := 0) hx hb d_MD_comes_22 (by decide) ?_
    refine lv_istore_n (lv' := [(1, .int 0), (0, .ref (q 0))]) hx hb d_MD_comes_23 rfl hl (by decide) rfl (fun ls hl => ?_)
    refine lv_iload_n hx hb d_MD_comes_24 rfl (lv_at hl 0 rfl) ?_
    refine lv_if_eq (tgt := 35) hx hb d_MD_comes_25 (by decide) (fun c_2 => ?_) (fun c_2 => absurd (by decide) c_2)
    refine lv_aload_n hx hb d_MD_comes_35 rfl (lv_at hl 1 rfl) ?_
    refine va_get (D := D) (ci := 3) (v := .int (nI mn)) (C := R_MD) (T := F_MD) (N := 15) hx hb hts i_MD hown hK hP 0 rfl rfl 14 (by decide) (hts _ wd_589) (fun _ h9 => h9) rfl d_MD_comes_36 ?_
    refine lv_istore_n (lv' := [(2, .int (nI mn)), (1, .int 0), (0, .ref (q 0))]) hx hb d_MD_comes_39 rfl hl (by decide) rfl (fun ls hl => ?_)
    refine lv_iconst (v := 0) hx hb d_MD_comes_40 (by decide) ?_
    refine lv_istore_n (lv' := [(3, .int 0), (2, .int (nI mn)), (1, .int 0), (0, .ref (q 0))]) hx hb d_MD_comes_41 rfl hl (by decide) rfl (fun ls hl => ?_)
    obtain ⟨u_3, hu_3⟩ : ∃ z, z = (f_MD_comes_l42_0 xcu xto xwa mn (mn + 1) 0 xB) := ⟨_, rfl⟩
    have loop42 : ∀ (fukk kk : Nat) (yB : (Nat → Int32)), kk ≤ mn → kk + fukk = mn + 1 → f_MD_comes_l42_0 xcu xto xwa mn fukk kk yB = u_3 → ∀ (H : Heap) (locs : List Loc), va_P D classes (md_w q cI cZ xth yB xsh xcu xtp xtd xpa xsp xwh xhe xho xtk xto xwa (nI mn)) H → va_D A (md_w q cI cZ xth yB xsh xcu xtp xtd xpa xsp xwh xhe xho xtk xto xwa (nI mn)) → va_S A s.heap H locs → ∀ (ls : Array Slot), lv_has ls 4 [(0, .ref (q 0)), (1, .int 0), (2, .int (nI mn)), (3, .int (nI kk))] → W p l e R s m args below meth c H locs 0 0 Q (F0 m 42 ls []) := by
      intro fukk
      induction fukk with
      | zero =>
        intro kk yB h1 h2
        exact absurd h2 (by omega)
      | succ fukk ih42 =>
        intro kk yB hk42 hkn42 heq42 H locs hP hD hS ls hl
        refine lv_iload_n hx hb d_MD_comes_42 rfl (lv_at hl 3 rfl) ?_
        refine lv_iload_n hx hb d_MD_comes_43 rfl (lv_at hl 2 rfl) ?_
        refine lv_icmp_ge (tgt := 70) hx hb d_MD_comes_44 (by decide) (fun c_4 => ?_) (fun c_4 => ?_)
        · skip
          have hv42 : yB = u_3 := by rw [← heq42]; simp only [f_MD_comes_l42_0, eq_true c_4, ↓reduceIte]
          have hv42_0 : yB = u_3 := hv42
          rw [hv42_0] at hP hD
          have hke42 : kk = mn := sf_eq_of (N := mn) (by omega) (by omega) hk42 c_4
          try rw [hke42] at hP
          try rw [hke42] at hD
          try rw [hke42] at hl
          refine lv_aload_n hx hb d_MD_comes_70 rfl (lv_at hl 0 rfl) ?_
          refine lv_iconst (v := (-1)) hx hb d_MD_comes_71 (by decide) ?_
          refine va_put (D := D) (ci := 3) (v := .int (-1)) (ty := .int) (C := R_MD) (T := F_MD) (N := 15) hx hb hts i_MD t_MD t_MD_ok n_MD hown hK hP hD hS 0 rfl rfl 3 (by decide) (hts _ wd_578) (fun _ h9 => h9) rfl (by decide +kernel) rfl rfl (Nat.le_of_ble_eq_true rfl) d_MD_comes_72 (fun H locs hP hD hS => ?_)
          have hP : va_P D classes (md_w q cI cZ xth u_3 xsh (-1) xtp xtd xpa xsp xwh xhe xho xtk xto xwa (nI mn)) H := hP
          have hD : va_D A (md_w q cI cZ xth u_3 xsh (-1) xtp xtd xpa xsp xwh xhe xho xtk xto xwa (nI mn)) := hD
          refine lv_aload_n hx hb d_MD_comes_75 rfl (lv_at hl 0 rfl) ?_
          refine lv_aload_n hx hb d_MD_comes_76 rfl (lv_at hl 0 rfl) ?_
          refine va_get (D := D) (ci := 3) (v := .int xsh) (C := R_MD) (T := F_MD) (N := 15) hx hb hts i_MD hown hK hP 0 rfl rfl 2 (by decide) (hts _ wd_577) (fun _ h9 => h9) rfl d_MD_comes_77 ?_
          refine lv_if_ne (tgt := 87) hx hb d_MD_comes_80 (by decide) (fun c_5 => ?_) (fun c_5 => ?_)
          · refine lv_iconst (v := 1) hx hb d_MD_comes_87 (by decide) ?_
            refine lv_goto (tgt := 92) hx hb d_MD_comes_88 (by decide) ?_
            refine va_put (D := D) (ci := 3) (v := .int 1) (ty := .boolean) (C := R_MD) (T := F_MD) (N := 15) hx hb hts i_MD t_MD t_MD_ok n_MD hown hK hP hD hS 0 rfl rfl 2 (by decide) (hts _ wd_577) (fun _ h9 => h9) rfl (by decide +kernel) (sf_bp1).1 (sf_bp1).2 (Nat.le_of_ble_eq_true rfl) d_MD_comes_92 (fun H locs hP hD hS => ?_)
            have hP : va_P D classes (md_w q cI cZ xth u_3 1 (-1) xtp xtd xpa xsp xwh xhe xho xtk xto xwa (nI mn)) H := hP
            have hD : va_D A (md_w q cI cZ xth u_3 1 (-1) xtp xtd xpa xsp xwh xhe xho xtk xto xwa (nI mn)) := hD
            refine lv_iload_n hx hb d_MD_comes_95 rfl (lv_at hl 1 rfl) ?_
            refine lv_if_ne (tgt := 103) hx hb d_MD_comes_96 (by decide) (fun c_6 => absurd (by decide) c_6) (fun c_6 => ?_)
            refine lv_iconst (v := 1) hx hb d_MD_comes_99 (by decide) ?_
            refine lv_goto (tgt := 104) hx hb d_MD_comes_100 (by decide) ?_
            rw [hQ]
            exact sf_iret (1, u_3, 1) hx hb hr hlk hS sf_b1 rfl (by simp only [f_MD_comes, ← hu_3, eq_true c_1, eq_false c_5, ↓reduceIte]) hP d_MD_comes_104
          · refine lv_iload_n hx hb d_MD_comes_83 rfl (lv_at hl 1 rfl) ?_
            refine lv_if_eq (tgt := 91) hx hb d_MD_comes_84 (by decide) (fun c_7 => ?_) (fun c_7 => absurd (by decide) c_7)
            refine lv_iconst (v := 0) hx hb d_MD_comes_91 (by decide) ?_
            refine va_put (D := D) (ci := 3) (v := .int 0) (ty := .boolean) (C := R_MD) (T := F_MD) (N := 15) hx hb hts i_MD t_MD t_MD_ok n_MD hown hK hP hD hS 0 rfl rfl 2 (by decide) (hts _ wd_577) (fun _ h9 => h9) rfl (by decide +kernel) (sf_bp0).1 (sf_bp0).2 (Nat.le_of_ble_eq_true rfl) d_MD_comes_92 (fun H locs hP hD hS => ?_)
            have hP : va_P D classes (md_w q cI cZ xth u_3 0 (-1) xtp xtd xpa xsp xwh xhe xho xtk xto xwa (nI mn)) H := hP
            have hD : va_D A (md_w q cI cZ xth u_3 0 (-1) xtp xtd xpa xsp xwh xhe xho xtk xto xwa (nI mn)) := hD
            refine lv_iload_n hx hb d_MD_comes_95 rfl (lv_at hl 1 rfl) ?_
            refine lv_if_ne (tgt := 103) hx hb d_MD_comes_96 (by decide) (fun c_8 => absurd (by decide) c_8) (fun c_8 => ?_)
            refine lv_iconst (v := 1) hx hb d_MD_comes_99 (by decide) ?_
            refine lv_goto (tgt := 104) hx hb d_MD_comes_100 (by decide) ?_
            rw [hQ]
            exact sf_iret (1, u_3, 0) hx hb hr hlk hS sf_b1 rfl (by simp only [f_MD_comes, ← hu_3, eq_true c_1, eq_true c_5, ↓reduceIte]) hP d_MD_comes_104
        · have hlt : kk < mn := sf_lt_of (N := mn) (by omega) (by omega) c_4
          refine lv_aload_n hx hb d_MD_comes_47 rfl (lv_at hl 0 rfl) ?_
          refine va_get (D := D) (ci := 3) (v := .ref (q 1)) (C := R_MD) (T := F_MD) (N := 15) hx hb hts i_MD hown hK hP 0 rfl rfl 1 (by decide) (hts _ wd_576) (fun _ h9 => h9) rfl d_MD_comes_48 ?_
          refine lv_aload_n hx hb d_MD_comes_51 rfl (lv_at hl 0 rfl) ?_
          refine va_get (D := D) (ci := 3) (v := .ref (q 6)) (C := R_MD) (T := F_MD) (N := 15) hx hb hts i_MD hown hK hP 0 rfl rfl 12 (by decide) (hts _ wd_587) (fun _ h9 => h9) rfl d_MD_comes_52 ?_
          refine lv_iload_n hx hb d_MD_comes_55 rfl (lv_at hl 3 rfl) ?_
          refine va_iald hx hb hK hP 6 0 rfl rfl (show vp_in (nI kk) 136 from vp_in_nI (n := kk) (by omega) (by omega)) d_MD_comes_56 ?_
          rw [show ((nI kk) : Int32).toNatClampNeg = kk from nI_clamp (n := kk) (by omega)]
          refine lv_aload_n hx hb d_MD_comes_57 rfl (lv_at hl 0 rfl) ?_
          refine va_get (D := D) (ci := 3) (v := .ref (q 7)) (C := R_MD) (T := F_MD) (N := 15) hx hb hts i_MD hown hK hP 0 rfl rfl 13 (by decide) (hts _ wd_588) (fun _ h9 => h9) rfl d_MD_comes_58 ?_
          refine lv_iload_n hx hb d_MD_comes_61 rfl (lv_at hl 3 rfl) ?_
          refine va_iald hx hb hK hP 7 0 rfl rfl (show vp_in (nI kk) 136 from vp_in_nI (n := kk) (by omega) (by omega)) d_MD_comes_62 ?_
          rw [show ((nI kk) : Int32).toNatClampNeg = kk from nI_clamp (n := kk) (by omega)]
          refine va_iast hx hb hK hP hD hS 1 0 rfl rfl (hto _ (by omega)) d_MD_comes_63 (fun H locs hP hD hS => ?_)
          have hP : va_P D classes (md_w q cI cZ xth (upd yB ((xto kk).toNatClampNeg) (xwa kk)) xsh xcu xtp xtd xpa xsp xwh xhe xho xtk xto xwa (nI mn)) H := hP
          have hD : va_D A (md_w q cI cZ xth (upd yB ((xto kk).toNatClampNeg) (xwa kk)) xsh xcu xtp xtd xpa xsp xwh xhe xho xtk xto xwa (nI mn)) := hD
          refine lv_iinc (v := (nI (kk + 1))) (lv' := [(3, .int (nI (kk + 1))), (0, .ref (q 0)), (1, .int 0), (2, .int (nI mn))]) hx hb d_MD_comes_64 hl (k := 3) rfl (nI_1 kk) (by decide) rfl (fun ls hl => ?_)
          refine lv_goto (tgt := 42) hx hb d_MD_comes_67 (by decide) ?_
          exact ih42 (kk + 1) (upd yB ((xto kk).toNatClampNeg) (xwa kk)) (by omega) (by omega) (by rw [← heq42]; simp only [f_MD_comes_l42_0, eq_false c_4, ↓reduceIte]) _ _ hP hD hS ls (lv_sub hl [1, 2, 3, 0] rfl)
    exact loop42 (mn + 1) 0 xB (by omega) (by omega) hu_3.symm _ _ hP hD hS ls (lv_sub hl [3, 2, 1, 0] rfl)
  · refine lv_aload_n hx hb d_MD_comes_7 rfl (lv_at hl 0 rfl) ?_
    refine va_get (D := D) (ci := 3) (v := .int (nI mn)) (C := R_MD) (T := F_MD) (N := 15) hx hb hts i_MD hown hK hP 0 rfl rfl 14 (by decide) (hts _ wd_589) (fun _ h9 => h9) rfl d_MD_comes_8 ?_
    refine lv_aload_n hx hb d_MD_comes_11 rfl (lv_at hl 0 rfl) ?_
    refine va_get (D := D) (ci := 3) (v := .int xcu) (C := R_MD) (T := F_MD) (N := 15) hx hb hts i_MD hown hK hP 0 rfl rfl 3 (by decide) (hts _ wd_578) (fun _ h9 => h9) rfl d_MD_comes_12 ?_
    refine lv_icmp_le (tgt := 22) hx hb d_MD_comes_15 (by decide) (fun c_9 => ?_) (fun c_9 => ?_)
    · refine lv_iconst (v := 0) hx hb d_MD_comes_22 (by decide) ?_
      refine lv_istore_n (lv' := [(1, .int 0), (0, .ref (q 0))]) hx hb d_MD_comes_23 rfl hl (by decide) rfl (fun ls hl => ?_)
      refine lv_iload_n hx hb d_MD_comes_24 rfl (lv_at hl 0 rfl) ?_
      refine lv_if_eq (tgt := 35) hx hb d_MD_comes_25 (by decide) (fun c_10 => ?_) (fun c_10 => absurd (by decide) c_10)
      refine lv_aload_n hx hb d_MD_comes_35 rfl (lv_at hl 1 rfl) ?_
      refine va_get (D := D) (ci := 3) (v := .int (nI mn)) (C := R_MD) (T := F_MD) (N := 15) hx hb hts i_MD hown hK hP 0 rfl rfl 14 (by decide) (hts _ wd_589) (fun _ h9 => h9) rfl d_MD_comes_36 ?_
      refine lv_istore_n (lv' := [(2, .int (nI mn)), (1, .int 0), (0, .ref (q 0))]) hx hb d_MD_comes_39 rfl hl (by decide) rfl (fun ls hl => ?_)
      refine lv_iconst (v := 0) hx hb d_MD_comes_40 (by decide) ?_
      refine lv_istore_n (lv' := [(3, .int 0), (2, .int (nI mn)), (1, .int 0), (0, .ref (q 0))]) hx hb d_MD_comes_41 rfl hl (by decide) rfl (fun ls hl => ?_)
      obtain ⟨u_11, hu_11⟩ : ∃ z, z = (f_MD_comes_l42_0 xcu xto xwa mn (mn + 1) 0 xB) := ⟨_, rfl⟩
      have loop42 : ∀ (fukk kk : Nat) (yB : (Nat → Int32)), kk ≤ mn → kk + fukk = mn + 1 → f_MD_comes_l42_0 xcu xto xwa mn fukk kk yB = u_11 → ∀ (H : Heap) (locs : List Loc), va_P D classes (md_w q cI cZ xth yB xsh xcu xtp xtd xpa xsp xwh xhe xho xtk xto xwa (nI mn)) H → va_D A (md_w q cI cZ xth yB xsh xcu xtp xtd xpa xsp xwh xhe xho xtk xto xwa (nI mn)) → va_S A s.heap H locs → ∀ (ls : Array Slot), lv_has ls 4 [(0, .ref (q 0)), (1, .int 0), (2, .int (nI mn)), (3, .int (nI kk))] → W p l e R s m args below meth c H locs 0 0 Q (F0 m 42 ls []) := by
        intro fukk
        induction fukk with
        | zero =>
          intro kk yB h1 h2
          exact absurd h2 (by omega)
        | succ fukk ih42 =>
          intro kk yB hk42 hkn42 heq42 H locs hP hD hS ls hl
          refine lv_iload_n hx hb d_MD_comes_42 rfl (lv_at hl 3 rfl) ?_
          refine lv_iload_n hx hb d_MD_comes_43 rfl (lv_at hl 2 rfl) ?_
          refine lv_icmp_ge (tgt := 70) hx hb d_MD_comes_44 (by decide) (fun c_12 => ?_) (fun c_12 => ?_)
          · skip
            have hv42 : yB = u_11 := by rw [← heq42]; simp only [f_MD_comes_l42_0, eq_true c_12, ↓reduceIte]
            have hv42_0 : yB = u_11 := hv42
            rw [hv42_0] at hP hD
            have hke42 : kk = mn := sf_eq_of (N := mn) (by omega) (by omega) hk42 c_12
            try rw [hke42] at hP
            try rw [hke42] at hD
            try rw [hke42] at hl
            refine lv_aload_n hx hb d_MD_comes_70 rfl (lv_at hl 0 rfl) ?_
            refine lv_iconst (v := (-1)) hx hb d_MD_comes_71 (by decide) ?_
            refine va_put (D := D) (ci := 3) (v := .int (-1)) (ty := .int) (C := R_MD) (T := F_MD) (N := 15) hx hb hts i_MD t_MD t_MD_ok n_MD hown hK hP hD hS 0 rfl rfl 3 (by decide) (hts _ wd_578) (fun _ h9 => h9) rfl (by decide +kernel) rfl rfl (Nat.le_of_ble_eq_true rfl) d_MD_comes_72 (fun H locs hP hD hS => ?_)
            have hP : va_P D classes (md_w q cI cZ xth u_11 xsh (-1) xtp xtd xpa xsp xwh xhe xho xtk xto xwa (nI mn)) H := hP
            have hD : va_D A (md_w q cI cZ xth u_11 xsh (-1) xtp xtd xpa xsp xwh xhe xho xtk xto xwa (nI mn)) := hD
            refine lv_aload_n hx hb d_MD_comes_75 rfl (lv_at hl 0 rfl) ?_
            refine lv_aload_n hx hb d_MD_comes_76 rfl (lv_at hl 0 rfl) ?_
            refine va_get (D := D) (ci := 3) (v := .int xsh) (C := R_MD) (T := F_MD) (N := 15) hx hb hts i_MD hown hK hP 0 rfl rfl 2 (by decide) (hts _ wd_577) (fun _ h9 => h9) rfl d_MD_comes_77 ?_
            refine lv_if_ne (tgt := 87) hx hb d_MD_comes_80 (by decide) (fun c_13 => ?_) (fun c_13 => ?_)
            · refine lv_iconst (v := 1) hx hb d_MD_comes_87 (by decide) ?_
              refine lv_goto (tgt := 92) hx hb d_MD_comes_88 (by decide) ?_
              refine va_put (D := D) (ci := 3) (v := .int 1) (ty := .boolean) (C := R_MD) (T := F_MD) (N := 15) hx hb hts i_MD t_MD t_MD_ok n_MD hown hK hP hD hS 0 rfl rfl 2 (by decide) (hts _ wd_577) (fun _ h9 => h9) rfl (by decide +kernel) (sf_bp1).1 (sf_bp1).2 (Nat.le_of_ble_eq_true rfl) d_MD_comes_92 (fun H locs hP hD hS => ?_)
              have hP : va_P D classes (md_w q cI cZ xth u_11 1 (-1) xtp xtd xpa xsp xwh xhe xho xtk xto xwa (nI mn)) H := hP
              have hD : va_D A (md_w q cI cZ xth u_11 1 (-1) xtp xtd xpa xsp xwh xhe xho xtk xto xwa (nI mn)) := hD
              refine lv_iload_n hx hb d_MD_comes_95 rfl (lv_at hl 1 rfl) ?_
              refine lv_if_ne (tgt := 103) hx hb d_MD_comes_96 (by decide) (fun c_14 => absurd (by decide) c_14) (fun c_14 => ?_)
              refine lv_iconst (v := 1) hx hb d_MD_comes_99 (by decide) ?_
              refine lv_goto (tgt := 104) hx hb d_MD_comes_100 (by decide) ?_
              rw [hQ]
              exact sf_iret (1, u_11, 1) hx hb hr hlk hS sf_b1 rfl (by simp only [f_MD_comes, ← hu_11, eq_false c_1, eq_true c_9, eq_false c_13, ↓reduceIte]) hP d_MD_comes_104
            · refine lv_iload_n hx hb d_MD_comes_83 rfl (lv_at hl 1 rfl) ?_
              refine lv_if_eq (tgt := 91) hx hb d_MD_comes_84 (by decide) (fun c_15 => ?_) (fun c_15 => absurd (by decide) c_15)
              refine lv_iconst (v := 0) hx hb d_MD_comes_91 (by decide) ?_
              refine va_put (D := D) (ci := 3) (v := .int 0) (ty := .boolean) (C := R_MD) (T := F_MD) (N := 15) hx hb hts i_MD t_MD t_MD_ok n_MD hown hK hP hD hS 0 rfl rfl 2 (by decide) (hts _ wd_577) (fun _ h9 => h9) rfl (by decide +kernel) (sf_bp0).1 (sf_bp0).2 (Nat.le_of_ble_eq_true rfl) d_MD_comes_92 (fun H locs hP hD hS => ?_)
              have hP : va_P D classes (md_w q cI cZ xth u_11 0 (-1) xtp xtd xpa xsp xwh xhe xho xtk xto xwa (nI mn)) H := hP
              have hD : va_D A (md_w q cI cZ xth u_11 0 (-1) xtp xtd xpa xsp xwh xhe xho xtk xto xwa (nI mn)) := hD
              refine lv_iload_n hx hb d_MD_comes_95 rfl (lv_at hl 1 rfl) ?_
              refine lv_if_ne (tgt := 103) hx hb d_MD_comes_96 (by decide) (fun c_16 => absurd (by decide) c_16) (fun c_16 => ?_)
              refine lv_iconst (v := 1) hx hb d_MD_comes_99 (by decide) ?_
              refine lv_goto (tgt := 104) hx hb d_MD_comes_100 (by decide) ?_
              rw [hQ]
              exact sf_iret (1, u_11, 0) hx hb hr hlk hS sf_b1 rfl (by simp only [f_MD_comes, ← hu_11, eq_false c_1, eq_true c_9, eq_true c_13, ↓reduceIte]) hP d_MD_comes_104
          · have hlt : kk < mn := sf_lt_of (N := mn) (by omega) (by omega) c_12
            refine lv_aload_n hx hb d_MD_comes_47 rfl (lv_at hl 0 rfl) ?_
            refine va_get (D := D) (ci := 3) (v := .ref (q 1)) (C := R_MD) (T := F_MD) (N := 15) hx hb hts i_MD hown hK hP 0 rfl rfl 1 (by decide) (hts _ wd_576) (fun _ h9 => h9) rfl d_MD_comes_48 ?_
            refine lv_aload_n hx hb d_MD_comes_51 rfl (lv_at hl 0 rfl) ?_
            refine va_get (D := D) (ci := 3) (v := .ref (q 6)) (C := R_MD) (T := F_MD) (N := 15) hx hb hts i_MD hown hK hP 0 rfl rfl 12 (by decide) (hts _ wd_587) (fun _ h9 => h9) rfl d_MD_comes_52 ?_
            refine lv_iload_n hx hb d_MD_comes_55 rfl (lv_at hl 3 rfl) ?_
            refine va_iald hx hb hK hP 6 0 rfl rfl (show vp_in (nI kk) 136 from vp_in_nI (n := kk) (by omega) (by omega)) d_MD_comes_56 ?_
            rw [show ((nI kk) : Int32).toNatClampNeg = kk from nI_clamp (n := kk) (by omega)]
            refine lv_aload_n hx hb d_MD_comes_57 rfl (lv_at hl 0 rfl) ?_
            refine va_get (D := D) (ci := 3) (v := .ref (q 7)) (C := R_MD) (T := F_MD) (N := 15) hx hb hts i_MD hown hK hP 0 rfl rfl 13 (by decide) (hts _ wd_588) (fun _ h9 => h9) rfl d_MD_comes_58 ?_
            refine lv_iload_n hx hb d_MD_comes_61 rfl (lv_at hl 3 rfl) ?_
            refine va_iald hx hb hK hP 7 0 rfl rfl (show vp_in (nI kk) 136 from vp_in_nI (n := kk) (by omega) (by omega)) d_MD_comes_62 ?_
            rw [show ((nI kk) : Int32).toNatClampNeg = kk from nI_clamp (n := kk) (by omega)]
            refine va_iast hx hb hK hP hD hS 1 0 rfl rfl (hto _ (by omega)) d_MD_comes_63 (fun H locs hP hD hS => ?_)
            have hP : va_P D classes (md_w q cI cZ xth (upd yB ((xto kk).toNatClampNeg) (xwa kk)) xsh xcu xtp xtd xpa xsp xwh xhe xho xtk xto xwa (nI mn)) H := hP
            have hD : va_D A (md_w q cI cZ xth (upd yB ((xto kk).toNatClampNeg) (xwa kk)) xsh xcu xtp xtd xpa xsp xwh xhe xho xtk xto xwa (nI mn)) := hD
            refine lv_iinc (v := (nI (kk + 1))) (lv' := [(3, .int (nI (kk + 1))), (0, .ref (q 0)), (1, .int 0), (2, .int (nI mn))]) hx hb d_MD_comes_64 hl (k := 3) rfl (nI_1 kk) (by decide) rfl (fun ls hl => ?_)
            refine lv_goto (tgt := 42) hx hb d_MD_comes_67 (by decide) ?_
            exact ih42 (kk + 1) (upd yB ((xto kk).toNatClampNeg) (xwa kk)) (by omega) (by omega) (by rw [← heq42]; simp only [f_MD_comes_l42_0, eq_false c_12, ↓reduceIte]) _ _ hP hD hS ls (lv_sub hl [1, 2, 3, 0] rfl)
      exact loop42 (mn + 1) 0 xB (by omega) (by omega) hu_11.symm _ _ hP hD hS ls (lv_sub hl [3, 2, 1, 0] rfl)
    · refine lv_iconst (v := 1) hx hb d_MD_comes_18 (by decide) ?_
      refine lv_goto (tgt := 23) hx hb d_MD_comes_19 (by decide) ?_
      refine lv_istore_n (lv' := [(1, .int 1), (0, .ref (q 0))]) hx hb d_MD_comes_23 rfl hl (by decide) rfl (fun ls hl => ?_)
      refine lv_iload_n hx hb d_MD_comes_24 rfl (lv_at hl 0 rfl) ?_
      refine lv_if_eq (tgt := 35) hx hb d_MD_comes_25 (by decide) (fun c_17 => absurd c_17 (by decide)) (fun c_17 => ?_)
      refine lv_aload_n hx hb d_MD_comes_28 rfl (lv_at hl 1 rfl) ?_
      refine va_get (D := D) (ci := 3) (v := .int xcu) (C := R_MD) (T := F_MD) (N := 15) hx hb hts i_MD hown hK hP 0 rfl rfl 3 (by decide) (hts _ wd_578) (fun _ h9 => h9) rfl d_MD_comes_29 ?_
      refine lv_goto (tgt := 39) hx hb d_MD_comes_32 (by decide) ?_
      obtain ⟨u_18, hu_18⟩ : ∃ z, z = xcu.toNatClampNeg := ⟨_, rfl⟩
      obtain ⟨he_u_18, hb_u_18⟩ := sf_natp (B := mn) (by omega) hu_18 c_1 c_9
      rw [he_u_18]
      refine lv_istore_n (lv' := [(2, .int (nI u_18)), (1, .int 1), (0, .ref (q 0))]) hx hb d_MD_comes_39 rfl hl (by decide) rfl (fun ls hl => ?_)
      refine lv_iconst (v := 0) hx hb d_MD_comes_40 (by decide) ?_
      refine lv_istore_n (lv' := [(3, .int 0), (2, .int (nI u_18)), (1, .int 1), (0, .ref (q 0))]) hx hb d_MD_comes_41 rfl hl (by decide) rfl (fun ls hl => ?_)
      obtain ⟨u_19, hu_19⟩ : ∃ z, z = (f_MD_comes_l42_1 xcu xto xwa mn (u_18 + 1) 0 xB) := ⟨_, rfl⟩
      have loop42 : ∀ (fukk kk : Nat) (yB : (Nat → Int32)), kk ≤ u_18 → kk + fukk = u_18 + 1 → f_MD_comes_l42_1 xcu xto xwa mn fukk kk yB = u_19 → ∀ (H : Heap) (locs : List Loc), va_P D classes (md_w q cI cZ xth yB xsh xcu xtp xtd xpa xsp xwh xhe xho xtk xto xwa (nI mn)) H → va_D A (md_w q cI cZ xth yB xsh xcu xtp xtd xpa xsp xwh xhe xho xtk xto xwa (nI mn)) → va_S A s.heap H locs → ∀ (ls : Array Slot), lv_has ls 4 [(0, .ref (q 0)), (1, .int 1), (2, .int (nI u_18)), (3, .int (nI kk))] → W p l e R s m args below meth c H locs 0 0 Q (F0 m 42 ls []) := by
        intro fukk
        induction fukk with
        | zero =>
          intro kk yB h1 h2
          exact absurd h2 (by omega)
        | succ fukk ih42 =>
          intro kk yB hk42 hkn42 heq42 H locs hP hD hS ls hl
          refine lv_iload_n hx hb d_MD_comes_42 rfl (lv_at hl 3 rfl) ?_
          refine lv_iload_n hx hb d_MD_comes_43 rfl (lv_at hl 2 rfl) ?_
          refine lv_icmp_ge (tgt := 70) hx hb d_MD_comes_44 (by decide) (fun c_20 => ?_) (fun c_20 => ?_)
          · skip
            have hv42 : yB = u_19 := by rw [← heq42]; simp only [f_MD_comes_l42_1, ← hu_18, eq_true c_20, ↓reduceIte]
            have hv42_0 : yB = u_19 := hv42
            rw [hv42_0] at hP hD
            have hke42 : kk = u_18 := sf_eq_of (N := u_18) (by omega) (by omega) hk42 c_20
            try rw [hke42] at hP
            try rw [hke42] at hD
            try rw [hke42] at hl
            refine lv_aload_n hx hb d_MD_comes_70 rfl (lv_at hl 0 rfl) ?_
            refine lv_iconst (v := (-1)) hx hb d_MD_comes_71 (by decide) ?_
            refine va_put (D := D) (ci := 3) (v := .int (-1)) (ty := .int) (C := R_MD) (T := F_MD) (N := 15) hx hb hts i_MD t_MD t_MD_ok n_MD hown hK hP hD hS 0 rfl rfl 3 (by decide) (hts _ wd_578) (fun _ h9 => h9) rfl (by decide +kernel) rfl rfl (Nat.le_of_ble_eq_true rfl) d_MD_comes_72 (fun H locs hP hD hS => ?_)
            have hP : va_P D classes (md_w q cI cZ xth u_19 xsh (-1) xtp xtd xpa xsp xwh xhe xho xtk xto xwa (nI mn)) H := hP
            have hD : va_D A (md_w q cI cZ xth u_19 xsh (-1) xtp xtd xpa xsp xwh xhe xho xtk xto xwa (nI mn)) := hD
            refine lv_aload_n hx hb d_MD_comes_75 rfl (lv_at hl 0 rfl) ?_
            refine lv_aload_n hx hb d_MD_comes_76 rfl (lv_at hl 0 rfl) ?_
            refine va_get (D := D) (ci := 3) (v := .int xsh) (C := R_MD) (T := F_MD) (N := 15) hx hb hts i_MD hown hK hP 0 rfl rfl 2 (by decide) (hts _ wd_577) (fun _ h9 => h9) rfl d_MD_comes_77 ?_
            refine lv_if_ne (tgt := 87) hx hb d_MD_comes_80 (by decide) (fun c_21 => ?_) (fun c_21 => ?_)
            · refine lv_iconst (v := 1) hx hb d_MD_comes_87 (by decide) ?_
              refine lv_goto (tgt := 92) hx hb d_MD_comes_88 (by decide) ?_
              refine va_put (D := D) (ci := 3) (v := .int 1) (ty := .boolean) (C := R_MD) (T := F_MD) (N := 15) hx hb hts i_MD t_MD t_MD_ok n_MD hown hK hP hD hS 0 rfl rfl 2 (by decide) (hts _ wd_577) (fun _ h9 => h9) rfl (by decide +kernel) (sf_bp1).1 (sf_bp1).2 (Nat.le_of_ble_eq_true rfl) d_MD_comes_92 (fun H locs hP hD hS => ?_)
              have hP : va_P D classes (md_w q cI cZ xth u_19 1 (-1) xtp xtd xpa xsp xwh xhe xho xtk xto xwa (nI mn)) H := hP
              have hD : va_D A (md_w q cI cZ xth u_19 1 (-1) xtp xtd xpa xsp xwh xhe xho xtk xto xwa (nI mn)) := hD
              refine lv_iload_n hx hb d_MD_comes_95 rfl (lv_at hl 1 rfl) ?_
              refine lv_if_ne (tgt := 103) hx hb d_MD_comes_96 (by decide) (fun c_22 => ?_) (fun c_22 => absurd c_22 (by decide))
              refine lv_iconst (v := 0) hx hb d_MD_comes_103 (by decide) ?_
              rw [hQ]
              exact sf_iret (0, u_19, 1) hx hb hr hlk hS sf_b0 rfl (by simp only [f_MD_comes, ← hu_18, ← hu_19, eq_false c_1, eq_false c_9, eq_false c_21, ↓reduceIte]) hP d_MD_comes_104
            · refine lv_iload_n hx hb d_MD_comes_83 rfl (lv_at hl 1 rfl) ?_
              refine lv_if_eq (tgt := 91) hx hb d_MD_comes_84 (by decide) (fun c_23 => absurd c_23 (by decide)) (fun c_23 => ?_)
              refine lv_iconst (v := 1) hx hb d_MD_comes_87 (by decide) ?_
              refine lv_goto (tgt := 92) hx hb d_MD_comes_88 (by decide) ?_
              refine va_put (D := D) (ci := 3) (v := .int 1) (ty := .boolean) (C := R_MD) (T := F_MD) (N := 15) hx hb hts i_MD t_MD t_MD_ok n_MD hown hK hP hD hS 0 rfl rfl 2 (by decide) (hts _ wd_577) (fun _ h9 => h9) rfl (by decide +kernel) (sf_bp1).1 (sf_bp1).2 (Nat.le_of_ble_eq_true rfl) d_MD_comes_92 (fun H locs hP hD hS => ?_)
              have hP : va_P D classes (md_w q cI cZ xth u_19 1 (-1) xtp xtd xpa xsp xwh xhe xho xtk xto xwa (nI mn)) H := hP
              have hD : va_D A (md_w q cI cZ xth u_19 1 (-1) xtp xtd xpa xsp xwh xhe xho xtk xto xwa (nI mn)) := hD
              refine lv_iload_n hx hb d_MD_comes_95 rfl (lv_at hl 1 rfl) ?_
              refine lv_if_ne (tgt := 103) hx hb d_MD_comes_96 (by decide) (fun c_24 => ?_) (fun c_24 => absurd c_24 (by decide))
              refine lv_iconst (v := 0) hx hb d_MD_comes_103 (by decide) ?_
              rw [hQ]
              exact sf_iret (0, u_19, 1) hx hb hr hlk hS sf_b0 rfl (by simp only [f_MD_comes, ← hu_18, ← hu_19, eq_false c_1, eq_false c_9, eq_true c_21, ↓reduceIte]) hP d_MD_comes_104
          · have hlt : kk < u_18 := sf_lt_of (N := u_18) (by omega) (by omega) c_20
            refine lv_aload_n hx hb d_MD_comes_47 rfl (lv_at hl 0 rfl) ?_
            refine va_get (D := D) (ci := 3) (v := .ref (q 1)) (C := R_MD) (T := F_MD) (N := 15) hx hb hts i_MD hown hK hP 0 rfl rfl 1 (by decide) (hts _ wd_576) (fun _ h9 => h9) rfl d_MD_comes_48 ?_
            refine lv_aload_n hx hb d_MD_comes_51 rfl (lv_at hl 0 rfl) ?_
            refine va_get (D := D) (ci := 3) (v := .ref (q 6)) (C := R_MD) (T := F_MD) (N := 15) hx hb hts i_MD hown hK hP 0 rfl rfl 12 (by decide) (hts _ wd_587) (fun _ h9 => h9) rfl d_MD_comes_52 ?_
            refine lv_iload_n hx hb d_MD_comes_55 rfl (lv_at hl 3 rfl) ?_
            refine va_iald hx hb hK hP 6 0 rfl rfl (show vp_in (nI kk) 136 from vp_in_nI (n := kk) (by omega) (by omega)) d_MD_comes_56 ?_
            rw [show ((nI kk) : Int32).toNatClampNeg = kk from nI_clamp (n := kk) (by omega)]
            refine lv_aload_n hx hb d_MD_comes_57 rfl (lv_at hl 0 rfl) ?_
            refine va_get (D := D) (ci := 3) (v := .ref (q 7)) (C := R_MD) (T := F_MD) (N := 15) hx hb hts i_MD hown hK hP 0 rfl rfl 13 (by decide) (hts _ wd_588) (fun _ h9 => h9) rfl d_MD_comes_58 ?_
            refine lv_iload_n hx hb d_MD_comes_61 rfl (lv_at hl 3 rfl) ?_
            refine va_iald hx hb hK hP 7 0 rfl rfl (show vp_in (nI kk) 136 from vp_in_nI (n := kk) (by omega) (by omega)) d_MD_comes_62 ?_
            rw [show ((nI kk) : Int32).toNatClampNeg = kk from nI_clamp (n := kk) (by omega)]
            refine va_iast hx hb hK hP hD hS 1 0 rfl rfl (hto _ (by omega)) d_MD_comes_63 (fun H locs hP hD hS => ?_)
            have hP : va_P D classes (md_w q cI cZ xth (upd yB ((xto kk).toNatClampNeg) (xwa kk)) xsh xcu xtp xtd xpa xsp xwh xhe xho xtk xto xwa (nI mn)) H := hP
            have hD : va_D A (md_w q cI cZ xth (upd yB ((xto kk).toNatClampNeg) (xwa kk)) xsh xcu xtp xtd xpa xsp xwh xhe xho xtk xto xwa (nI mn)) := hD
            refine lv_iinc (v := (nI (kk + 1))) (lv' := [(3, .int (nI (kk + 1))), (0, .ref (q 0)), (1, .int 1), (2, .int (nI u_18))]) hx hb d_MD_comes_64 hl (k := 3) rfl (nI_1 kk) (by decide) rfl (fun ls hl => ?_)
            refine lv_goto (tgt := 42) hx hb d_MD_comes_67 (by decide) ?_
            exact ih42 (kk + 1) (upd yB ((xto kk).toNatClampNeg) (xwa kk)) (by omega) (by omega) (by rw [← heq42]; simp only [f_MD_comes_l42_1, ← hu_18, eq_false c_20, ↓reduceIte]) _ _ hP hD hS ls (lv_sub hl [1, 2, 3, 0] rfl)
      exact loop42 (u_18 + 1) 0 xB (by omega) (by omega) hu_19.symm _ _ hP hD hS ls (lv_sub hl [3, 2, 1, 0] rfl)
