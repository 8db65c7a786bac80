/-! md4: contracts, with the pure functions that they speak of (printed by wip/gen) -/
set_option maxRecDepth 20000 in
theorem wd_585 : Cond.fieldLink R_MD 73 "ShadowFilesModel" "holds" "I" ∈ sf_tb := sf_tb_in 585 rfl rfl
set_option maxRecDepth 20000 in
theorem wd_583 : Cond.fieldLink R_MD 76 "ShadowFilesModel" "whole" "Z" ∈ sf_tb := sf_tb_in 583 rfl rfl
set_option maxRecDepth 20000 in
theorem wd_584 : Cond.fieldLink R_MD 23 "ShadowFilesModel" "held" "[I" ∈ sf_tb := sf_tb_in 584 rfl rfl
set_option maxRecDepth 20000 in
theorem wd_680 : Cond.methodLink R_MD 80 y_MD_places ∈ sf_tb := sf_tb_in 680 rfl rfl
set_option maxRecDepth 20000 in
theorem wd_682 : Cond.code y_MD_places b_MD_places 1 (some .int) ∈ sf_tb := sf_tb_in 682 rfl rfl
set_option maxRecDepth 20000 in
theorem wd_681 : Cond.static y_MD_places ∈ sf_tb := sf_tb_in 681 rfl rfl
set_option maxRecDepth 20000 in
theorem wd_683 : Cond.methodLink R_MD 84 y_MD_begin ∈ sf_tb := sf_tb_in 683 rfl rfl
set_option maxRecDepth 20000 in
theorem wd_685 : Cond.code y_MD_begin b_MD_begin 2 (some .int) ∈ sf_tb := sf_tb_in 685 rfl rfl
set_option maxRecDepth 20000 in
theorem wd_684 : Cond.static y_MD_begin ∈ sf_tb := sf_tb_in 684 rfl rfl
set_option maxRecDepth 20000 in
theorem wd_686 : Cond.methodLink R_MD 88 y_MD_isThrough ∈ sf_tb := sf_tb_in 686 rfl rfl
set_option maxRecDepth 20000 in
theorem wd_689 : Cond.code y_MD_isThrough b_MD_isThrough 4 (some .boolean) ∈ sf_tb := sf_tb_in 689 rfl rfl
set_option maxRecDepth 20000 in
theorem wd_688 : Cond.instanceMethod y_MD_isThrough ∈ sf_tb := sf_tb_in 688 rfl rfl
set_option maxRecDepth 20000 in
theorem wd_42 : Cond.selects R_MD y_MD_isThrough y_MD_isThrough ∈ sf_tb := sf_tb_in 42 rfl rfl
set_option maxRecDepth 20000 in
theorem wd_698 : Cond.methodLink R_MD 101 y_MD_put ∈ sf_tb := sf_tb_in 698 rfl rfl
set_option maxRecDepth 20000 in
theorem wd_701 : Cond.code y_MD_put b_MD_put 3 none ∈ sf_tb := sf_tb_in 701 rfl rfl
set_option maxRecDepth 20000 in
theorem wd_700 : Cond.instanceMethod y_MD_put ∈ sf_tb := sf_tb_in 700 rfl rfl
set_option maxRecDepth 20000 in
theorem wd_45 : Cond.selects R_MD y_MD_put y_MD_put ∈ sf_tb := sf_tb_in 45 rfl rfl
theorem lk_MD_80 : sf_LS R_MD 80 y_MD_places b_MD_places 1 (some .int) 1 := ⟨wd_682, wd_680, wd_681, wd_55, by decide +kernel⟩
theorem lk_MD_84 : sf_LS R_MD 84 y_MD_begin b_MD_begin 2 (some .int) 2 := ⟨wd_685, wd_683, wd_684, wd_55, by decide +kernel⟩
theorem lk_MD_88 : sf_LV R_MD 88 y_MD_isThrough b_MD_isThrough 4 (some .boolean) 1 := ⟨wd_689, wd_686, wd_688, wd_42, wd_55, by decide +kernel⟩
theorem lk_MD_101 : sf_LV R_MD 101 y_MD_put b_MD_put 3 none 2 := ⟨wd_701, wd_698, wd_700, wd_45, wd_55, by decide +kernel⟩
theorem d_MD_putSum_0 : decode b_MD_putSum 0 = .ok (.iconst 0, 1) := by decide +kernel
theorem d_MD_putSum_1 : decode b_MD_putSum 1 = .ok (.istore_n 3, 1) := by decide +kernel
theorem d_MD_putSum_2 : decode b_MD_putSum 2 = .ok (.aload_n 0, 1) := by decide +kernel
theorem d_MD_putSum_3 : decode b_MD_putSum 3 = .ok (.getfield 98, 3) := by decide +kernel
theorem d_MD_putSum_6 : decode b_MD_putSum 6 = .ok (.iload_n 1, 1) := by decide +kernel
theorem d_MD_putSum_7 : decode b_MD_putSum 7 = .ok (.isub, 1) := by decide +kernel
theorem d_MD_putSum_8 : decode b_MD_putSum 8 = .ok (.istore 4, 2) := by decide +kernel
theorem d_MD_putSum_10 : decode b_MD_putSum 10 = .ok (.iload 4, 2) := by decide +kernel
theorem d_MD_putSum_12 : decode b_MD_putSum 12 = .ok (.aload_n 0, 1) := by decide +kernel
theorem d_MD_putSum_13 : decode b_MD_putSum 13 = .ok (.getfield 98, 3) := by decide +kernel
theorem d_MD_putSum_16 : decode b_MD_putSum 16 = .ok (.if_icmp .ge 21, 3) := by decide +kernel
theorem d_MD_putSum_19 : decode b_MD_putSum 19 = .ok (.iload_n 3, 1) := by decide +kernel
theorem d_MD_putSum_20 : decode b_MD_putSum 20 = .ok (.aload_n 0, 1) := by decide +kernel
theorem d_MD_putSum_21 : decode b_MD_putSum 21 = .ok (.getfield 33, 3) := by decide +kernel
theorem d_MD_putSum_24 : decode b_MD_putSum 24 = .ok (.iload 4, 2) := by decide +kernel
theorem d_MD_putSum_26 : decode b_MD_putSum 26 = .ok (.iaload, 1) := by decide +kernel
theorem d_MD_putSum_27 : decode b_MD_putSum 27 = .ok (.invokestatic 40, 3) := by decide +kernel
theorem d_MD_putSum_30 : decode b_MD_putSum 30 = .ok (.istore_n 3, 1) := by decide +kernel
theorem d_MD_putSum_31 : decode b_MD_putSum 31 = .ok (.iinc 4 1, 3) := by decide +kernel
theorem d_MD_putSum_34 : decode b_MD_putSum 34 = .ok (.goto (-24), 3) := by decide +kernel
theorem d_MD_putSum_37 : decode b_MD_putSum 37 = .ok (.iconst 0, 1) := by decide +kernel
theorem d_MD_putSum_38 : decode b_MD_putSum 38 = .ok (.istore 4, 2) := by decide +kernel
theorem d_MD_putSum_40 : decode b_MD_putSum 40 = .ok (.iload 4, 2) := by decide +kernel
theorem d_MD_putSum_42 : decode b_MD_putSum 42 = .ok (.iconst 4, 1) := by decide +kernel
theorem d_MD_putSum_43 : decode b_MD_putSum 43 = .ok (.if_icmp .ge 33, 3) := by decide +kernel
theorem d_MD_putSum_46 : decode b_MD_putSum 46 = .ok (.aload_n 0, 1) := by decide +kernel
theorem d_MD_putSum_47 : decode b_MD_putSum 47 = .ok (.iload_n 2, 1) := by decide +kernel
theorem d_MD_putSum_48 : decode b_MD_putSum 48 = .ok (.iload_n 1, 1) := by decide +kernel
theorem d_MD_putSum_49 : decode b_MD_putSum 49 = .ok (.iadd, 1) := by decide +kernel
theorem d_MD_putSum_50 : decode b_MD_putSum 50 = .ok (.iload 4, 2) := by decide +kernel
theorem d_MD_putSum_52 : decode b_MD_putSum 52 = .ok (.iadd, 1) := by decide +kernel
theorem d_MD_putSum_53 : decode b_MD_putSum 53 = .ok (.iload_n 3, 1) := by decide +kernel
theorem d_MD_putSum_54 : decode b_MD_putSum 54 = .ok (.bipush 24, 2) := by decide +kernel
theorem d_MD_putSum_56 : decode b_MD_putSum 56 = .ok (.bipush 8, 2) := by decide +kernel
theorem d_MD_putSum_58 : decode b_MD_putSum 58 = .ok (.iload 4, 2) := by decide +kernel
theorem d_MD_putSum_60 : decode b_MD_putSum 60 = .ok (.imul, 1) := by decide +kernel
theorem d_MD_putSum_61 : decode b_MD_putSum 61 = .ok (.isub, 1) := by decide +kernel
theorem d_MD_putSum_62 : decode b_MD_putSum 62 = .ok (.iushr, 1) := by decide +kernel
theorem d_MD_putSum_63 : decode b_MD_putSum 63 = .ok (.sipush 255, 3) := by decide +kernel
theorem d_MD_putSum_66 : decode b_MD_putSum 66 = .ok (.iand, 1) := by decide +kernel
theorem d_MD_putSum_67 : decode b_MD_putSum 67 = .ok (.invokevirtual 101, 3) := by decide +kernel
theorem d_MD_putSum_70 : decode b_MD_putSum 70 = .ok (.iinc 4 1, 3) := by decide +kernel
theorem d_MD_putSum_73 : decode b_MD_putSum 73 = .ok (.goto (-33), 3) := by decide +kernel
theorem d_MD_putSum_76 : decode b_MD_putSum 76 = .ok (.return_, 1) := by decide +kernel
theorem d_MD_go_0 : decode b_MD_go 0 = .ok (.aload_n 0, 1) := by decide +kernel
theorem d_MD_go_1 : decode b_MD_go 1 = .ok (.iload_n 1, 1) := by decide +kernel
theorem d_MD_go_2 : decode b_MD_go 2 = .ok (.invokevirtual 67, 3) := by decide +kernel
theorem d_MD_go_5 : decode b_MD_go 5 = .ok (.istore_n 2, 1) := by decide +kernel
theorem d_MD_go_6 : decode b_MD_go 6 = .ok (.iload_n 2, 1) := by decide +kernel
theorem d_MD_go_7 : decode b_MD_go 7 = .ok (.ifCond .eq 14, 3) := by decide +kernel
theorem d_MD_go_10 : decode b_MD_go 10 = .ok (.aload_n 0, 1) := by decide +kernel
theorem d_MD_go_11 : decode b_MD_go 11 = .ok (.bipush 13, 2) := by decide +kernel
theorem d_MD_go_13 : decode b_MD_go 13 = .ok (.iload_n 1, 1) := by decide +kernel
theorem d_MD_go_14 : decode b_MD_go 14 = .ok (.iadd, 1) := by decide +kernel
theorem d_MD_go_15 : decode b_MD_go 15 = .ok (.invokevirtual 64, 3) := by decide +kernel
theorem d_MD_go_18 : decode b_MD_go 18 = .ok (.goto 10, 3) := by decide +kernel
theorem d_MD_go_21 : decode b_MD_go 21 = .ok (.aload_n 0, 1) := by decide +kernel
theorem d_MD_go_22 : decode b_MD_go 22 = .ok (.iconst 1, 1) := by decide +kernel
theorem d_MD_go_23 : decode b_MD_go 23 = .ok (.iload_n 1, 1) := by decide +kernel
theorem d_MD_go_24 : decode b_MD_go 24 = .ok (.iadd, 1) := by decide +kernel
theorem d_MD_go_25 : decode b_MD_go 25 = .ok (.invokevirtual 64, 3) := by decide +kernel
theorem d_MD_go_28 : decode b_MD_go 28 = .ok (.iconst 1, 1) := by decide +kernel
theorem d_MD_go_29 : decode b_MD_go 29 = .ok (.isub, 1) := by decide +kernel
theorem d_MD_go_30 : decode b_MD_go 30 = .ok (.istore_n 3, 1) := by decide +kernel
theorem d_MD_go_31 : decode b_MD_go 31 = .ok (.aload_n 0, 1) := by decide +kernel
theorem d_MD_go_32 : decode b_MD_go 32 = .ok (.iconst 0, 1) := by decide +kernel
theorem d_MD_go_33 : decode b_MD_go 33 = .ok (.putfield 70, 3) := by decide +kernel
theorem d_MD_go_36 : decode b_MD_go 36 = .ok (.aload_n 0, 1) := by decide +kernel
theorem d_MD_go_37 : decode b_MD_go 37 = .ok (.iconst 0, 1) := by decide +kernel
theorem d_MD_go_38 : decode b_MD_go 38 = .ok (.putfield 73, 3) := by decide +kernel
theorem d_MD_go_41 : decode b_MD_go 41 = .ok (.aload_n 0, 1) := by decide +kernel
theorem d_MD_go_42 : decode b_MD_go 42 = .ok (.iconst 0, 1) := by decide +kernel
theorem d_MD_go_43 : decode b_MD_go 43 = .ok (.putfield 76, 3) := by decide +kernel
theorem d_MD_go_46 : decode b_MD_go 46 = .ok (.iload_n 3, 1) := by decide +kernel
theorem d_MD_go_47 : decode b_MD_go 47 = .ok (.ifCond .lt 26, 3) := by decide +kernel
theorem d_MD_go_50 : decode b_MD_go 50 = .ok (.iload_n 3, 1) := by decide +kernel
theorem d_MD_go_51 : decode b_MD_go 51 = .ok (.iload_n 2, 1) := by decide +kernel
theorem d_MD_go_52 : decode b_MD_go 52 = .ok (.invokestatic 80, 3) := by decide +kernel
theorem d_MD_go_55 : decode b_MD_go 55 = .ok (.if_icmp .ge 18, 3) := by decide +kernel
theorem d_MD_go_58 : decode b_MD_go 58 = .ok (.aload_n 0, 1) := by decide +kernel
theorem d_MD_go_59 : decode b_MD_go 59 = .ok (.getfield 7, 3) := by decide +kernel
theorem d_MD_go_62 : decode b_MD_go 62 = .ok (.iload_n 2, 1) := by decide +kernel
theorem d_MD_go_63 : decode b_MD_go 63 = .ok (.iload_n 3, 1) := by decide +kernel
theorem d_MD_go_64 : decode b_MD_go 64 = .ok (.invokestatic 84, 3) := by decide +kernel
theorem d_MD_go_67 : decode b_MD_go 67 = .ok (.iconst 2, 1) := by decide +kernel
theorem d_MD_go_68 : decode b_MD_go 68 = .ok (.iadd, 1) := by decide +kernel
theorem d_MD_go_69 : decode b_MD_go 69 = .ok (.iaload, 1) := by decide +kernel
theorem d_MD_go_70 : decode b_MD_go 70 = .ok (.goto 4, 3) := by decide +kernel
theorem d_MD_go_73 : decode b_MD_go 73 = .ok (.iconst 0, 1) := by decide +kernel
theorem d_MD_go_74 : decode b_MD_go 74 = .ok (.istore 4, 2) := by decide +kernel
theorem d_MD_go_76 : decode b_MD_go 76 = .ok (.iconst 1, 1) := by decide +kernel
theorem d_MD_go_77 : decode b_MD_go 77 = .ok (.istore 5, 2) := by decide +kernel
theorem d_MD_go_79 : decode b_MD_go 79 = .ok (.iload 5, 2) := by decide +kernel
theorem d_MD_go_81 : decode b_MD_go 81 = .ok (.ifCond .eq 200, 3) := by decide +kernel
theorem d_MD_go_84 : decode b_MD_go 84 = .ok (.iload_n 3, 1) := by decide +kernel
theorem d_MD_go_85 : decode b_MD_go 85 = .ok (.ifCond .lt 196, 3) := by decide +kernel
theorem d_MD_go_88 : decode b_MD_go 88 = .ok (.iload_n 3, 1) := by decide +kernel
theorem d_MD_go_89 : decode b_MD_go 89 = .ok (.iload_n 2, 1) := by decide +kernel
theorem d_MD_go_90 : decode b_MD_go 90 = .ok (.invokestatic 80, 3) := by decide +kernel
theorem d_MD_go_93 : decode b_MD_go 93 = .ok (.if_icmp .ge 188, 3) := by decide +kernel
theorem d_MD_go_96 : decode b_MD_go 96 = .ok (.aload_n 0, 1) := by decide +kernel
theorem d_MD_go_97 : decode b_MD_go 97 = .ok (.getfield 70, 3) := by decide +kernel
theorem d_MD_go_100 : decode b_MD_go 100 = .ok (.iconst 3, 1) := by decide +kernel
theorem d_MD_go_101 : decode b_MD_go 101 = .ok (.if_icmp .ge 180, 3) := by decide +kernel
theorem d_MD_go_104 : decode b_MD_go 104 = .ok (.aload_n 0, 1) := by decide +kernel
theorem d_MD_go_105 : decode b_MD_go 105 = .ok (.iload_n 3, 1) := by decide +kernel
theorem d_MD_go_106 : decode b_MD_go 106 = .ok (.invokevirtual 88, 3) := by decide +kernel
theorem d_MD_go_109 : decode b_MD_go 109 = .ok (.ifCond .ne 172, 3) := by decide +kernel
theorem d_MD_go_112 : decode b_MD_go 112 = .ok (.iload_n 2, 1) := by decide +kernel
theorem d_MD_go_113 : decode b_MD_go 113 = .ok (.iload_n 3, 1) := by decide +kernel
theorem d_MD_go_114 : decode b_MD_go 114 = .ok (.invokestatic 84, 3) := by decide +kernel
theorem d_MD_go_117 : decode b_MD_go 117 = .ok (.istore 6, 2) := by decide +kernel
theorem d_MD_go_119 : decode b_MD_go 119 = .ok (.aload_n 0, 1) := by decide +kernel
theorem d_MD_go_120 : decode b_MD_go 120 = .ok (.getfield 20, 3) := by decide +kernel
theorem d_MD_go_123 : decode b_MD_go 123 = .ok (.aload_n 0, 1) := by decide +kernel
theorem d_MD_go_124 : decode b_MD_go 124 = .ok (.getfield 70, 3) := by decide +kernel
theorem d_MD_go_127 : decode b_MD_go 127 = .ok (.iload_n 3, 1) := by decide +kernel
theorem d_MD_go_128 : decode b_MD_go 128 = .ok (.iastore, 1) := by decide +kernel
theorem d_MD_go_129 : decode b_MD_go 129 = .ok (.aload_n 0, 1) := by decide +kernel
theorem d_MD_go_130 : decode b_MD_go 130 = .ok (.dup, 1) := by decide +kernel
theorem d_MD_go_131 : decode b_MD_go 131 = .ok (.getfield 70, 3) := by decide +kernel
theorem d_MD_go_134 : decode b_MD_go 134 = .ok (.iconst 1, 1) := by decide +kernel
theorem d_MD_go_135 : decode b_MD_go 135 = .ok (.iadd, 1) := by decide +kernel
theorem d_MD_go_136 : decode b_MD_go 136 = .ok (.putfield 70, 3) := by decide +kernel
theorem d_MD_go_139 : decode b_MD_go 139 = .ok (.aload_n 0, 1) := by decide +kernel
theorem d_MD_go_140 : decode b_MD_go 140 = .ok (.getfield 7, 3) := by decide +kernel
theorem d_MD_go_143 : decode b_MD_go 143 = .ok (.iload 6, 2) := by decide +kernel
theorem d_MD_go_145 : decode b_MD_go 145 = .ok (.iconst 1, 1) := by decide +kernel
theorem d_MD_go_146 : decode b_MD_go 146 = .ok (.iadd, 1) := by decide +kernel
theorem d_MD_go_147 : decode b_MD_go 147 = .ok (.iaload, 1) := by decide +kernel
theorem d_MD_go_148 : decode b_MD_go 148 = .ok (.istore 7, 2) := by decide +kernel
theorem d_MD_go_150 : decode b_MD_go 150 = .ok (.aload_n 0, 1) := by decide +kernel
theorem d_MD_go_151 : decode b_MD_go 151 = .ok (.iload 6, 2) := by decide +kernel
theorem d_MD_go_153 : decode b_MD_go 153 = .ok (.bipush 28, 2) := by decide +kernel
theorem d_MD_go_155 : decode b_MD_go 155 = .ok (.invokevirtual 48, 3) := by decide +kernel
theorem d_MD_go_158 : decode b_MD_go 158 = .ok (.ifCond .eq 32, 3) := by decide +kernel
theorem d_MD_go_161 : decode b_MD_go 161 = .ok (.iload 7, 2) := by decide +kernel
theorem d_MD_go_163 : decode b_MD_go 163 = .ok (.iconst 1, 1) := by decide +kernel
theorem d_MD_go_164 : decode b_MD_go 164 = .ok (.bipush 25, 2) := by decide +kernel
theorem d_MD_go_166 : decode b_MD_go 166 = .ok (.invokestatic 44, 3) := by decide +kernel
theorem d_MD_go_169 : decode b_MD_go 169 = .ok (.ifCond .eq 21, 3) := by decide +kernel
theorem d_MD_go_172 : decode b_MD_go 172 = .ok (.aload_n 0, 1) := by decide +kernel
theorem d_MD_go_173 : decode b_MD_go 173 = .ok (.getfield 7, 3) := by decide +kernel
theorem d_MD_go_176 : decode b_MD_go 176 = .ok (.iload 6, 2) := by decide +kernel
theorem d_MD_go_178 : decode b_MD_go 178 = .ok (.iconst 2, 1) := by decide +kernel
theorem d_MD_go_179 : decode b_MD_go 179 = .ok (.iadd, 1) := by decide +kernel
theorem d_MD_go_180 : decode b_MD_go 180 = .ok (.iaload, 1) := by decide +kernel
theorem d_MD_go_181 : decode b_MD_go 181 = .ok (.iload 4, 2) := by decide +kernel
theorem d_MD_go_183 : decode b_MD_go 183 = .ok (.if_icmp .ne 7, 3) := by decide +kernel
theorem d_MD_go_186 : decode b_MD_go 186 = .ok (.iconst 1, 1) := by decide +kernel
theorem d_MD_go_187 : decode b_MD_go 187 = .ok (.goto 4, 3) := by decide +kernel
theorem d_MD_go_190 : decode b_MD_go 190 = .ok (.iconst 0, 1) := by decide +kernel
theorem d_MD_go_191 : decode b_MD_go 191 = .ok (.istore 5, 2) := by decide +kernel
theorem d_MD_go_193 : decode b_MD_go 193 = .ok (.iconst 0, 1) := by decide +kernel
theorem d_MD_go_194 : decode b_MD_go 194 = .ok (.istore 8, 2) := by decide +kernel
theorem d_MD_go_196 : decode b_MD_go 196 = .ok (.iload 8, 2) := by decide +kernel
theorem d_MD_go_198 : decode b_MD_go 198 = .ok (.iload 7, 2) := by decide +kernel
theorem d_MD_go_200 : decode b_MD_go 200 = .ok (.if_icmp .ge 45, 3) := by decide +kernel
theorem d_MD_go_203 : decode b_MD_go 203 = .ok (.iload 5, 2) := by decide +kernel
theorem d_MD_go_205 : decode b_MD_go 205 = .ok (.ifCond .eq 40, 3) := by decide +kernel
theorem d_MD_go_208 : decode b_MD_go 208 = .ok (.aload_n 0, 1) := by decide +kernel
theorem d_MD_go_209 : decode b_MD_go 209 = .ok (.getfield 23, 3) := by decide +kernel
theorem d_MD_go_212 : decode b_MD_go 212 = .ok (.aload_n 0, 1) := by decide +kernel
theorem d_MD_go_213 : decode b_MD_go 213 = .ok (.getfield 73, 3) := by decide +kernel
theorem d_MD_go_216 : decode b_MD_go 216 = .ok (.aload_n 0, 1) := by decide +kernel
theorem d_MD_go_217 : decode b_MD_go 217 = .ok (.getfield 7, 3) := by decide +kernel
theorem d_MD_go_220 : decode b_MD_go 220 = .ok (.iload 6, 2) := by decide +kernel
theorem d_MD_go_222 : decode b_MD_go 222 = .ok (.iconst 3, 1) := by decide +kernel
theorem d_MD_go_223 : decode b_MD_go 223 = .ok (.iadd, 1) := by decide +kernel
theorem d_MD_go_224 : decode b_MD_go 224 = .ok (.iload 8, 2) := by decide +kernel
theorem d_MD_go_226 : decode b_MD_go 226 = .ok (.iadd, 1) := by decide +kernel
theorem d_MD_go_227 : decode b_MD_go 227 = .ok (.iaload, 1) := by decide +kernel
theorem d_MD_go_228 : decode b_MD_go 228 = .ok (.iastore, 1) := by decide +kernel
theorem d_MD_go_229 : decode b_MD_go 229 = .ok (.aload_n 0, 1) := by decide +kernel
theorem d_MD_go_230 : decode b_MD_go 230 = .ok (.dup, 1) := by decide +kernel
theorem d_MD_go_231 : decode b_MD_go 231 = .ok (.getfield 73, 3) := by decide +kernel
theorem d_MD_go_234 : decode b_MD_go 234 = .ok (.iconst 1, 1) := by decide +kernel
theorem d_MD_go_235 : decode b_MD_go 235 = .ok (.iadd, 1) := by decide +kernel
theorem d_MD_go_236 : decode b_MD_go 236 = .ok (.putfield 73, 3) := by decide +kernel
theorem d_MD_go_239 : decode b_MD_go 239 = .ok (.iinc 8 1, 3) := by decide +kernel
theorem d_MD_go_242 : decode b_MD_go 242 = .ok (.goto (-46), 3) := by decide +kernel
theorem d_MD_go_245 : decode b_MD_go 245 = .ok (.iload 5, 2) := by decide +kernel
theorem d_MD_go_247 : decode b_MD_go 247 = .ok (.ifCond .eq 21, 3) := by decide +kernel
theorem d_MD_go_250 : decode b_MD_go 250 = .ok (.aload_n 0, 1) := by decide +kernel
theorem d_MD_go_251 : decode b_MD_go 251 = .ok (.getfield 7, 3) := by decide +kernel
theorem d_MD_go_254 : decode b_MD_go 254 = .ok (.iload 6, 2) := by decide +kernel
theorem d_MD_go_256 : decode b_MD_go 256 = .ok (.iaload, 1) := by decide +kernel
theorem d_MD_go_257 : decode b_MD_go 257 = .ok (.ifCond .ne 11, 3) := by decide +kernel
theorem d_MD_go_260 : decode b_MD_go 260 = .ok (.aload_n 0, 1) := by decide +kernel
theorem d_MD_go_261 : decode b_MD_go 261 = .ok (.iconst 1, 1) := by decide +kernel
theorem d_MD_go_262 : decode b_MD_go 262 = .ok (.putfield 76, 3) := by decide +kernel
theorem d_MD_go_265 : decode b_MD_go 265 = .ok (.iconst 0, 1) := by decide +kernel
theorem d_MD_go_266 : decode b_MD_go 266 = .ok (.istore 5, 2) := by decide +kernel
theorem d_MD_go_268 : decode b_MD_go 268 = .ok (.aload_n 0, 1) := by decide +kernel
theorem d_MD_go_269 : decode b_MD_go 269 = .ok (.getfield 7, 3) := by decide +kernel
theorem d_MD_go_272 : decode b_MD_go 272 = .ok (.iload 6, 2) := by decide +kernel
theorem d_MD_go_274 : decode b_MD_go 274 = .ok (.iaload, 1) := by decide +kernel
theorem d_MD_go_275 : decode b_MD_go 275 = .ok (.iconst 1, 1) := by decide +kernel
theorem d_MD_go_276 : decode b_MD_go 276 = .ok (.isub, 1) := by decide +kernel
theorem d_MD_go_277 : decode b_MD_go 277 = .ok (.istore_n 3, 1) := by decide +kernel
theorem d_MD_go_278 : decode b_MD_go 278 = .ok (.goto (-199), 3) := by decide +kernel
theorem d_MD_go_281 : decode b_MD_go 281 = .ok (.aload_n 0, 1) := by decide +kernel
theorem d_MD_go_282 : decode b_MD_go 282 = .ok (.aload_n 0, 1) := by decide +kernel
theorem d_MD_go_283 : decode b_MD_go 283 = .ok (.getfield 76, 3) := by decide +kernel
theorem d_MD_go_286 : decode b_MD_go 286 = .ok (.ifCond .eq 10, 3) := by decide +kernel
theorem d_MD_go_289 : decode b_MD_go 289 = .ok (.aload_n 0, 1) := by decide +kernel
theorem d_MD_go_290 : decode b_MD_go 290 = .ok (.getfield 73, 3) := by decide +kernel
theorem d_MD_go_293 : decode b_MD_go 293 = .ok (.goto 4, 3) := by decide +kernel
theorem d_MD_go_296 : decode b_MD_go 296 = .ok (.iconst 0, 1) := by decide +kernel
theorem d_MD_go_297 : decode b_MD_go 297 = .ok (.putfield 73, 3) := by decide +kernel
theorem d_MD_go_300 : decode b_MD_go 300 = .ok (.return_, 1) := by decide +kernel
theorem f_MD_isSlow_b (xB : Nat → Int32) (ro : Nat) : f_MD_isSlow xB ro = 0 ∨ f_MD_isSlow xB ro = 1 := by
  unfold f_MD_isSlow
  split
  · exact Or.inl rfl
  · exact Or.inr rfl
theorem sf_natp {x : Int32} {z B : Nat} (hB : B < 2 ^ 31) (hz : z = x.toNatClampNeg) (h1 : ¬ x < 0) (h2 : ¬ nI B ≤ x) : x = nI z ∧ z < B := by
  obtain ⟨j, hj, rfl⟩ := nI_of h1
  rw [nI_clamp hj] at hz
  subst hz
  exact ⟨rfl, sf_lt_of hB hj h2⟩
theorem sf_natn {x : Int32} {z : Nat} (hz : z = x.toNatClampNeg) (h : ¬ f_MD_in x 1 25 = 0) : x = nI z ∧ 1 ≤ z ∧ z ≤ 25 := by
  by_cases h1 : x < 1
  · exact absurd (by simp only [f_MD_in, eq_true h1, ↓reduceIte]) h
  · by_cases h2 : 25 < x
    · exact absurd (by simp only [f_MD_in, eq_false h1, eq_true h2, ↓reduceIte]) h
    · obtain ⟨-, j, rfl, hj⟩ := sf_feed1 h1
      rw [nI_clamp hj] at hz
      subst hz
      have h3 : ¬ nI 25 < nI (j + 1) := h2
      rw [nI_ltI (by omega) hj] at h3
      exact ⟨rfl, by omega, by omega⟩
def f_MD_putSum_l40 (mn : Nat) (nb : Nat) (fm : Nat) (sm : Int32) : Nat → Nat → (Nat → Int32) → (Nat → Int32) → ((Nat → Int32) × (Nat → Int32))
  | 0, _, _, _ => ((fun _ => 0), (fun _ => 0))
  | fu + 1, kk, vto, vwa =>
    if 4 ≤ (nI kk) then
      (vto, vwa)
    else
      f_MD_putSum_l40 mn nb fm sm fu (kk + 1) (upd vto (mn + kk) (nI ((fm + nb) + kk))) (upd vwa (mn + kk) ((sf_ushr sm (24 - (nI (8 * kk)))) &&& 255))
def f_MD_putSum_l10 (xto : Nat → Int32) (xwa : Nat → Int32) (mn : Nat) (nb : Nat) (fm : Nat) : Nat → Nat → Int32 → ((Nat → Int32) × (Nat → Int32))
  | 0, _, _ => ((fun _ => 0), (fun _ => 0))
  | fu + 1, k, sm =>
    if (nI mn) ≤ (nI ((mn - nb) + k)) then
      f_MD_putSum_l40 mn nb fm sm (4 + 1) 0 xto xwa
    else
      f_MD_putSum_l10 xto xwa mn nb fm fu (k + 1) (f_MD_stir sm (xwa ((mn - nb) + k)))
def f_MD_putSum (xto : Nat → Int32) (xwa : Nat → Int32) (mn : Nat) (nb : Nat) (fm : Nat) : ((Nat → Int32) × (Nat → Int32)) :=
  f_MD_putSum_l10 xto xwa mn nb fm (nb + 1) 0 0
set_option maxHeartbeats 1000000 in
set_option maxRecDepth 100000 in
/-- putSum -/
theorem c_MD_putSum (l : Launch) (D : va_G) (cI cZ cJ : ClassId) (q : Nat → Nat) (xth : Int32) (xB : Nat → Int32) (xsh : Int32) (xcu : Int32) (xtp : Nat → Int32) (xtd : Int32) (xpa : Nat → Int32) (xsp : Int32) (xwh : Int32) (xhe : Nat → Int32) (xho : Int32) (xtk : Nat → Int32) (xto : Nat → Int32) (xwa : Nat → Int32) (mn : Nat) (nb : Nat) (fm : Nat) (hnb : nb ≤ mn) (hm : mn + 4 ≤ 136) : sf_M (S := ((Nat → Int32) × (Nat → Int32))) l D classes (sf_tys cI cZ cJ) y_MD_putSum (sf_ws y_MD_putSum b_MD_putSum 5 none) 1 22 [.ref (q 0), .int (nI nb), .int (nI fm)] (md_w q cI cZ xth xB xsh xcu xtp xtd xpa xsp xwh xhe xho xtk xto xwa (nI mn)) (fun _ => none) (fun r => r = f_MD_putSum xto xwa mn nb fm) (fun r => (md_w q cI cZ xth xB xsh xcu xtp xtd xpa xsp xwh xhe xho xtk r.1 r.2 (nI (mn + 4)))) := by
  refine sf_ofW (S := ((Nat → Int32) × (Nat → Int32))) (by decide) (Nat.le_of_ble_eq_true rfl) ?_
  intro p e s m below meth c A ls R args Q hR hArgs hQ hC0 hr hK hP hD hl
  obtain ⟨hx, hb, hml, hown, hts, hA, hlk⟩ := hC0
  have hS : va_S A s.heap s.heap [] := va_S.rf
  have hl : lv_has ls 5 [(0, .ref (q 0)), (1, .int (nI nb)), (2, .int (nI fm))] := hl
  refine lv_iconst (v := 0) hx hb d_MD_putSum_0 (by decide) ?_
  refine lv_istore_n (lv' := [(3, .int 0), (0, .ref (q 0)), (1, .int (nI nb)), (2, .int (nI fm))]) hx hb d_MD_putSum_1 rfl hl (by decide) rfl (fun ls hl => ?_)
  refine lv_aload_n hx hb d_MD_putSum_2 rfl (lv_at hl 1 rfl) ?_
  refine va_get (D := D) (ci := 3) (v := .int (nI mn)) (C := R_MD) (T := F_MD) (N := 15) hx hb hts i_MD hown hK hP 0 rfl rfl 14 (by decide) (hts _ wd_589) (fun _ h9 => h9) rfl d_MD_putSum_3 ?_
  refine lv_iload_n hx hb d_MD_putSum_6 rfl (lv_at hl 2 rfl) ?_
  refine lv_isub hx hb d_MD_putSum_7 ?_
  refine lv_istore (lv' := [(4, .int ((nI mn) - (nI nb))), (3, .int 0), (0, .ref (q 0)), (1, .int (nI nb)), (2, .int (nI fm))]) hx hb d_MD_putSum_8 hl (by decide) rfl (fun ls hl => ?_)
  have loop10 : ∀ (fu k : Nat) (sm : Int32), k ≤ nb → k + fu = nb + 1 → f_MD_putSum_l10 xto xwa mn nb fm fu k sm = f_MD_putSum xto xwa mn nb fm → ∀ (H : Heap) (locs : List Loc), va_P D classes (md_w q cI cZ xth xB xsh xcu xtp xtd xpa xsp xwh xhe xho xtk xto xwa (nI mn)) H → va_D A (md_w q cI cZ xth xB xsh xcu xtp xtd xpa xsp xwh xhe xho xtk xto xwa (nI mn)) → va_S A s.heap H locs → ∀ (ls : Array Slot), lv_has ls 5 [(0, .ref (q 0)), (1, .int (nI nb)), (2, .int (nI fm)), (3, .int sm), (4, .int (nI ((mn - nb) + k)))] → W p l e R s m args below meth c H locs 0 0 Q (F0 m 10 ls []) := by
    intro fu
    induction fu with
    | zero =>
      intro k sm h1 h2
      exact absurd h2 (by omega)
    | succ fu ih10 =>
      intro k sm hk10 hkn10 heq10 H locs hP hD hS ls hl
      refine lv_iload hx hb d_MD_putSum_10 (lv_at hl 4 rfl) ?_
      refine lv_aload_n hx hb d_MD_putSum_12 rfl (lv_at hl 0 rfl) ?_
      refine va_get (D := D) (ci := 3) (v := .int (nI mn)) (C := R_MD) (T := F_MD) (N := 15) hx hb hts i_MD hown hK hP 0 rfl rfl 14 (by decide) (hts _ wd_589) (fun _ h9 => h9) rfl d_MD_putSum_13 ?_
      refine lv_icmp_ge (tgt := 37) hx hb d_MD_putSum_16 (by decide) (fun c_1 => ?_) (fun c_1 => ?_)
      · refine lv_iconst (v := 0) hx hb d_MD_putSum_37 (by decide) ?_
        refine lv_istore (lv' := [(4, .int 0), (0, .ref (q 0)), (1, .int (nI nb)), (2, .int (nI fm)), (3, .int sm)]) hx hb d_MD_putSum_38 hl (by decide) rfl (fun ls hl => ?_)
        have loop40 : ∀ (fukk kk : Nat) (vto : (Nat → Int32)) (vwa : (Nat → Int32)), kk ≤ 4 → kk + fukk = 4 + 1 → f_MD_putSum_l40 mn nb fm sm fukk kk vto vwa = f_MD_putSum xto xwa mn nb fm → ∀ (H : Heap) (locs : List Loc), va_P D classes (md_w q cI cZ xth xB xsh xcu xtp xtd xpa xsp xwh xhe xho xtk vto vwa (nI (mn + kk))) H → va_D A (md_w q cI cZ xth xB xsh xcu xtp xtd xpa xsp xwh xhe xho xtk vto vwa (nI (mn + kk))) → va_S A s.heap H locs → ∀ (ls : Array Slot), lv_has ls 5 [(0, .ref (q 0)), (1, .int (nI nb)), (2, .int (nI fm)), (3, .int sm), (4, .int (nI kk))] → W p l e R s m args below meth c H locs 0 0 Q (F0 m 40 ls []) := by
          intro fukk
          induction fukk with
          | zero =>
            intro kk vto vwa h1 h2
            exact absurd h2 (by omega)
          | succ fukk ih40 =>
            intro kk vto vwa hk40 hkn40 heq40 H locs hP hD hS ls hl
            refine lv_iload hx hb d_MD_putSum_40 (lv_at hl 4 rfl) ?_
            refine lv_iconst (v := 4) hx hb d_MD_putSum_42 (by decide) ?_
            refine lv_icmp_ge (tgt := 76) hx hb d_MD_putSum_43 (by decide) (fun c_2 => ?_) (fun c_2 => ?_)
            · have hke40 : kk = 4 := sf_eq_of (N := 4) (by omega) (by omega) hk40 c_2
              subst hke40
              rw [hQ]
              exact sf_vret (vto, vwa) hx hb hr hlk hS rfl (by rw [← heq40]; simp only [f_MD_putSum_l40, eq_true c_2, ↓reduceIte]) hP d_MD_putSum_76
            · have hlt : kk < 4 := sf_lt_of (N := 4) (by omega) (by omega) c_2
              refine lv_aload_n hx hb d_MD_putSum_46 rfl (lv_at hl 0 rfl) ?_
              refine lv_iload_n hx hb d_MD_putSum_47 rfl (lv_at hl 2 rfl) ?_
              refine lv_iload_n hx hb d_MD_putSum_48 rfl (lv_at hl 1 rfl) ?_
              refine lv_iadd hx hb d_MD_putSum_49 ?_
              rw [show (((nI fm) + (nI nb)) : Int32) = (nI (fm + nb)) from nI_add fm nb]
              refine lv_iload hx hb d_MD_putSum_50 (lv_at hl 4 rfl) ?_
              refine lv_iadd hx hb d_MD_putSum_52 ?_
              rw [show (((nI (fm + nb)) + (nI kk)) : Int32) = (nI ((fm + nb) + kk)) from nI_add (fm + nb) kk]
              refine lv_iload_n hx hb d_MD_putSum_53 rfl (lv_at hl 3 rfl) ?_
              refine lv_bipush (v := 24) hx hb d_MD_putSum_54 (by decide) ?_
              refine lv_bipush (v := 8) hx hb d_MD_putSum_56 (by decide) ?_
              refine lv_iload hx hb d_MD_putSum_58 (lv_at hl 4 rfl) ?_
              refine lv_imul hx hb d_MD_putSum_60 ?_
              rw [show ((8 * (nI kk)) : Int32) = (nI (8 * kk)) from pk_mul 8 kk]
              refine lv_isub hx hb d_MD_putSum_61 ?_
              refine lv_iushr (v := (sf_ushr sm (24 - (nI (8 * kk))))) hx hb d_MD_putSum_62 rfl ?_
              refine lv_sipush (v := 255) hx hb d_MD_putSum_63 (by decide) ?_
              refine lv_iand hx hb d_MD_putSum_66 ?_
              refine sf_callVw (S := Unit) (rest := []) ⟨hx, hb, hml, hown, hts⟩ (c_MD_put l D cI cZ cJ q xth xB xsh xcu xtp xtd xpa xsp xwh xhe xho xtk vto vwa (mn + kk) (nI ((fm + nb) + kk)) ((sf_ushr sm (24 - (nI (8 * kk)))) &&& 255) (by omega)) (sf_cwV lk_MD_101 hts (fun _ h => h) (by rw [hR]; exact ⟨Nat.le_of_ble_eq_true rfl, Nat.le_of_ble_eq_true rfl⟩)) hK hP hD hS hA (fun _ => by simp only [md_w_fst]) (ci := 3) (q0 := 0) rfl rfl rfl rfl rfl hl.1 (Nat.le_of_ble_eq_true rfl) d_MD_putSum_67 ⟨Nat.zero_le _, Nat.zero_le _⟩ (fun u H locs hu hP hD hS => ?_)
              have hP : va_P D classes (md_w q cI cZ xth xB xsh xcu xtp xtd xpa xsp xwh xhe xho xtk (upd vto (mn + kk) (nI ((fm + nb) + kk))) (upd vwa (mn + kk) ((sf_ushr sm (24 - (nI (8 * kk)))) &&& 255)) (nI ((mn + kk) + 1))) H := hP
              have hD : va_D A (md_w q cI cZ xth xB xsh xcu xtp xtd xpa xsp xwh xhe xho xtk (upd vto (mn + kk) (nI ((fm + nb) + kk))) (upd vwa (mn + kk) ((sf_ushr sm (24 - (nI (8 * kk)))) &&& 255)) (nI ((mn + kk) + 1))) := hD
              refine lv_iinc (v := (nI (kk + 1))) (lv' := [(4, .int (nI (kk + 1))), (0, .ref (q 0)), (1, .int (nI nb)), (2, .int (nI fm)), (3, .int sm)]) hx hb d_MD_putSum_70 hl (k := 4) rfl (nI_1 kk) (by decide) rfl (fun ls hl => ?_)
              refine lv_goto (tgt := 40) hx hb d_MD_putSum_73 (by decide) ?_
              exact ih40 (kk + 1) (upd vto (mn + kk) (nI ((fm + nb) + kk))) (upd vwa (mn + kk) ((sf_ushr sm (24 - (nI (8 * kk)))) &&& 255)) (by omega) (by omega) (by rw [← heq40]; simp only [f_MD_putSum_l40, eq_false c_2, ↓reduceIte]) _ _ hP hD hS ls (lv_sub hl [1, 2, 3, 4, 0] rfl)
        exact loop40 (4 + 1) 0 xto xwa (by omega) (by omega) (by rw [← heq10]; simp only [f_MD_putSum_l10, eq_true c_1, ↓reduceIte]) _ _ hP hD hS ls (lv_sub hl [1, 2, 3, 4, 0] rfl)
      · have hlt : k < nb := by have := sf_lt_of (N := mn) (k := (mn - nb) + k) (by omega) (by omega) c_1; omega
        refine lv_iload_n hx hb d_MD_putSum_19 rfl (lv_at hl 3 rfl) ?_
        refine lv_aload_n hx hb d_MD_putSum_20 rfl (lv_at hl 0 rfl) ?_
        refine va_get (D := D) (ci := 3) (v := .ref (q 7)) (C := R_MD) (T := F_MD) (N := 15) hx hb hts i_MD hown hK hP 0 rfl rfl 13 (by decide) (hts _ wd_588) (fun _ h9 => h9) rfl d_MD_putSum_21 ?_
        refine lv_iload hx hb d_MD_putSum_24 (lv_at hl 4 rfl) ?_
        refine va_iald hx hb hK hP 7 0 rfl rfl (show vp_in (nI ((mn - nb) + k)) 136 from vp_in_nI (n := ((mn - nb) + k)) (by omega) (by omega)) d_MD_putSum_26 ?_
        rw [show ((nI ((mn - nb) + k)) : Int32).toNatClampNeg = ((mn - nb) + k) from nI_clamp (n := ((mn - nb) + k)) (by omega)]
        refine sf_callSr (S := Int32) (rest := []) ⟨hx, hb, hml, hown, hts⟩ (c_MD_stir l D cI cZ cJ sm (xwa ((mn - nb) + k))) (sf_cwS lk_MD_40 hts (fun _ h => h) (by rw [hR]; exact ⟨Nat.le_of_ble_eq_true rfl, Nat.le_of_ble_eq_true rfl⟩)) hK hP hD hS hA [] rfl rfl (fun _ => rfl) rfl rfl hl.1 (Nat.le_of_ble_eq_true rfl) d_MD_putSum_27 ⟨Nat.zero_le _, Nat.zero_le _⟩ (fun u_3 H locs hu_3 hP hS => ?_)
        refine lv_istore_n (lv' := [(3, .int u_3), (0, .ref (q 0)), (1, .int (nI nb)), (2, .int (nI fm)), (4, .int (nI ((mn - nb) + k)))]) hx hb d_MD_putSum_30 rfl hl (by decide) rfl (fun ls hl => ?_)
        refine lv_iinc (v := (nI ((mn - nb) + (k + 1)))) (lv' := [(4, .int (nI ((mn - nb) + (k + 1)))), (3, .int u_3), (0, .ref (q 0)), (1, .int (nI nb)), (2, .int (nI fm))]) hx hb d_MD_putSum_31 hl (k := 4) rfl (nI_1 ((mn - nb) + k)) (by decide) rfl (fun ls hl => ?_)
        refine lv_goto (tgt := 10) hx hb d_MD_putSum_34 (by decide) ?_
        exact ih10 (k + 1) u_3 (by omega) (by omega) (by rw [← heq10]; simp only [f_MD_putSum_l10, ← hu_3, eq_false c_1, ↓reduceIte]) _ _ hP hD hS ls (lv_sub hl [2, 3, 4, 1, 0] rfl)
  rw [show (nI mn - nI nb : Int32) = nI (mn - nb) from pk_sub (by omega)] at hl
  exact loop10 (nb + 1) 0 0 (by omega) (by omega) (by simp only [f_MD_putSum, ↓reduceIte]) _ _ hP hD hS ls (lv_sub hl [2, 3, 4, 1, 0] rfl)
def f_MD_go_l196_0 (xB : Nat → Int32) (vp : Int32) (hn : Nat) : Nat → Nat → (Nat → Int32) → ((Nat → Int32))
  | 0, _, _ => ((fun _ => 0))
  | fu + 1, kk, xh =>
    if (nI ((xB ((0 + (32 * (vp.toNatClampNeg))) + 1)).toNatClampNeg)) ≤ (nI kk) then
      xh
    else
      f_MD_go_l196_0 xB vp hn fu (kk + 1) (upd xh (hn + kk) (xB (((0 + (32 * (vp.toNatClampNeg))) + 3) + kk)))
def f_MD_go_l79_0 (xB : Nat → Int32) : Nat → Nat → Int32 → Int32 → Int32 → (Nat → Int32) → Int32 → (Nat → Int32) → Nat → ((Nat → Int32) × Int32 × Int32 × (Nat → Int32) × Int32)
  | 0, _, _, _, _, _, _, _, _ => ((fun _ => 0), 0, 0, (fun _ => 0), 0)
  | fu + 1, k, vg, vp, vmo, vpa, vw, vhe, hn =>
    if vg = 0 then
      if vw = 0 then
        (vpa, (nI k), vw, vhe, 0)
      else
        (vpa, (nI k), vw, vhe, (nI hn))
    else
      if vp < 0 then
        if vw = 0 then
          (vpa, (nI k), vw, vhe, 0)
        else
          (vpa, (nI k), vw, vhe, (nI hn))
      else
        if 24 ≤ vp then
          if vw = 0 then
            (vpa, (nI k), vw, vhe, 0)
          else
            (vpa, (nI k), vw, vhe, (nI hn))
        else
          if 3 ≤ (nI k) then
            if vw = 0 then
              (vpa, (nI k), vw, vhe, 0)
            else
              (vpa, (nI k), vw, vhe, (nI hn))
          else
            if (f_MD_isThrough vpa k vp) = 0 then
              if (f_MD_isSummed xB (0 + (32 * (vp.toNatClampNeg))) 28) = 0 then
                if (xB ((0 + (32 * (vp.toNatClampNeg))) + 1)) ≤ 0 then
                  f_MD_go_l79_0 xB fu (k + 1) 0 ((xB (0 + (32 * (vp.toNatClampNeg)))) - 1) vmo (upd vpa k vp) vw vhe hn
                else
                  f_MD_go_l79_0 xB fu (k + 1) 0 ((xB (0 + (32 * (vp.toNatClampNeg)))) - 1) vmo (upd vpa k vp) vw vhe hn
              else
                if (f_MD_in (xB ((0 + (32 * (vp.toNatClampNeg))) + 1)) 1 25) = 0 then
                  if (xB ((0 + (32 * (vp.toNatClampNeg))) + 1)) ≤ 0 then
                    f_MD_go_l79_0 xB fu (k + 1) 0 ((xB (0 + (32 * (vp.toNatClampNeg)))) - 1) vmo (upd vpa k vp) vw vhe hn
                  else
                    f_MD_go_l79_0 xB fu (k + 1) 0 ((xB (0 + (32 * (vp.toNatClampNeg)))) - 1) vmo (upd vpa k vp) vw vhe hn
                else
                  if (xB ((0 + (32 * (vp.toNatClampNeg))) + 2)) = vmo then
                    if (xB (0 + (32 * (vp.toNatClampNeg)))) = 0 then
                      f_MD_go_l79_0 xB fu (k + 1) 0 ((xB (0 + (32 * (vp.toNatClampNeg)))) - 1) vmo (upd vpa k vp) 1 (f_MD_go_l196_0 xB vp hn (((xB ((0 + (32 * (vp.toNatClampNeg))) + 1)).toNatClampNeg) + 1) 0 vhe) (hn + ((xB ((0 + (32 * (vp.toNatClampNeg))) + 1)).toNatClampNeg))
                    else
                      f_MD_go_l79_0 xB fu (k + 1) 1 ((xB (0 + (32 * (vp.toNatClampNeg)))) - 1) vmo (upd vpa k vp) vw (f_MD_go_l196_0 xB vp hn (((xB ((0 + (32 * (vp.toNatClampNeg))) + 1)).toNatClampNeg) + 1) 0 vhe) (hn + ((xB ((0 + (32 * (vp.toNatClampNeg))) + 1)).toNatClampNeg))
                  else
                    if (xB ((0 + (32 * (vp.toNatClampNeg))) + 1)) ≤ 0 then
                      f_MD_go_l79_0 xB fu (k + 1) 0 ((xB (0 + (32 * (vp.toNatClampNeg)))) - 1) vmo (upd vpa k vp) vw vhe hn
                    else
                      f_MD_go_l79_0 xB fu (k + 1) 0 ((xB (0 + (32 * (vp.toNatClampNeg)))) - 1) vmo (upd vpa k vp) vw vhe hn
            else
              if vw = 0 then
                (vpa, (nI k), vw, vhe, 0)
              else
                (vpa, (nI k), vw, vhe, (nI hn))
def f_MD_go_l196_1 (xB : Nat → Int32) (vp : Int32) (hn : Nat) : Nat → Nat → (Nat → Int32) → ((Nat → Int32))
  | 0, _, _ => ((fun _ => 0))
  | fu + 1, kk, xh =>
    if (nI ((xB ((768 + (32 * (vp.toNatClampNeg))) + 1)).toNatClampNeg)) ≤ (nI kk) then
      xh
    else
      f_MD_go_l196_1 xB vp hn fu (kk + 1) (upd xh (hn + kk) (xB (((768 + (32 * (vp.toNatClampNeg))) + 3) + kk)))
def f_MD_go_l79_1 (xB : Nat → Int32) : Nat → Nat → Int32 → Int32 → Int32 → (Nat → Int32) → Int32 → (Nat → Int32) → Nat → ((Nat → Int32) × Int32 × Int32 × (Nat → Int32) × Int32)
  | 0, _, _, _, _, _, _, _, _ => ((fun _ => 0), 0, 0, (fun _ => 0), 0)
  | fu + 1, k, vg, vp, vmo, vpa, vw, vhe, hn =>
    if vg = 0 then
      if vw = 0 then
        (vpa, (nI k), vw, vhe, 0)
      else
        (vpa, (nI k), vw, vhe, (nI hn))
    else
      if vp < 0 then
        if vw = 0 then
          (vpa, (nI k), vw, vhe, 0)
        else
          (vpa, (nI k), vw, vhe, (nI hn))
      else
        if 16 ≤ vp then
          if vw = 0 then
            (vpa, (nI k), vw, vhe, 0)
          else
            (vpa, (nI k), vw, vhe, (nI hn))
        else
          if 3 ≤ (nI k) then
            if vw = 0 then
              (vpa, (nI k), vw, vhe, 0)
            else
              (vpa, (nI k), vw, vhe, (nI hn))
          else
            if (f_MD_isThrough vpa k vp) = 0 then
              if (f_MD_isSummed xB (768 + (32 * (vp.toNatClampNeg))) 28) = 0 then
                if (xB ((768 + (32 * (vp.toNatClampNeg))) + 1)) ≤ 0 then
                  f_MD_go_l79_1 xB fu (k + 1) 0 ((xB (768 + (32 * (vp.toNatClampNeg)))) - 1) vmo (upd vpa k vp) vw vhe hn
                else
                  f_MD_go_l79_1 xB fu (k + 1) 0 ((xB (768 + (32 * (vp.toNatClampNeg)))) - 1) vmo (upd vpa k vp) vw vhe hn
              else
                if (f_MD_in (xB ((768 + (32 * (vp.toNatClampNeg))) + 1)) 1 25) = 0 then
                  if (xB ((768 + (32 * (vp.toNatClampNeg))) + 1)) ≤ 0 then
                    f_MD_go_l79_1 xB fu (k + 1) 0 ((xB (768 + (32 * (vp.toNatClampNeg)))) - 1) vmo (upd vpa k vp) vw vhe hn
                  else
                    f_MD_go_l79_1 xB fu (k + 1) 0 ((xB (768 + (32 * (vp.toNatClampNeg)))) - 1) vmo (upd vpa k vp) vw vhe hn
                else
                  if (xB ((768 + (32 * (vp.toNatClampNeg))) + 2)) = vmo then
                    if (xB (768 + (32 * (vp.toNatClampNeg)))) = 0 then
                      f_MD_go_l79_1 xB fu (k + 1) 0 ((xB (768 + (32 * (vp.toNatClampNeg)))) - 1) vmo (upd vpa k vp) 1 (f_MD_go_l196_1 xB vp hn (((xB ((768 + (32 * (vp.toNatClampNeg))) + 1)).toNatClampNeg) + 1) 0 vhe) (hn + ((xB ((768 + (32 * (vp.toNatClampNeg))) + 1)).toNatClampNeg))
                    else
                      f_MD_go_l79_1 xB fu (k + 1) 1 ((xB (768 + (32 * (vp.toNatClampNeg)))) - 1) vmo (upd vpa k vp) vw (f_MD_go_l196_1 xB vp hn (((xB ((768 + (32 * (vp.toNatClampNeg))) + 1)).toNatClampNeg) + 1) 0 vhe) (hn + ((xB ((768 + (32 * (vp.toNatClampNeg))) + 1)).toNatClampNeg))
                  else
                    if (xB ((768 + (32 * (vp.toNatClampNeg))) + 1)) ≤ 0 then
                      f_MD_go_l79_1 xB fu (k + 1) 0 ((xB (768 + (32 * (vp.toNatClampNeg)))) - 1) vmo (upd vpa k vp) vw vhe hn
                    else
                      f_MD_go_l79_1 xB fu (k + 1) 0 ((xB (768 + (32 * (vp.toNatClampNeg)))) - 1) vmo (upd vpa k vp) vw vhe hn
            else
              if vw = 0 then
                (vpa, (nI k), vw, vhe, 0)
              else
                (vpa, (nI k), vw, vhe, (nI hn))
def f_MD_go (xB : Nat → Int32) (xpa : Nat → Int32) (xhe : Nat → Int32) (ro : Nat) : ((Nat → Int32) × Int32 × Int32 × (Nat → Int32) × Int32) :=
  if (f_MD_isSlow xB ro) = 0 then
    if ((f_MD_entry xB (1 + ro)) - 1) < 0 then
      f_MD_go_l79_0 xB (3 + 1) 0 1 ((f_MD_entry xB (1 + ro)) - 1) 0 xpa 0 xhe 0
    else
      if 24 ≤ ((f_MD_entry xB (1 + ro)) - 1) then
        f_MD_go_l79_0 xB (3 + 1) 0 1 ((f_MD_entry xB (1 + ro)) - 1) 0 xpa 0 xhe 0
      else
        f_MD_go_l79_0 xB (3 + 1) 0 1 ((f_MD_entry xB (1 + ro)) - 1) (xB ((0 + (32 * (((f_MD_entry xB (1 + ro)) - 1).toNatClampNeg))) + 2)) xpa 0 xhe 0
  else
    if ((f_MD_entry xB (13 + ro)) - 1) < 0 then
      f_MD_go_l79_1 xB (3 + 1) 0 1 ((f_MD_entry xB (13 + ro)) - 1) 0 xpa 0 xhe 0
    else
      if 16 ≤ ((f_MD_entry xB (13 + ro)) - 1) then
        f_MD_go_l79_1 xB (3 + 1) 0 1 ((f_MD_entry xB (13 + ro)) - 1) 0 xpa 0 xhe 0
      else
        f_MD_go_l79_1 xB (3 + 1) 0 1 ((f_MD_entry xB (13 + ro)) - 1) (xB ((768 + (32 * (((f_MD_entry xB (13 + ro)) - 1).toNatClampNeg))) + 2)) xpa 0 xhe 0
set_option maxHeartbeats 1000000 in
set_option maxRecDepth 100000 in
/-- go -/
theorem c_MD_go (l : Launch) (D : va_G) (cI cZ cJ : ClassId) (q : Nat → Nat) (xth : Int32) (xB : Nat → Int32) (xsh : Int32) (xcu : Int32) (xtp : Nat → Int32) (xtd : Int32) (xpa : Nat → Int32) (xsp : Int32) (xwh : Int32) (xhe : Nat → Int32) (xho : Int32) (xtk : Nat → Int32) (xto : Nat → Int32) (xwa : Nat → Int32) (xmn : Int32) (ro : Nat) (hro : ro < 12) : sf_M (S := ((Nat → Int32) × Int32 × Int32 × (Nat → Int32) × Int32)) l D classes (sf_tys cI cZ cJ) y_MD_go (sf_ws y_MD_go b_MD_go 9 none) 6 131 [.ref (q 0), .int (nI ro)] (md_w q cI cZ xth xB xsh xcu xtp xtd xpa xsp xwh xhe xho xtk xto xwa xmn) (fun _ => none) (fun r => r = f_MD_go xB xpa xhe ro) (fun r => (md_w q cI cZ xth xB xsh xcu xtp xtd r.1 r.2.1 r.2.2.1 r.2.2.2.1 r.2.2.2.2 xtk xto xwa xmn)) := by
  refine sf_ofW (S := ((Nat → Int32) × Int32 × Int32 × (Nat → Int32) × Int32)) (by decide) (Nat.le_of_ble_eq_true rfl) ?_
  intro p e s m below meth c A ls R args Q hR hArgs hQ hC0 hr hK hP hD hl
  obtain ⟨hx, hb, hml, hown, hts, hA, hlk⟩ := hC0
  have hS : va_S A s.heap s.heap [] := va_S.rf
  have hl : lv_has ls 9 [(0, .ref (q 0)), (1, .int (nI ro))] := hl
  refine lv_aload_n hx hb d_MD_go_0 rfl (lv_at hl 0 rfl) ?_
  refine lv_iload_n hx hb d_MD_go_1 rfl (lv_at hl 1 rfl) ?_
  refine sf_callVw (S := Int32) (rest := []) ⟨hx, hb, hml, hown, hts⟩ (c_MD_isSlow l D cI cZ cJ q xth xB xsh xcu xtp xtd xpa xsp xwh xhe xho xtk xto xwa xmn ro (by omega)) (sf_cwV lk_MD_67 hts (fun _ h => h) (by rw [hR]; exact ⟨Nat.le_of_ble_eq_true rfl, Nat.le_of_ble_eq_true rfl⟩)) hK hP hD hS hA (fun _ => by simp only [md_w_fst]) (ci := 3) (q0 := 0) rfl rfl rfl rfl rfl hl.1 (Nat.le_of_ble_eq_true rfl) d_MD_go_2 ⟨Nat.zero_le _, Nat.zero_le _⟩ (fun u_1 H locs hu_1 hP hD hS => ?_)
  have hP : va_P D classes (md_w q cI cZ xth xB xsh xcu xtp xtd xpa xsp xwh xhe xho xtk xto xwa xmn) H := hP
  have hD : va_D A (md_w q cI cZ xth xB xsh xcu xtp xtd xpa xsp xwh xhe xho xtk xto xwa xmn) := hD
  refine lv_istore_n (lv' := [(2, .int u_1), (0, .ref (q 0)), (1, .int (nI ro))]) hx hb d_MD_go_5 rfl hl (by decide) rfl (fun ls hl => ?_)
  rcases (show u_1 = 0 ∨ u_1 = 1 by rw [hu_1]; exact f_MD_isSlow_b _ _) with hz | hz
  · have hz0 : u_1 = 0 := by rw [hz]
    rw [hz] at hl
    refine lv_iload_n hx hb d_MD_go_6 rfl (lv_at hl 0 rfl) ?_
    refine lv_if_eq (tgt := 21) hx hb d_MD_go_7 (by decide) (fun c_2 => ?_) (fun c_2 => absurd (by decide) c_2)
    refine lv_aload_n hx hb d_MD_go_21 rfl (lv_at hl 1 rfl) ?_
    refine lv_iconst (v := 1) hx hb d_MD_go_22 (by decide) ?_
    refine lv_iload_n hx hb d_MD_go_23 rfl (lv_at hl 2 rfl) ?_
    refine lv_iadd hx hb d_MD_go_24 ?_
    rw [show ((1 + (nI ro)) : Int32) = (nI (1 + ro)) from nI_add 1 ro]
    refine sf_callVw (S := Int32) (rest := []) ⟨hx, hb, hml, hown, hts⟩ (c_MD_entry l D cI cZ cJ q xth xB xsh xcu xtp xtd xpa xsp xwh xhe xho xtk xto xwa xmn (1 + ro) (by omega)) (sf_cwV lk_MD_64 hts (fun _ h => h) (by rw [hR]; exact ⟨Nat.le_of_ble_eq_true rfl, Nat.le_of_ble_eq_true rfl⟩)) hK hP hD hS hA (fun _ => by simp only [md_w_fst]) (ci := 3) (q0 := 0) rfl rfl rfl rfl rfl hl.1 (Nat.le_of_ble_eq_true rfl) d_MD_go_25 ⟨Nat.zero_le _, Nat.zero_le _⟩ (fun u_3 H locs hu_3 hP hD hS => ?_)
    have hP : va_P D classes (md_w q cI cZ xth xB xsh xcu xtp xtd xpa xsp xwh xhe xho xtk xto xwa xmn) H := hP
    have hD : va_D A (md_w q cI cZ xth xB xsh xcu xtp xtd xpa xsp xwh xhe xho xtk xto xwa xmn) := hD
    refine lv_iconst (v := 1) hx hb d_MD_go_28 (by decide) ?_
    refine lv_isub hx hb d_MD_go_29 ?_
    refine lv_istore_n (lv' := [(3, .int (u_3 - 1)), (2, .int 0), (0, .ref (q 0)), (1, .int (nI ro))]) hx hb d_MD_go_30 rfl hl (by decide) rfl (fun ls hl => ?_)
    refine lv_aload_n hx hb d_MD_go_31 rfl (lv_at hl 2 rfl) ?_
    refine lv_iconst (v := 0) hx hb d_MD_go_32 (by decide) ?_
    refine va_put (D := D) (ci := 3) (v := .int 0) (ty := .int) (C := R_MD) (T := F_MD) (N := 15) hx hb hts i_MD t_MD t_MD_ok n_MD hown hK hP hD hS 0 rfl rfl 7 (by decide) (hts _ wd_582) (fun _ h9 => h9) rfl (by decide +kernel) rfl rfl (Nat.le_of_ble_eq_true rfl) d_MD_go_33 (fun H locs hP hD hS => ?_)
    have hP : va_P D classes (md_w q cI cZ xth xB xsh xcu xtp xtd xpa 0 xwh xhe xho xtk xto xwa xmn) H := hP
    have hD : va_D A (md_w q cI cZ xth xB xsh xcu xtp xtd xpa 0 xwh xhe xho xtk xto xwa xmn) := hD
    refine lv_aload_n hx hb d_MD_go_36 rfl (lv_at hl 2 rfl) ?_
    refine lv_iconst (v := 0) hx hb d_MD_go_37 (by decide) ?_
    refine va_put (D := D) (ci := 3) (v := .int 0) (ty := .int) (C := R_MD) (T := F_MD) (N := 15) hx hb hts i_MD t_MD t_MD_ok n_MD hown hK hP hD hS 0 rfl rfl 10 (by decide) (hts _ wd_585) (fun _ h9 => h9) rfl (by decide +kernel) rfl rfl (Nat.le_of_ble_eq_true rfl) d_MD_go_38 (fun H locs hP hD hS => ?_)
    have hP : va_P D classes (md_w q cI cZ xth xB xsh xcu xtp xtd xpa 0 xwh xhe 0 xtk xto xwa xmn) H := hP
    have hD : va_D A (md_w q cI cZ xth xB xsh xcu xtp xtd xpa 0 xwh xhe 0 xtk xto xwa xmn) := hD
    refine lv_aload_n hx hb d_MD_go_41 rfl (lv_at hl 2 rfl) ?_
    refine lv_iconst (v := 0) hx hb d_MD_go_42 (by decide) ?_
    refine va_put (D := D) (ci := 3) (v := .int 0) (ty := .boolean) (C := R_MD) (T := F_MD) (N := 15) hx hb hts i_MD t_MD t_MD_ok n_MD hown hK hP hD hS 0 rfl rfl 8 (by decide) (hts _ wd_583) (fun _ h9 => h9) rfl (by decide +kernel) (sf_bp0).1 (sf_bp0).2 (Nat.le_of_ble_eq_true rfl) d_MD_go_43 (fun H locs hP hD hS => ?_)
    have hP : va_P D classes (md_w q cI cZ xth xB xsh xcu xtp xtd xpa 0 0 xhe 0 xtk xto xwa xmn) H := hP
    have hD : va_D A (md_w q cI cZ xth xB xsh xcu xtp xtd xpa 0 0 xhe 0 xtk xto xwa xmn) := hD
    refine lv_iload_n hx hb d_MD_go_46 rfl (lv_at hl 0 rfl) ?_
    refine lv_if_lt (tgt := 73) hx hb d_MD_go_47 (by decide) (fun c_4 => ?_) (fun c_4 => ?_)
    · refine lv_iconst (v := 0) hx hb d_MD_go_73 (by decide) ?_
      refine lv_istore (lv' := [(4, .int 0), (3, .int (u_3 - 1)), (2, .int 0), (0, .ref (q 0)), (1, .int (nI ro))]) hx hb d_MD_go_74 hl (by decide) rfl (fun ls hl => ?_)
      refine lv_iconst (v := 1) hx hb d_MD_go_76 (by decide) ?_
      refine lv_istore (lv' := [(5, .int 1), (4, .int 0), (3, .int (u_3 - 1)), (2, .int 0), (0, .ref (q 0)), (1, .int (nI ro))]) hx hb d_MD_go_77 hl (by decide) rfl (fun ls hl => ?_)
      have loop79 : ∀ (fu k : Nat) (vg : Int32) (vp : Int32) (vmo : Int32) (vpa : (Nat → Int32)) (vw : Int32) (vhe : (Nat → Int32)) (hn : Nat), k ≤ 3 → k + fu = 3 + 1 → hn ≤ 25 * k → f_MD_go_l79_0 xB fu k vg vp vmo vpa vw vhe hn = f_MD_go xB xpa xhe ro → ∀ (H : Heap) (locs : List Loc), va_P D classes (md_w q cI cZ xth xB xsh xcu xtp xtd vpa (nI k) vw vhe (nI hn) xtk xto xwa xmn) H → va_D A (md_w q cI cZ xth xB xsh xcu xtp xtd vpa (nI k) vw vhe (nI hn) xtk xto xwa xmn) → va_S A s.heap H locs → ∀ (ls : Array Slot), lv_has ls 9 [(0, .ref (q 0)), (1, .int (nI ro)), (2, .int 0), (3, .int vp), (4, .int vmo), (5, .int vg)] → W p l e R s m args below meth c H locs 0 0 Q (F0 m 79 ls []) := by
        intro fu
        induction fu with
        | zero =>
          intro k vg vp vmo vpa vw vhe hn h1 h2
          exact absurd h2 (by omega)
        | succ fu ih79 =>
          intro k vg vp vmo vpa vw vhe hn hk79 hkn79 hi790 heq79 H locs hP hD hS ls hl
          refine lv_iload hx hb d_MD_go_79 (lv_at hl 5 rfl) ?_
          refine lv_if_eq (tgt := 281) hx hb d_MD_go_81 (by decide) (fun c_5 => ?_) (fun c_5 => ?_)
          · refine lv_aload_n hx hb d_MD_go_281 rfl (lv_at hl 0 rfl) ?_
            refine lv_aload_n hx hb d_MD_go_282 rfl (lv_at hl 0 rfl) ?_
            refine va_get (D := D) (ci := 3) (v := .int vw) (C := R_MD) (T := F_MD) (N := 15) hx hb hts i_MD hown hK hP 0 rfl rfl 8 (by decide) (hts _ wd_583) (fun _ h9 => h9) rfl d_MD_go_283 ?_
            refine lv_if_eq (tgt := 296) hx hb d_MD_go_286 (by decide) (fun c_6 => ?_) (fun c_6 => ?_)
            · refine lv_iconst (v := 0) hx hb d_MD_go_296 (by decide) ?_
              refine va_put (D := D) (ci := 3) (v := .int 0) (ty := .int) (C := R_MD) (T := F_MD) (N := 15) hx hb hts i_MD t_MD t_MD_ok n_MD hown hK hP hD hS 0 rfl rfl 10 (by decide) (hts _ wd_585) (fun _ h9 => h9) rfl (by decide +kernel) rfl rfl (Nat.le_of_ble_eq_true rfl) d_MD_go_297 (fun H locs hP hD hS => ?_)
              have hP : va_P D classes (md_w q cI cZ xth xB xsh xcu xtp xtd vpa (nI k) vw vhe 0 xtk xto xwa xmn) H := hP
              have hD : va_D A (md_w q cI cZ xth xB xsh xcu xtp xtd vpa (nI k) vw vhe 0 xtk xto xwa xmn) := hD
              rw [hQ]
              exact sf_vret (vpa, (nI k), vw, vhe, 0) hx hb hr hlk hS rfl (by rw [← heq79]; simp only [f_MD_go_l79_0, ← hu_1, ← hu_3, eq_true c_5, eq_true c_6, ↓reduceIte]) hP d_MD_go_300
            · refine lv_aload_n hx hb d_MD_go_289 rfl (lv_at hl 0 rfl) ?_
              refine va_get (D := D) (ci := 3) (v := .int (nI hn)) (C := R_MD) (T := F_MD) (N := 15) hx hb hts i_MD hown hK hP 0 rfl rfl 10 (by decide) (hts _ wd_585) (fun _ h9 => h9) rfl d_MD_go_290 ?_
              refine lv_goto (tgt := 297) hx hb d_MD_go_293 (by decide) ?_
              refine va_put (D := D) (ci := 3) (v := .int (nI hn)) (ty := .int) (C := R_MD) (T := F_MD) (N := 15) hx hb hts i_MD t_MD t_MD_ok n_MD hown hK hP hD hS 0 rfl rfl 10 (by decide) (hts _ wd_585) (fun _ h9 => h9) rfl (by decide +kernel) rfl rfl (Nat.le_of_ble_eq_true rfl) d_MD_go_297 (fun H locs hP hD hS => ?_)
              have hP : va_P D classes (md_w q cI cZ xth xB xsh xcu xtp xtd vpa (nI k) vw vhe (nI hn) xtk xto xwa xmn) H := hP
              have hD : va_D A (md_w q cI cZ xth xB xsh xcu xtp xtd vpa (nI k) vw vhe (nI hn) xtk xto xwa xmn) := hD
              rw [hQ]
              exact sf_vret (vpa, (nI k), vw, vhe, (nI hn)) hx hb hr hlk hS rfl (by rw [← heq79]; simp only [f_MD_go_l79_0, ← hu_1, ← hu_3, eq_true c_5, eq_false c_6, ↓reduceIte]) hP d_MD_go_300
          · refine lv_iload_n hx hb d_MD_go_84 rfl (lv_at hl 3 rfl) ?_
            refine lv_if_lt (tgt := 281) hx hb d_MD_go_85 (by decide) (fun c_7 => ?_) (fun c_7 => ?_)
            · refine lv_aload_n hx hb d_MD_go_281 rfl (lv_at hl 0 rfl) ?_
              refine lv_aload_n hx hb d_MD_go_282 rfl (lv_at hl 0 rfl) ?_
              refine va_get (D := D) (ci := 3) (v := .int vw) (C := R_MD) (T := F_MD) (N := 15) hx hb hts i_MD hown hK hP 0 rfl rfl 8 (by decide) (hts _ wd_583) (fun _ h9 => h9) rfl d_MD_go_283 ?_
              refine lv_if_eq (tgt := 296) hx hb d_MD_go_286 (by decide) (fun c_8 => ?_) (fun c_8 => ?_)
              · refine lv_iconst (v := 0) hx hb d_MD_go_296 (by decide) ?_
                refine va_put (D := D) (ci := 3) (v := .int 0) (ty := .int) (C := R_MD) (T := F_MD) (N := 15) hx hb hts i_MD t_MD t_MD_ok n_MD hown hK hP hD hS 0 rfl rfl 10 (by decide) (hts _ wd_585) (fun _ h9 => h9) rfl (by decide +kernel) rfl rfl (Nat.le_of_ble_eq_true rfl) d_MD_go_297 (fun H locs hP hD hS => ?_)
                have hP : va_P D classes (md_w q cI cZ xth xB xsh xcu xtp xtd vpa (nI k) vw vhe 0 xtk xto xwa xmn) H := hP
                have hD : va_D A (md_w q cI cZ xth xB xsh xcu xtp xtd vpa (nI k) vw vhe 0 xtk xto xwa xmn) := hD
                rw [hQ]
                exact sf_vret (vpa, (nI k), vw, vhe, 0) hx hb hr hlk hS rfl (by rw [← heq79]; simp only [f_MD_go_l79_0, ← hu_1, ← hu_3, eq_false c_5, eq_true c_7, eq_true c_8, ↓reduceIte]) hP d_MD_go_300
              · refine lv_aload_n hx hb d_MD_go_289 rfl (lv_at hl 0 rfl) ?_
                refine va_get (D := D) (ci := 3) (v := .int (nI hn)) (C := R_MD) (T := F_MD) (N := 15) hx hb hts i_MD hown hK hP 0 rfl rfl 10 (by decide) (hts _ wd_585) (fun _ h9 => h9) rfl d_MD_go_290 ?_
                refine lv_goto (tgt := 297) hx hb d_MD_go_293 (by decide) ?_
                refine va_put (D := D) (ci := 3) (v := .int (nI hn)) (ty := .int) (C := R_MD) (T := F_MD) (N := 15) hx hb hts i_MD t_MD t_MD_ok n_MD hown hK hP hD hS 0 rfl rfl 10 (by decide) (hts _ wd_585) (fun _ h9 => h9) rfl (by decide +kernel) rfl rfl (Nat.le_of_ble_eq_true rfl) d_MD_go_297 (fun H locs hP hD hS => ?_)
                have hP : va_P D classes (md_w q cI cZ xth xB xsh xcu xtp xtd vpa (nI k) vw vhe (nI hn) xtk xto xwa xmn) H := hP
                have hD : va_D A (md_w q cI cZ xth xB xsh xcu xtp xtd vpa (nI k) vw vhe (nI hn) xtk xto xwa xmn) := hD
                rw [hQ]
                exact sf_vret (vpa, (nI k), vw, vhe, (nI hn)) hx hb hr hlk hS rfl (by rw [← heq79]; simp only [f_MD_go_l79_0, ← hu_1, ← hu_3, eq_false c_5, eq_true c_7, eq_false c_8, ↓reduceIte]) hP d_MD_go_300
            · refine lv_iload_n hx hb d_MD_go_88 rfl (lv_at hl 3 rfl) ?_
              refine lv_iload_n hx hb d_MD_go_89 rfl (lv_at hl 2 rfl) ?_
              refine sf_callSr (S := Unit) (rest := [.int vp]) ⟨hx, hb, hml, hown, hts⟩ (c_MD_places_0 l D cI cZ cJ) (sf_cwS lk_MD_80 hts (fun _ h => h) (by rw [hR]; exact ⟨Nat.le_of_ble_eq_true rfl, Nat.le_of_ble_eq_true rfl⟩)) hK hP hD hS hA [] rfl rfl (fun _ => rfl) rfl rfl hl.1 (Nat.le_of_ble_eq_true rfl) d_MD_go_90 ⟨Nat.zero_le _, Nat.zero_le _⟩ (fun u H locs hu hP hS => ?_)
              refine lv_icmp_ge (tgt := 281) hx hb d_MD_go_93 (by decide) (fun c_9 => ?_) (fun c_9 => ?_)
              · refine lv_aload_n hx hb d_MD_go_281 rfl (lv_at hl 0 rfl) ?_
                refine lv_aload_n hx hb d_MD_go_282 rfl (lv_at hl 0 rfl) ?_
                refine va_get (D := D) (ci := 3) (v := .int vw) (C := R_MD) (T := F_MD) (N := 15) hx hb hts i_MD hown hK hP 0 rfl rfl 8 (by decide) (hts _ wd_583) (fun _ h9 => h9) rfl d_MD_go_283 ?_
                refine lv_if_eq (tgt := 296) hx hb d_MD_go_286 (by decide) (fun c_10 => ?_) (fun c_10 => ?_)
                · refine lv_iconst (v := 0) hx hb d_MD_go_296 (by decide) ?_
                  refine va_put (D := D) (ci := 3) (v := .int 0) (ty := .int) (C := R_MD) (T := F_MD) (N := 15) hx hb hts i_MD t_MD t_MD_ok n_MD hown hK hP hD hS 0 rfl rfl 10 (by decide) (hts _ wd_585) (fun _ h9 => h9) rfl (by decide +kernel) rfl rfl (Nat.le_of_ble_eq_true rfl) d_MD_go_297 (fun H locs hP hD hS => ?_)
                  have hP : va_P D classes (md_w q cI cZ xth xB xsh xcu xtp xtd vpa (nI k) vw vhe 0 xtk xto xwa xmn) H := hP
                  have hD : va_D A (md_w q cI cZ xth xB xsh xcu xtp xtd vpa (nI k) vw vhe 0 xtk xto xwa xmn) := hD
                  rw [hQ]
                  exact sf_vret (vpa, (nI k), vw, vhe, 0) hx hb hr hlk hS rfl (by rw [← heq79]; simp only [f_MD_go_l79_0, ← hu_1, ← hu_3, eq_false c_5, eq_false c_7, eq_true c_9, eq_true c_10, ↓reduceIte]) hP d_MD_go_300
                · refine lv_aload_n hx hb d_MD_go_289 rfl (lv_at hl 0 rfl) ?_
                  refine va_get (D := D) (ci := 3) (v := .int (nI hn)) (C := R_MD) (T := F_MD) (N := 15) hx hb hts i_MD hown hK hP 0 rfl rfl 10 (by decide) (hts _ wd_585) (fun _ h9 => h9) rfl d_MD_go_290 ?_
                  refine lv_goto (tgt := 297) hx hb d_MD_go_293 (by decide) ?_
                  refine va_put (D := D) (ci := 3) (v := .int (nI hn)) (ty := .int) (C := R_MD) (T := F_MD) (N := 15) hx hb hts i_MD t_MD t_MD_ok n_MD hown hK hP hD hS 0 rfl rfl 10 (by decide) (hts _ wd_585) (fun _ h9 => h9) rfl (by decide +kernel) rfl rfl (Nat.le_of_ble_eq_true rfl) d_MD_go_297 (fun H locs hP hD hS => ?_)
                  have hP : va_P D classes (md_w q cI cZ xth xB xsh xcu xtp xtd vpa (nI k) vw vhe (nI hn) xtk xto xwa xmn) H := hP
                  have hD : va_D A (md_w q cI cZ xth xB xsh xcu xtp xtd vpa (nI k) vw vhe (nI hn) xtk xto xwa xmn) := hD
                  rw [hQ]
                  exact sf_vret (vpa, (nI k), vw, vhe, (nI hn)) hx hb hr hlk hS rfl (by rw [← heq79]; simp only [f_MD_go_l79_0, ← hu_1, ← hu_3, eq_false c_5, eq_false c_7, eq_true c_9, eq_false c_10, ↓reduceIte]) hP d_MD_go_300
              · refine lv_aload_n hx hb d_MD_go_96 rfl (lv_at hl 0 rfl) ?_
                refine va_get (D := D) (ci := 3) (v := .int (nI k)) (C := R_MD) (T := F_MD) (N := 15) hx hb hts i_MD hown hK hP 0 rfl rfl 7 (by decide) (hts _ wd_582) (fun _ h9 => h9) rfl d_MD_go_97 ?_
                refine lv_iconst (v := 3) hx hb d_MD_go_100 (by decide) ?_
                refine lv_icmp_ge (tgt := 281) hx hb d_MD_go_101 (by decide) (fun c_11 => ?_) (fun c_11 => ?_)
                · refine lv_aload_n hx hb d_MD_go_281 rfl (lv_at hl 0 rfl) ?_
                  refine lv_aload_n hx hb d_MD_go_282 rfl (lv_at hl 0 rfl) ?_
                  refine va_get (D := D) (ci := 3) (v := .int vw) (C := R_MD) (T := F_MD) (N := 15) hx hb hts i_MD hown hK hP 0 rfl rfl 8 (by decide) (hts _ wd_583) (fun _ h9 => h9) rfl d_MD_go_283 ?_
                  refine lv_if_eq (tgt := 296) hx hb d_MD_go_286 (by decide) (fun c_12 => ?_) (fun c_12 => ?_)
                  · refine lv_iconst (v := 0) hx hb d_MD_go_296 (by decide) ?_
                    refine va_put (D := D) (ci := 3) (v := .int 0) (ty := .int) (C := R_MD) (T := F_MD) (N := 15) hx hb hts i_MD t_MD t_MD_ok n_MD hown hK hP hD hS 0 rfl rfl 10 (by decide) (hts _ wd_585) (fun _ h9 => h9) rfl (by decide +kernel) rfl rfl (Nat.le_of_ble_eq_true rfl) d_MD_go_297 (fun H locs hP hD hS => ?_)
                    have hP : va_P D classes (md_w q cI cZ xth xB xsh xcu xtp xtd vpa (nI k) vw vhe 0 xtk xto xwa xmn) H := hP
                    have hD : va_D A (md_w q cI cZ xth xB xsh xcu xtp xtd vpa (nI k) vw vhe 0 xtk xto xwa xmn) := hD
                    rw [hQ]
                    exact sf_vret (vpa, (nI k), vw, vhe, 0) hx hb hr hlk hS rfl (by rw [← heq79]; simp only [f_MD_go_l79_0, ← hu_1, ← hu_3, eq_false c_5, eq_false c_7, eq_false c_9, eq_true c_11, eq_true c_12, ↓reduceIte]) hP d_MD_go_300
                  · refine lv_aload_n hx hb d_MD_go_289 rfl (lv_at hl 0 rfl) ?_
                    refine va_get (D := D) (ci := 3) (v := .int (nI hn)) (C := R_MD) (T := F_MD) (N := 15) hx hb hts i_MD hown hK hP 0 rfl rfl 10 (by decide) (hts _ wd_585) (fun _ h9 => h9) rfl d_MD_go_290 ?_
                    refine lv_goto (tgt := 297) hx hb d_MD_go_293 (by decide) ?_
                    refine va_put (D := D) (ci := 3) (v := .int (nI hn)) (ty := .int) (C := R_MD) (T := F_MD) (N := 15) hx hb hts i_MD t_MD t_MD_ok n_MD hown hK hP hD hS 0 rfl rfl 10 (by decide) (hts _ wd_585) (fun _ h9 => h9) rfl (by decide +kernel) rfl rfl (Nat.le_of_ble_eq_true rfl) d_MD_go_297 (fun H locs hP hD hS => ?_)
                    have hP : va_P D classes (md_w q cI cZ xth xB xsh xcu xtp xtd vpa (nI k) vw vhe (nI hn) xtk xto xwa xmn) H := hP
                    have hD : va_D A (md_w q cI cZ xth xB xsh xcu xtp xtd vpa (nI k) vw vhe (nI hn) xtk xto xwa xmn) := hD
                    rw [hQ]
                    exact sf_vret (vpa, (nI k), vw, vhe, (nI hn)) hx hb hr hlk hS rfl (by rw [← heq79]; simp only [f_MD_go_l79_0, ← hu_1, ← hu_3, eq_false c_5, eq_false c_7, eq_false c_9, eq_true c_11, eq_false c_12, ↓reduceIte]) hP d_MD_go_300
                · have hlt : k < 3 := sf_lt_of (N := 3) (by omega) (by omega) c_11
                  refine lv_aload_n hx hb d_MD_go_104 rfl (lv_at hl 0 rfl) ?_
                  refine lv_iload_n hx hb d_MD_go_105 rfl (lv_at hl 3 rfl) ?_
                  refine sf_callVw (S := Int32) (rest := []) ⟨hx, hb, hml, hown, hts⟩ (c_MD_isThrough l D cI cZ cJ q xth xB xsh xcu xtp xtd vpa vw vhe (nI hn) xtk xto xwa xmn k vp (by omega)) (sf_cwV lk_MD_88 hts (fun _ h => h) (by rw [hR]; exact ⟨Nat.le_of_ble_eq_true rfl, Nat.le_of_ble_eq_true rfl⟩)) hK hP hD hS hA (fun _ => by simp only [md_w_fst]) (ci := 3) (q0 := 0) rfl rfl rfl rfl rfl hl.1 (Nat.le_of_ble_eq_true rfl) d_MD_go_106 ⟨Nat.zero_le _, Nat.zero_le _⟩ (fun u_13 H locs hu_13 hP hD hS => ?_)
                  have hP : va_P D classes (md_w q cI cZ xth xB xsh xcu xtp xtd vpa (nI k) vw vhe (nI hn) xtk xto xwa xmn) H := hP
                  have hD : va_D A (md_w q cI cZ xth xB xsh xcu xtp xtd vpa (nI k) vw vhe (nI hn) xtk xto xwa xmn) := hD
                  refine lv_if_ne (tgt := 281) hx hb d_MD_go_109 (by decide) (fun c_14 => ?_) (fun c_14 => ?_)
                  · refine lv_aload_n hx hb d_MD_go_281 rfl (lv_at hl 0 rfl) ?_
                    refine lv_aload_n hx hb d_MD_go_282 rfl (lv_at hl 0 rfl) ?_
                    refine va_get (D := D) (ci := 3) (v := .int vw) (C := R_MD) (T := F_MD) (N := 15) hx hb hts i_MD hown hK hP 0 rfl rfl 8 (by decide) (hts _ wd_583) (fun _ h9 => h9) rfl d_MD_go_283 ?_
                    refine lv_if_eq (tgt := 296) hx hb d_MD_go_286 (by decide) (fun c_15 => ?_) (fun c_15 => ?_)
                    · refine lv_iconst (v := 0) hx hb d_MD_go_296 (by decide) ?_
                      refine va_put (D := D) (ci := 3) (v := .int 0) (ty := .int) (C := R_MD) (T := F_MD) (N := 15) hx hb hts i_MD t_MD t_MD_ok n_MD hown hK hP hD hS 0 rfl rfl 10 (by decide) (hts _ wd_585) (fun _ h9 => h9) rfl (by decide +kernel) rfl rfl (Nat.le_of_ble_eq_true rfl) d_MD_go_297 (fun H locs hP hD hS => ?_)
                      have hP : va_P D classes (md_w q cI cZ xth xB xsh xcu xtp xtd vpa (nI k) vw vhe 0 xtk xto xwa xmn) H := hP
                      have hD : va_D A (md_w q cI cZ xth xB xsh xcu xtp xtd vpa (nI k) vw vhe 0 xtk xto xwa xmn) := hD
                      rw [hQ]
                      exact sf_vret (vpa, (nI k), vw, vhe, 0) hx hb hr hlk hS rfl (by rw [← heq79]; simp only [f_MD_go_l79_0, ← hu_1, ← hu_3, ← hu_13, eq_false c_5, eq_false c_7, eq_false c_9, eq_false c_11, eq_false c_14, eq_true c_15, ↓reduceIte]) hP d_MD_go_300
                    · refine lv_aload_n hx hb d_MD_go_289 rfl (lv_at hl 0 rfl) ?_
                      refine va_get (D := D) (ci := 3) (v := .int (nI hn)) (C := R_MD) (T := F_MD) (N := 15) hx hb hts i_MD hown hK hP 0 rfl rfl 10 (by decide) (hts _ wd_585) (fun _ h9 => h9) rfl d_MD_go_290 ?_
                      refine lv_goto (tgt := 297) hx hb d_MD_go_293 (by decide) ?_
                      refine va_put (D := D) (ci := 3) (v := .int (nI hn)) (ty := .int) (C := R_MD) (T := F_MD) (N := 15) hx hb hts i_MD t_MD t_MD_ok n_MD hown hK hP hD hS 0 rfl rfl 10 (by decide) (hts _ wd_585) (fun _ h9 => h9) rfl (by decide +kernel) rfl rfl (Nat.le_of_ble_eq_true rfl) d_MD_go_297 (fun H locs hP hD hS => ?_)
                      have hP : va_P D classes (md_w q cI cZ xth xB xsh xcu xtp xtd vpa (nI k) vw vhe (nI hn) xtk xto xwa xmn) H := hP
                      have hD : va_D A (md_w q cI cZ xth xB xsh xcu xtp xtd vpa (nI k) vw vhe (nI hn) xtk xto xwa xmn) := hD
                      rw [hQ]
                      exact sf_vret (vpa, (nI k), vw, vhe, (nI hn)) hx hb hr hlk hS rfl (by rw [← heq79]; simp only [f_MD_go_l79_0, ← hu_1, ← hu_3, ← hu_13, eq_false c_5, eq_false c_7, eq_false c_9, eq_false c_11, eq_false c_14, eq_false c_15, ↓reduceIte]) hP d_MD_go_300
                  · refine lv_iload_n hx hb d_MD_go_112 rfl (lv_at hl 2 rfl) ?_
                    refine lv_iload_n hx hb d_MD_go_113 rfl (lv_at hl 3 rfl) ?_
                    obtain ⟨u_16, hu_16⟩ : ∃ z, z = vp.toNatClampNeg := ⟨_, rfl⟩
                    obtain ⟨he_u_16, hb_u_16⟩ := sf_natp (B := 24) (by omega) hu_16 c_7 c_9
                    rw [he_u_16]
                    refine sf_callSr (S := Unit) (rest := []) ⟨hx, hb, hml, hown, hts⟩ (c_MD_begin_0 l D cI cZ cJ u_16) (sf_cwS lk_MD_84 hts (fun _ h => h) (by rw [hR]; exact ⟨Nat.le_of_ble_eq_true rfl, Nat.le_of_ble_eq_true rfl⟩)) hK hP hD hS hA [] rfl rfl (fun _ => rfl) rfl rfl hl.1 (Nat.le_of_ble_eq_true rfl) d_MD_go_114 ⟨Nat.zero_le _, Nat.zero_le _⟩ (fun u H locs hu hP hS => ?_)
                    refine lv_istore (lv' := [(6, .int (nI (0 + (32 * u_16)))), (0, .ref (q 0)), (1, .int (nI ro)), (2, .int 0), (3, .int vp), (4, .int vmo), (5, .int vg)]) hx hb d_MD_go_117 hl (by decide) rfl (fun ls hl => ?_)
                    refine lv_aload_n hx hb d_MD_go_119 rfl (lv_at hl 1 rfl) ?_
                    refine va_get (D := D) (ci := 3) (v := .ref (q 3)) (C := R_MD) (T := F_MD) (N := 15) hx hb hts i_MD hown hK hP 0 rfl rfl 6 (by decide) (hts _ wd_581) (fun _ h9 => h9) rfl d_MD_go_120 ?_
                    refine lv_aload_n hx hb d_MD_go_123 rfl (lv_at hl 1 rfl) ?_
                    refine va_get (D := D) (ci := 3) (v := .int (nI k)) (C := R_MD) (T := F_MD) (N := 15) hx hb hts i_MD hown hK hP 0 rfl rfl 7 (by decide) (hts _ wd_582) (fun _ h9 => h9) rfl d_MD_go_124 ?_
                    refine lv_iload_n hx hb d_MD_go_127 rfl (lv_at hl 4 rfl) ?_
                    refine va_iast hx hb hK hP hD hS 3 0 rfl rfl (show vp_in (nI k) 3 from vp_in_nI (n := k) (by omega) (by omega)) d_MD_go_128 (fun H locs hP hD hS => ?_)
                    rw [show ((nI k) : Int32).toNatClampNeg = k from nI_clamp (n := k) (by omega)] at hP hD
                    have hP : va_P D classes (md_w q cI cZ xth xB xsh xcu xtp xtd (upd vpa k vp) (nI k) vw vhe (nI hn) xtk xto xwa xmn) H := hP
                    have hD : va_D A (md_w q cI cZ xth xB xsh xcu xtp xtd (upd vpa k vp) (nI k) vw vhe (nI hn) xtk xto xwa xmn) := hD
                    refine lv_aload_n hx hb d_MD_go_129 rfl (lv_at hl 1 rfl) ?_
                    refine lv_dup hx hb d_MD_go_130 rfl ?_
                    refine va_get (D := D) (ci := 3) (v := .int (nI k)) (C := R_MD) (T := F_MD) (N := 15) hx hb hts i_MD hown hK hP 0 rfl rfl 7 (by decide) (hts _ wd_582) (fun _ h9 => h9) rfl d_MD_go_131 ?_
                    refine lv_iconst (v := 1) hx hb d_MD_go_134 (by decide) ?_
                    refine lv_iadd hx hb d_MD_go_135 ?_
                    rw [show (((nI k) + 1) : Int32) = (nI (k + 1)) from nI_add k 1]
                    refine va_put (D := D) (ci := 3) (v := .int (nI (k + 1))) (ty := .int) (C := R_MD) (T := F_MD) (N := 15) hx hb hts i_MD t_MD t_MD_ok n_MD hown hK hP hD hS 0 rfl rfl 7 (by decide) (hts _ wd_582) (fun _ h9 => h9) rfl (by decide +kernel) rfl rfl (Nat.le_of_ble_eq_true rfl) d_MD_go_136 (fun H locs hP hD hS => ?_)
                    have hP : va_P D classes (md_w q cI cZ xth xB xsh xcu xtp xtd (upd vpa k vp) (nI (k + 1)) vw vhe (nI hn) xtk xto xwa xmn) H := hP
                    have hD : va_D A (md_w q cI cZ xth xB xsh xcu xtp xtd (upd vpa k vp) (nI (k + 1)) vw vhe (nI hn) xtk xto xwa xmn) := hD
                    refine lv_aload_n hx hb d_MD_go_139 rfl (lv_at hl 1 rfl) ?_
                    refine va_get (D := D) (ci := 3) (v := .ref (q 1)) (C := R_MD) (T := F_MD) (N := 15) hx hb hts i_MD hown hK hP 0 rfl rfl 1 (by decide) (hts _ wd_576) (fun _ h9 => h9) rfl d_MD_go_140 ?_
                    refine lv_iload hx hb d_MD_go_143 (lv_at hl 0 rfl) ?_
                    refine lv_iconst (v := 1) hx hb d_MD_go_145 (by decide) ?_
                    refine lv_iadd hx hb d_MD_go_146 ?_
                    rw [show (((nI (0 + (32 * u_16))) + 1) : Int32) = (nI ((0 + (32 * u_16)) + 1)) from nI_add (0 + (32 * u_16)) 1]
                    refine va_iald hx hb hK hP 1 0 rfl rfl (show vp_in (nI ((0 + (32 * u_16)) + 1)) 1360 from vp_in_nI (n := ((0 + (32 * u_16)) + 1)) (by omega) (by omega)) d_MD_go_147 ?_
                    rw [show ((nI ((0 + (32 * u_16)) + 1)) : Int32).toNatClampNeg = ((0 + (32 * u_16)) + 1) from nI_clamp (n := ((0 + (32 * u_16)) + 1)) (by omega)]
                    refine lv_istore (lv' := [(7, .int (xB ((0 + (32 * u_16)) + 1))), (6, .int (nI (0 + (32 * u_16)))), (0, .ref (q 0)), (1, .int (nI ro)), (2, .int 0), (3, .int vp), (4, .int vmo), (5, .int vg)]) hx hb d_MD_go_148 hl (by decide) rfl (fun ls hl => ?_)
                    refine lv_aload_n hx hb d_MD_go_150 rfl (lv_at hl 2 rfl) ?_
                    refine lv_iload hx hb d_MD_go_151 (lv_at hl 1 rfl) ?_
                    refine lv_bipush (v := 28) hx hb d_MD_go_153 (by decide) ?_
                    refine sf_callVw (S := Int32) (rest := []) ⟨hx, hb, hml, hown, hts⟩ (c_MD_isSummed l D cI cZ cJ q xth xB xsh xcu xtp xtd (upd vpa k vp) (nI (k + 1)) vw vhe (nI hn) xtk xto xwa xmn (0 + (32 * u_16)) 28 (by omega)) (sf_cwV lk_MD_48 hts (fun _ h => h) (by rw [hR]; exact ⟨Nat.le_of_ble_eq_true rfl, Nat.le_of_ble_eq_true rfl⟩)) hK hP hD hS hA (fun _ => by simp only [md_w_fst]) (ci := 3) (q0 := 0) rfl rfl rfl rfl rfl hl.1 (Nat.le_of_ble_eq_true rfl) d_MD_go_155 ⟨Nat.zero_le _, Nat.zero_le _⟩ (fun u_17 H locs hu_17 hP hD hS => ?_)
                    have hP : va_P D classes (md_w q cI cZ xth xB xsh xcu xtp xtd (upd vpa k vp) (nI (k + 1)) vw vhe (nI hn) xtk xto xwa xmn) H := hP
                    have hD : va_D A (md_w q cI cZ xth xB xsh xcu xtp xtd (upd vpa k vp) (nI (k + 1)) vw vhe (nI hn) xtk xto xwa xmn) := hD
                    refine lv_if_eq (tgt := 190) hx hb d_MD_go_158 (by decide) (fun c_18 => ?_) (fun c_18 => ?_)
                    · refine lv_iconst (v := 0) hx hb d_MD_go_190 (by decide) ?_
                      refine lv_istore (lv' := [(5, .int 0), (7, .int (xB ((0 + (32 * u_16)) + 1))), (6, .int (nI (0 + (32 * u_16)))), (0, .ref (q 0)), (1, .int (nI ro)), (2, .int 0), (3, .int vp), (4, .int vmo)]) hx hb d_MD_go_191 hl (by decide) rfl (fun ls hl => ?_)
                      refine lv_iconst (v := 0) hx hb d_MD_go_193 (by decide) ?_
                      refine lv_istore (lv' := [(8, .int 0), (5, .int 0), (7, .int (xB ((0 + (32 * u_16)) + 1))), (6, .int (nI (0 + (32 * u_16)))), (0, .ref (q 0)), (1, .int (nI ro)), (2, .int 0), (3, .int vp), (4, .int vmo)]) hx hb d_MD_go_194 hl (by decide) rfl (fun ls hl => ?_)
                      refine lv_iload hx hb d_MD_go_196 (lv_at hl 0 rfl) ?_
                      refine lv_iload hx hb d_MD_go_198 (lv_at hl 2 rfl) ?_
                      refine lv_icmp_ge (tgt := 245) hx hb d_MD_go_200 (by decide) (fun c_19 => ?_) (fun c_19 => ?_)
                      · refine lv_iload hx hb d_MD_go_245 (lv_at hl 1 rfl) ?_
                        refine lv_if_eq (tgt := 268) hx hb d_MD_go_247 (by decide) (fun c_20 => ?_) (fun c_20 => absurd (by decide) c_20)
                        refine lv_aload_n hx hb d_MD_go_268 rfl (lv_at hl 4 rfl) ?_
                        refine va_get (D := D) (ci := 3) (v := .ref (q 1)) (C := R_MD) (T := F_MD) (N := 15) hx hb hts i_MD hown hK hP 0 rfl rfl 1 (by decide) (hts _ wd_576) (fun _ h9 => h9) rfl d_MD_go_269 ?_
                        refine lv_iload hx hb d_MD_go_272 (lv_at hl 3 rfl) ?_
                        refine va_iald hx hb hK hP 1 0 rfl rfl (show vp_in (nI (0 + (32 * u_16))) 1360 from vp_in_nI (n := (0 + (32 * u_16))) (by omega) (by omega)) d_MD_go_274 ?_
                        rw [show ((nI (0 + (32 * u_16))) : Int32).toNatClampNeg = (0 + (32 * u_16)) from nI_clamp (n := (0 + (32 * u_16))) (by omega)]
                        refine lv_iconst (v := 1) hx hb d_MD_go_275 (by decide) ?_
                        refine lv_isub hx hb d_MD_go_276 ?_
                        refine lv_istore_n (lv' := [(3, .int ((xB (0 + (32 * u_16))) - 1)), (8, .int 0), (5, .int 0), (7, .int (xB ((0 + (32 * u_16)) + 1))), (6, .int (nI (0 + (32 * u_16)))), (0, .ref (q 0)), (1, .int (nI ro)), (2, .int 0), (4, .int vmo)]) hx hb d_MD_go_277 rfl hl (by decide) rfl (fun ls hl => ?_)
                        refine lv_goto (tgt := 79) hx hb d_MD_go_278 (by decide) ?_
                        exact ih79 (k + 1) 0 ((xB (0 + (32 * u_16))) - 1) vmo (upd vpa k vp) vw vhe hn (by omega) (by omega) (by omega) (by rw [← heq79]; simp only [f_MD_go_l79_0, ← hu_1, ← hu_3, ← hu_13, ← hu_16, ← hu_17, eq_false c_5, eq_false c_7, eq_false c_9, eq_false c_11, eq_true c_14, eq_true c_18, eq_true c_19, ↓reduceIte]) _ _ hP hD hS ls (lv_sub hl [5, 6, 7, 0, 8, 2] rfl)
                      · refine lv_iload hx hb d_MD_go_203 (lv_at hl 1 rfl) ?_
                        refine lv_if_eq (tgt := 245) hx hb d_MD_go_205 (by decide) (fun c_21 => ?_) (fun c_21 => absurd (by decide) c_21)
                        refine lv_iload hx hb d_MD_go_245 (lv_at hl 1 rfl) ?_
                        refine lv_if_eq (tgt := 268) hx hb d_MD_go_247 (by decide) (fun c_22 => ?_) (fun c_22 => absurd (by decide) c_22)
                        refine lv_aload_n hx hb d_MD_go_268 rfl (lv_at hl 4 rfl) ?_
                        refine va_get (D := D) (ci := 3) (v := .ref (q 1)) (C := R_MD) (T := F_MD) (N := 15) hx hb hts i_MD hown hK hP 0 rfl rfl 1 (by decide) (hts _ wd_576) (fun _ h9 => h9) rfl d_MD_go_269 ?_
                        refine lv_iload hx hb d_MD_go_272 (lv_at hl 3 rfl) ?_
                        refine va_iald hx hb hK hP 1 0 rfl rfl (show vp_in (nI (0 + (32 * u_16))) 1360 from vp_in_nI (n := (0 + (32 * u_16))) (by omega) (by omega)) d_MD_go_274 ?_
                        rw [show ((nI (0 + (32 * u_16))) : Int32).toNatClampNeg = (0 + (32 * u_16)) from nI_clamp (n := (0 + (32 * u_16))) (by omega)]
                        refine lv_iconst (v := 1) hx hb d_MD_go_275 (by decide) ?_
                        refine lv_isub hx hb d_MD_go_276 ?_
                        refine lv_istore_n (lv' := [(3, .int ((xB (0 + (32 * u_16))) - 1)), (8, .int 0), (5, .int 0), (7, .int (xB ((0 + (32 * u_16)) + 1))), (6, .int (nI (0 + (32 * u_16)))), (0, .ref (q 0)), (1, .int (nI ro)), (2, .int 0), (4, .int vmo)]) hx hb d_MD_go_277 rfl hl (by decide) rfl (fun ls hl => ?_)
                        refine lv_goto (tgt := 79) hx hb d_MD_go_278 (by decide) ?_
                        exact ih79 (k + 1) 0 ((xB (0 + (32 * u_16))) - 1) vmo (upd vpa k vp) vw vhe hn (by omega) (by omega) (by omega) (by rw [← heq79]; simp only [f_MD_go_l79_0, ← hu_1, ← hu_3, ← hu_13, ← hu_16, ← hu_17, eq_false c_5, eq_false c_7, eq_false c_9, eq_false c_11, eq_true c_14, eq_true c_18, eq_false c_19, ↓reduceIte]) _ _ hP hD hS ls (lv_sub hl [5, 6, 7, 0, 8, 2] rfl)
                    · refine lv_iload hx hb d_MD_go_161 (lv_at hl 0 rfl) ?_
                      refine lv_iconst (v := 1) hx hb d_MD_go_163 (by decide) ?_
                      refine lv_bipush (v := 25) hx hb d_MD_go_164 (by decide) ?_
                      refine sf_callSr (S := Int32) (rest := []) ⟨hx, hb, hml, hown, hts⟩ (c_MD_in l D cI cZ cJ (xB ((0 + (32 * u_16)) + 1)) 1 25) (sf_cwS lk_MD_44 hts (fun _ h => h) (by rw [hR]; exact ⟨Nat.le_of_ble_eq_true rfl, Nat.le_of_ble_eq_true rfl⟩)) hK hP hD hS hA [] rfl rfl (fun _ => rfl) rfl rfl hl.1 (Nat.le_of_ble_eq_true rfl) d_MD_go_166 ⟨Nat.zero_le _, Nat.zero_le _⟩ (fun u_23 H locs hu_23 hP hS => ?_)
                      refine lv_if_eq (tgt := 190) hx hb d_MD_go_169 (by decide) (fun c_24 => ?_) (fun c_24 => ?_)
                      · refine lv_iconst (v := 0) hx hb d_MD_go_190 (by decide) ?_
                        refine lv_istore (lv' := [(5, .int 0), (7, .int (xB ((0 + (32 * u_16)) + 1))), (6, .int (nI (0 + (32 * u_16)))), (0, .ref (q 0)), (1, .int (nI ro)), (2, .int 0), (3, .int vp), (4, .int vmo)]) hx hb d_MD_go_191 hl (by decide) rfl (fun ls hl => ?_)
                        refine lv_iconst (v := 0) hx hb d_MD_go_193 (by decide) ?_
                        refine lv_istore (lv' := [(8, .int 0), (5, .int 0), (7, .int (xB ((0 + (32 * u_16)) + 1))), (6, .int (nI (0 + (32 * u_16)))), (0, .ref (q 0)), (1, .int (nI ro)), (2, .int 0), (3, .int vp), (4, .int vmo)]) hx hb d_MD_go_194 hl (by decide) rfl (fun ls hl => ?_)
                        refine lv_iload hx hb d_MD_go_196 (lv_at hl 0 rfl) ?_
                        refine lv_iload hx hb d_MD_go_198 (lv_at hl 2 rfl) ?_
                        refine lv_icmp_ge (tgt := 245) hx hb d_MD_go_200 (by decide) (fun c_25 => ?_) (fun c_25 => ?_)
                        · refine lv_iload hx hb d_MD_go_245 (lv_at hl 1 rfl) ?_
                          refine lv_if_eq (tgt := 268) hx hb d_MD_go_247 (by decide) (fun c_26 => ?_) (fun c_26 => absurd (by decide) c_26)
                          refine lv_aload_n hx hb d_MD_go_268 rfl (lv_at hl 4 rfl) ?_
                          refine va_get (D := D) (ci := 3) (v := .ref (q 1)) (C := R_MD) (T := F_MD) (N := 15) hx hb hts i_MD hown hK hP 0 rfl rfl 1 (by decide) (hts _ wd_576) (fun _ h9 => h9) rfl d_MD_go_269 ?_
                          refine lv_iload hx hb d_MD_go_272 (lv_at hl 3 rfl) ?_
                          refine va_iald hx hb hK hP 1 0 rfl rfl (show vp_in (nI (0 + (32 * u_16))) 1360 from vp_in_nI (n := (0 + (32 * u_16))) (by omega) (by omega)) d_MD_go_274 ?_
                          rw [show ((nI (0 + (32 * u_16))) : Int32).toNatClampNeg = (0 + (32 * u_16)) from nI_clamp (n := (0 + (32 * u_16))) (by omega)]
                          refine lv_iconst (v := 1) hx hb d_MD_go_275 (by decide) ?_
                          refine lv_isub hx hb d_MD_go_276 ?_
                          refine lv_istore_n (lv' := [(3, .int ((xB (0 + (32 * u_16))) - 1)), (8, .int 0), (5, .int 0), (7, .int (xB ((0 + (32 * u_16)) + 1))), (6, .int (nI (0 + (32 * u_16)))), (0, .ref (q 0)), (1, .int (nI ro)), (2, .int 0), (4, .int vmo)]) hx hb d_MD_go_277 rfl hl (by decide) rfl (fun ls hl => ?_)
                          refine lv_goto (tgt := 79) hx hb d_MD_go_278 (by decide) ?_
                          exact ih79 (k + 1) 0 ((xB (0 + (32 * u_16))) - 1) vmo (upd vpa k vp) vw vhe hn (by omega) (by omega) (by omega) (by rw [← heq79]; simp only [f_MD_go_l79_0, ← hu_1, ← hu_3, ← hu_13, ← hu_16, ← hu_17, ← hu_23, eq_false c_5, eq_false c_7, eq_false c_9, eq_false c_11, eq_true c_14, eq_false c_18, eq_true c_24, eq_true c_25, ↓reduceIte]) _ _ hP hD hS ls (lv_sub hl [5, 6, 7, 0, 8, 2] rfl)
                        · refine lv_iload hx hb d_MD_go_203 (lv_at hl 1 rfl) ?_
                          refine lv_if_eq (tgt := 245) hx hb d_MD_go_205 (by decide) (fun c_27 => ?_) (fun c_27 => absurd (by decide) c_27)
                          refine lv_iload hx hb d_MD_go_245 (lv_at hl 1 rfl) ?_
                          refine lv_if_eq (tgt := 268) hx hb d_MD_go_247 (by decide) (fun c_28 => ?_) (fun c_28 => absurd (by decide) c_28)
                          refine lv_aload_n hx hb d_MD_go_268 rfl (lv_at hl 4 rfl) ?_
                          refine va_get (D := D) (ci := 3) (v := .ref (q 1)) (C := R_MD) (T := F_MD) (N := 15) hx hb hts i_MD hown hK hP 0 rfl rfl 1 (by decide) (hts _ wd_576) (fun _ h9 => h9) rfl d_MD_go_269 ?_
                          refine lv_iload hx hb d_MD_go_272 (lv_at hl 3 rfl) ?_
                          refine va_iald hx hb hK hP 1 0 rfl rfl (show vp_in (nI (0 + (32 * u_16))) 1360 from vp_in_nI (n := (0 + (32 * u_16))) (by omega) (by omega)) d_MD_go_274 ?_
                          rw [show ((nI (0 + (32 * u_16))) : Int32).toNatClampNeg = (0 + (32 * u_16)) from nI_clamp (n := (0 + (32 * u_16))) (by omega)]
                          refine lv_iconst (v := 1) hx hb d_MD_go_275 (by decide) ?_
                          refine lv_isub hx hb d_MD_go_276 ?_
                          refine lv_istore_n (lv' := [(3, .int ((xB (0 + (32 * u_16))) - 1)), (8, .int 0), (5, .int 0), (7, .int (xB ((0 + (32 * u_16)) + 1))), (6, .int (nI (0 + (32 * u_16)))), (0, .ref (q 0)), (1, .int (nI ro)), (2, .int 0), (4, .int vmo)]) hx hb d_MD_go_277 rfl hl (by decide) rfl (fun ls hl => ?_)
                          refine lv_goto (tgt := 79) hx hb d_MD_go_278 (by decide) ?_
                          exact ih79 (k + 1) 0 ((xB (0 + (32 * u_16))) - 1) vmo (upd vpa k vp) vw vhe hn (by omega) (by omega) (by omega) (by rw [← heq79]; simp only [f_MD_go_l79_0, ← hu_1, ← hu_3, ← hu_13, ← hu_16, ← hu_17, ← hu_23, eq_false c_5, eq_false c_7, eq_false c_9, eq_false c_11, eq_true c_14, eq_false c_18, eq_true c_24, eq_false c_25, ↓reduceIte]) _ _ hP hD hS ls (lv_sub hl [5, 6, 7, 0, 8, 2] rfl)
                      · refine lv_aload_n hx hb d_MD_go_172 rfl (lv_at hl 2 rfl) ?_
                        refine va_get (D := D) (ci := 3) (v := .ref (q 1)) (C := R_MD) (T := F_MD) (N := 15) hx hb hts i_MD hown hK hP 0 rfl rfl 1 (by decide) (hts _ wd_576) (fun _ h9 => h9) rfl d_MD_go_173 ?_
                        refine lv_iload hx hb d_MD_go_176 (lv_at hl 1 rfl) ?_
                        refine lv_iconst (v := 2) hx hb d_MD_go_178 (by decide) ?_
                        refine lv_iadd hx hb d_MD_go_179 ?_
                        rw [show (((nI (0 + (32 * u_16))) + 2) : Int32) = (nI ((0 + (32 * u_16)) + 2)) from nI_add (0 + (32 * u_16)) 2]
                        refine va_iald hx hb hK hP 1 0 rfl rfl (show vp_in (nI ((0 + (32 * u_16)) + 2)) 1360 from vp_in_nI (n := ((0 + (32 * u_16)) + 2)) (by omega) (by omega)) d_MD_go_180 ?_
                        rw [show ((nI ((0 + (32 * u_16)) + 2)) : Int32).toNatClampNeg = ((0 + (32 * u_16)) + 2) from nI_clamp (n := ((0 + (32 * u_16)) + 2)) (by omega)]
                        refine lv_iload hx hb d_MD_go_181 (lv_at hl 6 rfl) ?_
                        refine lv_icmp_ne (tgt := 190) hx hb d_MD_go_183 (by decide) (fun c_29 => ?_) (fun c_29 => ?_)
                        · refine lv_iconst (v := 0) hx hb d_MD_go_190 (by decide) ?_
                          refine lv_istore (lv' := [(5, .int 0), (7, .int (xB ((0 + (32 * u_16)) + 1))), (6, .int (nI (0 + (32 * u_16)))), (0, .ref (q 0)), (1, .int (nI ro)), (2, .int 0), (3, .int vp), (4, .int vmo)]) hx hb d_MD_go_191 hl (by decide) rfl (fun ls hl => ?_)
                          refine lv_iconst (v := 0) hx hb d_MD_go_193 (by decide) ?_
                          refine lv_istore (lv' := [(8, .int 0), (5, .int 0), (7, .int (xB ((0 + (32 * u_16)) + 1))), (6, .int (nI (0 + (32 * u_16)))), (0, .ref (q 0)), (1, .int (nI ro)), (2, .int 0), (3, .int vp), (4, .int vmo)]) hx hb d_MD_go_194 hl (by decide) rfl (fun ls hl => ?_)
                          refine lv_iload hx hb d_MD_go_196 (lv_at hl 0 rfl) ?_
                          refine lv_iload hx hb d_MD_go_198 (lv_at hl 2 rfl) ?_
                          refine lv_icmp_ge (tgt := 245) hx hb d_MD_go_200 (by decide) (fun c_30 => ?_) (fun c_30 => ?_)
                          · refine lv_iload hx hb d_MD_go_245 (lv_at hl 1 rfl) ?_
                            refine lv_if_eq (tgt := 268) hx hb d_MD_go_247 (by decide) (fun c_31 => ?_) (fun c_31 => absurd (by decide) c_31)
                            refine lv_aload_n hx hb d_MD_go_268 rfl (lv_at hl 4 rfl) ?_
                            refine va_get (D := D) (ci := 3) (v := .ref (q 1)) (C := R_MD) (T := F_MD) (N := 15) hx hb hts i_MD hown hK hP 0 rfl rfl 1 (by decide) (hts _ wd_576) (fun _ h9 => h9) rfl d_MD_go_269 ?_
                            refine lv_iload hx hb d_MD_go_272 (lv_at hl 3 rfl) ?_
                            refine va_iald hx hb hK hP 1 0 rfl rfl (show vp_in (nI (0 + (32 * u_16))) 1360 from vp_in_nI (n := (0 + (32 * u_16))) (by omega) (by omega)) d_MD_go_274 ?_
                            rw [show ((nI (0 + (32 * u_16))) : Int32).toNatClampNeg = (0 + (32 * u_16)) from nI_clamp (n := (0 + (32 * u_16))) (by omega)]
                            refine lv_iconst (v := 1) hx hb d_MD_go_275 (by decide) ?_
                            refine lv_isub hx hb d_MD_go_276 ?_
                            refine lv_istore_n (lv' := [(3, .int ((xB (0 + (32 * u_16))) - 1)), (8, .int 0), (5, .int 0), (7, .int (xB ((0 + (32 * u_16)) + 1))), (6, .int (nI (0 + (32 * u_16)))), (0, .ref (q 0)), (1, .int (nI ro)), (2, .int 0), (4, .int vmo)]) hx hb d_MD_go_277 rfl hl (by decide) rfl (fun ls hl => ?_)
                            refine lv_goto (tgt := 79) hx hb d_MD_go_278 (by decide) ?_
                            exact ih79 (k + 1) 0 ((xB (0 + (32 * u_16))) - 1) vmo (upd vpa k vp) vw vhe hn (by omega) (by omega) (by omega) (by rw [← heq79]; simp only [f_MD_go_l79_0, ← hu_1, ← hu_3, ← hu_13, ← hu_16, ← hu_17, ← hu_23, eq_false c_5, eq_false c_7, eq_false c_9, eq_false c_11, eq_true c_14, eq_false c_18, eq_false c_24, eq_false c_29, eq_true c_30, ↓reduceIte]) _ _ hP hD hS ls (lv_sub hl [5, 6, 7, 0, 8, 2] rfl)
                          · refine lv_iload hx hb d_MD_go_203 (lv_at hl 1 rfl) ?_
                            refine lv_if_eq (tgt := 245) hx hb d_MD_go_205 (by decide) (fun c_32 => ?_) (fun c_32 => absurd (by decide) c_32)
                            refine lv_iload hx hb d_MD_go_245 (lv_at hl 1 rfl) ?_
                            refine lv_if_eq (tgt := 268) hx hb d_MD_go_247 (by decide) (fun c_33 => ?_) (fun c_33 => absurd (by decide) c_33)
                            refine lv_aload_n hx hb d_MD_go_268 rfl (lv_at hl 4 rfl) ?_
                            refine va_get (D := D) (ci := 3) (v := .ref (q 1)) (C := R_MD) (T := F_MD) (N := 15) hx hb hts i_MD hown hK hP 0 rfl rfl 1 (by decide) (hts _ wd_576) (fun _ h9 => h9) rfl d_MD_go_269 ?_
                            refine lv_iload hx hb d_MD_go_272 (lv_at hl 3 rfl) ?_
                            refine va_iald hx hb hK hP 1 0 rfl rfl (show vp_in (nI (0 + (32 * u_16))) 1360 from vp_in_nI (n := (0 + (32 * u_16))) (by omega) (by omega)) d_MD_go_274 ?_
                            rw [show ((nI (0 + (32 * u_16))) : Int32).toNatClampNeg = (0 + (32 * u_16)) from nI_clamp (n := (0 + (32 * u_16))) (by omega)]
                            refine lv_iconst (v := 1) hx hb d_MD_go_275 (by decide) ?_
                            refine lv_isub hx hb d_MD_go_276 ?_
                            refine lv_istore_n (lv' := [(3, .int ((xB (0 + (32 * u_16))) - 1)), (8, .int 0), (5, .int 0), (7, .int (xB ((0 + (32 * u_16)) + 1))), (6, .int (nI (0 + (32 * u_16)))), (0, .ref (q 0)), (1, .int (nI ro)), (2, .int 0), (4, .int vmo)]) hx hb d_MD_go_277 rfl hl (by decide) rfl (fun ls hl => ?_)
                            refine lv_goto (tgt := 79) hx hb d_MD_go_278 (by decide) ?_
                            exact ih79 (k + 1) 0 ((xB (0 + (32 * u_16))) - 1) vmo (upd vpa k vp) vw vhe hn (by omega) (by omega) (by omega) (by rw [← heq79]; simp only [f_MD_go_l79_0, ← hu_1, ← hu_3, ← hu_13, ← hu_16, ← hu_17, ← hu_23, eq_false c_5, eq_false c_7, eq_false c_9, eq_false c_11, eq_true c_14, eq_false c_18, eq_false c_24, eq_false c_29, eq_false c_30, ↓reduceIte]) _ _ hP hD hS ls (lv_sub hl [5, 6, 7, 0, 8, 2] rfl)
                        · refine lv_iconst (v := 1) hx hb d_MD_go_186 (by decide) ?_
                          refine lv_goto (tgt := 191) hx hb d_MD_go_187 (by decide) ?_
                          refine lv_istore (lv' := [(5, .int 1), (7, .int (xB ((0 + (32 * u_16)) + 1))), (6, .int (nI (0 + (32 * u_16)))), (0, .ref (q 0)), (1, .int (nI ro)), (2, .int 0), (3, .int vp), (4, .int vmo)]) hx hb d_MD_go_191 hl (by decide) rfl (fun ls hl => ?_)
                          obtain ⟨u_34, hu_34⟩ : ∃ z, z = (xB ((0 + (32 * u_16)) + 1)).toNatClampNeg := ⟨_, rfl⟩
                          obtain ⟨he_u_34, ha_u_34, hb_u_34⟩ := sf_natn hu_34 (by rw [← hu_23]; exact c_24)
                          rw [he_u_34] at hl
                          refine lv_iconst (v := 0) hx hb d_MD_go_193 (by decide) ?_
                          refine lv_istore (lv' := [(8, .int 0), (5, .int 1), (7, .int (nI u_34)), (6, .int (nI (0 + (32 * u_16)))), (0, .ref (q 0)), (1, .int (nI ro)), (2, .int 0), (3, .int vp), (4, .int vmo)]) hx hb d_MD_go_194 hl (by decide) rfl (fun ls hl => ?_)
                          obtain ⟨u_35, hu_35⟩ : ∃ z, z = (f_MD_go_l196_0 xB vp hn (u_34 + 1) 0 vhe) := ⟨_, rfl⟩
                          have loop196 : ∀ (fukk kk : Nat) (xh : (Nat → Int32)), kk ≤ u_34 → kk + fukk = u_34 + 1 → f_MD_go_l196_0 xB vp hn fukk kk xh = u_35 → ∀ (H : Heap) (locs : List Loc), va_P D classes (md_w q cI cZ xth xB xsh xcu xtp xtd (upd vpa k vp) (nI (k + 1)) vw xh (nI (hn + kk)) xtk xto xwa xmn) H → va_D A (md_w q cI cZ xth xB xsh xcu xtp xtd (upd vpa k vp) (nI (k + 1)) vw xh (nI (hn + kk)) xtk xto xwa xmn) → va_S A s.heap H locs → ∀ (ls : Array Slot), lv_has ls 9 [(0, .ref (q 0)), (1, .int (nI ro)), (2, .int 0), (3, .int vp), (4, .int vmo), (5, .int 1), (6, .int (nI (0 + (32 * u_16)))), (7, .int (nI u_34)), (8, .int (nI kk))] → W p l e R s m args below meth c H locs 0 0 Q (F0 m 196 ls []) := by
                            intro fukk
                            induction fukk with
                            | zero =>
                              intro kk xh h1 h2
                              exact absurd h2 (by omega)
                            | succ fukk ih196 =>
                              intro kk xh hk196 hkn196 heq196 H locs hP hD hS ls hl
                              refine lv_iload hx hb d_MD_go_196 (lv_at hl 8 rfl) ?_
                              refine lv_iload hx hb d_MD_go_198 (lv_at hl 7 rfl) ?_
                              refine lv_icmp_ge (tgt := 245) hx hb d_MD_go_200 (by decide) (fun c_36 => ?_) (fun c_36 => ?_)
                              · skip
                                have hv196 : xh = u_35 := by rw [← heq196]; simp only [f_MD_go_l196_0, ← hu_1, ← hu_3, ← hu_13, ← hu_16, ← hu_17, ← hu_23, ← hu_34, eq_true c_36, ↓reduceIte]
                                have hv196_0 : xh = u_35 := hv196
                                rw [hv196_0] at hP hD
                                have hke196 : kk = u_34 := sf_eq_of (N := u_34) (by omega) (by omega) hk196 c_36
                                try rw [hke196] at hP
                                try rw [hke196] at hD
                                try rw [hke196] at hl
                                refine lv_iload hx hb d_MD_go_245 (lv_at hl 5 rfl) ?_
                                refine lv_if_eq (tgt := 268) hx hb d_MD_go_247 (by decide) (fun c_38 => absurd c_38 (by decide)) (fun c_38 => ?_)
                                refine lv_aload_n hx hb d_MD_go_250 rfl (lv_at hl 0 rfl) ?_
                                refine va_get (D := D) (ci := 3) (v := .ref (q 1)) (C := R_MD) (T := F_MD) (N := 15) hx hb hts i_MD hown hK hP 0 rfl rfl 1 (by decide) (hts _ wd_576) (fun _ h9 => h9) rfl d_MD_go_251 ?_
                                refine lv_iload hx hb d_MD_go_254 (lv_at hl 6 rfl) ?_
                                refine va_iald hx hb hK hP 1 0 rfl rfl (show vp_in (nI (0 + (32 * u_16))) 1360 from vp_in_nI (n := (0 + (32 * u_16))) (by omega) (by omega)) d_MD_go_256 ?_
                                rw [show ((nI (0 + (32 * u_16))) : Int32).toNatClampNeg = (0 + (32 * u_16)) from nI_clamp (n := (0 + (32 * u_16))) (by omega)]
                                refine lv_if_ne (tgt := 268) hx hb d_MD_go_257 (by decide) (fun c_39 => ?_) (fun c_39 => ?_)
                                · refine lv_aload_n hx hb d_MD_go_268 rfl (lv_at hl 0 rfl) ?_
                                  refine va_get (D := D) (ci := 3) (v := .ref (q 1)) (C := R_MD) (T := F_MD) (N := 15) hx hb hts i_MD hown hK hP 0 rfl rfl 1 (by decide) (hts _ wd_576) (fun _ h9 => h9) rfl d_MD_go_269 ?_
                                  refine lv_iload hx hb d_MD_go_272 (lv_at hl 6 rfl) ?_
                                  refine va_iald hx hb hK hP 1 0 rfl rfl (show vp_in (nI (0 + (32 * u_16))) 1360 from vp_in_nI (n := (0 + (32 * u_16))) (by omega) (by omega)) d_MD_go_274 ?_
                                  rw [show ((nI (0 + (32 * u_16))) : Int32).toNatClampNeg = (0 + (32 * u_16)) from nI_clamp (n := (0 + (32 * u_16))) (by omega)]
                                  refine lv_iconst (v := 1) hx hb d_MD_go_275 (by decide) ?_
                                  refine lv_isub hx hb d_MD_go_276 ?_
                                  refine lv_istore_n (lv' := [(3, .int ((xB (0 + (32 * u_16))) - 1)), (0, .ref (q 0)), (1, .int (nI ro)), (2, .int 0), (4, .int vmo), (5, .int 1), (6, .int (nI (0 + (32 * u_16)))), (7, .int (nI u_34)), (8, .int (nI u_34))]) hx hb d_MD_go_277 rfl hl (by decide) rfl (fun ls hl => ?_)
                                  refine lv_goto (tgt := 79) hx hb d_MD_go_278 (by decide) ?_
                                  exact ih79 (k + 1) 1 ((xB (0 + (32 * u_16))) - 1) vmo (upd vpa k vp) vw u_35 (hn + u_34) (by omega) (by omega) (by omega) (by rw [← heq79]; simp only [f_MD_go_l79_0, ← hu_1, ← hu_3, ← hu_13, ← hu_16, ← hu_17, ← hu_23, ← hu_34, ← hu_35, eq_false c_5, eq_false c_7, eq_false c_9, eq_false c_11, eq_true c_14, eq_false c_18, eq_false c_24, eq_true c_29, eq_false c_39, ↓reduceIte]) _ _ hP hD hS ls (lv_sub hl [1, 2, 3, 0, 4, 5] rfl)
                                · refine lv_aload_n hx hb d_MD_go_260 rfl (lv_at hl 0 rfl) ?_
                                  refine lv_iconst (v := 1) hx hb d_MD_go_261 (by decide) ?_
                                  refine va_put (D := D) (ci := 3) (v := .int 1) (ty := .boolean) (C := R_MD) (T := F_MD) (N := 15) hx hb hts i_MD t_MD t_MD_ok n_MD hown hK hP hD hS 0 rfl rfl 8 (by decide) (hts _ wd_583) (fun _ h9 => h9) rfl (by decide +kernel) (sf_bp1).1 (sf_bp1).2 (Nat.le_of_ble_eq_true rfl) d_MD_go_262 (fun H locs hP hD hS => ?_)
                                  have hP : va_P D classes (md_w q cI cZ xth xB xsh xcu xtp xtd (upd vpa k vp) (nI (k + 1)) 1 u_35 (nI (hn + u_34)) xtk xto xwa xmn) H := hP
                                  have hD : va_D A (md_w q cI cZ xth xB xsh xcu xtp xtd (upd vpa k vp) (nI (k + 1)) 1 u_35 (nI (hn + u_34)) xtk xto xwa xmn) := hD
                                  refine lv_iconst (v := 0) hx hb d_MD_go_265 (by decide) ?_
                                  refine lv_istore (lv' := [(5, .int 0), (0, .ref (q 0)), (1, .int (nI ro)), (2, .int 0), (3, .int vp), (4, .int vmo), (6, .int (nI (0 + (32 * u_16)))), (7, .int (nI u_34)), (8, .int (nI u_34))]) hx hb d_MD_go_266 hl (by decide) rfl (fun ls hl => ?_)
                                  refine lv_aload_n hx hb d_MD_go_268 rfl (lv_at hl 1 rfl) ?_
                                  refine va_get (D := D) (ci := 3) (v := .ref (q 1)) (C := R_MD) (T := F_MD) (N := 15) hx hb hts i_MD hown hK hP 0 rfl rfl 1 (by decide) (hts _ wd_576) (fun _ h9 => h9) rfl d_MD_go_269 ?_
                                  refine lv_iload hx hb d_MD_go_272 (lv_at hl 6 rfl) ?_
                                  refine va_iald hx hb hK hP 1 0 rfl rfl (show vp_in (nI (0 + (32 * u_16))) 1360 from vp_in_nI (n := (0 + (32 * u_16))) (by omega) (by omega)) d_MD_go_274 ?_
                                  rw [show ((nI (0 + (32 * u_16))) : Int32).toNatClampNeg = (0 + (32 * u_16)) from nI_clamp (n := (0 + (32 * u_16))) (by omega)]
                                  refine lv_iconst (v := 1) hx hb d_MD_go_275 (by decide) ?_
                                  refine lv_isub hx hb d_MD_go_276 ?_
                                  refine lv_istore_n (lv' := [(3, .int ((xB (0 + (32 * u_16))) - 1)), (5, .int 0), (0, .ref (q 0)), (1, .int (nI ro)), (2, .int 0), (4, .int vmo), (6, .int (nI (0 + (32 * u_16)))), (7, .int (nI u_34)), (8, .int (nI u_34))]) hx hb d_MD_go_277 rfl hl (by decide) rfl (fun ls hl => ?_)
                                  refine lv_goto (tgt := 79) hx hb d_MD_go_278 (by decide) ?_
                                  exact ih79 (k + 1) 0 ((xB (0 + (32 * u_16))) - 1) vmo (upd vpa k vp) 1 u_35 (hn + u_34) (by omega) (by omega) (by omega) (by rw [← heq79]; simp only [f_MD_go_l79_0, ← hu_1, ← hu_3, ← hu_13, ← hu_16, ← hu_17, ← hu_23, ← hu_34, ← hu_35, eq_false c_5, eq_false c_7, eq_false c_9, eq_false c_11, eq_true c_14, eq_false c_18, eq_false c_24, eq_true c_29, eq_true c_39, ↓reduceIte]) _ _ hP hD hS ls (lv_sub hl [2, 3, 4, 0, 5, 1] rfl)
                              · have hlt : kk < u_34 := sf_lt_of (N := u_34) (by omega) (by omega) c_36
                                refine lv_iload hx hb d_MD_go_203 (lv_at hl 5 rfl) ?_
                                refine lv_if_eq (tgt := 245) hx hb d_MD_go_205 (by decide) (fun c_37 => absurd c_37 (by decide)) (fun c_37 => ?_)
                                refine lv_aload_n hx hb d_MD_go_208 rfl (lv_at hl 0 rfl) ?_
                                refine va_get (D := D) (ci := 3) (v := .ref (q 4)) (C := R_MD) (T := F_MD) (N := 15) hx hb hts i_MD hown hK hP 0 rfl rfl 9 (by decide) (hts _ wd_584) (fun _ h9 => h9) rfl d_MD_go_209 ?_
                                refine lv_aload_n hx hb d_MD_go_212 rfl (lv_at hl 0 rfl) ?_
                                refine va_get (D := D) (ci := 3) (v := .int (nI (hn + kk))) (C := R_MD) (T := F_MD) (N := 15) hx hb hts i_MD hown hK hP 0 rfl rfl 10 (by decide) (hts _ wd_585) (fun _ h9 => h9) rfl d_MD_go_213 ?_
                                refine lv_aload_n hx hb d_MD_go_216 rfl (lv_at hl 0 rfl) ?_
                                refine va_get (D := D) (ci := 3) (v := .ref (q 1)) (C := R_MD) (T := F_MD) (N := 15) hx hb hts i_MD hown hK hP 0 rfl rfl 1 (by decide) (hts _ wd_576) (fun _ h9 => h9) rfl d_MD_go_217 ?_
                                refine lv_iload hx hb d_MD_go_220 (lv_at hl 6 rfl) ?_
                                refine lv_iconst (v := 3) hx hb d_MD_go_222 (by decide) ?_
                                refine lv_iadd hx hb d_MD_go_223 ?_
                                rw [show (((nI (0 + (32 * u_16))) + 3) : Int32) = (nI ((0 + (32 * u_16)) + 3)) from nI_add (0 + (32 * u_16)) 3]
                                refine lv_iload hx hb d_MD_go_224 (lv_at hl 8 rfl) ?_
                                refine lv_iadd hx hb d_MD_go_226 ?_
                                rw [show (((nI ((0 + (32 * u_16)) + 3)) + (nI kk)) : Int32) = (nI (((0 + (32 * u_16)) + 3) + kk)) from nI_add ((0 + (32 * u_16)) + 3) kk]
                                refine va_iald hx hb hK hP 1 0 rfl rfl (show vp_in (nI (((0 + (32 * u_16)) + 3) + kk)) 1360 from vp_in_nI (n := (((0 + (32 * u_16)) + 3) + kk)) (by omega) (by omega)) d_MD_go_227 ?_
                                rw [show ((nI (((0 + (32 * u_16)) + 3) + kk)) : Int32).toNatClampNeg = (((0 + (32 * u_16)) + 3) + kk) from nI_clamp (n := (((0 + (32 * u_16)) + 3) + kk)) (by omega)]
                                refine va_iast hx hb hK hP hD hS 4 0 rfl rfl (show vp_in (nI (hn + kk)) 75 from vp_in_nI (n := (hn + kk)) (by omega) (by omega)) d_MD_go_228 (fun H locs hP hD hS => ?_)
                                rw [show ((nI (hn + kk)) : Int32).toNatClampNeg = (hn + kk) from nI_clamp (n := (hn + kk)) (by omega)] at hP hD
                                have hP : va_P D classes (md_w q cI cZ xth xB xsh xcu xtp xtd (upd vpa k vp) (nI (k + 1)) vw (upd xh (hn + kk) (xB (((0 + (32 * u_16)) + 3) + kk))) (nI (hn + kk)) xtk xto xwa xmn) H := hP
                                have hD : va_D A (md_w q cI cZ xth xB xsh xcu xtp xtd (upd vpa k vp) (nI (k + 1)) vw (upd xh (hn + kk) (xB (((0 + (32 * u_16)) + 3) + kk))) (nI (hn + kk)) xtk xto xwa xmn) := hD
                                refine lv_aload_n hx hb d_MD_go_229 rfl (lv_at hl 0 rfl) ?_
                                refine lv_dup hx hb d_MD_go_230 rfl ?_
                                refine va_get (D := D) (ci := 3) (v := .int (nI (hn + kk))) (C := R_MD) (T := F_MD) (N := 15) hx hb hts i_MD hown hK hP 0 rfl rfl 10 (by decide) (hts _ wd_585) (fun _ h9 => h9) rfl d_MD_go_231 ?_
                                refine lv_iconst (v := 1) hx hb d_MD_go_234 (by decide) ?_
                                refine lv_iadd hx hb d_MD_go_235 ?_
                                rw [show (((nI (hn + kk)) + 1) : Int32) = (nI ((hn + kk) + 1)) from nI_add (hn + kk) 1]
                                refine va_put (D := D) (ci := 3) (v := .int (nI ((hn + kk) + 1))) (ty := .int) (C := R_MD) (T := F_MD) (N := 15) hx hb hts i_MD t_MD t_MD_ok n_MD hown hK hP hD hS 0 rfl rfl 10 (by decide) (hts _ wd_585) (fun _ h9 => h9) rfl (by decide +kernel) rfl rfl (Nat.le_of_ble_eq_true rfl) d_MD_go_236 (fun H locs hP hD hS => ?_)
                                have hP : va_P D classes (md_w q cI cZ xth xB xsh xcu xtp xtd (upd vpa k vp) (nI (k + 1)) vw (upd xh (hn + kk) (xB (((0 + (32 * u_16)) + 3) + kk))) (nI ((hn + kk) + 1)) xtk xto xwa xmn) H := hP
                                have hD : va_D A (md_w q cI cZ xth xB xsh xcu xtp xtd (upd vpa k vp) (nI (k + 1)) vw (upd xh (hn + kk) (xB (((0 + (32 * u_16)) + 3) + kk))) (nI ((hn + kk) + 1)) xtk xto xwa xmn) := hD
                                refine lv_iinc (v := (nI (kk + 1))) (lv' := [(8, .int (nI (kk + 1))), (0, .ref (q 0)), (1, .int (nI ro)), (2, .int 0), (3, .int vp), (4, .int vmo), (5, .int 1), (6, .int (nI (0 + (32 * u_16)))), (7, .int (nI u_34))]) hx hb d_MD_go_239 hl (k := 8) rfl (nI_1 kk) (by decide) rfl (fun ls hl => ?_)
                                refine lv_goto (tgt := 196) hx hb d_MD_go_242 (by decide) ?_
                                exact ih196 (kk + 1) (upd xh (hn + kk) (xB (((0 + (32 * u_16)) + 3) + kk))) (by omega) (by omega) (by rw [← heq196]; simp only [f_MD_go_l196_0, ← hu_1, ← hu_3, ← hu_13, ← hu_16, ← hu_17, ← hu_23, ← hu_34, eq_false c_36, ↓reduceIte]) _ _ hP hD hS ls (lv_sub hl [1, 2, 3, 4, 5, 6, 7, 8, 0] rfl)
                          exact loop196 (u_34 + 1) 0 vhe (by omega) (by omega) hu_35.symm _ _ hP hD hS ls (lv_sub hl [4, 5, 6, 7, 8, 1, 3, 2, 0] rfl)
      exact loop79 (3 + 1) 0 1 (u_3 - 1) 0 xpa 0 xhe 0 (by omega) (by omega) (by omega) (by simp only [f_MD_go, ← hu_1, ← hu_3, eq_true hz0, eq_true c_4, ↓reduceIte]) _ _ hP hD hS ls (lv_sub hl [4, 5, 3, 2, 1, 0] rfl)
    · refine lv_iload_n hx hb d_MD_go_50 rfl (lv_at hl 0 rfl) ?_
      refine lv_iload_n hx hb d_MD_go_51 rfl (lv_at hl 1 rfl) ?_
      refine sf_callSr (S := Unit) (rest := [.int (u_3 - 1)]) ⟨hx, hb, hml, hown, hts⟩ (c_MD_places_0 l D cI cZ cJ) (sf_cwS lk_MD_80 hts (fun _ h => h) (by rw [hR]; exact ⟨Nat.le_of_ble_eq_true rfl, Nat.le_of_ble_eq_true rfl⟩)) hK hP hD hS hA [] rfl rfl (fun _ => rfl) rfl rfl hl.1 (Nat.le_of_ble_eq_true rfl) d_MD_go_52 ⟨Nat.zero_le _, Nat.zero_le _⟩ (fun u H locs hu hP hS => ?_)
      refine lv_icmp_ge (tgt := 73) hx hb d_MD_go_55 (by decide) (fun c_40 => ?_) (fun c_40 => ?_)
      · refine lv_iconst (v := 0) hx hb d_MD_go_73 (by decide) ?_
        refine lv_istore (lv' := [(4, .int 0), (3, .int (u_3 - 1)), (2, .int 0), (0, .ref (q 0)), (1, .int (nI ro))]) hx hb d_MD_go_74 hl (by decide) rfl (fun ls hl => ?_)
        refine lv_iconst (v := 1) hx hb d_MD_go_76 (by decide) ?_
        refine lv_istore (lv' := [(5, .int 1), (4, .int 0), (3, .int (u_3 - 1)), (2, .int 0), (0, .ref (q 0)), (1, .int (nI ro))]) hx hb d_MD_go_77 hl (by decide) rfl (fun ls hl => ?_)
        have loop79 : ∀ (fu k : Nat) (vg : Int32) (vp : Int32) (vmo : Int32) (vpa : (Nat → Int32)) (vw : Int32) (vhe : (Nat → Int32)) (hn : Nat), k ≤ 3 → k + fu = 3 + 1 → hn ≤ 25 * k → f_MD_go_l79_0 xB fu k vg vp vmo vpa vw vhe hn = f_MD_go xB xpa xhe ro → ∀ (H : Heap) (locs : List Loc), va_P D classes (md_w q cI cZ xth xB xsh xcu xtp xtd vpa (nI k) vw vhe (nI hn) xtk xto xwa xmn) H → va_D A (md_w q cI cZ xth xB xsh xcu xtp xtd vpa (nI k) vw vhe (nI hn) xtk xto xwa xmn) → va_S A s.heap H locs → ∀ (ls : Array Slot), lv_has ls 9 [(0, .ref (q 0)), (1, .int (nI ro)), (2, .int 0), (3, .int vp), (4, .int vmo), (5, .int vg)] → W p l e R s m args below meth c H locs 0 0 Q (F0 m 79 ls []) := by
          intro fu
          induction fu with
          | zero =>
            intro k vg vp vmo vpa vw vhe hn h1 h2
            exact absurd h2 (by omega)
          | succ fu ih79 =>
            intro k vg vp vmo vpa vw vhe hn hk79 hkn79 hi790 heq79 H locs hP hD hS ls hl
            refine lv_iload hx hb d_MD_go_79 (lv_at hl 5 rfl) ?_
            refine lv_if_eq (tgt := 281) hx hb d_MD_go_81 (by decide) (fun c_41 => ?_) (fun c_41 => ?_)
            · refine lv_aload_n hx hb d_MD_go_281 rfl (lv_at hl 0 rfl) ?_
              refine lv_aload_n hx hb d_MD_go_282 rfl (lv_at hl 0 rfl) ?_
              refine va_get (D := D) (ci := 3) (v := .int vw) (C := R_MD) (T := F_MD) (N := 15) hx hb hts i_MD hown hK hP 0 rfl rfl 8 (by decide) (hts _ wd_583) (fun _ h9 => h9) rfl d_MD_go_283 ?_
              refine lv_if_eq (tgt := 296) hx hb d_MD_go_286 (by decide) (fun c_42 => ?_) (fun c_42 => ?_)
              · refine lv_iconst (v := 0) hx hb d_MD_go_296 (by decide) ?_
                refine va_put (D := D) (ci := 3) (v := .int 0) (ty := .int) (C := R_MD) (T := F_MD) (N := 15) hx hb hts i_MD t_MD t_MD_ok n_MD hown hK hP hD hS 0 rfl rfl 10 (by decide) (hts _ wd_585) (fun _ h9 => h9) rfl (by decide +kernel) rfl rfl (Nat.le_of_ble_eq_true rfl) d_MD_go_297 (fun H locs hP hD hS => ?_)
                have hP : va_P D classes (md_w q cI cZ xth xB xsh xcu xtp xtd vpa (nI k) vw vhe 0 xtk xto xwa xmn) H := hP
                have hD : va_D A (md_w q cI cZ xth xB xsh xcu xtp xtd vpa (nI k) vw vhe 0 xtk xto xwa xmn) := hD
                rw [hQ]
                exact sf_vret (vpa, (nI k), vw, vhe, 0) hx hb hr hlk hS rfl (by rw [← heq79]; simp only [f_MD_go_l79_0, ← hu_1, ← hu_3, eq_true c_41, eq_true c_42, ↓reduceIte]) hP d_MD_go_300
              · refine lv_aload_n hx hb d_MD_go_289 rfl (lv_at hl 0 rfl) ?_
                refine va_get (D := D) (ci := 3) (v := .int (nI hn)) (C := R_MD) (T := F_MD) (N := 15) hx hb hts i_MD hown hK hP 0 rfl rfl 10 (by decide) (hts _ wd_585) (fun _ h9 => h9) rfl d_MD_go_290 ?_
                refine lv_goto (tgt := 297) hx hb d_MD_go_293 (by decide) ?_
                refine va_put (D := D) (ci := 3) (v := .int (nI hn)) (ty := .int) (C := R_MD) (T := F_MD) (N := 15) hx hb hts i_MD t_MD t_MD_ok n_MD hown hK hP hD hS 0 rfl rfl 10 (by decide) (hts _ wd_585) (fun _ h9 => h9) rfl (by decide +kernel) rfl rfl (Nat.le_of_ble_eq_true rfl) d_MD_go_297 (fun H locs hP hD hS => ?_)
                have hP : va_P D classes (md_w q cI cZ xth xB xsh xcu xtp xtd vpa (nI k) vw vhe (nI hn) xtk xto xwa xmn) H := hP
                have hD : va_D A (md_w q cI cZ xth xB xsh xcu xtp xtd vpa (nI k) vw vhe (nI hn) xtk xto xwa xmn) := hD
                rw [hQ]
                exact sf_vret (vpa, (nI k), vw, vhe, (nI hn)) hx hb hr hlk hS rfl (by rw [← heq79]; simp only [f_MD_go_l79_0, ← hu_1, ← hu_3, eq_true c_41, eq_false c_42, ↓reduceIte]) hP d_MD_go_300
            · refine lv_iload_n hx hb d_MD_go_84 rfl (lv_at hl 3 rfl) ?_
              refine lv_if_lt (tgt := 281) hx hb d_MD_go_85 (by decide) (fun c_43 => ?_) (fun c_43 => ?_)
              · refine lv_aload_n hx hb d_MD_go_281 rfl (lv_at hl 0 rfl) ?_
                refine lv_aload_n hx hb d_MD_go_282 rfl (lv_at hl 0 rfl) ?_
                refine va_get (D := D) (ci := 3) (v := .int vw) (C := R_MD) (T := F_MD) (N := 15) hx hb hts i_MD hown hK hP 0 rfl rfl 8 (by decide) (hts _ wd_583) (fun _ h9 => h9) rfl d_MD_go_283 ?_
                refine lv_if_eq (tgt := 296) hx hb d_MD_go_286 (by decide) (fun c_44 => ?_) (fun c_44 => ?_)
                · refine lv_iconst (v := 0) hx hb d_MD_go_296 (by decide) ?_
                  refine va_put (D := D) (ci := 3) (v := .int 0) (ty := .int) (C := R_MD) (T := F_MD) (N := 15) hx hb hts i_MD t_MD t_MD_ok n_MD hown hK hP hD hS 0 rfl rfl 10 (by decide) (hts _ wd_585) (fun _ h9 => h9) rfl (by decide +kernel) rfl rfl (Nat.le_of_ble_eq_true rfl) d_MD_go_297 (fun H locs hP hD hS => ?_)
                  have hP : va_P D classes (md_w q cI cZ xth xB xsh xcu xtp xtd vpa (nI k) vw vhe 0 xtk xto xwa xmn) H := hP
                  have hD : va_D A (md_w q cI cZ xth xB xsh xcu xtp xtd vpa (nI k) vw vhe 0 xtk xto xwa xmn) := hD
                  rw [hQ]
                  exact sf_vret (vpa, (nI k), vw, vhe, 0) hx hb hr hlk hS rfl (by rw [← heq79]; simp only [f_MD_go_l79_0, ← hu_1, ← hu_3, eq_false c_41, eq_true c_43, eq_true c_44, ↓reduceIte]) hP d_MD_go_300
                · refine lv_aload_n hx hb d_MD_go_289 rfl (lv_at hl 0 rfl) ?_
                  refine va_get (D := D) (ci := 3) (v := .int (nI hn)) (C := R_MD) (T := F_MD) (N := 15) hx hb hts i_MD hown hK hP 0 rfl rfl 10 (by decide) (hts _ wd_585) (fun _ h9 => h9) rfl d_MD_go_290 ?_
                  refine lv_goto (tgt := 297) hx hb d_MD_go_293 (by decide) ?_
                  refine va_put (D := D) (ci := 3) (v := .int (nI hn)) (ty := .int) (C := R_MD) (T := F_MD) (N := 15) hx hb hts i_MD t_MD t_MD_ok n_MD hown hK hP hD hS 0 rfl rfl 10 (by decide) (hts _ wd_585) (fun _ h9 => h9) rfl (by decide +kernel) rfl rfl (Nat.le_of_ble_eq_true rfl) d_MD_go_297 (fun H locs hP hD hS => ?_)
                  have hP : va_P D classes (md_w q cI cZ xth xB xsh xcu xtp xtd vpa (nI k) vw vhe (nI hn) xtk xto xwa xmn) H := hP
                  have hD : va_D A (md_w q cI cZ xth xB xsh xcu xtp xtd vpa (nI k) vw vhe (nI hn) xtk xto xwa xmn) := hD
                  rw [hQ]
                  exact sf_vret (vpa, (nI k), vw, vhe, (nI hn)) hx hb hr hlk hS rfl (by rw [← heq79]; simp only [f_MD_go_l79_0, ← hu_1, ← hu_3, eq_false c_41, eq_true c_43, eq_false c_44, ↓reduceIte]) hP d_MD_go_300
              · refine lv_iload_n hx hb d_MD_go_88 rfl (lv_at hl 3 rfl) ?_
                refine lv_iload_n hx hb d_MD_go_89 rfl (lv_at hl 2 rfl) ?_
                refine sf_callSr (S := Unit) (rest := [.int vp]) ⟨hx, hb, hml, hown, hts⟩ (c_MD_places_0 l D cI cZ cJ) (sf_cwS lk_MD_80 hts (fun _ h => h) (by rw [hR]; exact ⟨Nat.le_of_ble_eq_true rfl, Nat.le_of_ble_eq_true rfl⟩)) hK hP hD hS hA [] rfl rfl (fun _ => rfl) rfl rfl hl.1 (Nat.le_of_ble_eq_true rfl) d_MD_go_90 ⟨Nat.zero_le _, Nat.zero_le _⟩ (fun u H locs hu hP hS => ?_)
                refine lv_icmp_ge (tgt := 281) hx hb d_MD_go_93 (by decide) (fun c_45 => ?_) (fun c_45 => ?_)
                · refine lv_aload_n hx hb d_MD_go_281 rfl (lv_at hl 0 rfl) ?_
                  refine lv_aload_n hx hb d_MD_go_282 rfl (lv_at hl 0 rfl) ?_
                  refine va_get (D := D) (ci := 3) (v := .int vw) (C := R_MD) (T := F_MD) (N := 15) hx hb hts i_MD hown hK hP 0 rfl rfl 8 (by decide) (hts _ wd_583) (fun _ h9 => h9) rfl d_MD_go_283 ?_
                  refine lv_if_eq (tgt := 296) hx hb d_MD_go_286 (by decide) (fun c_46 => ?_) (fun c_46 => ?_)
                  · refine lv_iconst (v := 0) hx hb d_MD_go_296 (by decide) ?_
                    refine va_put (D := D) (ci := 3) (v := .int 0) (ty := .int) (C := R_MD) (T := F_MD) (N := 15) hx hb hts i_MD t_MD t_MD_ok n_MD hown hK hP hD hS 0 rfl rfl 10 (by decide) (hts _ wd_585) (fun _ h9 => h9) rfl (by decide +kernel) rfl rfl (Nat.le_of_ble_eq_true rfl) d_MD_go_297 (fun H locs hP hD hS => ?_)
                    have hP : va_P D classes (md_w q cI cZ xth xB xsh xcu xtp xtd vpa (nI k) vw vhe 0 xtk xto xwa xmn) H := hP
                    have hD : va_D A (md_w q cI cZ xth xB xsh xcu xtp xtd vpa (nI k) vw vhe 0 xtk xto xwa xmn) := hD
                    rw [hQ]
                    exact sf_vret (vpa, (nI k), vw, vhe, 0) hx hb hr hlk hS rfl (by rw [← heq79]; simp only [f_MD_go_l79_0, ← hu_1, ← hu_3, eq_false c_41, eq_false c_43, eq_true c_45, eq_true c_46, ↓reduceIte]) hP d_MD_go_300
                  · refine lv_aload_n hx hb d_MD_go_289 rfl (lv_at hl 0 rfl) ?_
                    refine va_get (D := D) (ci := 3) (v := .int (nI hn)) (C := R_MD) (T := F_MD) (N := 15) hx hb hts i_MD hown hK hP 0 rfl rfl 10 (by decide) (hts _ wd_585) (fun _ h9 => h9) rfl d_MD_go_290 ?_
                    refine lv_goto (tgt := 297) hx hb d_MD_go_293 (by decide) ?_
                    refine va_put (D := D) (ci := 3) (v := .int (nI hn)) (ty := .int) (C := R_MD) (T := F_MD) (N := 15) hx hb hts i_MD t_MD t_MD_ok n_MD hown hK hP hD hS 0 rfl rfl 10 (by decide) (hts _ wd_585) (fun _ h9 => h9) rfl (by decide +kernel) rfl rfl (Nat.le_of_ble_eq_true rfl) d_MD_go_297 (fun H locs hP hD hS => ?_)
                    have hP : va_P D classes (md_w q cI cZ xth xB xsh xcu xtp xtd vpa (nI k) vw vhe (nI hn) xtk xto xwa xmn) H := hP
                    have hD : va_D A (md_w q cI cZ xth xB xsh xcu xtp xtd vpa (nI k) vw vhe (nI hn) xtk xto xwa xmn) := hD
                    rw [hQ]
                    exact sf_vret (vpa, (nI k), vw, vhe, (nI hn)) hx hb hr hlk hS rfl (by rw [← heq79]; simp only [f_MD_go_l79_0, ← hu_1, ← hu_3, eq_false c_41, eq_false c_43, eq_true c_45, eq_false c_46, ↓reduceIte]) hP d_MD_go_300
                · refine lv_aload_n hx hb d_MD_go_96 rfl (lv_at hl 0 rfl) ?_
                  refine va_get (D := D) (ci := 3) (v := .int (nI k)) (C := R_MD) (T := F_MD) (N := 15) hx hb hts i_MD hown hK hP 0 rfl rfl 7 (by decide) (hts _ wd_582) (fun _ h9 => h9) rfl d_MD_go_97 ?_
                  refine lv_iconst (v := 3) hx hb d_MD_go_100 (by decide) ?_
                  refine lv_icmp_ge (tgt := 281) hx hb d_MD_go_101 (by decide) (fun c_47 => ?_) (fun c_47 => ?_)
                  · refine lv_aload_n hx hb d_MD_go_281 rfl (lv_at hl 0 rfl) ?_
                    refine lv_aload_n hx hb d_MD_go_282 rfl (lv_at hl 0 rfl) ?_
                    refine va_get (D := D) (ci := 3) (v := .int vw) (C := R_MD) (T := F_MD) (N := 15) hx hb hts i_MD hown hK hP 0 rfl rfl 8 (by decide) (hts _ wd_583) (fun _ h9 => h9) rfl d_MD_go_283 ?_
                    refine lv_if_eq (tgt := 296) hx hb d_MD_go_286 (by decide) (fun c_48 => ?_) (fun c_48 => ?_)
                    · refine lv_iconst (v := 0) hx hb d_MD_go_296 (by decide) ?_
                      refine va_put (D := D) (ci := 3) (v := .int 0) (ty := .int) (C := R_MD) (T := F_MD) (N := 15) hx hb hts i_MD t_MD t_MD_ok n_MD hown hK hP hD hS 0 rfl rfl 10 (by decide) (hts _ wd_585) (fun _ h9 => h9) rfl (by decide +kernel) rfl rfl (Nat.le_of_ble_eq_true rfl) d_MD_go_297 (fun H locs hP hD hS => ?_)
                      have hP : va_P D classes (md_w q cI cZ xth xB xsh xcu xtp xtd vpa (nI k) vw vhe 0 xtk xto xwa xmn) H := hP
                      have hD : va_D A (md_w q cI cZ xth xB xsh xcu xtp xtd vpa (nI k) vw vhe 0 xtk xto xwa xmn) := hD
                      rw [hQ]
                      exact sf_vret (vpa, (nI k), vw, vhe, 0) hx hb hr hlk hS rfl (by rw [← heq79]; simp only [f_MD_go_l79_0, ← hu_1, ← hu_3, eq_false c_41, eq_false c_43, eq_false c_45, eq_true c_47, eq_true c_48, ↓reduceIte]) hP d_MD_go_300
                    · refine lv_aload_n hx hb d_MD_go_289 rfl (lv_at hl 0 rfl) ?_
                      refine va_get (D := D) (ci := 3) (v := .int (nI hn)) (C := R_MD) (T := F_MD) (N := 15) hx hb hts i_MD hown hK hP 0 rfl rfl 10 (by decide) (hts _ wd_585) (fun _ h9 => h9) rfl d_MD_go_290 ?_
                      refine lv_goto (tgt := 297) hx hb d_MD_go_293 (by decide) ?_
                      refine va_put (D := D) (ci := 3) (v := .int (nI hn)) (ty := .int) (C := R_MD) (T := F_MD) (N := 15) hx hb hts i_MD t_MD t_MD_ok n_MD hown hK hP hD hS 0 rfl rfl 10 (by decide) (hts _ wd_585) (fun _ h9 => h9) rfl (by decide +kernel) rfl rfl (Nat.le_of_ble_eq_true rfl) d_MD_go_297 (fun H locs hP hD hS => ?_)
                      have hP : va_P D classes (md_w q cI cZ xth xB xsh xcu xtp xtd vpa (nI k) vw vhe (nI hn) xtk xto xwa xmn) H := hP
                      have hD : va_D A (md_w q cI cZ xth xB xsh xcu xtp xtd vpa (nI k) vw vhe (nI hn) xtk xto xwa xmn) := hD
                      rw [hQ]
                      exact sf_vret (vpa, (nI k), vw, vhe, (nI hn)) hx hb hr hlk hS rfl (by rw [← heq79]; simp only [f_MD_go_l79_0, ← hu_1, ← hu_3, eq_false c_41, eq_false c_43, eq_false c_45, eq_true c_47, eq_false c_48, ↓reduceIte]) hP d_MD_go_300
                  · have hlt : k < 3 := sf_lt_of (N := 3) (by omega) (by omega) c_47
                    refine lv_aload_n hx hb d_MD_go_104 rfl (lv_at hl 0 rfl) ?_
                    refine lv_iload_n hx hb d_MD_go_105 rfl (lv_at hl 3 rfl) ?_
                    refine sf_callVw (S := Int32) (rest := []) ⟨hx, hb, hml, hown, hts⟩ (c_MD_isThrough l D cI cZ cJ q xth xB xsh xcu xtp xtd vpa vw vhe (nI hn) xtk xto xwa xmn k vp (by omega)) (sf_cwV lk_MD_88 hts (fun _ h => h) (by rw [hR]; exact ⟨Nat.le_of_ble_eq_true rfl, Nat.le_of_ble_eq_true rfl⟩)) hK hP hD hS hA (fun _ => by simp only [md_w_fst]) (ci := 3) (q0 := 0) rfl rfl rfl rfl rfl hl.1 (Nat.le_of_ble_eq_true rfl) d_MD_go_106 ⟨Nat.zero_le _, Nat.zero_le _⟩ (fun u_49 H locs hu_49 hP hD hS => ?_)
                    have hP : va_P D classes (md_w q cI cZ xth xB xsh xcu xtp xtd vpa (nI k) vw vhe (nI hn) xtk xto xwa xmn) H := hP
                    have hD : va_D A (md_w q cI cZ xth xB xsh xcu xtp xtd vpa (nI k) vw vhe (nI hn) xtk xto xwa xmn) := hD
                    refine lv_if_ne (tgt := 281) hx hb d_MD_go_109 (by decide) (fun c_50 => ?_) (fun c_50 => ?_)
                    · refine lv_aload_n hx hb d_MD_go_281 rfl (lv_at hl 0 rfl) ?_
                      refine lv_aload_n hx hb d_MD_go_282 rfl (lv_at hl 0 rfl) ?_
                      refine va_get (D := D) (ci := 3) (v := .int vw) (C := R_MD) (T := F_MD) (N := 15) hx hb hts i_MD hown hK hP 0 rfl rfl 8 (by decide) (hts _ wd_583) (fun _ h9 => h9) rfl d_MD_go_283 ?_
                      refine lv_if_eq (tgt := 296) hx hb d_MD_go_286 (by decide) (fun c_51 => ?_) (fun c_51 => ?_)
                      · refine lv_iconst (v := 0) hx hb d_MD_go_296 (by decide) ?_
                        refine va_put (D := D) (ci := 3) (v := .int 0) (ty := .int) (C := R_MD) (T := F_MD) (N := 15) hx hb hts i_MD t_MD t_MD_ok n_MD hown hK hP hD hS 0 rfl rfl 10 (by decide) (hts _ wd_585) (fun _ h9 => h9) rfl (by decide +kernel) rfl rfl (Nat.le_of_ble_eq_true rfl) d_MD_go_297 (fun H locs hP hD hS => ?_)
                        have hP : va_P D classes (md_w q cI cZ xth xB xsh xcu xtp xtd vpa (nI k) vw vhe 0 xtk xto xwa xmn) H := hP
                        have hD : va_D A (md_w q cI cZ xth xB xsh xcu xtp xtd vpa (nI k) vw vhe 0 xtk xto xwa xmn) := hD
                        rw [hQ]
                        exact sf_vret (vpa, (nI k), vw, vhe, 0) hx hb hr hlk hS rfl (by rw [← heq79]; simp only [f_MD_go_l79_0, ← hu_1, ← hu_3, ← hu_49, eq_false c_41, eq_false c_43, eq_false c_45, eq_false c_47, eq_false c_50, eq_true c_51, ↓reduceIte]) hP d_MD_go_300
                      · refine lv_aload_n hx hb d_MD_go_289 rfl (lv_at hl 0 rfl) ?_
                        refine va_get (D := D) (ci := 3) (v := .int (nI hn)) (C := R_MD) (T := F_MD) (N := 15) hx hb hts i_MD hown hK hP 0 rfl rfl 10 (by decide) (hts _ wd_585) (fun _ h9 => h9) rfl d_MD_go_290 ?_
                        refine lv_goto (tgt := 297) hx hb d_MD_go_293 (by decide) ?_
                        refine va_put (D := D) (ci := 3) (v := .int (nI hn)) (ty := .int) (C := R_MD) (T := F_MD) (N := 15) hx hb hts i_MD t_MD t_MD_ok n_MD hown hK hP hD hS 0 rfl rfl 10 (by decide) (hts _ wd_585) (fun _ h9 => h9) rfl (by decide +kernel) rfl rfl (Nat.le_of_ble_eq_true rfl) d_MD_go_297 (fun H locs hP hD hS => ?_)
                        have hP : va_P D classes (md_w q cI cZ xth xB xsh xcu xtp xtd vpa (nI k) vw vhe (nI hn) xtk xto xwa xmn) H := hP
                        have hD : va_D A (md_w q cI cZ xth xB xsh xcu xtp xtd vpa (nI k) vw vhe (nI hn) xtk xto xwa xmn) := hD
                        rw [hQ]
                        exact sf_vret (vpa, (nI k), vw, vhe, (nI hn)) hx hb hr hlk hS rfl (by rw [← heq79]; simp only [f_MD_go_l79_0, ← hu_1, ← hu_3, ← hu_49, eq_false c_41, eq_false c_43, eq_false c_45, eq_false c_47, eq_false c_50, eq_false c_51, ↓reduceIte]) hP d_MD_go_300
                    · refine lv_iload_n hx hb d_MD_go_112 rfl (lv_at hl 2 rfl) ?_
                      refine lv_iload_n hx hb d_MD_go_113 rfl (lv_at hl 3 rfl) ?_
                      obtain ⟨u_52, hu_52⟩ : ∃ z, z = vp.toNatClampNeg := ⟨_, rfl⟩
                      obtain ⟨he_u_52, hb_u_52⟩ := sf_natp (B := 24) (by omega) hu_52 c_43 c_45
                      rw [he_u_52]
                      refine sf_callSr (S := Unit) (rest := []) ⟨hx, hb, hml, hown, hts⟩ (c_MD_begin_0 l D cI cZ cJ u_52) (sf_cwS lk_MD_84 hts (fun _ h => h) (by rw [hR]; exact ⟨Nat.le_of_ble_eq_true rfl, Nat.le_of_ble_eq_true rfl⟩)) hK hP hD hS hA [] rfl rfl (fun _ => rfl) rfl rfl hl.1 (Nat.le_of_ble_eq_true rfl) d_MD_go_114 ⟨Nat.zero_le _, Nat.zero_le _⟩ (fun u H locs hu hP hS => ?_)
                      refine lv_istore (lv' := [(6, .int (nI (0 + (32 * u_52)))), (0, .ref (q 0)), (1, .int (nI ro)), (2, .int 0), (3, .int vp), (4, .int vmo), (5, .int vg)]) hx hb d_MD_go_117 hl (by decide) rfl (fun ls hl => ?_)
                      refine lv_aload_n hx hb d_MD_go_119 rfl (lv_at hl 1 rfl) ?_
                      refine va_get (D := D) (ci := 3) (v := .ref (q 3)) (C := R_MD) (T := F_MD) (N := 15) hx hb hts i_MD hown hK hP 0 rfl rfl 6 (by decide) (hts _ wd_581) (fun _ h9 => h9) rfl d_MD_go_120 ?_
                      refine lv_aload_n hx hb d_MD_go_123 rfl (lv_at hl 1 rfl) ?_
                      refine va_get (D := D) (ci := 3) (v := .int (nI k)) (C := R_MD) (T := F_MD) (N := 15) hx hb hts i_MD hown hK hP 0 rfl rfl 7 (by decide) (hts _ wd_582) (fun _ h9 => h9) rfl d_MD_go_124 ?_
                      refine lv_iload_n hx hb d_MD_go_127 rfl (lv_at hl 4 rfl) ?_
                      refine va_iast hx hb hK hP hD hS 3 0 rfl rfl (show vp_in (nI k) 3 from vp_in_nI (n := k) (by omega) (by omega)) d_MD_go_128 (fun H locs hP hD hS => ?_)
                      rw [show ((nI k) : Int32).toNatClampNeg = k from nI_clamp (n := k) (by omega)] at hP hD
                      have hP : va_P D classes (md_w q cI cZ xth xB xsh xcu xtp xtd (upd vpa k vp) (nI k) vw vhe (nI hn) xtk xto xwa xmn) H := hP
                      have hD : va_D A (md_w q cI cZ xth xB xsh xcu xtp xtd (upd vpa k vp) (nI k) vw vhe (nI hn) xtk xto xwa xmn) := hD
                      refine lv_aload_n hx hb d_MD_go_129 rfl (lv_at hl 1 rfl) ?_
                      refine lv_dup hx hb d_MD_go_130 rfl ?_
                      refine va_get (D := D) (ci := 3) (v := .int (nI k)) (C := R_MD) (T := F_MD) (N := 15) hx hb hts i_MD hown hK hP 0 rfl rfl 7 (by decide) (hts _ wd_582) (fun _ h9 => h9) rfl d_MD_go_131 ?_
                      refine lv_iconst (v := 1) hx hb d_MD_go_134 (by decide) ?_
                      refine lv_iadd hx hb d_MD_go_135 ?_
                      rw [show (((nI k) + 1) : Int32) = (nI (k + 1)) from nI_add k 1]
                      refine va_put (D := D) (ci := 3) (v := .int (nI (k + 1))) (ty := .int) (C := R_MD) (T := F_MD) (N := 15) hx hb hts i_MD t_MD t_MD_ok n_MD hown hK hP hD hS 0 rfl rfl 7 (by decide) (hts _ wd_582) (fun _ h9 => h9) rfl (by decide +kernel) rfl rfl (Nat.le_of_ble_eq_true rfl) d_MD_go_136 (fun H locs hP hD hS => ?_)
                      have hP : va_P D classes (md_w q cI cZ xth xB xsh xcu xtp xtd (upd vpa k vp) (nI (k + 1)) vw vhe (nI hn) xtk xto xwa xmn) H := hP
                      have hD : va_D A (md_w q cI cZ xth xB xsh xcu xtp xtd (upd vpa k vp) (nI (k + 1)) vw vhe (nI hn) xtk xto xwa xmn) := hD
                      refine lv_aload_n hx hb d_MD_go_139 rfl (lv_at hl 1 rfl) ?_
                      refine va_get (D := D) (ci := 3) (v := .ref (q 1)) (C := R_MD) (T := F_MD) (N := 15) hx hb hts i_MD hown hK hP 0 rfl rfl 1 (by decide) (hts _ wd_576) (fun _ h9 => h9) rfl d_MD_go_140 ?_
                      refine lv_iload hx hb d_MD_go_143 (lv_at hl 0 rfl) ?_
                      refine lv_iconst (v := 1) hx hb d_MD_go_145 (by decide) ?_
                      refine lv_iadd hx hb d_MD_go_146 ?_
                      rw [show (((nI (0 + (32 * u_52))) + 1) : Int32) = (nI ((0 + (32 * u_52)) + 1)) from nI_add (0 + (32 * u_52)) 1]
                      refine va_iald hx hb hK hP 1 0 rfl rfl (show vp_in (nI ((0 + (32 * u_52)) + 1)) 1360 from vp_in_nI (n := ((0 + (32 * u_52)) + 1)) (by omega) (by omega)) d_MD_go_147 ?_
                      rw [show ((nI ((0 + (32 * u_52)) + 1)) : Int32).toNatClampNeg = ((0 + (32 * u_52)) + 1) from nI_clamp (n := ((0 + (32 * u_52)) + 1)) (by omega)]
                      refine lv_istore (lv' := [(7, .int (xB ((0 + (32 * u_52)) + 1))), (6, .int (nI (0 + (32 * u_52)))), (0, .ref (q 0)), (1, .int (nI ro)), (2, .int 0), (3, .int vp), (4, .int vmo), (5, .int vg)]) hx hb d_MD_go_148 hl (by decide) rfl (fun ls hl => ?_)
                      refine lv_aload_n hx hb d_MD_go_150 rfl (lv_at hl 2 rfl) ?_
                      refine lv_iload hx hb d_MD_go_151 (lv_at hl 1 rfl) ?_
                      refine lv_bipush (v := 28) hx hb d_MD_go_153 (by decide) ?_
                      refine sf_callVw (S := Int32) (rest := []) ⟨hx, hb, hml, hown, hts⟩ (c_MD_isSummed l D cI cZ cJ q xth xB xsh xcu xtp xtd (upd vpa k vp) (nI (k + 1)) vw vhe (nI hn) xtk xto xwa xmn (0 + (32 * u_52)) 28 (by omega)) (sf_cwV lk_MD_48 hts (fun _ h => h) (by rw [hR]; exact ⟨Nat.le_of_ble_eq_true rfl, Nat.le_of_ble_eq_true rfl⟩)) hK hP hD hS hA (fun _ => by simp only [md_w_fst]) (ci := 3) (q0 := 0) rfl rfl rfl rfl rfl hl.1 (Nat.le_of_ble_eq_true rfl) d_MD_go_155 ⟨Nat.zero_le _, Nat.zero_le _⟩ (fun u_53 H locs hu_53 hP hD hS => ?_)
                      have hP : va_P D classes (md_w q cI cZ xth xB xsh xcu xtp xtd (upd vpa k vp) (nI (k + 1)) vw vhe (nI hn) xtk xto xwa xmn) H := hP
                      have hD : va_D A (md_w q cI cZ xth xB xsh xcu xtp xtd (upd vpa k vp) (nI (k + 1)) vw vhe (nI hn) xtk xto xwa xmn) := hD
                      refine lv_if_eq (tgt := 190) hx hb d_MD_go_158 (by decide) (fun c_54 => ?_) (fun c_54 => ?_)
                      · refine lv_iconst (v := 0) hx hb d_MD_go_190 (by decide) ?_
                        refine lv_istore (lv' := [(5, .int 0), (7, .int (xB ((0 + (32 * u_52)) + 1))), (6, .int (nI (0 + (32 * u_52)))), (0, .ref (q 0)), (1, .int (nI ro)), (2, .int 0), (3, .int vp), (4, .int vmo)]) hx hb d_MD_go_191 hl (by decide) rfl (fun ls hl => ?_)
                        refine lv_iconst (v := 0) hx hb d_MD_go_193 (by decide) ?_
                        refine lv_istore (lv' := [(8, .int 0), (5, .int 0), (7, .int (xB ((0 + (32 * u_52)) + 1))), (6, .int (nI (0 + (32 * u_52)))), (0, .ref (q 0)), (1, .int (nI ro)), (2, .int 0), (3, .int vp), (4, .int vmo)]) hx hb d_MD_go_194 hl (by decide) rfl (fun ls hl => ?_)
                        refine lv_iload hx hb d_MD_go_196 (lv_at hl 0 rfl) ?_
                        refine lv_iload hx hb d_MD_go_198 (lv_at hl 2 rfl) ?_
                        refine lv_icmp_ge (tgt := 245) hx hb d_MD_go_200 (by decide) (fun c_55 => ?_) (fun c_55 => ?_)
                        · refine lv_iload hx hb d_MD_go_245 (lv_at hl 1 rfl) ?_
                          refine lv_if_eq (tgt := 268) hx hb d_MD_go_247 (by decide) (fun c_56 => ?_) (fun c_56 => absurd (by decide) c_56)
                          refine lv_aload_n hx hb d_MD_go_268 rfl (lv_at hl 4 rfl) ?_
                          refine va_get (D := D) (ci := 3) (v := .ref (q 1)) (C := R_MD) (T := F_MD) (N := 15) hx hb hts i_MD hown hK hP 0 rfl rfl 1 (by decide) (hts _ wd_576) (fun _ h9 => h9) rfl d_MD_go_269 ?_
                          refine lv_iload hx hb d_MD_go_272 (lv_at hl 3 rfl) ?_
                          refine va_iald hx hb hK hP 1 0 rfl rfl (show vp_in (nI (0 + (32 * u_52))) 1360 from vp_in_nI (n := (0 + (32 * u_52))) (by omega) (by omega)) d_MD_go_274 ?_
                          rw [show ((nI (0 + (32 * u_52))) : Int32).toNatClampNeg = (0 + (32 * u_52)) from nI_clamp (n := (0 + (32 * u_52))) (by omega)]
                          refine lv_iconst (v := 1) hx hb d_MD_go_275 (by decide) ?_
                          refine lv_isub hx hb d_MD_go_276 ?_
                          refine lv_istore_n (lv' := [(3, .int ((xB (0 + (32 * u_52))) - 1)), (8, .int 0), (5, .int 0), (7, .int (xB ((0 + (32 * u_52)) + 1))), (6, .int (nI (0 + (32 * u_52)))), (0, .ref (q 0)), (1, .int (nI ro)), (2, .int 0), (4, .int vmo)]) hx hb d_MD_go_277 rfl hl (by decide) rfl (fun ls hl => ?_)
                          refine lv_goto (tgt := 79) hx hb d_MD_go_278 (by decide) ?_
                          exact ih79 (k + 1) 0 ((xB (0 + (32 * u_52))) - 1) vmo (upd vpa k vp) vw vhe hn (by omega) (by omega) (by omega) (by rw [← heq79]; simp only [f_MD_go_l79_0, ← hu_1, ← hu_3, ← hu_49, ← hu_52, ← hu_53, eq_false c_41, eq_false c_43, eq_false c_45, eq_false c_47, eq_true c_50, eq_true c_54, eq_true c_55, ↓reduceIte]) _ _ hP hD hS ls (lv_sub hl [5, 6, 7, 0, 8, 2] rfl)
                        · refine lv_iload hx hb d_MD_go_203 (lv_at hl 1 rfl) ?_
                          refine lv_if_eq (tgt := 245) hx hb d_MD_go_205 (by decide) (fun c_57 => ?_) (fun c_57 => absurd (by decide) c_57)
                          refine lv_iload hx hb d_MD_go_245 (lv_at hl 1 rfl) ?_
                          refine lv_if_eq (tgt := 268) hx hb d_MD_go_247 (by decide) (fun c_58 => ?_) (fun c_58 => absurd (by decide) c_58)
                          refine lv_aload_n hx hb d_MD_go_268 rfl (lv_at hl 4 rfl) ?_
                          refine va_get (D := D) (ci := 3) (v := .ref (q 1)) (C := R_MD) (T := F_MD) (N := 15) hx hb hts i_MD hown hK hP 0 rfl rfl 1 (by decide) (hts _ wd_576) (fun _ h9 => h9) rfl d_MD_go_269 ?_
                          refine lv_iload hx hb d_MD_go_272 (lv_at hl 3 rfl) ?_
                          refine va_iald hx hb hK hP 1 0 rfl rfl (show vp_in (nI (0 + (32 * u_52))) 1360 from vp_in_nI (n := (0 + (32 * u_52))) (by omega) (by omega)) d_MD_go_274 ?_
                          rw [show ((nI (0 + (32 * u_52))) : Int32).toNatClampNeg = (0 + (32 * u_52)) from nI_clamp (n := (0 + (32 * u_52))) (by omega)]
                          refine lv_iconst (v := 1) hx hb d_MD_go_275 (by decide) ?_
                          refine lv_isub hx hb d_MD_go_276 ?_
                          refine lv_istore_n (lv' := [(3, .int ((xB (0 + (32 * u_52))) - 1)), (8, .int 0), (5, .int 0), (7, .int (xB ((0 + (32 * u_52)) + 1))), (6, .int (nI (0 + (32 * u_52)))), (0, .ref (q 0)), (1, .int (nI ro)), (2, .int 0), (4, .int vmo)]) hx hb d_MD_go_277 rfl hl (by decide) rfl (fun ls hl => ?_)
                          refine lv_goto (tgt := 79) hx hb d_MD_go_278 (by decide) ?_
                          exact ih79 (k + 1) 0 ((xB (0 + (32 * u_52))) - 1) vmo (upd vpa k vp) vw vhe hn (by omega) (by omega) (by omega) (by rw [← heq79]; simp only [f_MD_go_l79_0, ← hu_1, ← hu_3, ← hu_49, ← hu_52, ← hu_53, eq_false c_41, eq_false c_43, eq_false c_45, eq_false c_47, eq_true c_50, eq_true c_54, eq_false c_55, ↓reduceIte]) _ _ hP hD hS ls (lv_sub hl [5, 6, 7, 0, 8, 2] rfl)
                      · refine lv_iload hx hb d_MD_go_161 (lv_at hl 0 rfl) ?_
                        refine lv_iconst (v := 1) hx hb d_MD_go_163 (by decide) ?_
                        refine lv_bipush (v := 25) hx hb d_MD_go_164 (by decide) ?_
                        refine sf_callSr (S := Int32) (rest := []) ⟨hx, hb, hml, hown, hts⟩ (c_MD_in l D cI cZ cJ (xB ((0 + (32 * u_52)) + 1)) 1 25) (sf_cwS lk_MD_44 hts (fun _ h => h) (by rw [hR]; exact ⟨Nat.le_of_ble_eq_true rfl, Nat.le_of_ble_eq_true rfl⟩)) hK hP hD hS hA [] rfl rfl (fun _ => rfl) rfl rfl hl.1 (Nat.le_of_ble_eq_true rfl) d_MD_go_166 ⟨Nat.zero_le _, Nat.zero_le _⟩ (fun u_59 H locs hu_59 hP hS => ?_)
                        refine lv_if_eq (tgt := 190) hx hb d_MD_go_169 (by decide) (fun c_60 => ?_) (fun c_60 => ?_)
                        · refine lv_iconst (v := 0) hx hb d_MD_go_190 (by decide) ?_
                          refine lv_istore (lv' := [(5, .int 0), (7, .int (xB ((0 + (32 * u_52)) + 1))), (6, .int (nI (0 + (32 * u_52)))), (0, .ref (q 0)), (1, .int (nI ro)), (2, .int 0), (3, .int vp), (4, .int vmo)]) hx hb d_MD_go_191 hl (by decide) rfl (fun ls hl => ?_)
                          refine lv_iconst (v := 0) hx hb d_MD_go_193 (by decide) ?_
                          refine lv_istore (lv' := [(8, .int 0), (5, .int 0), (7, .int (xB ((0 + (32 * u_52)) + 1))), (6, .int (nI (0 + (32 * u_52)))), (0, .ref (q 0)), (1, .int (nI ro)), (2, .int 0), (3, .int vp), (4, .int vmo)]) hx hb d_MD_go_194 hl (by decide) rfl (fun ls hl => ?_)
                          refine lv_iload hx hb d_MD_go_196 (lv_at hl 0 rfl) ?_
                          refine lv_iload hx hb d_MD_go_198 (lv_at hl 2 rfl) ?_
                          refine lv_icmp_ge (tgt := 245) hx hb d_MD_go_200 (by decide) (fun c_61 => ?_) (fun c_61 => ?_)
                          · refine lv_iload hx hb d_MD_go_245 (lv_at hl 1 rfl) ?_
                            refine lv_if_eq (tgt := 268) hx hb d_MD_go_247 (by decide) (fun c_62 => ?_) (fun c_62 => absurd (by decide) c_62)
                            refine lv_aload_n hx hb d_MD_go_268 rfl (lv_at hl 4 rfl) ?_
                            refine va_get (D := D) (ci := 3) (v := .ref (q 1)) (C := R_MD) (T := F_MD) (N := 15) hx hb hts i_MD hown hK hP 0 rfl rfl 1 (by decide) (hts _ wd_576) (fun _ h9 => h9) rfl d_MD_go_269 ?_
                            refine lv_iload hx hb d_MD_go_272 (lv_at hl 3 rfl) ?_
                            refine va_iald hx hb hK hP 1 0 rfl rfl (show vp_in (nI (0 + (32 * u_52))) 1360 from vp_in_nI (n := (0 + (32 * u_52))) (by omega) (by omega)) d_MD_go_274 ?_
                            rw [show ((nI (0 + (32 * u_52))) : Int32).toNatClampNeg = (0 + (32 * u_52)) from nI_clamp (n := (0 + (32 * u_52))) (by omega)]
                            refine lv_iconst (v := 1) hx hb d_MD_go_275 (by decide) ?_
                            refine lv_isub hx hb d_MD_go_276 ?_
                            refine lv_istore_n (lv' := [(3, .int ((xB (0 + (32 * u_52))) - 1)), (8, .int 0), (5, .int 0), (7, .int (xB ((0 + (32 * u_52)) + 1))), (6, .int (nI (0 + (32 * u_52)))), (0, .ref (q 0)), (1, .int (nI ro)), (2, .int 0), (4, .int vmo)]) hx hb d_MD_go_277 rfl hl (by decide) rfl (fun ls hl => ?_)
                            refine lv_goto (tgt := 79) hx hb d_MD_go_278 (by decide) ?_
                            exact ih79 (k + 1) 0 ((xB (0 + (32 * u_52))) - 1) vmo (upd vpa k vp) vw vhe hn (by omega) (by omega) (by omega) (by rw [← heq79]; simp only [f_MD_go_l79_0, ← hu_1, ← hu_3, ← hu_49, ← hu_52, ← hu_53, ← hu_59, eq_false c_41, eq_false c_43, eq_false c_45, eq_false c_47, eq_true c_50, eq_false c_54, eq_true c_60, eq_true c_61, ↓reduceIte]) _ _ hP hD hS ls (lv_sub hl [5, 6, 7, 0, 8, 2] rfl)
                          · refine lv_iload hx hb d_MD_go_203 (lv_at hl 1 rfl) ?_
                            refine lv_if_eq (tgt := 245) hx hb d_MD_go_205 (by decide) (fun c_63 => ?_) (fun c_63 => absurd (by decide) c_63)
                            refine lv_iload hx hb d_MD_go_245 (lv_at hl 1 rfl) ?_
                            refine lv_if_eq (tgt := 268) hx hb d_MD_go_247 (by decide) (fun c_64 => ?_) (fun c_64 => absurd (by decide) c_64)
                            refine lv_aload_n hx hb d_MD_go_268 rfl (lv_at hl 4 rfl) ?_
                            refine va_get (D := D) (ci := 3) (v := .ref (q 1)) (C := R_MD) (T := F_MD) (N := 15) hx hb hts i_MD hown hK hP 0 rfl rfl 1 (by decide) (hts _ wd_576) (fun _ h9 => h9) rfl d_MD_go_269 ?_
                            refine lv_iload hx hb d_MD_go_272 (lv_at hl 3 rfl) ?_
                            refine va_iald hx hb hK hP 1 0 rfl rfl (show vp_in (nI (0 + (32 * u_52))) 1360 from vp_in_nI (n := (0 + (32 * u_52))) (by omega) (by omega)) d_MD_go_274 ?_
                            rw [show ((nI (0 + (32 * u_52))) : Int32).toNatClampNeg = (0 + (32 * u_52)) from nI_clamp (n := (0 + (32 * u_52))) (by omega)]
                            refine lv_iconst (v := 1) hx hb d_MD_go_275 (by decide) ?_
                            refine lv_isub hx hb d_MD_go_276 ?_
                            refine lv_istore_n (lv' := [(3, .int ((xB (0 + (32 * u_52))) - 1)), (8, .int 0), (5, .int 0), (7, .int (xB ((0 + (32 * u_52)) + 1))), (6, .int (nI (0 + (32 * u_52)))), (0, .ref (q 0)), (1, .int (nI ro)), (2, .int 0), (4, .int vmo)]) hx hb d_MD_go_277 rfl hl (by decide) rfl (fun ls hl => ?_)
                            refine lv_goto (tgt := 79) hx hb d_MD_go_278 (by decide) ?_
                            exact ih79 (k + 1) 0 ((xB (0 + (32 * u_52))) - 1) vmo (upd vpa k vp) vw vhe hn (by omega) (by omega) (by omega) (by rw [← heq79]; simp only [f_MD_go_l79_0, ← hu_1, ← hu_3, ← hu_49, ← hu_52, ← hu_53, ← hu_59, eq_false c_41, eq_false c_43, eq_false c_45, eq_false c_47, eq_true c_50, eq_false c_54, eq_true c_60, eq_false c_61, ↓reduceIte]) _ _ hP hD hS ls (lv_sub hl [5, 6, 7, 0, 8, 2] rfl)
                        · refine lv_aload_n hx hb d_MD_go_172 rfl (lv_at hl 2 rfl) ?_
                          refine va_get (D := D) (ci := 3) (v := .ref (q 1)) (C := R_MD) (T := F_MD) (N := 15) hx hb hts i_MD hown hK hP 0 rfl rfl 1 (by decide) (hts _ wd_576) (fun _ h9 => h9) rfl d_MD_go_173 ?_
                          refine lv_iload hx hb d_MD_go_176 (lv_at hl 1 rfl) ?_
                          refine lv_iconst (v := 2) hx hb d_MD_go_178 (by decide) ?_
                          refine lv_iadd hx hb d_MD_go_179 ?_
                          rw [show (((nI (0 + (32 * u_52))) + 2) : Int32) = (nI ((0 + (32 * u_52)) + 2)) from nI_add (0 + (32 * u_52)) 2]
                          refine va_iald hx hb hK hP 1 0 rfl rfl (show vp_in (nI ((0 + (32 * u_52)) + 2)) 1360 from vp_in_nI (n := ((0 + (32 * u_52)) + 2)) (by omega) (by omega)) d_MD_go_180 ?_
                          rw [show ((nI ((0 + (32 * u_52)) + 2)) : Int32).toNatClampNeg = ((0 + (32 * u_52)) + 2) from nI_clamp (n := ((0 + (32 * u_52)) + 2)) (by omega)]
                          refine lv_iload hx hb d_MD_go_181 (lv_at hl 6 rfl) ?_
                          refine lv_icmp_ne (tgt := 190) hx hb d_MD_go_183 (by decide) (fun c_65 => ?_) (fun c_65 => ?_)
                          · refine lv_iconst (v := 0) hx hb d_MD_go_190 (by decide) ?_
                            refine lv_istore (lv' := [(5, .int 0), (7, .int (xB ((0 + (32 * u_52)) + 1))), (6, .int (nI (0 + (32 * u_52)))), (0, .ref (q 0)), (1, .int (nI ro)), (2, .int 0), (3, .int vp), (4, .int vmo)]) hx hb d_MD_go_191 hl (by decide) rfl (fun ls hl => ?_)
                            refine lv_iconst (v := 0) hx hb d_MD_go_193 (by decide) ?_
                            refine lv_istore (lv' := [(8, .int 0), (5, .int 0), (7, .int (xB ((0 + (32 * u_52)) + 1))), (6, .int (nI (0 + (32 * u_52)))), (0, .ref (q 0)), (1, .int (nI ro)), (2, .int 0), (3, .int vp), (4, .int vmo)]) hx hb d_MD_go_194 hl (by decide) rfl (fun ls hl => ?_)
                            refine lv_iload hx hb d_MD_go_196 (lv_at hl 0 rfl) ?_
                            refine lv_iload hx hb d_MD_go_198 (lv_at hl 2 rfl) ?_
                            refine lv_icmp_ge (tgt := 245) hx hb d_MD_go_200 (by decide) (fun c_66 => ?_) (fun c_66 => ?_)
                            · refine lv_iload hx hb d_MD_go_245 (lv_at hl 1 rfl) ?_
                              refine lv_if_eq (tgt := 268) hx hb d_MD_go_247 (by decide) (fun c_67 => ?_) (fun c_67 => absurd (by decide) c_67)
                              refine lv_aload_n hx hb d_MD_go_268 rfl (lv_at hl 4 rfl) ?_
                              refine va_get (D := D) (ci := 3) (v := .ref (q 1)) (C := R_MD) (T := F_MD) (N := 15) hx hb hts i_MD hown hK hP 0 rfl rfl 1 (by decide) (hts _ wd_576) (fun _ h9 => h9) rfl d_MD_go_269 ?_
                              refine lv_iload hx hb d_MD_go_272 (lv_at hl 3 rfl) ?_
                              refine va_iald hx hb hK hP 1 0 rfl rfl (show vp_in (nI (0 + (32 * u_52))) 1360 from vp_in_nI (n := (0 + (32 * u_52))) (by omega) (by omega)) d_MD_go_274 ?_
                              rw [show ((nI (0 + (32 * u_52))) : Int32).toNatClampNeg = (0 + (32 * u_52)) from nI_clamp (n := (0 + (32 * u_52))) (by omega)]
                              refine lv_iconst (v := 1) hx hb d_MD_go_275 (by decide) ?_
                              refine lv_isub hx hb d_MD_go_276 ?_
                              refine lv_istore_n (lv' := [(3, .int ((xB (0 + (32 * u_52))) - 1)), (8, .int 0), (5, .int 0), (7, .int (xB ((0 + (32 * u_52)) + 1))), (6, .int (nI (0 + (32 * u_52)))), (0, .ref (q 0)), (1, .int (nI ro)), (2, .int 0), (4, .int vmo)]) hx hb d_MD_go_277 rfl hl (by decide) rfl (fun ls hl => ?_)
                              refine lv_goto (tgt := 79) hx hb d_MD_go_278 (by decide) ?_
                              exact ih79 (k + 1) 0 ((xB (0 + (32 * u_52))) - 1) vmo (upd vpa k vp) vw vhe hn (by omega) (by omega) (by omega) (by rw [← heq79]; simp only [f_MD_go_l79_0, ← hu_1, ← hu_3, ← hu_49, ← hu_52, ← hu_53, ← hu_59, eq_false c_41, eq_false c_43, eq_false c_45, eq_false c_47, eq_true c_50, eq_false c_54, eq_false c_60, eq_false c_65, eq_true c_66, ↓reduceIte]) _ _ hP hD hS ls (lv_sub hl [5, 6, 7, 0, 8, 2] rfl)
                            · refine lv_iload hx hb d_MD_go_203 (lv_at hl 1 rfl) ?_
                              refine lv_if_eq (tgt := 245) hx hb d_MD_go_205 (by decide) (fun c_68 => ?_) (fun c_68 => absurd (by decide) c_68)
                              refine lv_iload hx hb d_MD_go_245 (lv_at hl 1 rfl) ?_
                              refine lv_if_eq (tgt := 268) hx hb d_MD_go_247 (by decide) (fun c_69 => ?_) (fun c_69 => absurd (by decide) c_69)
                              refine lv_aload_n hx hb d_MD_go_268 rfl (lv_at hl 4 rfl) ?_
                              refine va_get (D := D) (ci := 3) (v := .ref (q 1)) (C := R_MD) (T := F_MD) (N := 15) hx hb hts i_MD hown hK hP 0 rfl rfl 1 (by decide) (hts _ wd_576) (fun _ h9 => h9) rfl d_MD_go_269 ?_
                              refine lv_iload hx hb d_MD_go_272 (lv_at hl 3 rfl) ?_
                              refine va_iald hx hb hK hP 1 0 rfl rfl (show vp_in (nI (0 + (32 * u_52))) 1360 from vp_in_nI (n := (0 + (32 * u_52))) (by omega) (by omega)) d_MD_go_274 ?_
                              rw [show ((nI (0 + (32 * u_52))) : Int32).toNatClampNeg = (0 + (32 * u_52)) from nI_clamp (n := (0 + (32 * u_52))) (by omega)]
                              refine lv_iconst (v := 1) hx hb d_MD_go_275 (by decide) ?_
                              refine lv_isub hx hb d_MD_go_276 ?_
                              refine lv_istore_n (lv' := [(3, .int ((xB (0 + (32 * u_52))) - 1)), (8, .int 0), (5, .int 0), (7, .int (xB ((0 + (32 * u_52)) + 1))), (6, .int (nI (0 + (32 * u_52)))), (0, .ref (q 0)), (1, .int (nI ro)), (2, .int 0), (4, .int vmo)]) hx hb d_MD_go_277 rfl hl (by decide) rfl (fun ls hl => ?_)
                              refine lv_goto (tgt := 79) hx hb d_MD_go_278 (by decide) ?_
                              exact ih79 (k + 1) 0 ((xB (0 + (32 * u_52))) - 1) vmo (upd vpa k vp) vw vhe hn (by omega) (by omega) (by omega) (by rw [← heq79]; simp only [f_MD_go_l79_0, ← hu_1, ← hu_3, ← hu_49, ← hu_52, ← hu_53, ← hu_59, eq_false c_41, eq_false c_43, eq_false c_45, eq_false c_47, eq_true c_50, eq_false c_54, eq_false c_60, eq_false c_65, eq_false c_66, ↓reduceIte]) _ _ hP hD hS ls (lv_sub hl [5, 6, 7, 0, 8, 2] rfl)
                          · refine lv_iconst (v := 1) hx hb d_MD_go_186 (by decide) ?_
                            refine lv_goto (tgt := 191) hx hb d_MD_go_187 (by decide) ?_
                            refine lv_istore (lv' := [(5, .int 1), (7, .int (xB ((0 + (32 * u_52)) + 1))), (6, .int (nI (0 + (32 * u_52)))), (0, .ref (q 0)), (1, .int (nI ro)), (2, .int 0), (3, .int vp), (4, .int vmo)]) hx hb d_MD_go_191 hl (by decide) rfl (fun ls hl => ?_)
                            obtain ⟨u_70, hu_70⟩ : ∃ z, z = (xB ((0 + (32 * u_52)) + 1)).toNatClampNeg := ⟨_, rfl⟩
                            obtain ⟨he_u_70, ha_u_70, hb_u_70⟩ := sf_natn hu_70 (by rw [← hu_59]; exact c_60)
                            rw [he_u_70] at hl
                            refine lv_iconst (v := 0) hx hb d_MD_go_193 (by decide) ?_
                            refine lv_istore (lv' := [(8, .int 0), (5, .int 1), (7, .int (nI u_70)), (6, .int (nI (0 + (32 * u_52)))), (0, .ref (q 0)), (1, .int (nI ro)), (2, .int 0), (3, .int vp), (4, .int vmo)]) hx hb d_MD_go_194 hl (by decide) rfl (fun ls hl => ?_)
                            obtain ⟨u_71, hu_71⟩ : ∃ z, z = (f_MD_go_l196_0 xB vp hn (u_70 + 1) 0 vhe) := ⟨_, rfl⟩
                            have loop196 : ∀ (fukk kk : Nat) (xh : (Nat → Int32)), kk ≤ u_70 → kk + fukk = u_70 + 1 → f_MD_go_l196_0 xB vp hn fukk kk xh = u_71 → ∀ (H : Heap) (locs : List Loc), va_P D classes (md_w q cI cZ xth xB xsh xcu xtp xtd (upd vpa k vp) (nI (k + 1)) vw xh (nI (hn + kk)) xtk xto xwa xmn) H → va_D A (md_w q cI cZ xth xB xsh xcu xtp xtd (upd vpa k vp) (nI (k + 1)) vw xh (nI (hn + kk)) xtk xto xwa xmn) → va_S A s.heap H locs → ∀ (ls : Array Slot), lv_has ls 9 [(0, .ref (q 0)), (1, .int (nI ro)), (2, .int 0), (3, .int vp), (4, .int vmo), (5, .int 1), (6, .int (nI (0 + (32 * u_52)))), (7, .int (nI u_70)), (8, .int (nI kk))] → W p l e R s m args below meth c H locs 0 0 Q (F0 m 196 ls []) := by
                              intro fukk
                              induction fukk with
                              | zero =>
                                intro kk xh h1 h2
                                exact absurd h2 (by omega)
                              | succ fukk ih196 =>
                                intro kk xh hk196 hkn196 heq196 H locs hP hD hS ls hl
                                refine lv_iload hx hb d_MD_go_196 (lv_at hl 8 rfl) ?_
                                refine lv_iload hx hb d_MD_go_198 (lv_at hl 7 rfl) ?_
                                refine lv_icmp_ge (tgt := 245) hx hb d_MD_go_200 (by decide) (fun c_72 => ?_) (fun c_72 => ?_)
                                · skip
                                  have hv196 : xh = u_71 := by rw [← heq196]; simp only [f_MD_go_l196_0, ← hu_1, ← hu_3, ← hu_49, ← hu_52, ← hu_53, ← hu_59, ← hu_70, eq_true c_72, ↓reduceIte]
                                  have hv196_0 : xh = u_71 := hv196
                                  rw [hv196_0] at hP hD
                                  have hke196 : kk = u_70 := sf_eq_of (N := u_70) (by omega) (by omega) hk196 c_72
                                  try rw [hke196] at hP
                                  try rw [hke196] at hD
                                  try rw [hke196] at hl
                                  refine lv_iload hx hb d_MD_go_245 (lv_at hl 5 rfl) ?_
                                  refine lv_if_eq (tgt := 268) hx hb d_MD_go_247 (by decide) (fun c_74 => absurd c_74 (by decide)) (fun c_74 => ?_)
                                  refine lv_aload_n hx hb d_MD_go_250 rfl (lv_at hl 0 rfl) ?_
                                  refine va_get (D := D) (ci := 3) (v := .ref (q 1)) (C := R_MD) (T := F_MD) (N := 15) hx hb hts i_MD hown hK hP 0 rfl rfl 1 (by decide) (hts _ wd_576) (fun _ h9 => h9) rfl d_MD_go_251 ?_
                                  refine lv_iload hx hb d_MD_go_254 (lv_at hl 6 rfl) ?_
                                  refine va_iald hx hb hK hP 1 0 rfl rfl (show vp_in (nI (0 + (32 * u_52))) 1360 from vp_in_nI (n := (0 + (32 * u_52))) (by omega) (by omega)) d_MD_go_256 ?_
                                  rw [show ((nI (0 + (32 * u_52))) : Int32).toNatClampNeg = (0 + (32 * u_52)) from nI_clamp (n := (0 + (32 * u_52))) (by omega)]
                                  refine lv_if_ne (tgt := 268) hx hb d_MD_go_257 (by decide) (fun c_75 => ?_) (fun c_75 => ?_)
                                  · refine lv_aload_n hx hb d_MD_go_268 rfl (lv_at hl 0 rfl) ?_
                                    refine va_get (D := D) (ci := 3) (v := .ref (q 1)) (C := R_MD) (T := F_MD) (N := 15) hx hb hts i_MD hown hK hP 0 rfl rfl 1 (by decide) (hts _ wd_576) (fun _ h9 => h9) rfl d_MD_go_269 ?_
                                    refine lv_iload hx hb d_MD_go_272 (lv_at hl 6 rfl) ?_
                                    refine va_iald hx hb hK hP 1 0 rfl rfl (show vp_in (nI (0 + (32 * u_52))) 1360 from vp_in_nI (n := (0 + (32 * u_52))) (by omega) (by omega)) d_MD_go_274 ?_
                                    rw [show ((nI (0 + (32 * u_52))) : Int32).toNatClampNeg = (0 + (32 * u_52)) from nI_clamp (n := (0 + (32 * u_52))) (by omega)]
                                    refine lv_iconst (v := 1) hx hb d_MD_go_275 (by decide) ?_
                                    refine lv_isub hx hb d_MD_go_276 ?_
                                    refine lv_istore_n (lv' := [(3, .int ((xB (0 + (32 * u_52))) - 1)), (0, .ref (q 0)), (1, .int (nI ro)), (2, .int 0), (4, .int vmo), (5, .int 1), (6, .int (nI (0 + (32 * u_52)))), (7, .int (nI u_70)), (8, .int (nI u_70))]) hx hb d_MD_go_277 rfl hl (by decide) rfl (fun ls hl => ?_)
                                    refine lv_goto (tgt := 79) hx hb d_MD_go_278 (by decide) ?_
                                    exact ih79 (k + 1) 1 ((xB (0 + (32 * u_52))) - 1) vmo (upd vpa k vp) vw u_71 (hn + u_70) (by omega) (by omega) (by omega) (by rw [← heq79]; simp only [f_MD_go_l79_0, ← hu_1, ← hu_3, ← hu_49, ← hu_52, ← hu_53, ← hu_59, ← hu_70, ← hu_71, eq_false c_41, eq_false c_43, eq_false c_45, eq_false c_47, eq_true c_50, eq_false c_54, eq_false c_60, eq_true c_65, eq_false c_75, ↓reduceIte]) _ _ hP hD hS ls (lv_sub hl [1, 2, 3, 0, 4, 5] rfl)
                                  · refine lv_aload_n hx hb d_MD_go_260 rfl (lv_at hl 0 rfl) ?_
                                    refine lv_iconst (v := 1) hx hb d_MD_go_261 (by decide) ?_
                                    refine va_put (D := D) (ci := 3) (v := .int 1) (ty := .boolean) (C := R_MD) (T := F_MD) (N := 15) hx hb hts i_MD t_MD t_MD_ok n_MD hown hK hP hD hS 0 rfl rfl 8 (by decide) (hts _ wd_583) (fun _ h9 => h9) rfl (by decide +kernel) (sf_bp1).1 (sf_bp1).2 (Nat.le_of_ble_eq_true rfl) d_MD_go_262 (fun H locs hP hD hS => ?_)
                                    have hP : va_P D classes (md_w q cI cZ xth xB xsh xcu xtp xtd (upd vpa k vp) (nI (k + 1)) 1 u_71 (nI (hn + u_70)) xtk xto xwa xmn) H := hP
                                    have hD : va_D A (md_w q cI cZ xth xB xsh xcu xtp xtd (upd vpa k vp) (nI (k + 1)) 1 u_71 (nI (hn + u_70)) xtk xto xwa xmn) := hD
                                    refine lv_iconst (v := 0) hx hb d_MD_go_265 (by decide) ?_
                                    refine lv_istore (lv' := [(5, .int 0), (0, .ref (q 0)), (1, .int (nI ro)), (2, .int 0), (3, .int vp), (4, .int vmo), (6, .int (nI (0 + (32 * u_52)))), (7, .int (nI u_70)), (8, .int (nI u_70))]) hx hb d_MD_go_266 hl (by decide) rfl (fun ls hl => ?_)
                                    refine lv_aload_n hx hb d_MD_go_268 rfl (lv_at hl 1 rfl) ?_
                                    refine va_get (D := D) (ci := 3) (v := .ref (q 1)) (C := R_MD) (T := F_MD) (N := 15) hx hb hts i_MD hown hK hP 0 rfl rfl 1 (by decide) (hts _ wd_576) (fun _ h9 => h9) rfl d_MD_go_269 ?_
                                    refine lv_iload hx hb d_MD_go_272 (lv_at hl 6 rfl) ?_
                                    refine va_iald hx hb hK hP 1 0 rfl rfl (show vp_in (nI (0 + (32 * u_52))) 1360 from vp_in_nI (n := (0 + (32 * u_52))) (by omega) (by omega)) d_MD_go_274 ?_
                                    rw [show ((nI (0 + (32 * u_52))) : Int32).toNatClampNeg = (0 + (32 * u_52)) from nI_clamp (n := (0 + (32 * u_52))) (by omega)]
                                    refine lv_iconst (v := 1) hx hb d_MD_go_275 (by decide) ?_
                                    refine lv_isub hx hb d_MD_go_276 ?_
                                    refine lv_istore_n (lv' := [(3, .int ((xB (0 + (32 * u_52))) - 1)), (5, .int 0), (0, .ref (q 0)), (1, .int (nI ro)), (2, .int 0), (4, .int vmo), (6, .int (nI (0 + (32 * u_52)))), (7, .int (nI u_70)), (8, .int (nI u_70))]) hx hb d_MD_go_277 rfl hl (by decide) rfl (fun ls hl => ?_)
                                    refine lv_goto (tgt := 79) hx hb d_MD_go_278 (by decide) ?_
                                    exact ih79 (k + 1) 0 ((xB (0 + (32 * u_52))) - 1) vmo (upd vpa k vp) 1 u_71 (hn + u_70) (by omega) (by omega) (by omega) (by rw [← heq79]; simp only [f_MD_go_l79_0, ← hu_1, ← hu_3, ← hu_49, ← hu_52, ← hu_53, ← hu_59, ← hu_70, ← hu_71, eq_false c_41, eq_false c_43, eq_false c_45, eq_false c_47, eq_true c_50, eq_false c_54, eq_false c_60, eq_true c_65, eq_true c_75, ↓reduceIte]) _ _ hP hD hS ls (lv_sub hl [2, 3, 4, 0, 5, 1] rfl)
                                · have hlt : kk < u_70 := sf_lt_of (N := u_70) (by omega) (by omega) c_72
                                  refine lv_iload hx hb d_MD_go_203 (lv_at hl 5 rfl) ?_
                                  refine lv_if_eq (tgt := 245) hx hb d_MD_go_205 (by decide) (fun c_73 => absurd c_73 (by decide)) (fun c_73 => ?_)
                                  refine lv_aload_n hx hb d_MD_go_208 rfl (lv_at hl 0 rfl) ?_
                                  refine va_get (D := D) (ci := 3) (v := .ref (q 4)) (C := R_MD) (T := F_MD) (N := 15) hx hb hts i_MD hown hK hP 0 rfl rfl 9 (by decide) (hts _ wd_584) (fun _ h9 => h9) rfl d_MD_go_209 ?_
                                  refine lv_aload_n hx hb d_MD_go_212 rfl (lv_at hl 0 rfl) ?_
                                  refine va_get (D := D) (ci := 3) (v := .int (nI (hn + kk))) (C := R_MD) (T := F_MD) (N := 15) hx hb hts i_MD hown hK hP 0 rfl rfl 10 (by decide) (hts _ wd_585) (fun _ h9 => h9) rfl d_MD_go_213 ?_
                                  refine lv_aload_n hx hb d_MD_go_216 rfl (lv_at hl 0 rfl) ?_
                                  refine va_get (D := D) (ci := 3) (v := .ref (q 1)) (C := R_MD) (T := F_MD) (N := 15) hx hb hts i_MD hown hK hP 0 rfl rfl 1 (by decide) (hts _ wd_576) (fun _ h9 => h9) rfl d_MD_go_217 ?_
                                  refine lv_iload hx hb d_MD_go_220 (lv_at hl 6 rfl) ?_
                                  refine lv_iconst (v := 3) hx hb d_MD_go_222 (by decide) ?_
                                  refine lv_iadd hx hb d_MD_go_223 ?_
                                  rw [show (((nI (0 + (32 * u_52))) + 3) : Int32) = (nI ((0 + (32 * u_52)) + 3)) from nI_add (0 + (32 * u_52)) 3]
                                  refine lv_iload hx hb d_MD_go_224 (lv_at hl 8 rfl) ?_
                                  refine lv_iadd hx hb d_MD_go_226 ?_
                                  rw [show (((nI ((0 + (32 * u_52)) + 3)) + (nI kk)) : Int32) = (nI (((0 + (32 * u_52)) + 3) + kk)) from nI_add ((0 + (32 * u_52)) + 3) kk]
                                  refine va_iald hx hb hK hP 1 0 rfl rfl (show vp_in (nI (((0 + (32 * u_52)) + 3) + kk)) 1360 from vp_in_nI (n := (((0 + (32 * u_52)) + 3) + kk)) (by omega) (by omega)) d_MD_go_227 ?_
                                  rw [show ((nI (((0 + (32 * u_52)) + 3) + kk)) : Int32).toNatClampNeg = (((0 + (32 * u_52)) + 3) + kk) from nI_clamp (n := (((0 + (32 * u_52)) + 3) + kk)) (by omega)]
                                  refine va_iast hx hb hK hP hD hS 4 0 rfl rfl (show vp_in (nI (hn + kk)) 75 from vp_in_nI (n := (hn + kk)) (by omega) (by omega)) d_MD_go_228 (fun H locs hP hD hS => ?_)
                                  rw [show ((nI (hn + kk)) : Int32).toNatClampNeg = (hn + kk) from nI_clamp (n := (hn + kk)) (by omega)] at hP hD
                                  have hP : va_P D classes (md_w q cI cZ xth xB xsh xcu xtp xtd (upd vpa k vp) (nI (k + 1)) vw (upd xh (hn + kk) (xB (((0 + (32 * u_52)) + 3) + kk))) (nI (hn + kk)) xtk xto xwa xmn) H := hP
                                  have hD : va_D A (md_w q cI cZ xth xB xsh xcu xtp xtd (upd vpa k vp) (nI (k + 1)) vw (upd xh (hn + kk) (xB (((0 + (32 * u_52)) + 3) + kk))) (nI (hn + kk)) xtk xto xwa xmn) := hD
                                  refine lv_aload_n hx hb d_MD_go_229 rfl (lv_at hl 0 rfl) ?_
                                  refine lv_dup hx hb d_MD_go_230 rfl ?_
                                  refine va_get (D := D) (ci := 3) (v := .int (nI (hn + kk))) (C := R_MD) (T := F_MD) (N := 15) hx hb hts i_MD hown hK hP 0 rfl rfl 10 (by decide) (hts _ wd_585) (fun _ h9 => h9) rfl d_MD_go_231 ?_
                                  refine lv_iconst (v := 1) hx hb d_MD_go_234 (by decide) ?_
                                  refine lv_iadd hx hb d_MD_go_235 ?_
                                  rw [show (((nI (hn + kk)) + 1) : Int32) = (nI ((hn + kk) + 1)) from nI_add (hn + kk) 1]
                                  refine va_put (D := D) (ci := 3) (v := .int (nI ((hn + kk) + 1))) (ty := .int) (C := R_MD) (T := F_MD) (N := 15) hx hb hts i_MD t_MD t_MD_ok n_MD hown hK hP hD hS 0 rfl rfl 10 (by decide) (hts _ wd_585) (fun _ h9 => h9) rfl (by decide +kernel) rfl rfl (Nat.le_of_ble_eq_true rfl) d_MD_go_236 (fun H locs hP hD hS => ?_)
                                  have hP : va_P D classes (md_w q cI cZ xth xB xsh xcu xtp xtd (upd vpa k vp) (nI (k + 1)) vw (upd xh (hn + kk) (xB (((0 + (32 * u_52)) + 3) + kk))) (nI ((hn + kk) + 1)) xtk xto xwa xmn) H := hP
                                  have hD : va_D A (md_w q cI cZ xth xB xsh xcu xtp xtd (upd vpa k vp) (nI (k + 1)) vw (upd xh (hn + kk) (xB (((0 + (32 * u_52)) + 3) + kk))) (nI ((hn + kk) + 1)) xtk xto xwa xmn) := hD
                                  refine lv_iinc (v := (nI (kk + 1))) (lv' := [(8, .int (nI (kk + 1))), (0, .ref (q 0)), (1, .int (nI ro)), (2, .int 0), (3, .int vp), (4, .int vmo), (5, .int 1), (6, .int (nI (0 + (32 * u_52)))), (7, .int (nI u_70))]) hx hb d_MD_go_239 hl (k := 8) rfl (nI_1 kk) (by decide) rfl (fun ls hl => ?_)
                                  refine lv_goto (tgt := 196) hx hb d_MD_go_242 (by decide) ?_
                                  exact ih196 (kk + 1) (upd xh (hn + kk) (xB (((0 + (32 * u_52)) + 3) + kk))) (by omega) (by omega) (by rw [← heq196]; simp only [f_MD_go_l196_0, ← hu_1, ← hu_3, ← hu_49, ← hu_52, ← hu_53, ← hu_59, ← hu_70, eq_false c_72, ↓reduceIte]) _ _ hP hD hS ls (lv_sub hl [1, 2, 3, 4, 5, 6, 7, 8, 0] rfl)
                            exact loop196 (u_70 + 1) 0 vhe (by omega) (by omega) hu_71.symm _ _ hP hD hS ls (lv_sub hl [4, 5, 6, 7, 8, 1, 3, 2, 0] rfl)
        exact loop79 (3 + 1) 0 1 (u_3 - 1) 0 xpa 0 xhe 0 (by omega) (by omega) (by omega) (by simp only [f_MD_go, ← hu_1, ← hu_3, eq_true hz0, eq_false c_4, eq_true c_40, ↓reduceIte]) _ _ hP hD hS ls (lv_sub hl [4, 5, 3, 2, 1, 0] rfl)
      · refine lv_aload_n hx hb d_MD_go_58 rfl (lv_at hl 2 rfl) ?_
        refine va_get (D := D) (ci := 3) (v := .ref (q 1)) (C := R_MD) (T := F_MD) (N := 15) hx hb hts i_MD hown hK hP 0 rfl rfl 1 (by decide) (hts _ wd_576) (fun _ h9 => h9) rfl d_MD_go_59 ?_
        refine lv_iload_n hx hb d_MD_go_62 rfl (lv_at hl 1 rfl) ?_
        refine lv_iload_n hx hb d_MD_go_63 rfl (lv_at hl 0 rfl) ?_
        obtain ⟨u_76, hu_76⟩ : ∃ z, z = (u_3 - 1).toNatClampNeg := ⟨_, rfl⟩
        obtain ⟨he_u_76, hb_u_76⟩ := sf_natp (B := 24) (by omega) hu_76 c_4 c_40
        rw [he_u_76]
        refine sf_callSr (S := Unit) (rest := [.ref (q 1)]) ⟨hx, hb, hml, hown, hts⟩ (c_MD_begin_0 l D cI cZ cJ u_76) (sf_cwS lk_MD_84 hts (fun _ h => h) (by rw [hR]; exact ⟨Nat.le_of_ble_eq_true rfl, Nat.le_of_ble_eq_true rfl⟩)) hK hP hD hS hA [] rfl rfl (fun _ => rfl) rfl rfl hl.1 (Nat.le_of_ble_eq_true rfl) d_MD_go_64 ⟨Nat.zero_le _, Nat.zero_le _⟩ (fun u H locs hu hP hS => ?_)
        refine lv_iconst (v := 2) hx hb d_MD_go_67 (by decide) ?_
        refine lv_iadd hx hb d_MD_go_68 ?_
        rw [show (((nI (0 + (32 * u_76))) + 2) : Int32) = (nI ((0 + (32 * u_76)) + 2)) from nI_add (0 + (32 * u_76)) 2]
        refine va_iald hx hb hK hP 1 0 rfl rfl (show vp_in (nI ((0 + (32 * u_76)) + 2)) 1360 from vp_in_nI (n := ((0 + (32 * u_76)) + 2)) (by omega) (by omega)) d_MD_go_69 ?_
        rw [show ((nI ((0 + (32 * u_76)) + 2)) : Int32).toNatClampNeg = ((0 + (32 * u_76)) + 2) from nI_clamp (n := ((0 + (32 * u_76)) + 2)) (by omega)]
        refine lv_goto (tgt := 74) hx hb d_MD_go_70 (by decide) ?_
        refine lv_istore (lv' := [(4, .int (xB ((0 + (32 * u_76)) + 2))), (3, .int (u_3 - 1)), (2, .int 0), (0, .ref (q 0)), (1, .int (nI ro))]) hx hb d_MD_go_74 hl (by decide) rfl (fun ls hl => ?_)
        refine lv_iconst (v := 1) hx hb d_MD_go_76 (by decide) ?_
        refine lv_istore (lv' := [(5, .int 1), (4, .int (xB ((0 + (32 * u_76)) + 2))), (3, .int (u_3 - 1)), (2, .int 0), (0, .ref (q 0)), (1, .int (nI ro))]) hx hb d_MD_go_77 hl (by decide) rfl (fun ls hl => ?_)
        have loop79 : ∀ (fu k : Nat) (vg : Int32) (vp : Int32) (vmo : Int32) (vpa : (Nat → Int32)) (vw : Int32) (vhe : (Nat → Int32)) (hn : Nat), k ≤ 3 → k + fu = 3 + 1 → hn ≤ 25 * k → f_MD_go_l79_0 xB fu k vg vp vmo vpa vw vhe hn = f_MD_go xB xpa xhe ro → ∀ (H : Heap) (locs : List Loc), va_P D classes (md_w q cI cZ xth xB xsh xcu xtp xtd vpa (nI k) vw vhe (nI hn) xtk xto xwa xmn) H → va_D A (md_w q cI cZ xth xB xsh xcu xtp xtd vpa (nI k) vw vhe (nI hn) xtk xto xwa xmn) → va_S A s.heap H locs → ∀ (ls : Array Slot), lv_has ls 9 [(0, .ref (q 0)), (1, .int (nI ro)), (2, .int 0), (3, .int vp), (4, .int vmo), (5, .int vg)] → W p l e R s m args below meth c H locs 0 0 Q (F0 m 79 ls []) := by
          intro fu
          induction fu with
          | zero =>
            intro k vg vp vmo vpa vw vhe hn h1 h2
            exact absurd h2 (by omega)
          | succ fu ih79 =>
            intro k vg vp vmo vpa vw vhe hn hk79 hkn79 hi790 heq79 H locs hP hD hS ls hl
            refine lv_iload hx hb d_MD_go_79 (lv_at hl 5 rfl) ?_
            refine lv_if_eq (tgt := 281) hx hb d_MD_go_81 (by decide) (fun c_77 => ?_) (fun c_77 => ?_)
            · refine lv_aload_n hx hb d_MD_go_281 rfl (lv_at hl 0 rfl) ?_
              refine lv_aload_n hx hb d_MD_go_282 rfl (lv_at hl 0 rfl) ?_
              refine va_get (D := D) (ci := 3) (v := .int vw) (C := R_MD) (T := F_MD) (N := 15) hx hb hts i_MD hown hK hP 0 rfl rfl 8 (by decide) (hts _ wd_583) (fun _ h9 => h9) rfl d_MD_go_283 ?_
              refine lv_if_eq (tgt := 296) hx hb d_MD_go_286 (by decide) (fun c_78 => ?_) (fun c_78 => ?_)
              · refine lv_iconst (v := 0) hx hb d_MD_go_296 (by decide) ?_
                refine va_put (D := D) (ci := 3) (v := .int 0) (ty := .int) (C := R_MD) (T := F_MD) (N := 15) hx hb hts i_MD t_MD t_MD_ok n_MD hown hK hP hD hS 0 rfl rfl 10 (by decide) (hts _ wd_585) (fun _ h9 => h9) rfl (by decide +kernel) rfl rfl (Nat.le_of_ble_eq_true rfl) d_MD_go_297 (fun H locs hP hD hS => ?_)
                have hP : va_P D classes (md_w q cI cZ xth xB xsh xcu xtp xtd vpa (nI k) vw vhe 0 xtk xto xwa xmn) H := hP
                have hD : va_D A (md_w q cI cZ xth xB xsh xcu xtp xtd vpa (nI k) vw vhe 0 xtk xto xwa xmn) := hD
                rw [hQ]
                exact sf_vret (vpa, (nI k), vw, vhe, 0) hx hb hr hlk hS rfl (by rw [← heq79]; simp only [f_MD_go_l79_0, ← hu_1, ← hu_3, ← hu_76, eq_true c_77, eq_true c_78, ↓reduceIte]) hP d_MD_go_300
              · refine lv_aload_n hx hb d_MD_go_289 rfl (lv_at hl 0 rfl) ?_
                refine va_get (D := D) (ci := 3) (v := .int (nI hn)) (C := R_MD) (T := F_MD) (N := 15) hx hb hts i_MD hown hK hP 0 rfl rfl 10 (by decide) (hts _ wd_585) (fun _ h9 => h9) rfl d_MD_go_290 ?_
                refine lv_goto (tgt := 297) hx hb d_MD_go_293 (by decide) ?_
                refine va_put (D := D) (ci := 3) (v := .int (nI hn)) (ty := .int) (C := R_MD) (T := F_MD) (N := 15) hx hb hts i_MD t_MD t_MD_ok n_MD hown hK hP hD hS 0 rfl rfl 10 (by decide) (hts _ wd_585) (fun _ h9 => h9) rfl (by decide +kernel) rfl rfl (Nat.le_of_ble_eq_true rfl) d_MD_go_297 (fun H locs hP hD hS => ?_)
                have hP : va_P D classes (md_w q cI cZ xth xB xsh xcu xtp xtd vpa (nI k) vw vhe (nI hn) xtk xto xwa xmn) H := hP
                have hD : va_D A (md_w q cI cZ xth xB xsh xcu xtp xtd vpa (nI k) vw vhe (nI hn) xtk xto xwa xmn) := hD
                rw [hQ]
                exact sf_vret (vpa, (nI k), vw, vhe, (nI hn)) hx hb hr hlk hS rfl (by rw [← heq79]; simp only [f_MD_go_l79_0, ← hu_1, ← hu_3, ← hu_76, eq_true c_77, eq_false c_78, ↓reduceIte]) hP d_MD_go_300
            · refine lv_iload_n hx hb d_MD_go_84 rfl (lv_at hl 3 rfl) ?_
              refine lv_if_lt (tgt := 281) hx hb d_MD_go_85 (by decide) (fun c_79 => ?_) (fun c_79 => ?_)
              · refine lv_aload_n hx hb d_MD_go_281 rfl (lv_at hl 0 rfl) ?_
                refine lv_aload_n hx hb d_MD_go_282 rfl (lv_at hl 0 rfl) ?_
                refine va_get (D := D) (ci := 3) (v := .int vw) (C := R_MD) (T := F_MD) (N := 15) hx hb hts i_MD hown hK hP 0 rfl rfl 8 (by decide) (hts _ wd_583) (fun _ h9 => h9) rfl d_MD_go_283 ?_
                refine lv_if_eq (tgt := 296) hx hb d_MD_go_286 (by decide) (fun c_80 => ?_) (fun c_80 => ?_)
                · refine lv_iconst (v := 0) hx hb d_MD_go_296 (by decide) ?_
                  refine va_put (D := D) (ci := 3) (v := .int 0) (ty := .int) (C := R_MD) (T := F_MD) (N := 15) hx hb hts i_MD t_MD t_MD_ok n_MD hown hK hP hD hS 0 rfl rfl 10 (by decide) (hts _ wd_585) (fun _ h9 => h9) rfl (by decide +kernel) rfl rfl (Nat.le_of_ble_eq_true rfl) d_MD_go_297 (fun H locs hP hD hS => ?_)
                  have hP : va_P D classes (md_w q cI cZ xth xB xsh xcu xtp xtd vpa (nI k) vw vhe 0 xtk xto xwa xmn) H := hP
                  have hD : va_D A (md_w q cI cZ xth xB xsh xcu xtp xtd vpa (nI k) vw vhe 0 xtk xto xwa xmn) := hD
                  rw [hQ]
                  exact sf_vret (vpa, (nI k), vw, vhe, 0) hx hb hr hlk hS rfl (by rw [← heq79]; simp only [f_MD_go_l79_0, ← hu_1, ← hu_3, ← hu_76, eq_false c_77, eq_true c_79, eq_true c_80, ↓reduceIte]) hP d_MD_go_300
                · refine lv_aload_n hx hb d_MD_go_289 rfl (lv_at hl 0 rfl) ?_
                  refine va_get (D := D) (ci := 3) (v := .int (nI hn)) (C := R_MD) (T := F_MD) (N := 15) hx hb hts i_MD hown hK hP 0 rfl rfl 10 (by decide) (hts _ wd_585) (fun _ h9 => h9) rfl d_MD_go_290 ?_
                  refine lv_goto (tgt := 297) hx hb d_MD_go_293 (by decide) ?_
                  refine va_put (D := D) (ci := 3) (v := .int (nI hn)) (ty := .int) (C := R_MD) (T := F_MD) (N := 15) hx hb hts i_MD t_MD t_MD_ok n_MD hown hK hP hD hS 0 rfl rfl 10 (by decide) (hts _ wd_585) (fun _ h9 => h9) rfl (by decide +kernel) rfl rfl (Nat.le_of_ble_eq_true rfl) d_MD_go_297 (fun H locs hP hD hS => ?_)
                  have hP : va_P D classes (md_w q cI cZ xth xB xsh xcu xtp xtd vpa (nI k) vw vhe (nI hn) xtk xto xwa xmn) H := hP
                  have hD : va_D A (md_w q cI cZ xth xB xsh xcu xtp xtd vpa (nI k) vw vhe (nI hn) xtk xto xwa xmn) := hD
                  rw [hQ]
                  exact sf_vret (vpa, (nI k), vw, vhe, (nI hn)) hx hb hr hlk hS rfl (by rw [← heq79]; simp only [f_MD_go_l79_0, ← hu_1, ← hu_3, ← hu_76, eq_false c_77, eq_true c_79, eq_false c_80, ↓reduceIte]) hP d_MD_go_300
              · refine lv_iload_n hx hb d_MD_go_88 rfl (lv_at hl 3 rfl) ?_
                refine lv_iload_n hx hb d_MD_go_89 rfl (lv_at hl 2 rfl) ?_
                refine sf_callSr (S := Unit) (rest := [.int vp]) ⟨hx, hb, hml, hown, hts⟩ (c_MD_places_0 l D cI cZ cJ) (sf_cwS lk_MD_80 hts (fun _ h => h) (by rw [hR]; exact ⟨Nat.le_of_ble_eq_true rfl, Nat.le_of_ble_eq_true rfl⟩)) hK hP hD hS hA [] rfl rfl (fun _ => rfl) rfl rfl hl.1 (Nat.le_of_ble_eq_true rfl) d_MD_go_90 ⟨Nat.zero_le _, Nat.zero_le _⟩ (fun u H locs hu hP hS => ?_)
                refine lv_icmp_ge (tgt := 281) hx hb d_MD_go_93 (by decide) (fun c_81 => ?_) (fun c_81 => ?_)
                · refine lv_aload_n hx hb d_MD_go_281 rfl (lv_at hl 0 rfl) ?_
                  refine lv_aload_n hx hb d_MD_go_282 rfl (lv_at hl 0 rfl) ?_
                  refine va_get (D := D) (ci := 3) (v := .int vw) (C := R_MD) (T := F_MD) (N := 15) hx hb hts i_MD hown hK hP 0 rfl rfl 8 (by decide) (hts _ wd_583) (fun _ h9 => h9) rfl d_MD_go_283 ?_
                  refine lv_if_eq (tgt := 296) hx hb d_MD_go_286 (by decide) (fun c_82 => ?_) (fun c_82 => ?_)
                  · refine lv_iconst (v := 0) hx hb d_MD_go_296 (by decide) ?_
                    refine va_put (D := D) (ci := 3) (v := .int 0) (ty := .int) (C := R_MD) (T := F_MD) (N := 15) hx hb hts i_MD t_MD t_MD_ok n_MD hown hK hP hD hS 0 rfl rfl 10 (by decide) (hts _ wd_585) (fun _ h9 => h9) rfl (by decide +kernel) rfl rfl (Nat.le_of_ble_eq_true rfl) d_MD_go_297 (fun H locs hP hD hS => ?_)
                    have hP : va_P D classes (md_w q cI cZ xth xB xsh xcu xtp xtd vpa (nI k) vw vhe 0 xtk xto xwa xmn) H := hP
                    have hD : va_D A (md_w q cI cZ xth xB xsh xcu xtp xtd vpa (nI k) vw vhe 0 xtk xto xwa xmn) := hD
                    rw [hQ]
                    exact sf_vret (vpa, (nI k), vw, vhe, 0) hx hb hr hlk hS rfl (by rw [← heq79]; simp only [f_MD_go_l79_0, ← hu_1, ← hu_3, ← hu_76, eq_false c_77, eq_false c_79, eq_true c_81, eq_true c_82, ↓reduceIte]) hP d_MD_go_300
                  · refine lv_aload_n hx hb d_MD_go_289 rfl (lv_at hl 0 rfl) ?_
                    refine va_get (D := D) (ci := 3) (v := .int (nI hn)) (C := R_MD) (T := F_MD) (N := 15) hx hb hts i_MD hown hK hP 0 rfl rfl 10 (by decide) (hts _ wd_585) (fun _ h9 => h9) rfl d_MD_go_290 ?_
                    refine lv_goto (tgt := 297) hx hb d_MD_go_293 (by decide) ?_
                    refine va_put (D := D) (ci := 3) (v := .int (nI hn)) (ty := .int) (C := R_MD) (T := F_MD) (N := 15) hx hb hts i_MD t_MD t_MD_ok n_MD hown hK hP hD hS 0 rfl rfl 10 (by decide) (hts _ wd_585) (fun _ h9 => h9) rfl (by decide +kernel) rfl rfl (Nat.le_of_ble_eq_true rfl) d_MD_go_297 (fun H locs hP hD hS => ?_)
                    have hP : va_P D classes (md_w q cI cZ xth xB xsh xcu xtp xtd vpa (nI k) vw vhe (nI hn) xtk xto xwa xmn) H := hP
                    have hD : va_D A (md_w q cI cZ xth xB xsh xcu xtp xtd vpa (nI k) vw vhe (nI hn) xtk xto xwa xmn) := hD
                    rw [hQ]
                    exact sf_vret (vpa, (nI k), vw, vhe, (nI hn)) hx hb hr hlk hS rfl (by rw [← heq79]; simp only [f_MD_go_l79_0, ← hu_1, ← hu_3, ← hu_76, eq_false c_77, eq_false c_79, eq_true c_81, eq_false c_82, ↓reduceIte]) hP d_MD_go_300
                · refine lv_aload_n hx hb d_MD_go_96 rfl (lv_at hl 0 rfl) ?_
                  refine va_get (D := D) (ci := 3) (v := .int (nI k)) (C := R_MD) (T := F_MD) (N := 15) hx hb hts i_MD hown hK hP 0 rfl rfl 7 (by decide) (hts _ wd_582) (fun _ h9 => h9) rfl d_MD_go_97 ?_
                  refine lv_iconst (v := 3) hx hb d_MD_go_100 (by decide) ?_
                  refine lv_icmp_ge (tgt := 281) hx hb d_MD_go_101 (by decide) (fun c_83 => ?_) (fun c_83 => ?_)
                  · refine lv_aload_n hx hb d_MD_go_281 rfl (lv_at hl 0 rfl) ?_
                    refine lv_aload_n hx hb d_MD_go_282 rfl (lv_at hl 0 rfl) ?_
                    refine va_get (D := D) (ci := 3) (v := .int vw) (C := R_MD) (T := F_MD) (N := 15) hx hb hts i_MD hown hK hP 0 rfl rfl 8 (by decide) (hts _ wd_583) (fun _ h9 => h9) rfl d_MD_go_283 ?_
                    refine lv_if_eq (tgt := 296) hx hb d_MD_go_286 (by decide) (fun c_84 => ?_) (fun c_84 => ?_)
                    · refine lv_iconst (v := 0) hx hb d_MD_go_296 (by decide) ?_
                      refine va_put (D := D) (ci := 3) (v := .int 0) (ty := .int) (C := R_MD) (T := F_MD) (N := 15) hx hb hts i_MD t_MD t_MD_ok n_MD hown hK hP hD hS 0 rfl rfl 10 (by decide) (hts _ wd_585) (fun _ h9 => h9) rfl (by decide +kernel) rfl rfl (Nat.le_of_ble_eq_true rfl) d_MD_go_297 (fun H locs hP hD hS => ?_)
                      have hP : va_P D classes (md_w q cI cZ xth xB xsh xcu xtp xtd vpa (nI k) vw vhe 0 xtk xto xwa xmn) H := hP
                      have hD : va_D A (md_w q cI cZ xth xB xsh xcu xtp xtd vpa (nI k) vw vhe 0 xtk xto xwa xmn) := hD
                      rw [hQ]
                      exact sf_vret (vpa, (nI k), vw, vhe, 0) hx hb hr hlk hS rfl (by rw [← heq79]; simp only [f_MD_go_l79_0, ← hu_1, ← hu_3, ← hu_76, eq_false c_77, eq_false c_79, eq_false c_81, eq_true c_83, eq_true c_84, ↓reduceIte]) hP d_MD_go_300
                    · refine lv_aload_n hx hb d_MD_go_289 rfl (lv_at hl 0 rfl) ?_
                      refine va_get (D := D) (ci := 3) (v := .int (nI hn)) (C := R_MD) (T := F_MD) (N := 15) hx hb hts i_MD hown hK hP 0 rfl rfl 10 (by decide) (hts _ wd_585) (fun _ h9 => h9) rfl d_MD_go_290 ?_
                      refine lv_goto (tgt := 297) hx hb d_MD_go_293 (by decide) ?_
                      refine va_put (D := D) (ci := 3) (v := .int (nI hn)) (ty := .int) (C := R_MD) (T := F_MD) (N := 15) hx hb hts i_MD t_MD t_MD_ok n_MD hown hK hP hD hS 0 rfl rfl 10 (by decide) (hts _ wd_585) (fun _ h9 => h9) rfl (by decide +kernel) rfl rfl (Nat.le_of_ble_eq_true rfl) d_MD_go_297 (fun H locs hP hD hS => ?_)
                      have hP : va_P D classes (md_w q cI cZ xth xB xsh xcu xtp xtd vpa (nI k) vw vhe (nI hn) xtk xto xwa xmn) H := hP
                      have hD : va_D A (md_w q cI cZ xth xB xsh xcu xtp xtd vpa (nI k) vw vhe (nI hn) xtk xto xwa xmn) := hD
                      rw [hQ]
                      exact sf_vret (vpa, (nI k), vw, vhe, (nI hn)) hx hb hr hlk hS rfl (by rw [← heq79]; simp only [f_MD_go_l79_0, ← hu_1, ← hu_3, ← hu_76, eq_false c_77, eq_false c_79, eq_false c_81, eq_true c_83, eq_false c_84, ↓reduceIte]) hP d_MD_go_300
                  · have hlt : k < 3 := sf_lt_of (N := 3) (by omega) (by omega) c_83
                    refine lv_aload_n hx hb d_MD_go_104 rfl (lv_at hl 0 rfl) ?_
                    refine lv_iload_n hx hb d_MD_go_105 rfl (lv_at hl 3 rfl) ?_
                    refine sf_callVw (S := Int32) (rest := []) ⟨hx, hb, hml, hown, hts⟩ (c_MD_isThrough l D cI cZ cJ q xth xB xsh xcu xtp xtd vpa vw vhe (nI hn) xtk xto xwa xmn k vp (by omega)) (sf_cwV lk_MD_88 hts (fun _ h => h) (by rw [hR]; exact ⟨Nat.le_of_ble_eq_true rfl, Nat.le_of_ble_eq_true rfl⟩)) hK hP hD hS hA (fun _ => by simp only [md_w_fst]) (ci := 3) (q0 := 0) rfl rfl rfl rfl rfl hl.1 (Nat.le_of_ble_eq_true rfl) d_MD_go_106 ⟨Nat.zero_le _, Nat.zero_le _⟩ (fun u_85 H locs hu_85 hP hD hS => ?_)
                    have hP : va_P D classes (md_w q cI cZ xth xB xsh xcu xtp xtd vpa (nI k) vw vhe (nI hn) xtk xto xwa xmn) H := hP
                    have hD : va_D A (md_w q cI cZ xth xB xsh xcu xtp xtd vpa (nI k) vw vhe (nI hn) xtk xto xwa xmn) := hD
                    refine lv_if_ne (tgt := 281) hx hb d_MD_go_109 (by decide) (fun c_86 => ?_) (fun c_86 => ?_)
                    · refine lv_aload_n hx hb d_MD_go_281 rfl (lv_at hl 0 rfl) ?_
                      refine lv_aload_n hx hb d_MD_go_282 rfl (lv_at hl 0 rfl) ?_
                      refine va_get (D := D) (ci := 3) (v := .int vw) (C := R_MD) (T := F_MD) (N := 15) hx hb hts i_MD hown hK hP 0 rfl rfl 8 (by decide) (hts _ wd_583) (fun _ h9 => h9) rfl d_MD_go_283 ?_
                      refine lv_if_eq (tgt := 296) hx hb d_MD_go_286 (by decide) (fun c_87 => ?_) (fun c_87 => ?_)
                      · refine lv_iconst (v := 0) hx hb d_MD_go_296 (by decide) ?_
                        refine va_put (D := D) (ci := 3) (v := .int 0) (ty := .int) (C := R_MD) (T := F_MD) (N := 15) hx hb hts i_MD t_MD t_MD_ok n_MD hown hK hP hD hS 0 rfl rfl 10 (by decide) (hts _ wd_585) (fun _ h9 => h9) rfl (by decide +kernel) rfl rfl (Nat.le_of_ble_eq_true rfl) d_MD_go_297 (fun H locs hP hD hS => ?_)
                        have hP : va_P D classes (md_w q cI cZ xth xB xsh xcu xtp xtd vpa (nI k) vw vhe 0 xtk xto xwa xmn) H := hP
                        have hD : va_D A (md_w q cI cZ xth xB xsh xcu xtp xtd vpa (nI k) vw vhe 0 xtk xto xwa xmn) := hD
                        rw [hQ]
                        exact sf_vret (vpa, (nI k), vw, vhe, 0) hx hb hr hlk hS rfl (by rw [← heq79]; simp only [f_MD_go_l79_0, ← hu_1, ← hu_3, ← hu_76, ← hu_85, eq_false c_77, eq_false c_79, eq_false c_81, eq_false c_83, eq_false c_86, eq_true c_87, ↓reduceIte]) hP d_MD_go_300
                      · refine lv_aload_n hx hb d_MD_go_289 rfl (lv_at hl 0 rfl) ?_
                        refine va_get (D := D) (ci := 3) (v := .int (nI hn)) (C := R_MD) (T := F_MD) (N := 15) hx hb hts i_MD hown hK hP 0 rfl rfl 10 (by decide) (hts _ wd_585) (fun _ h9 => h9) rfl d_MD_go_290 ?_
                        refine lv_goto (tgt := 297) hx hb d_MD_go_293 (by decide) ?_
                        refine va_put (D := D) (ci := 3) (v := .int (nI hn)) (ty := .int) (C := R_MD) (T := F_MD) (N := 15) hx hb hts i_MD t_MD t_MD_ok n_MD hown hK hP hD hS 0 rfl rfl 10 (by decide) (hts _ wd_585) (fun _ h9 => h9) rfl (by decide +kernel) rfl rfl (Nat.le_of_ble_eq_true rfl) d_MD_go_297 (fun H locs hP hD hS => ?_)
                        have hP : va_P D classes (md_w q cI cZ xth xB xsh xcu xtp xtd vpa (nI k) vw vhe (nI hn) xtk xto xwa xmn) H := hP
                        have hD : va_D A (md_w q cI cZ xth xB xsh xcu xtp xtd vpa (nI k) vw vhe (nI hn) xtk xto xwa xmn) := hD
                        rw [hQ]
                        exact sf_vret (vpa, (nI k), vw, vhe, (nI hn)) hx hb hr hlk hS rfl (by rw [← heq79]; simp only [f_MD_go_l79_0, ← hu_1, ← hu_3, ← hu_76, ← hu_85, eq_false c_77, eq_false c_79, eq_false c_81, eq_false c_83, eq_false c_86, eq_false c_87, ↓reduceIte]) hP d_MD_go_300
                    · refine lv_iload_n hx hb d_MD_go_112 rfl (lv_at hl 2 rfl) ?_
                      refine lv_iload_n hx hb d_MD_go_113 rfl (lv_at hl 3 rfl) ?_
                      obtain ⟨u_88, hu_88⟩ : ∃ z, z = vp.toNatClampNeg := ⟨_, rfl⟩
                      obtain ⟨he_u_88, hb_u_88⟩ := sf_natp (B := 24) (by omega) hu_88 c_79 c_81
                      rw [he_u_88]
                      refine sf_callSr (S := Unit) (rest := []) ⟨hx, hb, hml, hown, hts⟩ (c_MD_begin_0 l D cI cZ cJ u_88) (sf_cwS lk_MD_84 hts (fun _ h => h) (by rw [hR]; exact ⟨Nat.le_of_ble_eq_true rfl, Nat.le_of_ble_eq_true rfl⟩)) hK hP hD hS hA [] rfl rfl (fun _ => rfl) rfl rfl hl.1 (Nat.le_of_ble_eq_true rfl) d_MD_go_114 ⟨Nat.zero_le _, Nat.zero_le _⟩ (fun u H locs hu hP hS => ?_)
                      refine lv_istore (lv' := [(6, .int (nI (0 + (32 * u_88)))), (0, .ref (q 0)), (1, .int (nI ro)), (2, .int 0), (3, .int vp), (4, .int vmo), (5, .int vg)]) hx hb d_MD_go_117 hl (by decide) rfl (fun ls hl => ?_)
                      refine lv_aload_n hx hb d_MD_go_119 rfl (lv_at hl 1 rfl) ?_
                      refine va_get (D := D) (ci := 3) (v := .ref (q 3)) (C := R_MD) (T := F_MD) (N := 15) hx hb hts i_MD hown hK hP 0 rfl rfl 6 (by decide) (hts _ wd_581) (fun _ h9 => h9) rfl d_MD_go_120 ?_
                      refine lv_aload_n hx hb d_MD_go_123 rfl (lv_at hl 1 rfl) ?_
                      refine va_get (D := D) (ci := 3) (v := .int (nI k)) (C := R_MD) (T := F_MD) (N := 15) hx hb hts i_MD hown hK hP 0 rfl rfl 7 (by decide) (hts _ wd_582) (fun _ h9 => h9) rfl d_MD_go_124 ?_
                      refine lv_iload_n hx hb d_MD_go_127 rfl (lv_at hl 4 rfl) ?_
                      refine va_iast hx hb hK hP hD hS 3 0 rfl rfl (show vp_in (nI k) 3 from vp_in_nI (n := k) (by omega) (by omega)) d_MD_go_128 (fun H locs hP hD hS => ?_)
                      rw [show ((nI k) : Int32).toNatClampNeg = k from nI_clamp (n := k) (by omega)] at hP hD
                      have hP : va_P D classes (md_w q cI cZ xth xB xsh xcu xtp xtd (upd vpa k vp) (nI k) vw vhe (nI hn) xtk xto xwa xmn) H := hP
                      have hD : va_D A (md_w q cI cZ xth xB xsh xcu xtp xtd (upd vpa k vp) (nI k) vw vhe (nI hn) xtk xto xwa xmn) := hD
                      refine lv_aload_n hx hb d_MD_go_129 rfl (lv_at hl 1 rfl) ?_
                      refine lv_dup hx hb d_MD_go_130 rfl ?_
                      refine va_get (D := D) (ci := 3) (v := .int (nI k)) (C := R_MD) (T := F_MD) (N := 15) hx hb hts i_MD hown hK hP 0 rfl rfl 7 (by decide) (hts _ wd_582) (fun _ h9 => h9) rfl d_MD_go_131 ?_
                      refine lv_iconst (v := 1) hx hb d_MD_go_134 (by decide) ?_
                      refine lv_iadd hx hb d_MD_go_135 ?_
                      rw [show (((nI k) + 1) : Int32) = (nI (k + 1)) from nI_add k 1]
                      refine va_put (D := D) (ci := 3) (v := .int (nI (k + 1))) (ty := .int) (C := R_MD) (T := F_MD) (N := 15) hx hb hts i_MD t_MD t_MD_ok n_MD hown hK hP hD hS 0 rfl rfl 7 (by decide) (hts _ wd_582) (fun _ h9 => h9) rfl (by decide +kernel) rfl rfl (Nat.le_of_ble_eq_true rfl) d_MD_go_136 (fun H locs hP hD hS => ?_)
                      have hP : va_P D classes (md_w q cI cZ xth xB xsh xcu xtp xtd (upd vpa k vp) (nI (k + 1)) vw vhe (nI hn) xtk xto xwa xmn) H := hP
                      have hD : va_D A (md_w q cI cZ xth xB xsh xcu xtp xtd (upd vpa k vp) (nI (k + 1)) vw vhe (nI hn) xtk xto xwa xmn) := hD
                      refine lv_aload_n hx hb d_MD_go_139 rfl (lv_at hl 1 rfl) ?_
                      refine va_get (D := D) (ci := 3) (v := .ref (q 1)) (C := R_MD) (T := F_MD) (N := 15) hx hb hts i_MD hown hK hP 0 rfl rfl 1 (by decide) (hts _ wd_576) (fun _ h9 => h9) rfl d_MD_go_140 ?_
                      refine lv_iload hx hb d_MD_go_143 (lv_at hl 0 rfl) ?_
                      refine lv_iconst (v := 1) hx hb d_MD_go_145 (by decide) ?_
                      refine lv_iadd hx hb d_MD_go_146 ?_
                      rw [show (((nI (0 + (32 * u_88))) + 1) : Int32) = (nI ((0 + (32 * u_88)) + 1)) from nI_add (0 + (32 * u_88)) 1]
                      refine va_iald hx hb hK hP 1 0 rfl rfl (show vp_in (nI ((0 + (32 * u_88)) + 1)) 1360 from vp_in_nI (n := ((0 + (32 * u_88)) + 1)) (by omega) (by omega)) d_MD_go_147 ?_
                      rw [show ((nI ((0 + (32 * u_88)) + 1)) : Int32).toNatClampNeg = ((0 + (32 * u_88)) + 1) from nI_clamp (n := ((0 + (32 * u_88)) + 1)) (by omega)]
                      refine lv_istore (lv' := [(7, .int (xB ((0 + (32 * u_88)) + 1))), (6, .int (nI (0 + (32 * u_88)))), (0, .ref (q 0)), (1, .int (nI ro)), (2, .int 0), (3, .int vp), (4, .int vmo), (5, .int vg)]) hx hb d_MD_go_148 hl (by decide) rfl (fun ls hl => ?_)
                      refine lv_aload_n hx hb d_MD_go_150 rfl (lv_at hl 2 rfl) ?_
                      refine lv_iload hx hb d_MD_go_151 (lv_at hl 1 rfl) ?_
                      refine lv_bipush (v := 28) hx hb d_MD_go_153 (by decide) ?_
                      refine sf_callVw (S := Int32) (rest := []) ⟨hx, hb, hml, hown, hts⟩ (c_MD_isSummed l D cI cZ cJ q xth xB xsh xcu xtp xtd (upd vpa k vp) (nI (k + 1)) vw vhe (nI hn) xtk xto xwa xmn (0 + (32 * u_88)) 28 (by omega)) (sf_cwV lk_MD_48 hts (fun _ h => h) (by rw [hR]; exact ⟨Nat.le_of_ble_eq_true rfl, Nat.le_of_ble_eq_true rfl⟩)) hK hP hD hS hA (fun _ => by simp only [md_w_fst]) (ci := 3) (q0 := 0) rfl rfl rfl rfl rfl hl.1 (Nat.le_of_ble_eq_true rfl) d_MD_go_155 ⟨Nat.zero_le _, Nat.zero_le _⟩ (fun u_89 H locs hu_89 hP hD hS => ?_)
                      have hP : va_P D classes (md_w q cI cZ xth xB xsh xcu xtp xtd (upd vpa k vp) (nI (k + 1)) vw vhe (nI hn) xtk xto xwa xmn) H := hP
                      have hD : va_D A (md_w q cI cZ xth xB xsh xcu xtp xtd (upd vpa k vp) (nI (k + 1)) vw vhe (nI hn) xtk xto xwa xmn) := hD
                      refine lv_if_eq (tgt := 190) hx hb d_MD_go_158 (by decide) (fun c_90 => ?_) (fun c_90 => ?_)
                      · refine lv_iconst (v := 0) hx hb d_MD_go_190 (by decide) ?_
                        refine lv_istore (lv' := [(5, .int 0), (7, .int (xB ((0 + (32 * u_88)) + 1))), (6, .int (nI (0 + (32 * u_88)))), (0, .ref (q 0)), (1, .int (nI ro)), (2, .int 0), (3, .int vp), (4, .int vmo)]) hx hb d_MD_go_191 hl (by decide) rfl (fun ls hl => ?_)
                        refine lv_iconst (v := 0) hx hb d_MD_go_193 (by decide) ?_
                        refine lv_istore (lv' := [(8, .int 0), (5, .int 0), (7, .int (xB ((0 + (32 * u_88)) + 1))), (6, .int (nI (0 + (32 * u_88)))), (0, .ref (q 0)), (1, .int (nI ro)), (2, .int 0), (3, .int vp), (4, .int vmo)]) hx hb d_MD_go_194 hl (by decide) rfl (fun ls hl => ?_)
                        refine lv_iload hx hb d_MD_go_196 (lv_at hl 0 rfl) ?_
                        refine lv_iload hx hb d_MD_go_198 (lv_at hl 2 rfl) ?_
                        refine lv_icmp_ge (tgt := 245) hx hb d_MD_go_200 (by decide) (fun c_91 => ?_) (fun c_91 => ?_)
                        · refine lv_iload hx hb d_MD_go_245 (lv_at hl 1 rfl) ?_
                          refine lv_if_eq (tgt := 268) hx hb d_MD_go_247 (by decide) (fun c_92 => ?_) (fun c_92 => absurd (by decide) c_92)
                          refine lv_aload_n hx hb d_MD_go_268 rfl (lv_at hl 4 rfl) ?_
                          refine va_get (D := D) (ci := 3) (v := .ref (q 1)) (C := R_MD) (T := F_MD) (N := 15) hx hb hts i_MD hown hK hP 0 rfl rfl 1 (by decide) (hts _ wd_576) (fun _ h9 => h9) rfl d_MD_go_269 ?_
                          refine lv_iload hx hb d_MD_go_272 (lv_at hl 3 rfl) ?_
                          refine va_iald hx hb hK hP 1 0 rfl rfl (show vp_in (nI (0 + (32 * u_88))) 1360 from vp_in_nI (n := (0 + (32 * u_88))) (by omega) (by omega)) d_MD_go_274 ?_
                          rw [show ((nI (0 + (32 * u_88))) : Int32).toNatClampNeg = (0 + (32 * u_88)) from nI_clamp (n := (0 + (32 * u_88))) (by omega)]
                          refine lv_iconst (v := 1) hx hb d_MD_go_275 (by decide) ?_
                          refine lv_isub hx hb d_MD_go_276 ?_
                          refine lv_istore_n (lv' := [(3, .int ((xB (0 + (32 * u_88))) - 1)), (8, .int 0), (5, .int 0), (7, .int (xB ((0 + (32 * u_88)) + 1))), (6, .int (nI (0 + (32 * u_88)))), (0, .ref (q 0)), (1, .int (nI ro)), (2, .int 0), (4, .int vmo)]) hx hb d_MD_go_277 rfl hl (by decide) rfl (fun ls hl => ?_)
                          refine lv_goto (tgt := 79) hx hb d_MD_go_278 (by decide) ?_
                          exact ih79 (k + 1) 0 ((xB (0 + (32 * u_88))) - 1) vmo (upd vpa k vp) vw vhe hn (by omega) (by omega) (by omega) (by rw [← heq79]; simp only [f_MD_go_l79_0, ← hu_1, ← hu_3, ← hu_76, ← hu_85, ← hu_88, ← hu_89, eq_false c_77, eq_false c_79, eq_false c_81, eq_false c_83, eq_true c_86, eq_true c_90, eq_true c_91, ↓reduceIte]) _ _ hP hD hS ls (lv_sub hl [5, 6, 7, 0, 8, 2] rfl)
                        · refine lv_iload hx hb d_MD_go_203 (lv_at hl 1 rfl) ?_
                          refine lv_if_eq (tgt := 245) hx hb d_MD_go_205 (by decide) (fun c_93 => ?_) (fun c_93 => absurd (by decide) c_93)
                          refine lv_iload hx hb d_MD_go_245 (lv_at hl 1 rfl) ?_
                          refine lv_if_eq (tgt := 268) hx hb d_MD_go_247 (by decide) (fun c_94 => ?_) (fun c_94 => absurd (by decide) c_94)
                          refine lv_aload_n hx hb d_MD_go_268 rfl (lv_at hl 4 rfl) ?_
                          refine va_get (D := D) (ci := 3) (v := .ref (q 1)) (C := R_MD) (T := F_MD) (N := 15) hx hb hts i_MD hown hK hP 0 rfl rfl 1 (by decide) (hts _ wd_576) (fun _ h9 => h9) rfl d_MD_go_269 ?_
                          refine lv_iload hx hb d_MD_go_272 (lv_at hl 3 rfl) ?_
                          refine va_iald hx hb hK hP 1 0 rfl rfl (show vp_in (nI (0 + (32 * u_88))) 1360 from vp_in_nI (n := (0 + (32 * u_88))) (by omega) (by omega)) d_MD_go_274 ?_
                          rw [show ((nI (0 + (32 * u_88))) : Int32).toNatClampNeg = (0 + (32 * u_88)) from nI_clamp (n := (0 + (32 * u_88))) (by omega)]
                          refine lv_iconst (v := 1) hx hb d_MD_go_275 (by decide) ?_
                          refine lv_isub hx hb d_MD_go_276 ?_
                          refine lv_istore_n (lv' := [(3, .int ((xB (0 + (32 * u_88))) - 1)), (8, .int 0), (5, .int 0), (7, .int (xB ((0 + (32 * u_88)) + 1))), (6, .int (nI (0 + (32 * u_88)))), (0, .ref (q 0)), (1, .int (nI ro)), (2, .int 0), (4, .int vmo)]) hx hb d_MD_go_277 rfl hl (by decide) rfl (fun ls hl => ?_)
                          refine lv_goto (tgt := 79) hx hb d_MD_go_278 (by decide) ?_
                          exact ih79 (k + 1) 0 ((xB (0 + (32 * u_88))) - 1) vmo (upd vpa k vp) vw vhe hn (by omega) (by omega) (by omega) (by rw [← heq79]; simp only [f_MD_go_l79_0, ← hu_1, ← hu_3, ← hu_76, ← hu_85, ← hu_88, ← hu_89, eq_false c_77, eq_false c_79, eq_false c_81, eq_false c_83, eq_true c_86, eq_true c_90, eq_false c_91, ↓reduceIte]) _ _ hP hD hS ls (lv_sub hl [5, 6, 7, 0, 8, 2] rfl)
                      · refine lv_iload hx hb d_MD_go_161 (lv_at hl 0 rfl) ?_
                        refine lv_iconst (v := 1) hx hb d_MD_go_163 (by decide) ?_
                        refine lv_bipush (v := 25) hx hb d_MD_go_164 (by decide) ?_
                        refine sf_callSr (S := Int32) (rest := []) ⟨hx, hb, hml, hown, hts⟩ (c_MD_in l D cI cZ cJ (xB ((0 + (32 * u_88)) + 1)) 1 25) (sf_cwS lk_MD_44 hts (fun _ h => h) (by rw [hR]; exact ⟨Nat.le_of_ble_eq_true rfl, Nat.le_of_ble_eq_true rfl⟩)) hK hP hD hS hA [] rfl rfl (fun _ => rfl) rfl rfl hl.1 (Nat.le_of_ble_eq_true rfl) d_MD_go_166 ⟨Nat.zero_le _, Nat.zero_le _⟩ (fun u_95 H locs hu_95 hP hS => ?_)
                        refine lv_if_eq (tgt := 190) hx hb d_MD_go_169 (by decide) (fun c_96 => ?_) (fun c_96 => ?_)
                        · refine lv_iconst (v := 0) hx hb d_MD_go_190 (by decide) ?_
                          refine lv_istore (lv' := [(5, .int 0), (7, .int (xB ((0 + (32 * u_88)) + 1))), (6, .int (nI (0 + (32 * u_88)))), (0, .ref (q 0)), (1, .int (nI ro)), (2, .int 0), (3, .int vp), (4, .int vmo)]) hx hb d_MD_go_191 hl (by decide) rfl (fun ls hl => ?_)
                          refine lv_iconst (v := 0) hx hb d_MD_go_193 (by decide) ?_
                          refine lv_istore (lv' := [(8, .int 0), (5, .int 0), (7, .int (xB ((0 + (32 * u_88)) + 1))), (6, .int (nI (0 + (32 * u_88)))), (0, .ref (q 0)), (1, .int (nI ro)), (2, .int 0), (3, .int vp), (4, .int vmo)]) hx hb d_MD_go_194 hl (by decide) rfl (fun ls hl => ?_)
                          refine lv_iload hx hb d_MD_go_196 (lv_at hl 0 rfl) ?_
                          refine lv_iload hx hb d_MD_go_198 (lv_at hl 2 rfl) ?_
                          refine lv_icmp_ge (tgt := 245) hx hb d_MD_go_200 (by decide) (fun c_97 => ?_) (fun c_97 => ?_)
                          · refine lv_iload hx hb d_MD_go_245 (lv_at hl 1 rfl) ?_
                            refine lv_if_eq (tgt := 268) hx hb d_MD_go_247 (by decide) (fun c_98 => ?_) (fun c_98 => absurd (by decide) c_98)
                            refine lv_aload_n hx hb d_MD_go_268 rfl (lv_at hl 4 rfl) ?_
                            refine va_get (D := D) (ci := 3) (v := .ref (q 1)) (C := R_MD) (T := F_MD) (N := 15) hx hb hts i_MD hown hK hP 0 rfl rfl 1 (by decide) (hts _ wd_576) (fun _ h9 => h9) rfl d_MD_go_269 ?_
                            refine lv_iload hx hb d_MD_go_272 (lv_at hl 3 rfl) ?_
                            refine va_iald hx hb hK hP 1 0 rfl rfl (show vp_in (nI (0 + (32 * u_88))) 1360 from vp_in_nI (n := (0 + (32 * u_88))) (by omega) (by omega)) d_MD_go_274 ?_
                            rw [show ((nI (0 + (32 * u_88))) : Int32).toNatClampNeg = (0 + (32 * u_88)) from nI_clamp (n := (0 + (32 * u_88))) (by omega)]
                            refine lv_iconst (v := 1) hx hb d_MD_go_275 (by decide) ?_
                            refine lv_isub hx hb d_MD_go_276 ?_
                            refine lv_istore_n (lv' := [(3, .int ((xB (0 + (32 * u_88))) - 1)), (8, .int 0), (5, .int 0), (7, .int (xB ((0 + (32 * u_88)) + 1))), (6, .int (nI (0 + (32 * u_88)))), (0, .ref (q 0)), (1, .int (nI ro)), (2, .int 0), (4, .int vmo)]) hx hb d_MD_go_277 rfl hl (by decide) rfl (fun ls hl => ?_)
                            refine lv_goto (tgt := 79) hx hb d_MD_go_278 (by decide) ?_
                            exact ih79 (k + 1) 0 ((xB (0 + (32 * u_88))) - 1) vmo (upd vpa k vp) vw vhe hn (by omega) (by omega) (by omega) (by rw [← heq79]; simp only [f_MD_go_l79_0, ← hu_1, ← hu_3, ← hu_76, ← hu_85, ← hu_88, ← hu_89, ← hu_95, eq_false c_77, eq_false c_79, eq_false c_81, eq_false c_83, eq_true c_86, eq_false c_90, eq_true c_96, eq_true c_97, ↓reduceIte]) _ _ hP hD hS ls (lv_sub hl [5, 6, 7, 0, 8, 2] rfl)
                          · refine lv_iload hx hb d_MD_go_203 (lv_at hl 1 rfl) ?_
                            refine lv_if_eq (tgt := 245) hx hb d_MD_go_205 (by decide) (fun c_99 => ?_) (fun c_99 => absurd (by decide) c_99)
                            refine lv_iload hx hb d_MD_go_245 (lv_at hl 1 rfl) ?_
                            refine lv_if_eq (tgt := 268) hx hb d_MD_go_247 (by decide) (fun c_100 => ?_) (fun c_100 => absurd (by decide) c_100)
                            refine lv_aload_n hx hb d_MD_go_268 rfl (lv_at hl 4 rfl) ?_
                            refine va_get (D := D) (ci := 3) (v := .ref (q 1)) (C := R_MD) (T := F_MD) (N := 15) hx hb hts i_MD hown hK hP 0 rfl rfl 1 (by decide) (hts _ wd_576) (fun _ h9 => h9) rfl d_MD_go_269 ?_
                            refine lv_iload hx hb d_MD_go_272 (lv_at hl 3 rfl) ?_
                            refine va_iald hx hb hK hP 1 0 rfl rfl (show vp_in (nI (0 + (32 * u_88))) 1360 from vp_in_nI (n := (0 + (32 * u_88))) (by omega) (by omega)) d_MD_go_274 ?_
                            rw [show ((nI (0 + (32 * u_88))) : Int32).toNatClampNeg = (0 + (32 * u_88)) from nI_clamp (n := (0 + (32 * u_88))) (by omega)]
                            refine lv_iconst (v := 1) hx hb d_MD_go_275 (by decide) ?_
                            refine lv_isub hx hb d_MD_go_276 ?_
                            refine lv_istore_n (lv' := [(3, .int ((xB (0 + (32 * u_88))) - 1)), (8, .int 0), (5, .int 0), (7, .int (xB ((0 + (32 * u_88)) + 1))), (6, .int (nI (0 + (32 * u_88)))), (0, .ref (q 0)), (1, .int (nI ro)), (2, .int 0), (4, .int vmo)]) hx hb d_MD_go_277 rfl hl (by decide) rfl (fun ls hl => ?_)
                            refine lv_goto (tgt := 79) hx hb d_MD_go_278 (by decide) ?_
                            exact ih79 (k + 1) 0 ((xB (0 + (32 * u_88))) - 1) vmo (upd vpa k vp) vw vhe hn (by omega) (by omega) (by omega) (by rw [← heq79]; simp only [f_MD_go_l79_0, ← hu_1, ← hu_3, ← hu_76, ← hu_85, ← hu_88, ← hu_89, ← hu_95, eq_false c_77, eq_false c_79, eq_false c_81, eq_false c_83, eq_true c_86, eq_false c_90, eq_true c_96, eq_false c_97, ↓reduceIte]) _ _ hP hD hS ls (lv_sub hl [5, 6, 7, 0, 8, 2] rfl)
                        · refine lv_aload_n hx hb d_MD_go_172 rfl (lv_at hl 2 rfl) ?_
                          refine va_get (D := D) (ci := 3) (v := .ref (q 1)) (C := R_MD) (T := F_MD) (N := 15) hx hb hts i_MD hown hK hP 0 rfl rfl 1 (by decide) (hts _ wd_576) (fun _ h9 => h9) rfl d_MD_go_173 ?_
                          refine lv_iload hx hb d_MD_go_176 (lv_at hl 1 rfl) ?_
                          refine lv_iconst (v := 2) hx hb d_MD_go_178 (by decide) ?_
                          refine lv_iadd hx hb d_MD_go_179 ?_
                          rw [show (((nI (0 + (32 * u_88))) + 2) : Int32) = (nI ((0 + (32 * u_88)) + 2)) from nI_add (0 + (32 * u_88)) 2]
                          refine va_iald hx hb hK hP 1 0 rfl rfl (show vp_in (nI ((0 + (32 * u_88)) + 2)) 1360 from vp_in_nI (n := ((0 + (32 * u_88)) + 2)) (by omega) (by omega)) d_MD_go_180 ?_
                          rw [show ((nI ((0 + (32 * u_88)) + 2)) : Int32).toNatClampNeg = ((0 + (32 * u_88)) + 2) from nI_clamp (n := ((0 + (32 * u_88)) + 2)) (by omega)]
                          refine lv_iload hx hb d_MD_go_181 (lv_at hl 6 rfl) ?_
                          refine lv_icmp_ne (tgt := 190) hx hb d_MD_go_183 (by decide) (fun c_101 => ?_) (fun c_101 => ?_)
                          · refine lv_iconst (v := 0) hx hb d_MD_go_190 (by decide) ?_
                            refine lv_istore (lv' := [(5, .int 0), (7, .int (xB ((0 + (32 * u_88)) + 1))), (6, .int (nI (0 + (32 * u_88)))), (0, .ref (q 0)), (1, .int (nI ro)), (2, .int 0), (3, .int vp), (4, .int vmo)]) hx hb d_MD_go_191 hl (by decide) rfl (fun ls hl => ?_)
                            refine lv_iconst (v := 0) hx hb d_MD_go_193 (by decide) ?_
                            refine lv_istore (lv' := [(8, .int 0), (5, .int 0), (7, .int (xB ((0 + (32 * u_88)) + 1))), (6, .int (nI (0 + (32 * u_88)))), (0, .ref (q 0)), (1, .int (nI ro)), (2, .int 0), (3, .int vp), (4, .int vmo)]) hx hb d_MD_go_194 hl (by decide) rfl (fun ls hl => ?_)
                            refine lv_iload hx hb d_MD_go_196 (lv_at hl 0 rfl) ?_
                            refine lv_iload hx hb d_MD_go_198 (lv_at hl 2 rfl) ?_
                            refine lv_icmp_ge (tgt := 245) hx hb d_MD_go_200 (by decide) (fun c_102 => ?_) (fun c_102 => ?_)
                            · refine lv_iload hx hb d_MD_go_245 (lv_at hl 1 rfl) ?_
                              refine lv_if_eq (tgt := 268) hx hb d_MD_go_247 (by decide) (fun c_103 => ?_) (fun c_103 => absurd (by decide) c_103)
                              refine lv_aload_n hx hb d_MD_go_268 rfl (lv_at hl 4 rfl) ?_
                              refine va_get (D := D) (ci := 3) (v := .ref (q 1)) (C := R_MD) (T := F_MD) (N := 15) hx hb hts i_MD hown hK hP 0 rfl rfl 1 (by decide) (hts _ wd_576) (fun _ h9 => h9) rfl d_MD_go_269 ?_
                              refine lv_iload hx hb d_MD_go_272 (lv_at hl 3 rfl) ?_
                              refine va_iald hx hb hK hP 1 0 rfl rfl (show vp_in (nI (0 + (32 * u_88))) 1360 from vp_in_nI (n := (0 + (32 * u_88))) (by omega) (by omega)) d_MD_go_274 ?_
                              rw [show ((nI (0 + (32 * u_88))) : Int32).toNatClampNeg = (0 + (32 * u_88)) from nI_clamp (n := (0 + (32 * u_88))) (by omega)]
                              refine lv_iconst (v := 1) hx hb d_MD_go_275 (by decide) ?_
                              refine lv_isub hx hb d_MD_go_276 ?_
                              refine lv_istore_n (lv' := [(3, .int ((xB (0 + (32 * u_88))) - 1)), (8, .int 0), (5, .int 0), (7, .int (xB ((0 + (32 * u_88)) + 1))), (6, .int (nI (0 + (32 * u_88)))), (0, .ref (q 0)), (1, .int (nI ro)), (2, .int 0), (4, .int vmo)]) hx hb d_MD_go_277 rfl hl (by decide) rfl (fun ls hl => ?_)
                              refine lv_goto (tgt := 79) hx hb d_MD_go_278 (by decide) ?_
                              exact ih79 (k + 1) 0 ((xB (0 + (32 * u_88))) - 1) vmo (upd vpa k vp) vw vhe hn (by omega) (by omega) (by omega) (by rw [← heq79]; simp only [f_MD_go_l79_0, ← hu_1, ← hu_3, ← hu_76, ← hu_85, ← hu_88, ← hu_89, ← hu_95, eq_false c_77, eq_false c_79, eq_false c_81, eq_false c_83, eq_true c_86, eq_false c_90, eq_false c_96, eq_false c_101, eq_true c_102, ↓reduceIte]) _ _ hP hD hS ls (lv_sub hl [5, 6, 7, 0, 8, 2] rfl)
                            · refine lv_iload hx hb d_MD_go_203 (lv_at hl 1 rfl) ?_
                              refine lv_if_eq (tgt := 245) hx hb d_MD_go_205 (by decide) (fun c_104 => ?_) (fun c_104 => absurd (by decide) c_104)
                              refine lv_iload hx hb d_MD_go_245 (lv_at hl 1 rfl) ?_
                              refine lv_if_eq (tgt := 268) hx hb d_MD_go_247 (by decide) (fun c_105 => ?_) (fun c_105 => absurd (by decide) c_105)
                              refine lv_aload_n hx hb d_MD_go_268 rfl (lv_at hl 4 rfl) ?_
                              refine va_get (D := D) (ci := 3) (v := .ref (q 1)) (C := R_MD) (T := F_MD) (N := 15) hx hb hts i_MD hown hK hP 0 rfl rfl 1 (by decide) (hts _ wd_576) (fun _ h9 => h9) rfl d_MD_go_269 ?_
                              refine lv_iload hx hb d_MD_go_272 (lv_at hl 3 rfl) ?_
                              refine va_iald hx hb hK hP 1 0 rfl rfl (show vp_in (nI (0 + (32 * u_88))) 1360 from vp_in_nI (n := (0 + (32 * u_88))) (by omega) (by omega)) d_MD_go_274 ?_
                              rw [show ((nI (0 + (32 * u_88))) : Int32).toNatClampNeg = (0 + (32 * u_88)) from nI_clamp (n := (0 + (32 * u_88))) (by omega)]
                              refine lv_iconst (v := 1) hx hb d_MD_go_275 (by decide) ?_
                              refine lv_isub hx hb d_MD_go_276 ?_
                              refine lv_istore_n (lv' := [(3, .int ((xB (0 + (32 * u_88))) - 1)), (8, .int 0), (5, .int 0), (7, .int (xB ((0 + (32 * u_88)) + 1))), (6, .int (nI (0 + (32 * u_88)))), (0, .ref (q 0)), (1, .int (nI ro)), (2, .int 0), (4, .int vmo)]) hx hb d_MD_go_277 rfl hl (by decide) rfl (fun ls hl => ?_)
                              refine lv_goto (tgt := 79) hx hb d_MD_go_278 (by decide) ?_
                              exact ih79 (k + 1) 0 ((xB (0 + (32 * u_88))) - 1) vmo (upd vpa k vp) vw vhe hn (by omega) (by omega) (by omega) (by rw [← heq79]; simp only [f_MD_go_l79_0, ← hu_1, ← hu_3, ← hu_76, ← hu_85, ← hu_88, ← hu_89, ← hu_95, eq_false c_77, eq_false c_79, eq_false c_81, eq_false c_83, eq_true c_86, eq_false c_90, eq_false c_96, eq_false c_101, eq_false c_102, ↓reduceIte]) _ _ hP hD hS ls (lv_sub hl [5, 6, 7, 0, 8, 2] rfl)
                          · refine lv_iconst (v := 1) hx hb d_MD_go_186 (by decide) ?_
                            refine lv_goto (tgt := 191) hx hb d_MD_go_187 (by decide) ?_
                            refine lv_istore (lv' := [(5, .int 1), (7, .int (xB ((0 + (32 * u_88)) + 1))), (6, .int (nI (0 + (32 * u_88)))), (0, .ref (q 0)), (1, .int (nI ro)), (2, .int 0), (3, .int vp), (4, .int vmo)]) hx hb d_MD_go_191 hl (by decide) rfl (fun ls hl => ?_)
                            obtain ⟨u_106, hu_106⟩ : ∃ z, z = (xB ((0 + (32 * u_88)) + 1)).toNatClampNeg := ⟨_, rfl⟩
                            obtain ⟨he_u_106, ha_u_106, hb_u_106⟩ := sf_natn hu_106 (by rw [← hu_95]; exact c_96)
                            rw [he_u_106] at hl
                            refine lv_iconst (v := 0) hx hb d_MD_go_193 (by decide) ?_
                            refine lv_istore (lv' := [(8, .int 0), (5, .int 1), (7, .int (nI u_106)), (6, .int (nI (0 + (32 * u_88)))), (0, .ref (q 0)), (1, .int (nI ro)), (2, .int 0), (3, .int vp), (4, .int vmo)]) hx hb d_MD_go_194 hl (by decide) rfl (fun ls hl => ?_)
                            obtain ⟨u_107, hu_107⟩ : ∃ z, z = (f_MD_go_l196_0 xB vp hn (u_106 + 1) 0 vhe) := ⟨_, rfl⟩
                            have loop196 : ∀ (fukk kk : Nat) (xh : (Nat → Int32)), kk ≤ u_106 → kk + fukk = u_106 + 1 → f_MD_go_l196_0 xB vp hn fukk kk xh = u_107 → ∀ (H : Heap) (locs : List Loc), va_P D classes (md_w q cI cZ xth xB xsh xcu xtp xtd (upd vpa k vp) (nI (k + 1)) vw xh (nI (hn + kk)) xtk xto xwa xmn) H → va_D A (md_w q cI cZ xth xB xsh xcu xtp xtd (upd vpa k vp) (nI (k + 1)) vw xh (nI (hn + kk)) xtk xto xwa xmn) → va_S A s.heap H locs → ∀ (ls : Array Slot), lv_has ls 9 [(0, .ref (q 0)), (1, .int (nI ro)), (2, .int 0), (3, .int vp), (4, .int vmo), (5, .int 1), (6, .int (nI (0 + (32 * u_88)))), (7, .int (nI u_106)), (8, .int (nI kk))] → W p l e R s m args below meth c H locs 0 0 Q (F0 m 196 ls []) := by
                              intro fukk
                              induction fukk with
                              | zero =>
                                intro kk xh h1 h2
                                exact absurd h2 (by omega)
                              | succ fukk ih196 =>
                                intro kk xh hk196 hkn196 heq196 H locs hP hD hS ls hl
                                refine lv_iload hx hb d_MD_go_196 (lv_at hl 8 rfl) ?_
                                refine lv_iload hx hb d_MD_go_198 (lv_at hl 7 rfl) ?_
                                refine lv_icmp_ge (tgt := 245) hx hb d_MD_go_200 (by decide) (fun c_108 => ?_) (fun c_108 => ?_)
                                · skip
                                  have hv196 : xh = u_107 := by rw [← heq196]; simp only [f_MD_go_l196_0, ← hu_1, ← hu_3, ← hu_76, ← hu_85, ← hu_88, ← hu_89, ← hu_95, ← hu_106, eq_true c_108, ↓reduceIte]
                                  have hv196_0 : xh = u_107 := hv196
                                  rw [hv196_0] at hP hD
                                  have hke196 : kk = u_106 := sf_eq_of (N := u_106) (by omega) (by omega) hk196 c_108
                                  try rw [hke196] at hP
                                  try rw [hke196] at hD
                                  try rw [hke196] at hl
                                  refine lv_iload hx hb d_MD_go_245 (lv_at hl 5 rfl) ?_
                                  refine lv_if_eq (tgt := 268) hx hb d_MD_go_247 (by decide) (fun c_110 => absurd c_110 (by decide)) (fun c_110 => ?_)
                                  refine lv_aload_n hx hb d_MD_go_250 rfl (lv_at hl 0 rfl) ?_
                                  refine va_get (D := D) (ci := 3) (v := .ref (q 1)) (C := R_MD) (T := F_MD) (N := 15) hx hb hts i_MD hown hK hP 0 rfl rfl 1 (by decide) (hts _ wd_576) (fun _ h9 => h9) rfl d_MD_go_251 ?_
                                  refine lv_iload hx hb d_MD_go_254 (lv_at hl 6 rfl) ?_
                                  refine va_iald hx hb hK hP 1 0 rfl rfl (show vp_in (nI (0 + (32 * u_88))) 1360 from vp_in_nI (n := (0 + (32 * u_88))) (by omega) (by omega)) d_MD_go_256 ?_
                                  rw [show ((nI (0 + (32 * u_88))) : Int32).toNatClampNeg = (0 + (32 * u_88)) from nI_clamp (n := (0 + (32 * u_88))) (by omega)]
                                  refine lv_if_ne (tgt := 268) hx hb d_MD_go_257 (by decide) (fun c_111 => ?_) (fun c_111 => ?_)
                                  · refine lv_aload_n hx hb d_MD_go_268 rfl (lv_at hl 0 rfl) ?_
                                    refine va_get (D := D) (ci := 3) (v := .ref (q 1)) (C := R_MD) (T := F_MD) (N := 15) hx hb hts i_MD hown hK hP 0 rfl rfl 1 (by decide) (hts _ wd_576) (fun _ h9 => h9) rfl d_MD_go_269 ?_
                                    refine lv_iload hx hb d_MD_go_272 (lv_at hl 6 rfl) ?_
                                    refine va_iald hx hb hK hP 1 0 rfl rfl (show vp_in (nI (0 + (32 * u_88))) 1360 from vp_in_nI (n := (0 + (32 * u_88))) (by omega) (by omega)) d_MD_go_274 ?_
                                    rw [show ((nI (0 + (32 * u_88))) : Int32).toNatClampNeg = (0 + (32 * u_88)) from nI_clamp (n := (0 + (32 * u_88))) (by omega)]
                                    refine lv_iconst (v := 1) hx hb d_MD_go_275 (by decide) ?_
                                    refine lv_isub hx hb d_MD_go_276 ?_
                                    refine lv_istore_n (lv' := [(3, .int ((xB (0 + (32 * u_88))) - 1)), (0, .ref (q 0)), (1, .int (nI ro)), (2, .int 0), (4, .int vmo), (5, .int 1), (6, .int (nI (0 + (32 * u_88)))), (7, .int (nI u_106)), (8, .int (nI u_106))]) hx hb d_MD_go_277 rfl hl (by decide) rfl (fun ls hl => ?_)
                                    refine lv_goto (tgt := 79) hx hb d_MD_go_278 (by decide) ?_
                                    exact ih79 (k + 1) 1 ((xB (0 + (32 * u_88))) - 1) vmo (upd vpa k vp) vw u_107 (hn + u_106) (by omega) (by omega) (by omega) (by rw [← heq79]; simp only [f_MD_go_l79_0, ← hu_1, ← hu_3, ← hu_76, ← hu_85, ← hu_88, ← hu_89, ← hu_95, ← hu_106, ← hu_107, eq_false c_77, eq_false c_79, eq_false c_81, eq_false c_83, eq_true c_86, eq_false c_90, eq_false c_96, eq_true c_101, eq_false c_111, ↓reduceIte]) _ _ hP hD hS ls (lv_sub hl [1, 2, 3, 0, 4, 5] rfl)
                                  · refine lv_aload_n hx hb d_MD_go_260 rfl (lv_at hl 0 rfl) ?_
                                    refine lv_iconst (v := 1) hx hb d_MD_go_261 (by decide) ?_
                                    refine va_put (D := D) (ci := 3) (v := .int 1) (ty := .boolean) (C := R_MD) (T := F_MD) (N := 15) hx hb hts i_MD t_MD t_MD_ok n_MD hown hK hP hD hS 0 rfl rfl 8 (by decide) (hts _ wd_583) (fun _ h9 => h9) rfl (by decide +kernel) (sf_bp1).1 (sf_bp1).2 (Nat.le_of_ble_eq_true rfl) d_MD_go_262 (fun H locs hP hD hS => ?_)
                                    have hP : va_P D classes (md_w q cI cZ xth xB xsh xcu xtp xtd (upd vpa k vp) (nI (k + 1)) 1 u_107 (nI (hn + u_106)) xtk xto xwa xmn) H := hP
                                    have hD : va_D A (md_w q cI cZ xth xB xsh xcu xtp xtd (upd vpa k vp) (nI (k + 1)) 1 u_107 (nI (hn + u_106)) xtk xto xwa xmn) := hD
                                    refine lv_iconst (v := 0) hx hb d_MD_go_265 (by decide) ?_
                                    refine lv_istore (lv' := [(5, .int 0), (0, .ref (q 0)), (1, .int (nI ro)), (2, .int 0), (3, .int vp), (4, .int vmo), (6, .int (nI (0 + (32 * u_88)))), (7, .int (nI u_106)), (8, .int (nI u_106))]) hx hb d_MD_go_266 hl (by decide) rfl (fun ls hl => ?_)
                                    refine lv_aload_n hx hb d_MD_go_268 rfl (lv_at hl 1 rfl) ?_
                                    refine va_get (D := D) (ci := 3) (v := .ref (q 1)) (C := R_MD) (T := F_MD) (N := 15) hx hb hts i_MD hown hK hP 0 rfl rfl 1 (by decide) (hts _ wd_576) (fun _ h9 => h9) rfl d_MD_go_269 ?_
                                    refine lv_iload hx hb d_MD_go_272 (lv_at hl 6 rfl) ?_
                                    refine va_iald hx hb hK hP 1 0 rfl rfl (show vp_in (nI (0 + (32 * u_88))) 1360 from vp_in_nI (n := (0 + (32 * u_88))) (by omega) (by omega)) d_MD_go_274 ?_
                                    rw [show ((nI (0 + (32 * u_88))) : Int32).toNatClampNeg = (0 + (32 * u_88)) from nI_clamp (n := (0 + (32 * u_88))) (by omega)]
                                    refine lv_iconst (v := 1) hx hb d_MD_go_275 (by decide) ?_
                                    refine lv_isub hx hb d_MD_go_276 ?_
                                    refine lv_istore_n (lv' := [(3, .int ((xB (0 + (32 * u_88))) - 1)), (5, .int 0), (0, .ref (q 0)), (1, .int (nI ro)), (2, .int 0), (4, .int vmo), (6, .int (nI (0 + (32 * u_88)))), (7, .int (nI u_106)), (8, .int (nI u_106))]) hx hb d_MD_go_277 rfl hl (by decide) rfl (fun ls hl => ?_)
                                    refine lv_goto (tgt := 79) hx hb d_MD_go_278 (by decide) ?_
                                    exact ih79 (k + 1) 0 ((xB (0 + (32 * u_88))) - 1) vmo (upd vpa k vp) 1 u_107 (hn + u_106) (by omega) (by omega) (by omega) (by rw [← heq79]; simp only [f_MD_go_l79_0, ← hu_1, ← hu_3, ← hu_76, ← hu_85, ← hu_88, ← hu_89, ← hu_95, ← hu_106, ← hu_107, eq_false c_77, eq_false c_79, eq_false c_81, eq_false c_83, eq_true c_86, eq_false c_90, eq_false c_96, eq_true c_101, eq_true c_111, ↓reduceIte]) _ _ hP hD hS ls (lv_sub hl [2, 3, 4, 0, 5, 1] rfl)
                                · have hlt : kk < u_106 := sf_lt_of (N := u_106) (by omega) (by omega) c_108
                                  refine lv_iload hx hb d_MD_go_203 (lv_at hl 5 rfl) ?_
                                  refine lv_if_eq (tgt := 245) hx hb d_MD_go_205 (by decide) (fun c_109 => absurd c_109 (by decide)) (fun c_109 => ?_)
                                  refine lv_aload_n hx hb d_MD_go_208 rfl (lv_at hl 0 rfl) ?_
                                  refine va_get (D := D) (ci := 3) (v := .ref (q 4)) (C := R_MD) (T := F_MD) (N := 15) hx hb hts i_MD hown hK hP 0 rfl rfl 9 (by decide) (hts _ wd_584) (fun _ h9 => h9) rfl d_MD_go_209 ?_
                                  refine lv_aload_n hx hb d_MD_go_212 rfl (lv_at hl 0 rfl) ?_
                                  refine va_get (D := D) (ci := 3) (v := .int (nI (hn + kk))) (C := R_MD) (T := F_MD) (N := 15) hx hb hts i_MD hown hK hP 0 rfl rfl 10 (by decide) (hts _ wd_585) (fun _ h9 => h9) rfl d_MD_go_213 ?_
                                  refine lv_aload_n hx hb d_MD_go_216 rfl (lv_at hl 0 rfl) ?_
                                  refine va_get (D := D) (ci := 3) (v := .ref (q 1)) (C := R_MD) (T := F_MD) (N := 15) hx hb hts i_MD hown hK hP 0 rfl rfl 1 (by decide) (hts _ wd_576) (fun _ h9 => h9) rfl d_MD_go_217 ?_
                                  refine lv_iload hx hb d_MD_go_220 (lv_at hl 6 rfl) ?_
                                  refine lv_iconst (v := 3) hx hb d_MD_go_222 (by decide) ?_
                                  refine lv_iadd hx hb d_MD_go_223 ?_
                                  rw [show (((nI (0 + (32 * u_88))) + 3) : Int32) = (nI ((0 + (32 * u_88)) + 3)) from nI_add (0 + (32 * u_88)) 3]
                                  refine lv_iload hx hb d_MD_go_224 (lv_at hl 8 rfl) ?_
                                  refine lv_iadd hx hb d_MD_go_226 ?_
                                  rw [show (((nI ((0 + (32 * u_88)) + 3)) + (nI kk)) : Int32) = (nI (((0 + (32 * u_88)) + 3) + kk)) from nI_add ((0 + (32 * u_88)) + 3) kk]
                                  refine va_iald hx hb hK hP 1 0 rfl rfl (show vp_in (nI (((0 + (32 * u_88)) + 3) + kk)) 1360 from vp_in_nI (n := (((0 + (32 * u_88)) + 3) + kk)) (by omega) (by omega)) d_MD_go_227 ?_
                                  rw [show ((nI (((0 + (32 * u_88)) + 3) + kk)) : Int32).toNatClampNeg = (((0 + (32 * u_88)) + 3) + kk) from nI_clamp (n := (((0 + (32 * u_88)) + 3) + kk)) (by omega)]
                                  refine va_iast hx hb hK hP hD hS 4 0 rfl rfl (show vp_in (nI (hn + kk)) 75 from vp_in_nI (n := (hn + kk)) (by omega) (by omega)) d_MD_go_228 (fun H locs hP hD hS => ?_)
                                  rw [show ((nI (hn + kk)) : Int32).toNatClampNeg = (hn + kk) from nI_clamp (n := (hn + kk)) (by omega)] at hP hD
                                  have hP : va_P D classes (md_w q cI cZ xth xB xsh xcu xtp xtd (upd vpa k vp) (nI (k + 1)) vw (upd xh (hn + kk) (xB (((0 + (32 * u_88)) + 3) + kk))) (nI (hn + kk)) xtk xto xwa xmn) H := hP
                                  have hD : va_D A (md_w q cI cZ xth xB xsh xcu xtp xtd (upd vpa k vp) (nI (k + 1)) vw (upd xh (hn + kk) (xB (((0 + (32 * u_88)) + 3) + kk))) (nI (hn + kk)) xtk xto xwa xmn) := hD
                                  refine lv_aload_n hx hb d_MD_go_229 rfl (lv_at hl 0 rfl) ?_
                                  refine lv_dup hx hb d_MD_go_230 rfl ?_
                                  refine va_get (D := D) (ci := 3) (v := .int (nI (hn + kk))) (C := R_MD) (T := F_MD) (N := 15) hx hb hts i_MD hown hK hP 0 rfl rfl 10 (by decide) (hts _ wd_585) (fun _ h9 => h9) rfl d_MD_go_231 ?_
                                  refine lv_iconst (v := 1) hx hb d_MD_go_234 (by decide) ?_
                                  refine lv_iadd hx hb d_MD_go_235 ?_
                                  rw [show (((nI (hn + kk)) + 1) : Int32) = (nI ((hn + kk) + 1)) from nI_add (hn + kk) 1]
                                  refine va_put (D := D) (ci := 3) (v := .int (nI ((hn + kk) + 1))) (ty := .int) (C := R_MD) (T := F_MD) (N := 15) hx hb hts i_MD t_MD t_MD_ok n_MD hown hK hP hD hS 0 rfl rfl 10 (by decide) (hts _ wd_585) (fun _ h9 => h9) rfl (by decide +kernel) rfl rfl (Nat.le_of_ble_eq_true rfl) d_MD_go_236 (fun H locs hP hD hS => ?_)
                                  have hP : va_P D classes (md_w q cI cZ xth xB xsh xcu xtp xtd (upd vpa k vp) (nI (k + 1)) vw (upd xh (hn + kk) (xB (((0 + (32 * u_88)) + 3) + kk))) (nI ((hn + kk) + 1)) xtk xto xwa xmn) H := hP
                                  have hD : va_D A (md_w q cI cZ xth xB xsh xcu xtp xtd (upd vpa k vp) (nI (k + 1)) vw (upd xh (hn + kk) (xB (((0 + (32 * u_88)) + 3) + kk))) (nI ((hn + kk) + 1)) xtk xto xwa xmn) := hD
                                  refine lv_iinc (v := (nI (kk + 1))) (lv' := [(8, .int (nI (kk + 1))), (0, .ref (q 0)), (1, .int (nI ro)), (2, .int 0), (3, .int vp), (4, .int vmo), (5, .int 1), (6, .int (nI (0 + (32 * u_88)))), (7, .int (nI u_106))]) hx hb d_MD_go_239 hl (k := 8) rfl (nI_1 kk) (by decide) rfl (fun ls hl => ?_)
                                  refine lv_goto (tgt := 196) hx hb d_MD_go_242 (by decide) ?_
                                  exact ih196 (kk + 1) (upd xh (hn + kk) (xB (((0 + (32 * u_88)) + 3) + kk))) (by omega) (by omega) (by rw [← heq196]; simp only [f_MD_go_l196_0, ← hu_1, ← hu_3, ← hu_76, ← hu_85, ← hu_88, ← hu_89, ← hu_95, ← hu_106, eq_false c_108, ↓reduceIte]) _ _ hP hD hS ls (lv_sub hl [1, 2, 3, 4, 5, 6, 7, 8, 0] rfl)
                            exact loop196 (u_106 + 1) 0 vhe (by omega) (by omega) hu_107.symm _ _ hP hD hS ls (lv_sub hl [4, 5, 6, 7, 8, 1, 3, 2, 0] rfl)
        exact loop79 (3 + 1) 0 1 (u_3 - 1) (xB ((0 + (32 * u_76)) + 2)) xpa 0 xhe 0 (by omega) (by omega) (by omega) (by simp only [f_MD_go, ← hu_1, ← hu_3, ← hu_76, eq_true hz0, eq_false c_4, eq_false c_40, ↓reduceIte]) _ _ hP hD hS ls (lv_sub hl [4, 5, 3, 2, 1, 0] rfl)
  · have hz0 : ¬ u_1 = 0 := by rw [hz]; decide
    rw [hz] at hl
    refine lv_iload_n hx hb d_MD_go_6 rfl (lv_at hl 0 rfl) ?_
    refine lv_if_eq (tgt := 21) hx hb d_MD_go_7 (by decide) (fun c_112 => absurd c_112 (by decide)) (fun c_112 => ?_)
    refine lv_aload_n hx hb d_MD_go_10 rfl (lv_at hl 1 rfl) ?_
    refine lv_bipush (v := 13) hx hb d_MD_go_11 (by decide) ?_
    refine lv_iload_n hx hb d_MD_go_13 rfl (lv_at hl 2 rfl) ?_
    refine lv_iadd hx hb d_MD_go_14 ?_
    rw [show ((13 + (nI ro)) : Int32) = (nI (13 + ro)) from nI_add 13 ro]
    refine sf_callVw (S := Int32) (rest := []) ⟨hx, hb, hml, hown, hts⟩ (c_MD_entry l D cI cZ cJ q xth xB xsh xcu xtp xtd xpa xsp xwh xhe xho xtk xto xwa xmn (13 + ro) (by omega)) (sf_cwV lk_MD_64 hts (fun _ h => h) (by rw [hR]; exact ⟨Nat.le_of_ble_eq_true rfl, Nat.le_of_ble_eq_true rfl⟩)) hK hP hD hS hA (fun _ => by simp only [md_w_fst]) (ci := 3) (q0 := 0) rfl rfl rfl rfl rfl hl.1 (Nat.le_of_ble_eq_true rfl) d_MD_go_15 ⟨Nat.zero_le _, Nat.zero_le _⟩ (fun u_113 H locs hu_113 hP hD hS => ?_)
    have hP : va_P D classes (md_w q cI cZ xth xB xsh xcu xtp xtd xpa xsp xwh xhe xho xtk xto xwa xmn) H := hP
    have hD : va_D A (md_w q cI cZ xth xB xsh xcu xtp xtd xpa xsp xwh xhe xho xtk xto xwa xmn) := hD
    refine lv_goto (tgt := 28) hx hb d_MD_go_18 (by decide) ?_
    refine lv_iconst (v := 1) hx hb d_MD_go_28 (by decide) ?_
    refine lv_isub hx hb d_MD_go_29 ?_
    refine lv_istore_n (lv' := [(3, .int (u_113 - 1)), (2, .int 1), (0, .ref (q 0)), (1, .int (nI ro))]) hx hb d_MD_go_30 rfl hl (by decide) rfl (fun ls hl => ?_)
    refine lv_aload_n hx hb d_MD_go_31 rfl (lv_at hl 2 rfl) ?_
    refine lv_iconst (v := 0) hx hb d_MD_go_32 (by decide) ?_
    refine va_put (D := D) (ci := 3) (v := .int 0) (ty := .int) (C := R_MD) (T := F_MD) (N := 15) hx hb hts i_MD t_MD t_MD_ok n_MD hown hK hP hD hS 0 rfl rfl 7 (by decide) (hts _ wd_582) (fun _ h9 => h9) rfl (by decide +kernel) rfl rfl (Nat.le_of_ble_eq_true rfl) d_MD_go_33 (fun H locs hP hD hS => ?_)
    have hP : va_P D classes (md_w q cI cZ xth xB xsh xcu xtp xtd xpa 0 xwh xhe xho xtk xto xwa xmn) H := hP
    have hD : va_D A (md_w q cI cZ xth xB xsh xcu xtp xtd xpa 0 xwh xhe xho xtk xto xwa xmn) := hD
    refine lv_aload_n hx hb d_MD_go_36 rfl (lv_at hl 2 rfl) ?_
    refine lv_iconst (v := 0) hx hb d_MD_go_37 (by decide) ?_
    refine va_put (D := D) (ci := 3) (v := .int 0) (ty := .int) (C := R_MD) (T := F_MD) (N := 15) hx hb hts i_MD t_MD t_MD_ok n_MD hown hK hP hD hS 0 rfl rfl 10 (by decide) (hts _ wd_585) (fun _ h9 => h9) rfl (by decide +kernel) rfl rfl (Nat.le_of_ble_eq_true rfl) d_MD_go_38 (fun H locs hP hD hS => ?_)
    have hP : va_P D classes (md_w q cI cZ xth xB xsh xcu xtp xtd xpa 0 xwh xhe 0 xtk xto xwa xmn) H := hP
    have hD : va_D A (md_w q cI cZ xth xB xsh xcu xtp xtd xpa 0 xwh xhe 0 xtk xto xwa xmn) := hD
    refine lv_aload_n hx hb d_MD_go_41 rfl (lv_at hl 2 rfl) ?_
    refine lv_iconst (v := 0) hx hb d_MD_go_42 (by decide) ?_
    refine va_put (D := D) (ci := 3) (v := .int 0) (ty := .boolean) (C := R_MD) (T := F_MD) (N := 15) hx hb hts i_MD t_MD t_MD_ok n_MD hown hK hP hD hS 0 rfl rfl 8 (by decide) (hts _ wd_583) (fun _ h9 => h9) rfl (by decide +kernel) (sf_bp0).1 (sf_bp0).2 (Nat.le_of_ble_eq_true rfl) d_MD_go_43 (fun H locs hP hD hS => ?_)
    have hP : va_P D classes (md_w q cI cZ xth xB xsh xcu xtp xtd xpa 0 0 xhe 0 xtk xto xwa xmn) H := hP
    have hD : va_D A (md_w q cI cZ xth xB xsh xcu xtp xtd xpa 0 0 xhe 0 xtk xto xwa xmn) := hD
    refine lv_iload_n hx hb d_MD_go_46 rfl (lv_at hl 0 rfl) ?_
    refine lv_if_lt (tgt := 73) hx hb d_MD_go_47 (by decide) (fun c_114 => ?_) (fun c_114 => ?_)
    · refine lv_iconst (v := 0) hx hb d_MD_go_73 (by decide) ?_
      refine lv_istore (lv' := [(4, .int 0), (3, .int (u_113 - 1)), (2, .int 1), (0, .ref (q 0)), (1, .int (nI ro))]) hx hb d_MD_go_74 hl (by decide) rfl (fun ls hl => ?_)
      refine lv_iconst (v := 1) hx hb d_MD_go_76 (by decide) ?_
      refine lv_istore (lv' := [(5, .int 1), (4, .int 0), (3, .int (u_113 - 1)), (2, .int 1), (0, .ref (q 0)), (1, .int (nI ro))]) hx hb d_MD_go_77 hl (by decide) rfl (fun ls hl => ?_)
      have loop79 : ∀ (fu k : Nat) (vg : Int32) (vp : Int32) (vmo : Int32) (vpa : (Nat → Int32)) (vw : Int32) (vhe : (Nat → Int32)) (hn : Nat), k ≤ 3 → k + fu = 3 + 1 → hn ≤ 25 * k → f_MD_go_l79_1 xB fu k vg vp vmo vpa vw vhe hn = f_MD_go xB xpa xhe ro → ∀ (H : Heap) (locs : List Loc), va_P D classes (md_w q cI cZ xth xB xsh xcu xtp xtd vpa (nI k) vw vhe (nI hn) xtk xto xwa xmn) H → va_D A (md_w q cI cZ xth xB xsh xcu xtp xtd vpa (nI k) vw vhe (nI hn) xtk xto xwa xmn) → va_S A s.heap H locs → ∀ (ls : Array Slot), lv_has ls 9 [(0, .ref (q 0)), (1, .int (nI ro)), (2, .int 1), (3, .int vp), (4, .int vmo), (5, .int vg)] → W p l e R s m args below meth c H locs 0 0 Q (F0 m 79 ls []) := by
        intro fu
        induction fu with
        | zero =>
          intro k vg vp vmo vpa vw vhe hn h1 h2
          exact absurd h2 (by omega)
        | succ fu ih79 =>
          intro k vg vp vmo vpa vw vhe hn hk79 hkn79 hi790 heq79 H locs hP hD hS ls hl
          refine lv_iload hx hb d_MD_go_79 (lv_at hl 5 rfl) ?_
          refine lv_if_eq (tgt := 281) hx hb d_MD_go_81 (by decide) (fun c_115 => ?_) (fun c_115 => ?_)
          · refine lv_aload_n hx hb d_MD_go_281 rfl (lv_at hl 0 rfl) ?_
            refine lv_aload_n hx hb d_MD_go_282 rfl (lv_at hl 0 rfl) ?_
            refine va_get (D := D) (ci := 3) (v := .int vw) (C := R_MD) (T := F_MD) (N := 15) hx hb hts i_MD hown hK hP 0 rfl rfl 8 (by decide) (hts _ wd_583) (fun _ h9 => h9) rfl d_MD_go_283 ?_
            refine lv_if_eq (tgt := 296) hx hb d_MD_go_286 (by decide) (fun c_116 => ?_) (fun c_116 => ?_)
            · refine lv_iconst (v := 0) hx hb d_MD_go_296 (by decide) ?_
              refine va_put (D := D) (ci := 3) (v := .int 0) (ty := .int) (C := R_MD) (T := F_MD) (N := 15) hx hb hts i_MD t_MD t_MD_ok n_MD hown hK hP hD hS 0 rfl rfl 10 (by decide) (hts _ wd_585) (fun _ h9 => h9) rfl (by decide +kernel) rfl rfl (Nat.le_of_ble_eq_true rfl) d_MD_go_297 (fun H locs hP hD hS => ?_)
              have hP : va_P D classes (md_w q cI cZ xth xB xsh xcu xtp xtd vpa (nI k) vw vhe 0 xtk xto xwa xmn) H := hP
              have hD : va_D A (md_w q cI cZ xth xB xsh xcu xtp xtd vpa (nI k) vw vhe 0 xtk xto xwa xmn) := hD
              rw [hQ]
              exact sf_vret (vpa, (nI k), vw, vhe, 0) hx hb hr hlk hS rfl (by rw [← heq79]; simp only [f_MD_go_l79_1, ← hu_1, ← hu_113, eq_true c_115, eq_true c_116, ↓reduceIte]) hP d_MD_go_300
            · refine lv_aload_n hx hb d_MD_go_289 rfl (lv_at hl 0 rfl) ?_
              refine va_get (D := D) (ci := 3) (v := .int (nI hn)) (C := R_MD) (T := F_MD) (N := 15) hx hb hts i_MD hown hK hP 0 rfl rfl 10 (by decide) (hts _ wd_585) (fun _ h9 => h9) rfl d_MD_go_290 ?_
              refine lv_goto (tgt := 297) hx hb d_MD_go_293 (by decide) ?_
              refine va_put (D := D) (ci := 3) (v := .int (nI hn)) (ty := .int) (C := R_MD) (T := F_MD) (N := 15) hx hb hts i_MD t_MD t_MD_ok n_MD hown hK hP hD hS 0 rfl rfl 10 (by decide) (hts _ wd_585) (fun _ h9 => h9) rfl (by decide +kernel) rfl rfl (Nat.le_of_ble_eq_true rfl) d_MD_go_297 (fun H locs hP hD hS => ?_)
              have hP : va_P D classes (md_w q cI cZ xth xB xsh xcu xtp xtd vpa (nI k) vw vhe (nI hn) xtk xto xwa xmn) H := hP
              have hD : va_D A (md_w q cI cZ xth xB xsh xcu xtp xtd vpa (nI k) vw vhe (nI hn) xtk xto xwa xmn) := hD
              rw [hQ]
              exact sf_vret (vpa, (nI k), vw, vhe, (nI hn)) hx hb hr hlk hS rfl (by rw [← heq79]; simp only [f_MD_go_l79_1, ← hu_1, ← hu_113, eq_true c_115, eq_false c_116, ↓reduceIte]) hP d_MD_go_300
          · refine lv_iload_n hx hb d_MD_go_84 rfl (lv_at hl 3 rfl) ?_
            refine lv_if_lt (tgt := 281) hx hb d_MD_go_85 (by decide) (fun c_117 => ?_) (fun c_117 => ?_)
            · refine lv_aload_n hx hb d_MD_go_281 rfl (lv_at hl 0 rfl) ?_
              refine lv_aload_n hx hb d_MD_go_282 rfl (lv_at hl 0 rfl) ?_
              refine va_get (D := D) (ci := 3) (v := .int vw) (C := R_MD) (T := F_MD) (N := 15) hx hb hts i_MD hown hK hP 0 rfl rfl 8 (by decide) (hts _ wd_583) (fun _ h9 => h9) rfl d_MD_go_283 ?_
              refine lv_if_eq (tgt := 296) hx hb d_MD_go_286 (by decide) (fun c_118 => ?_) (fun c_118 => ?_)
              · refine lv_iconst (v := 0) hx hb d_MD_go_296 (by decide) ?_
                refine va_put (D := D) (ci := 3) (v := .int 0) (ty := .int) (C := R_MD) (T := F_MD) (N := 15) hx hb hts i_MD t_MD t_MD_ok n_MD hown hK hP hD hS 0 rfl rfl 10 (by decide) (hts _ wd_585) (fun _ h9 => h9) rfl (by decide +kernel) rfl rfl (Nat.le_of_ble_eq_true rfl) d_MD_go_297 (fun H locs hP hD hS => ?_)
                have hP : va_P D classes (md_w q cI cZ xth xB xsh xcu xtp xtd vpa (nI k) vw vhe 0 xtk xto xwa xmn) H := hP
                have hD : va_D A (md_w q cI cZ xth xB xsh xcu xtp xtd vpa (nI k) vw vhe 0 xtk xto xwa xmn) := hD
                rw [hQ]
                exact sf_vret (vpa, (nI k), vw, vhe, 0) hx hb hr hlk hS rfl (by rw [← heq79]; simp only [f_MD_go_l79_1, ← hu_1, ← hu_113, eq_false c_115, eq_true c_117, eq_true c_118, ↓reduceIte]) hP d_MD_go_300
              · refine lv_aload_n hx hb d_MD_go_289 rfl (lv_at hl 0 rfl) ?_
                refine va_get (D := D) (ci := 3) (v := .int (nI hn)) (C := R_MD) (T := F_MD) (N := 15) hx hb hts i_MD hown hK hP 0 rfl rfl 10 (by decide) (hts _ wd_585) (fun _ h9 => h9) rfl d_MD_go_290 ?_
                refine lv_goto (tgt := 297) hx hb d_MD_go_293 (by decide) ?_
                refine va_put (D := D) (ci := 3) (v := .int (nI hn)) (ty := .int) (C := R_MD) (T := F_MD) (N := 15) hx hb hts i_MD t_MD t_MD_ok n_MD hown hK hP hD hS 0 rfl rfl 10 (by decide) (hts _ wd_585) (fun _ h9 => h9) rfl (by decide +kernel) rfl rfl (Nat.le_of_ble_eq_true rfl) d_MD_go_297 (fun H locs hP hD hS => ?_)
                have hP : va_P D classes (md_w q cI cZ xth xB xsh xcu xtp xtd vpa (nI k) vw vhe (nI hn) xtk xto xwa xmn) H := hP
                have hD : va_D A (md_w q cI cZ xth xB xsh xcu xtp xtd vpa (nI k) vw vhe (nI hn) xtk xto xwa xmn) := hD
                rw [hQ]
                exact sf_vret (vpa, (nI k), vw, vhe, (nI hn)) hx hb hr hlk hS rfl (by rw [← heq79]; simp only [f_MD_go_l79_1, ← hu_1, ← hu_113, eq_false c_115, eq_true c_117, eq_false c_118, ↓reduceIte]) hP d_MD_go_300
            · refine lv_iload_n hx hb d_MD_go_88 rfl (lv_at hl 3 rfl) ?_
              refine lv_iload_n hx hb d_MD_go_89 rfl (lv_at hl 2 rfl) ?_
              refine sf_callSr (S := Unit) (rest := [.int vp]) ⟨hx, hb, hml, hown, hts⟩ (c_MD_places_1 l D cI cZ cJ) (sf_cwS lk_MD_80 hts (fun _ h => h) (by rw [hR]; exact ⟨Nat.le_of_ble_eq_true rfl, Nat.le_of_ble_eq_true rfl⟩)) hK hP hD hS hA [] rfl rfl (fun _ => rfl) rfl rfl hl.1 (Nat.le_of_ble_eq_true rfl) d_MD_go_90 ⟨Nat.zero_le _, Nat.zero_le _⟩ (fun u H locs hu hP hS => ?_)
              refine lv_icmp_ge (tgt := 281) hx hb d_MD_go_93 (by decide) (fun c_119 => ?_) (fun c_119 => ?_)
              · refine lv_aload_n hx hb d_MD_go_281 rfl (lv_at hl 0 rfl) ?_
                refine lv_aload_n hx hb d_MD_go_282 rfl (lv_at hl 0 rfl) ?_
                refine va_get (D := D) (ci := 3) (v := .int vw) (C := R_MD) (T := F_MD) (N := 15) hx hb hts i_MD hown hK hP 0 rfl rfl 8 (by decide) (hts _ wd_583) (fun _ h9 => h9) rfl d_MD_go_283 ?_
                refine lv_if_eq (tgt := 296) hx hb d_MD_go_286 (by decide) (fun c_120 => ?_) (fun c_120 => ?_)
                · refine lv_iconst (v := 0) hx hb d_MD_go_296 (by decide) ?_
                  refine va_put (D := D) (ci := 3) (v := .int 0) (ty := .int) (C := R_MD) (T := F_MD) (N := 15) hx hb hts i_MD t_MD t_MD_ok n_MD hown hK hP hD hS 0 rfl rfl 10 (by decide) (hts _ wd_585) (fun _ h9 => h9) rfl (by decide +kernel) rfl rfl (Nat.le_of_ble_eq_true rfl) d_MD_go_297 (fun H locs hP hD hS => ?_)
                  have hP : va_P D classes (md_w q cI cZ xth xB xsh xcu xtp xtd vpa (nI k) vw vhe 0 xtk xto xwa xmn) H := hP
                  have hD : va_D A (md_w q cI cZ xth xB xsh xcu xtp xtd vpa (nI k) vw vhe 0 xtk xto xwa xmn) := hD
                  rw [hQ]
                  exact sf_vret (vpa, (nI k), vw, vhe, 0) hx hb hr hlk hS rfl (by rw [← heq79]; simp only [f_MD_go_l79_1, ← hu_1, ← hu_113, eq_false c_115, eq_false c_117, eq_true c_119, eq_true c_120, ↓reduceIte]) hP d_MD_go_300
                · refine lv_aload_n hx hb d_MD_go_289 rfl (lv_at hl 0 rfl) ?_
                  refine va_get (D := D) (ci := 3) (v := .int (nI hn)) (C := R_MD) (T := F_MD) (N := 15) hx hb hts i_MD hown hK hP 0 rfl rfl 10 (by decide) (hts _ wd_585) (fun _ h9 => h9) rfl d_MD_go_290 ?_
                  refine lv_goto (tgt := 297) hx hb d_MD_go_293 (by decide) ?_
                  refine va_put (D := D) (ci := 3) (v := .int (nI hn)) (ty := .int) (C := R_MD) (T := F_MD) (N := 15) hx hb hts i_MD t_MD t_MD_ok n_MD hown hK hP hD hS 0 rfl rfl 10 (by decide) (hts _ wd_585) (fun _ h9 => h9) rfl (by decide +kernel) rfl rfl (Nat.le_of_ble_eq_true rfl) d_MD_go_297 (fun H locs hP hD hS => ?_)
                  have hP : va_P D classes (md_w q cI cZ xth xB xsh xcu xtp xtd vpa (nI k) vw vhe (nI hn) xtk xto xwa xmn) H := hP
                  have hD : va_D A (md_w q cI cZ xth xB xsh xcu xtp xtd vpa (nI k) vw vhe (nI hn) xtk xto xwa xmn) := hD
                  rw [hQ]
                  exact sf_vret (vpa, (nI k), vw, vhe, (nI hn)) hx hb hr hlk hS rfl (by rw [← heq79]; simp only [f_MD_go_l79_1, ← hu_1, ← hu_113, eq_false c_115, eq_false c_117, eq_true c_119, eq_false c_120, ↓reduceIte]) hP d_MD_go_300
              · refine lv_aload_n hx hb d_MD_go_96 rfl (lv_at hl 0 rfl) ?_
                refine va_get (D := D) (ci := 3) (v := .int (nI k)) (C := R_MD) (T := F_MD) (N := 15) hx hb hts i_MD hown hK hP 0 rfl rfl 7 (by decide) (hts _ wd_582) (fun _ h9 => h9) rfl d_MD_go_97 ?_
                refine lv_iconst (v := 3) hx hb d_MD_go_100 (by decide) ?_
                refine lv_icmp_ge (tgt := 281) hx hb d_MD_go_101 (by decide) (fun c_121 => ?_) (fun c_121 => ?_)
                · refine lv_aload_n hx hb d_MD_go_281 rfl (lv_at hl 0 rfl) ?_
                  refine lv_aload_n hx hb d_MD_go_282 rfl (lv_at hl 0 rfl) ?_
                  refine va_get (D := D) (ci := 3) (v := .int vw) (C := R_MD) (T := F_MD) (N := 15) hx hb hts i_MD hown hK hP 0 rfl rfl 8 (by decide) (hts _ wd_583) (fun _ h9 => h9) rfl d_MD_go_283 ?_
                  refine lv_if_eq (tgt := 296) hx hb d_MD_go_286 (by decide) (fun c_122 => ?_) (fun c_122 => ?_)
                  · refine lv_iconst (v := 0) hx hb d_MD_go_296 (by decide) ?_
                    refine va_put (D := D) (ci := 3) (v := .int 0) (ty := .int) (C := R_MD) (T := F_MD) (N := 15) hx hb hts i_MD t_MD t_MD_ok n_MD hown hK hP hD hS 0 rfl rfl 10 (by decide) (hts _ wd_585) (fun _ h9 => h9) rfl (by decide +kernel) rfl rfl (Nat.le_of_ble_eq_true rfl) d_MD_go_297 (fun H locs hP hD hS => ?_)
                    have hP : va_P D classes (md_w q cI cZ xth xB xsh xcu xtp xtd vpa (nI k) vw vhe 0 xtk xto xwa xmn) H := hP
                    have hD : va_D A (md_w q cI cZ xth xB xsh xcu xtp xtd vpa (nI k) vw vhe 0 xtk xto xwa xmn) := hD
                    rw [hQ]
                    exact sf_vret (vpa, (nI k), vw, vhe, 0) hx hb hr hlk hS rfl (by rw [← heq79]; simp only [f_MD_go_l79_1, ← hu_1, ← hu_113, eq_false c_115, eq_false c_117, eq_false c_119, eq_true c_121, eq_true c_122, ↓reduceIte]) hP d_MD_go_300
                  · refine lv_aload_n hx hb d_MD_go_289 rfl (lv_at hl 0 rfl) ?_
                    refine va_get (D := D) (ci := 3) (v := .int (nI hn)) (C := R_MD) (T := F_MD) (N := 15) hx hb hts i_MD hown hK hP 0 rfl rfl 10 (by decide) (hts _ wd_585) (fun _ h9 => h9) rfl d_MD_go_290 ?_
                    refine lv_goto (tgt := 297) hx hb d_MD_go_293 (by decide) ?_
                    refine va_put (D := D) (ci := 3) (v := .int (nI hn)) (ty := .int) (C := R_MD) (T := F_MD) (N := 15) hx hb hts i_MD t_MD t_MD_ok n_MD hown hK hP hD hS 0 rfl rfl 10 (by decide) (hts _ wd_585) (fun _ h9 => h9) rfl (by decide +kernel) rfl rfl (Nat.le_of_ble_eq_true rfl) d_MD_go_297 (fun H locs hP hD hS => ?_)
                    have hP : va_P D classes (md_w q cI cZ xth xB xsh xcu xtp xtd vpa (nI k) vw vhe (nI hn) xtk xto xwa xmn) H := hP
                    have hD : va_D A (md_w q cI cZ xth xB xsh xcu xtp xtd vpa (nI k) vw vhe (nI hn) xtk xto xwa xmn) := hD
                    rw [hQ]
                    exact sf_vret (vpa, (nI k), vw, vhe, (nI hn)) hx hb hr hlk hS rfl (by rw [← heq79]; simp only [f_MD_go_l79_1, ← hu_1, ← hu_113, eq_false c_115, eq_false c_117, eq_false c_119, eq_true c_121, eq_false c_122, ↓reduceIte]) hP d_MD_go_300
                · have hlt : k < 3 := sf_lt_of (N := 3) (by omega) (by omega) c_121
                  refine lv_aload_n hx hb d_MD_go_104 rfl (lv_at hl 0 rfl) ?_
                  refine lv_iload_n hx hb d_MD_go_105 rfl (lv_at hl 3 rfl) ?_
                  refine sf_callVw (S := Int32) (rest := []) ⟨hx, hb, hml, hown, hts⟩ (c_MD_isThrough l D cI cZ cJ q xth xB xsh xcu xtp xtd vpa vw vhe (nI hn) xtk xto xwa xmn k vp (by omega)) (sf_cwV lk_MD_88 hts (fun _ h => h) (by rw [hR]; exact ⟨Nat.le_of_ble_eq_true rfl, Nat.le_of_ble_eq_true rfl⟩)) hK hP hD hS hA (fun _ => by simp only [md_w_fst]) (ci := 3) (q0 := 0) rfl rfl rfl rfl rfl hl.1 (Nat.le_of_ble_eq_true rfl) d_MD_go_106 ⟨Nat.zero_le _, Nat.zero_le _⟩ (fun u_123 H locs hu_123 hP hD hS => ?_)
                  have hP : va_P D classes (md_w q cI cZ xth xB xsh xcu xtp xtd vpa (nI k) vw vhe (nI hn) xtk xto xwa xmn) H := hP
                  have hD : va_D A (md_w q cI cZ xth xB xsh xcu xtp xtd vpa (nI k) vw vhe (nI hn) xtk xto xwa xmn) := hD
                  refine lv_if_ne (tgt := 281) hx hb d_MD_go_109 (by decide) (fun c_124 => ?_) (fun c_124 => ?_)
                  · refine lv_aload_n hx hb d_MD_go_281 rfl (lv_at hl 0 rfl) ?_
                    refine lv_aload_n hx hb d_MD_go_282 rfl (lv_at hl 0 rfl) ?_
                    refine va_get (D := D) (ci := 3) (v := .int vw) (C := R_MD) (T := F_MD) (N := 15) hx hb hts i_MD hown hK hP 0 rfl rfl 8 (by decide) (hts _ wd_583) (fun _ h9 => h9) rfl d_MD_go_283 ?_
                    refine lv_if_eq (tgt := 296) hx hb d_MD_go_286 (by decide) (fun c_125 => ?_) (fun c_125 => ?_)
                    · refine lv_iconst (v := 0) hx hb d_MD_go_296 (by decide) ?_
                      refine va_put (D := D) (ci := 3) (v := .int 0) (ty := .int) (C := R_MD) (T := F_MD) (N := 15) hx hb hts i_MD t_MD t_MD_ok n_MD hown hK hP hD hS 0 rfl rfl 10 (by decide) (hts _ wd_585) (fun _ h9 => h9) rfl (by decide +kernel) rfl rfl (Nat.le_of_ble_eq_true rfl) d_MD_go_297 (fun H locs hP hD hS => ?_)
                      have hP : va_P D classes (md_w q cI cZ xth xB xsh xcu xtp xtd vpa (nI k) vw vhe 0 xtk xto xwa xmn) H := hP
                      have hD : va_D A (md_w q cI cZ xth xB xsh xcu xtp xtd vpa (nI k) vw vhe 0 xtk xto xwa xmn) := hD
                      rw [hQ]
                      exact sf_vret (vpa, (nI k), vw, vhe, 0) hx hb hr hlk hS rfl (by rw [← heq79]; simp only [f_MD_go_l79_1, ← hu_1, ← hu_113, ← hu_123, eq_false c_115, eq_false c_117, eq_false c_119, eq_false c_121, eq_false c_124, eq_true c_125, ↓reduceIte]) hP d_MD_go_300
                    · refine lv_aload_n hx hb d_MD_go_289 rfl (lv_at hl 0 rfl) ?_
                      refine va_get (D := D) (ci := 3) (v := .int (nI hn)) (C := R_MD) (T := F_MD) (N := 15) hx hb hts i_MD hown hK hP 0 rfl rfl 10 (by decide) (hts _ wd_585) (fun _ h9 => h9) rfl d_MD_go_290 ?_
                      refine lv_goto (tgt := 297) hx hb d_MD_go_293 (by decide) ?_
                      refine va_put (D := D) (ci := 3) (v := .int (nI hn)) (ty := .int) (C := R_MD) (T := F_MD) (N := 15) hx hb hts i_MD t_MD t_MD_ok n_MD hown hK hP hD hS 0 rfl rfl 10 (by decide) (hts _ wd_585) (fun _ h9 => h9) rfl (by decide +kernel) rfl rfl (Nat.le_of_ble_eq_true rfl) d_MD_go_297 (fun H locs hP hD hS => ?_)
                      have hP : va_P D classes (md_w q cI cZ xth xB xsh xcu xtp xtd vpa (nI k) vw vhe (nI hn) xtk xto xwa xmn) H := hP
                      have hD : va_D A (md_w q cI cZ xth xB xsh xcu xtp xtd vpa (nI k) vw vhe (nI hn) xtk xto xwa xmn) := hD
                      rw [hQ]
                      exact sf_vret (vpa, (nI k), vw, vhe, (nI hn)) hx hb hr hlk hS rfl (by rw [← heq79]; simp only [f_MD_go_l79_1, ← hu_1, ← hu_113, ← hu_123, eq_false c_115, eq_false c_117, eq_false c_119, eq_false c_121, eq_false c_124, eq_false c_125, ↓reduceIte]) hP d_MD_go_300
                  · refine lv_iload_n hx hb d_MD_go_112 rfl (lv_at hl 2 rfl) ?_
                    refine lv_iload_n hx hb d_MD_go_113 rfl (lv_at hl 3 rfl) ?_
                    obtain ⟨u_126, hu_126⟩ : ∃ z, z = vp.toNatClampNeg := ⟨_, rfl⟩
                    obtain ⟨he_u_126, hb_u_126⟩ := sf_natp (B := 16) (by omega) hu_126 c_117 c_119
                    rw [he_u_126]
                    refine sf_callSr (S := Unit) (rest := []) ⟨hx, hb, hml, hown, hts⟩ (c_MD_begin_1 l D cI cZ cJ u_126) (sf_cwS lk_MD_84 hts (fun _ h => h) (by rw [hR]; exact ⟨Nat.le_of_ble_eq_true rfl, Nat.le_of_ble_eq_true rfl⟩)) hK hP hD hS hA [] rfl rfl (fun _ => rfl) rfl rfl hl.1 (Nat.le_of_ble_eq_true rfl) d_MD_go_114 ⟨Nat.zero_le _, Nat.zero_le _⟩ (fun u H locs hu hP hS => ?_)
                    refine lv_istore (lv' := [(6, .int (nI (768 + (32 * u_126)))), (0, .ref (q 0)), (1, .int (nI ro)), (2, .int 1), (3, .int vp), (4, .int vmo), (5, .int vg)]) hx hb d_MD_go_117 hl (by decide) rfl (fun ls hl => ?_)
                    refine lv_aload_n hx hb d_MD_go_119 rfl (lv_at hl 1 rfl) ?_
                    refine va_get (D := D) (ci := 3) (v := .ref (q 3)) (C := R_MD) (T := F_MD) (N := 15) hx hb hts i_MD hown hK hP 0 rfl rfl 6 (by decide) (hts _ wd_581) (fun _ h9 => h9) rfl d_MD_go_120 ?_
                    refine lv_aload_n hx hb d_MD_go_123 rfl (lv_at hl 1 rfl) ?_
                    refine va_get (D := D) (ci := 3) (v := .int (nI k)) (C := R_MD) (T := F_MD) (N := 15) hx hb hts i_MD hown hK hP 0 rfl rfl 7 (by decide) (hts _ wd_582) (fun _ h9 => h9) rfl d_MD_go_124 ?_
                    refine lv_iload_n hx hb d_MD_go_127 rfl (lv_at hl 4 rfl) ?_
                    refine va_iast hx hb hK hP hD hS 3 0 rfl rfl (show vp_in (nI k) 3 from vp_in_nI (n := k) (by omega) (by omega)) d_MD_go_128 (fun H locs hP hD hS => ?_)
                    rw [show ((nI k) : Int32).toNatClampNeg = k from nI_clamp (n := k) (by omega)] at hP hD
                    have hP : va_P D classes (md_w q cI cZ xth xB xsh xcu xtp xtd (upd vpa k vp) (nI k) vw vhe (nI hn) xtk xto xwa xmn) H := hP
                    have hD : va_D A (md_w q cI cZ xth xB xsh xcu xtp xtd (upd vpa k vp) (nI k) vw vhe (nI hn) xtk xto xwa xmn) := hD
                    refine lv_aload_n hx hb d_MD_go_129 rfl (lv_at hl 1 rfl) ?_
                    refine lv_dup hx hb d_MD_go_130 rfl ?_
                    refine va_get (D := D) (ci := 3) (v := .int (nI k)) (C := R_MD) (T := F_MD) (N := 15) hx hb hts i_MD hown hK hP 0 rfl rfl 7 (by decide) (hts _ wd_582) (fun _ h9 => h9) rfl d_MD_go_131 ?_
                    refine lv_iconst (v := 1) hx hb d_MD_go_134 (by decide) ?_
                    refine lv_iadd hx hb d_MD_go_135 ?_
                    rw [show (((nI k) + 1) : Int32) = (nI (k + 1)) from nI_add k 1]
                    refine va_put (D := D) (ci := 3) (v := .int (nI (k + 1))) (ty := .int) (C := R_MD) (T := F_MD) (N := 15) hx hb hts i_MD t_MD t_MD_ok n_MD hown hK hP hD hS 0 rfl rfl 7 (by decide) (hts _ wd_582) (fun _ h9 => h9) rfl (by decide +kernel) rfl rfl (Nat.le_of_ble_eq_true rfl) d_MD_go_136 (fun H locs hP hD hS => ?_)
                    have hP : va_P D classes (md_w q cI cZ xth xB xsh xcu xtp xtd (upd vpa k vp) (nI (k + 1)) vw vhe (nI hn) xtk xto xwa xmn) H := hP
                    have hD : va_D A (md_w q cI cZ xth xB xsh xcu xtp xtd (upd vpa k vp) (nI (k + 1)) vw vhe (nI hn) xtk xto xwa xmn) := hD
                    refine lv_aload_n hx hb d_MD_go_139 rfl (lv_at hl 1 rfl) ?_
                    refine va_get (D := D) (ci := 3) (v := .ref (q 1)) (C := R_MD) (T := F_MD) (N := 15) hx hb hts i_MD hown hK hP 0 rfl rfl 1 (by decide) (hts _ wd_576) (fun _ h9 => h9) rfl d_MD_go_140 ?_
                    refine lv_iload hx hb d_MD_go_143 (lv_at hl 0 rfl) ?_
                    refine lv_iconst (v := 1) hx hb d_MD_go_145 (by decide) ?_
                    refine lv_iadd hx hb d_MD_go_146 ?_
                    rw [show (((nI (768 + (32 * u_126))) + 1) : Int32) = (nI ((768 + (32 * u_126)) + 1)) from nI_add (768 + (32 * u_126)) 1]
                    refine va_iald hx hb hK hP 1 0 rfl rfl (show vp_in (nI ((768 + (32 * u_126)) + 1)) 1360 from vp_in_nI (n := ((768 + (32 * u_126)) + 1)) (by omega) (by omega)) d_MD_go_147 ?_
                    rw [show ((nI ((768 + (32 * u_126)) + 1)) : Int32).toNatClampNeg = ((768 + (32 * u_126)) + 1) from nI_clamp (n := ((768 + (32 * u_126)) + 1)) (by omega)]
                    refine lv_istore (lv' := [(7, .int (xB ((768 + (32 * u_126)) + 1))), (6, .int (nI (768 + (32 * u_126)))), (0, .ref (q 0)), (1, .int (nI ro)), (2, .int 1), (3, .int vp), (4, .int vmo), (5, .int vg)]) hx hb d_MD_go_148 hl (by decide) rfl (fun ls hl => ?_)
                    refine lv_aload_n hx hb d_MD_go_150 rfl (lv_at hl 2 rfl) ?_
                    refine lv_iload hx hb d_MD_go_151 (lv_at hl 1 rfl) ?_
                    refine lv_bipush (v := 28) hx hb d_MD_go_153 (by decide) ?_
                    refine sf_callVw (S := Int32) (rest := []) ⟨hx, hb, hml, hown, hts⟩ (c_MD_isSummed l D cI cZ cJ q xth xB xsh xcu xtp xtd (upd vpa k vp) (nI (k + 1)) vw vhe (nI hn) xtk xto xwa xmn (768 + (32 * u_126)) 28 (by omega)) (sf_cwV lk_MD_48 hts (fun _ h => h) (by rw [hR]; exact ⟨Nat.le_of_ble_eq_true rfl, Nat.le_of_ble_eq_true rfl⟩)) hK hP hD hS hA (fun _ => by simp only [md_w_fst]) (ci := 3) (q0 := 0) rfl rfl rfl rfl rfl hl.1 (Nat.le_of_ble_eq_true rfl) d_MD_go_155 ⟨Nat.zero_le _, Nat.zero_le _⟩ (fun u_127 H locs hu_127 hP hD hS => ?_)
                    have hP : va_P D classes (md_w q cI cZ xth xB xsh xcu xtp xtd (upd vpa k vp) (nI (k + 1)) vw vhe (nI hn) xtk xto xwa xmn) H := hP
                    have hD : va_D A (md_w q cI cZ xth xB xsh xcu xtp xtd (upd vpa k vp) (nI (k + 1)) vw vhe (nI hn) xtk xto xwa xmn) := hD
                    refine lv_if_eq (tgt := 190) hx hb d_MD_go_158 (by decide) (fun c_128 => ?_) (fun c_128 => ?_)
                    · refine lv_iconst (v := 0) hx hb d_MD_go_190 (by decide) ?_
                      refine lv_istore (lv' := [(5, .int 0), (7, .int (xB ((768 + (32 * u_126)) + 1))), (6, .int (nI (768 + (32 * u_126)))), (0, .ref (q 0)), (1, .int (nI ro)), (2, .int 1), (3, .int vp), (4, .int vmo)]) hx hb d_MD_go_191 hl (by decide) rfl (fun ls hl => ?_)
                      refine lv_iconst (v := 0) hx hb d_MD_go_193 (by decide) ?_
                      refine lv_istore (lv' := [(8, .int 0), (5, .int 0), (7, .int (xB ((768 + (32 * u_126)) + 1))), (6, .int (nI (768 + (32 * u_126)))), (0, .ref (q 0)), (1, .int (nI ro)), (2, .int 1), (3, .int vp), (4, .int vmo)]) hx hb d_MD_go_194 hl (by decide) rfl (fun ls hl => ?_)
                      refine lv_iload hx hb d_MD_go_196 (lv_at hl 0 rfl) ?_
                      refine lv_iload hx hb d_MD_go_198 (lv_at hl 2 rfl) ?_
                      refine lv_icmp_ge (tgt := 245) hx hb d_MD_go_200 (by decide) (fun c_129 => ?_) (fun c_129 => ?_)
                      · refine lv_iload hx hb d_MD_go_245 (lv_at hl 1 rfl) ?_
                        refine lv_if_eq (tgt := 268) hx hb d_MD_go_247 (by decide) (fun c_130 => ?_) (fun c_130 => absurd (by decide) c_130)
                        refine lv_aload_n hx hb d_MD_go_268 rfl (lv_at hl 4 rfl) ?_
                        refine va_get (D := D) (ci := 3) (v := .ref (q 1)) (C := R_MD) (T := F_MD) (N := 15) hx hb hts i_MD hown hK hP 0 rfl rfl 1 (by decide) (hts _ wd_576) (fun _ h9 => h9) rfl d_MD_go_269 ?_
                        refine lv_iload hx hb d_MD_go_272 (lv_at hl 3 rfl) ?_
                        refine va_iald hx hb hK hP 1 0 rfl rfl (show vp_in (nI (768 + (32 * u_126))) 1360 from vp_in_nI (n := (768 + (32 * u_126))) (by omega) (by omega)) d_MD_go_274 ?_
                        rw [show ((nI (768 + (32 * u_126))) : Int32).toNatClampNeg = (768 + (32 * u_126)) from nI_clamp (n := (768 + (32 * u_126))) (by omega)]
                        refine lv_iconst (v := 1) hx hb d_MD_go_275 (by decide) ?_
                        refine lv_isub hx hb d_MD_go_276 ?_
                        refine lv_istore_n (lv' := [(3, .int ((xB (768 + (32 * u_126))) - 1)), (8, .int 0), (5, .int 0), (7, .int (xB ((768 + (32 * u_126)) + 1))), (6, .int (nI (768 + (32 * u_126)))), (0, .ref (q 0)), (1, .int (nI ro)), (2, .int 1), (4, .int vmo)]) hx hb d_MD_go_277 rfl hl (by decide) rfl (fun ls hl => ?_)
                        refine lv_goto (tgt := 79) hx hb d_MD_go_278 (by decide) ?_
                        exact ih79 (k + 1) 0 ((xB (768 + (32 * u_126))) - 1) vmo (upd vpa k vp) vw vhe hn (by omega) (by omega) (by omega) (by rw [← heq79]; simp only [f_MD_go_l79_1, ← hu_1, ← hu_113, ← hu_123, ← hu_126, ← hu_127, eq_false c_115, eq_false c_117, eq_false c_119, eq_false c_121, eq_true c_124, eq_true c_128, eq_true c_129, ↓reduceIte]) _ _ hP hD hS ls (lv_sub hl [5, 6, 7, 0, 8, 2] rfl)
                      · refine lv_iload hx hb d_MD_go_203 (lv_at hl 1 rfl) ?_
                        refine lv_if_eq (tgt := 245) hx hb d_MD_go_205 (by decide) (fun c_131 => ?_) (fun c_131 => absurd (by decide) c_131)
                        refine lv_iload hx hb d_MD_go_245 (lv_at hl 1 rfl) ?_
                        refine lv_if_eq (tgt := 268) hx hb d_MD_go_247 (by decide) (fun c_132 => ?_) (fun c_132 => absurd (by decide) c_132)
                        refine lv_aload_n hx hb d_MD_go_268 rfl (lv_at hl 4 rfl) ?_
                        refine va_get (D := D) (ci := 3) (v := .ref (q 1)) (C := R_MD) (T := F_MD) (N := 15) hx hb hts i_MD hown hK hP 0 rfl rfl 1 (by decide) (hts _ wd_576) (fun _ h9 => h9) rfl d_MD_go_269 ?_
                        refine lv_iload hx hb d_MD_go_272 (lv_at hl 3 rfl) ?_
                        refine va_iald hx hb hK hP 1 0 rfl rfl (show vp_in (nI (768 + (32 * u_126))) 1360 from vp_in_nI (n := (768 + (32 * u_126))) (by omega) (by omega)) d_MD_go_274 ?_
                        rw [show ((nI (768 + (32 * u_126))) : Int32).toNatClampNeg = (768 + (32 * u_126)) from nI_clamp (n := (768 + (32 * u_126))) (by omega)]
                        refine lv_iconst (v := 1) hx hb d_MD_go_275 (by decide) ?_
                        refine lv_isub hx hb d_MD_go_276 ?_
                        refine lv_istore_n (lv' := [(3, .int ((xB (768 + (32 * u_126))) - 1)), (8, .int 0), (5, .int 0), (7, .int (xB ((768 + (32 * u_126)) + 1))), (6, .int (nI (768 + (32 * u_126)))), (0, .ref (q 0)), (1, .int (nI ro)), (2, .int 1), (4, .int vmo)]) hx hb d_MD_go_277 rfl hl (by decide) rfl (fun ls hl => ?_)
                        refine lv_goto (tgt := 79) hx hb d_MD_go_278 (by decide) ?_
                        exact ih79 (k + 1) 0 ((xB (768 + (32 * u_126))) - 1) vmo (upd vpa k vp) vw vhe hn (by omega) (by omega) (by omega) (by rw [← heq79]; simp only [f_MD_go_l79_1, ← hu_1, ← hu_113, ← hu_123, ← hu_126, ← hu_127, eq_false c_115, eq_false c_117, eq_false c_119, eq_false c_121, eq_true c_124, eq_true c_128, eq_false c_129, ↓reduceIte]) _ _ hP hD hS ls (lv_sub hl [5, 6, 7, 0, 8, 2] rfl)
                    · refine lv_iload hx hb d_MD_go_161 (lv_at hl 0 rfl) ?_
                      refine lv_iconst (v := 1) hx hb d_MD_go_163 (by decide) ?_
                      refine lv_bipush (v := 25) hx hb d_MD_go_164 (by decide) ?_
                      refine sf_callSr (S := Int32) (rest := []) ⟨hx, hb, hml, hown, hts⟩ (c_MD_in l D cI cZ cJ (xB ((768 + (32 * u_126)) + 1)) 1 25) (sf_cwS lk_MD_44 hts (fun _ h => h) (by rw [hR]; exact ⟨Nat.le_of_ble_eq_true rfl, Nat.le_of_ble_eq_true rfl⟩)) hK hP hD hS hA [] rfl rfl (fun _ => rfl) rfl rfl hl.1 (Nat.le_of_ble_eq_true rfl) d_MD_go_166 ⟨Nat.zero_le _, Nat.zero_le _⟩ (fun u_133 H locs hu_133 hP hS => ?_)
                      refine lv_if_eq (tgt := 190) hx hb d_MD_go_169 (by decide) (fun c_134 => ?_) (fun c_134 => ?_)
                      · refine lv_iconst (v := 0) hx hb d_MD_go_190 (by decide) ?_
                        refine lv_istore (lv' := [(5, .int 0), (7, .int (xB ((768 + (32 * u_126)) + 1))), (6, .int (nI (768 + (32 * u_126)))), (0, .ref (q 0)), (1, .int (nI ro)), (2, .int 1), (3, .int vp), (4, .int vmo)]) hx hb d_MD_go_191 hl (by decide) rfl (fun ls hl => ?_)
                        refine lv_iconst (v := 0) hx hb d_MD_go_193 (by decide) ?_
                        refine lv_istore (lv' := [(8, .int 0), (5, .int 0), (7, .int (xB ((768 + (32 * u_126)) + 1))), (6, .int (nI (768 + (32 * u_126)))), (0, .ref (q 0)), (1, .int (nI ro)), (2, .int 1), (3, .int vp), (4, .int vmo)]) hx hb d_MD_go_194 hl (by decide) rfl (fun ls hl => ?_)
                        refine lv_iload hx hb d_MD_go_196 (lv_at hl 0 rfl) ?_
                        refine lv_iload hx hb d_MD_go_198 (lv_at hl 2 rfl) ?_
                        refine lv_icmp_ge (tgt := 245) hx hb d_MD_go_200 (by decide) (fun c_135 => ?_) (fun c_135 => ?_)
                        · refine lv_iload hx hb d_MD_go_245 (lv_at hl 1 rfl) ?_
                          refine lv_if_eq (tgt := 268) hx hb d_MD_go_247 (by decide) (fun c_136 => ?_) (fun c_136 => absurd (by decide) c_136)
                          refine lv_aload_n hx hb d_MD_go_268 rfl (lv_at hl 4 rfl) ?_
                          refine va_get (D := D) (ci := 3) (v := .ref (q 1)) (C := R_MD) (T := F_MD) (N := 15) hx hb hts i_MD hown hK hP 0 rfl rfl 1 (by decide) (hts _ wd_576) (fun _ h9 => h9) rfl d_MD_go_269 ?_
                          refine lv_iload hx hb d_MD_go_272 (lv_at hl 3 rfl) ?_
                          refine va_iald hx hb hK hP 1 0 rfl rfl (show vp_in (nI (768 + (32 * u_126))) 1360 from vp_in_nI (n := (768 + (32 * u_126))) (by omega) (by omega)) d_MD_go_274 ?_
                          rw [show ((nI (768 + (32 * u_126))) : Int32).toNatClampNeg = (768 + (32 * u_126)) from nI_clamp (n := (768 + (32 * u_126))) (by omega)]
                          refine lv_iconst (v := 1) hx hb d_MD_go_275 (by decide) ?_
                          refine lv_isub hx hb d_MD_go_276 ?_
                          refine lv_istore_n (lv' := [(3, .int ((xB (768 + (32 * u_126))) - 1)), (8, .int 0), (5, .int 0), (7, .int (xB ((768 + (32 * u_126)) + 1))), (6, .int (nI (768 + (32 * u_126)))), (0, .ref (q 0)), (1, .int (nI ro)), (2, .int 1), (4, .int vmo)]) hx hb d_MD_go_277 rfl hl (by decide) rfl (fun ls hl => ?_)
                          refine lv_goto (tgt := 79) hx hb d_MD_go_278 (by decide) ?_
                          exact ih79 (k + 1) 0 ((xB (768 + (32 * u_126))) - 1) vmo (upd vpa k vp) vw vhe hn (by omega) (by omega) (by omega) (by rw [← heq79]; simp only [f_MD_go_l79_1, ← hu_1, ← hu_113, ← hu_123, ← hu_126, ← hu_127, ← hu_133, eq_false c_115, eq_false c_117, eq_false c_119, eq_false c_121, eq_true c_124, eq_false c_128, eq_true c_134, eq_true c_135, ↓reduceIte]) _ _ hP hD hS ls (lv_sub hl [5, 6, 7, 0, 8, 2] rfl)
                        · refine lv_iload hx hb d_MD_go_203 (lv_at hl 1 rfl) ?_
                          refine lv_if_eq (tgt := 245) hx hb d_MD_go_205 (by decide) (fun c_137 => ?_) (fun c_137 => absurd (by decide) c_137)
                          refine lv_iload hx hb d_MD_go_245 (lv_at hl 1 rfl) ?_
                          refine lv_if_eq (tgt := 268) hx hb d_MD_go_247 (by decide) (fun c_138 => ?_) (fun c_138 => absurd (by decide) c_138)
                          refine lv_aload_n hx hb d_MD_go_268 rfl (lv_at hl 4 rfl) ?_
                          refine va_get (D := D) (ci := 3) (v := .ref (q 1)) (C := R_MD) (T := F_MD) (N := 15) hx hb hts i_MD hown hK hP 0 rfl rfl 1 (by decide) (hts _ wd_576) (fun _ h9 => h9) rfl d_MD_go_269 ?_
                          refine lv_iload hx hb d_MD_go_272 (lv_at hl 3 rfl) ?_
                          refine va_iald hx hb hK hP 1 0 rfl rfl (show vp_in (nI (768 + (32 * u_126))) 1360 from vp_in_nI (n := (768 + (32 * u_126))) (by omega) (by omega)) d_MD_go_274 ?_
                          rw [show ((nI (768 + (32 * u_126))) : Int32).toNatClampNeg = (768 + (32 * u_126)) from nI_clamp (n := (768 + (32 * u_126))) (by omega)]
                          refine lv_iconst (v := 1) hx hb d_MD_go_275 (by decide) ?_
                          refine lv_isub hx hb d_MD_go_276 ?_
                          refine lv_istore_n (lv' := [(3, .int ((xB (768 + (32 * u_126))) - 1)), (8, .int 0), (5, .int 0), (7, .int (xB ((768 + (32 * u_126)) + 1))), (6, .int (nI (768 + (32 * u_126)))), (0, .ref (q 0)), (1, .int (nI ro)), (2, .int 1), (4, .int vmo)]) hx hb d_MD_go_277 rfl hl (by decide) rfl (fun ls hl => ?_)
                          refine lv_goto (tgt := 79) hx hb d_MD_go_278 (by decide) ?_
                          exact ih79 (k + 1) 0 ((xB (768 + (32 * u_126))) - 1) vmo (upd vpa k vp) vw vhe hn (by omega) (by omega) (by omega) (by rw [← heq79]; simp only [f_MD_go_l79_1, ← hu_1, ← hu_113, ← hu_123, ← hu_126, ← hu_127, ← hu_133, eq_false c_115, eq_false c_117, eq_false c_119, eq_false c_121, eq_true c_124, eq_false c_128, eq_true c_134, eq_false c_135, ↓reduceIte]) _ _ hP hD hS ls (lv_sub hl [5, 6, 7, 0, 8, 2] rfl)
                      · refine lv_aload_n hx hb d_MD_go_172 rfl (lv_at hl 2 rfl) ?_
                        refine va_get (D := D) (ci := 3) (v := .ref (q 1)) (C := R_MD) (T := F_MD) (N := 15) hx hb hts i_MD hown hK hP 0 rfl rfl 1 (by decide) (hts _ wd_576) (fun _ h9 => h9) rfl d_MD_go_173 ?_
                        refine lv_iload hx hb d_MD_go_176 (lv_at hl 1 rfl) ?_
                        refine lv_iconst (v := 2) hx hb d_MD_go_178 (by decide) ?_
                        refine lv_iadd hx hb d_MD_go_179 ?_
                        rw [show (((nI (768 + (32 * u_126))) + 2) : Int32) = (nI ((768 + (32 * u_126)) + 2)) from nI_add (768 + (32 * u_126)) 2]
                        refine va_iald hx hb hK hP 1 0 rfl rfl (show vp_in (nI ((768 + (32 * u_126)) + 2)) 1360 from vp_in_nI (n := ((768 + (32 * u_126)) + 2)) (by omega) (by omega)) d_MD_go_180 ?_
                        rw [show ((nI ((768 + (32 * u_126)) + 2)) : Int32).toNatClampNeg = ((768 + (32 * u_126)) + 2) from nI_clamp (n := ((768 + (32 * u_126)) + 2)) (by omega)]
                        refine lv_iload hx hb d_MD_go_181 (lv_at hl 6 rfl) ?_
                        refine lv_icmp_ne (tgt := 190) hx hb d_MD_go_183 (by decide) (fun c_139 => ?_) (fun c_139 => ?_)
                        · refine lv_iconst (v := 0) hx hb d_MD_go_190 (by decide) ?_
                          refine lv_istore (lv' := [(5, .int 0), (7, .int (xB ((768 + (32 * u_126)) + 1))), (6, .int (nI (768 + (32 * u_126)))), (0, .ref (q 0)), (1, .int (nI ro)), (2, .int 1), (3, .int vp), (4, .int vmo)]) hx hb d_MD_go_191 hl (by decide) rfl (fun ls hl => ?_)
                          refine lv_iconst (v := 0) hx hb d_MD_go_193 (by decide) ?_
                          refine lv_istore (lv' := [(8, .int 0), (5, .int 0), (7, .int (xB ((768 + (32 * u_126)) + 1))), (6, .int (nI (768 + (32 * u_126)))), (0, .ref (q 0)), (1, .int (nI ro)), (2, .int 1), (3, .int vp), (4, .int vmo)]) hx hb d_MD_go_194 hl (by decide) rfl (fun ls hl => ?_)
                          refine lv_iload hx hb d_MD_go_196 (lv_at hl 0 rfl) ?_
                          refine lv_iload hx hb d_MD_go_198 (lv_at hl 2 rfl) ?_
                          refine lv_icmp_ge (tgt := 245) hx hb d_MD_go_200 (by decide) (fun c_140 => ?_) (fun c_140 => ?_)
                          · refine lv_iload hx hb d_MD_go_245 (lv_at hl 1 rfl) ?_
                            refine lv_if_eq (tgt := 268) hx hb d_MD_go_247 (by decide) (fun c_141 => ?_) (fun c_141 => absurd (by decide) c_141)
                            refine lv_aload_n hx hb d_MD_go_268 rfl (lv_at hl 4 rfl) ?_
                            refine va_get (D := D) (ci := 3) (v := .ref (q 1)) (C := R_MD) (T := F_MD) (N := 15) hx hb hts i_MD hown hK hP 0 rfl rfl 1 (by decide) (hts _ wd_576) (fun _ h9 => h9) rfl d_MD_go_269 ?_
                            refine lv_iload hx hb d_MD_go_272 (lv_at hl 3 rfl) ?_
                            refine va_iald hx hb hK hP 1 0 rfl rfl (show vp_in (nI (768 + (32 * u_126))) 1360 from vp_in_nI (n := (768 + (32 * u_126))) (by omega) (by omega)) d_MD_go_274 ?_
                            rw [show ((nI (768 + (32 * u_126))) : Int32).toNatClampNeg = (768 + (32 * u_126)) from nI_clamp (n := (768 + (32 * u_126))) (by omega)]
                            refine lv_iconst (v := 1) hx hb d_MD_go_275 (by decide) ?_
                            refine lv_isub hx hb d_MD_go_276 ?_
                            refine lv_istore_n (lv' := [(3, .int ((xB (768 + (32 * u_126))) - 1)), (8, .int 0), (5, .int 0), (7, .int (xB ((768 + (32 * u_126)) + 1))), (6, .int (nI (768 + (32 * u_126)))), (0, .ref (q 0)), (1, .int (nI ro)), (2, .int 1), (4, .int vmo)]) hx hb d_MD_go_277 rfl hl (by decide) rfl (fun ls hl => ?_)
                            refine lv_goto (tgt := 79) hx hb d_MD_go_278 (by decide) ?_
                            exact ih79 (k + 1) 0 ((xB (768 + (32 * u_126))) - 1) vmo (upd vpa k vp) vw vhe hn (by omega) (by omega) (by omega) (by rw [← heq79]; simp only [f_MD_go_l79_1, ← hu_1, ← hu_113, ← hu_123, ← hu_126, ← hu_127, ← hu_133, eq_false c_115, eq_false c_117, eq_false c_119, eq_false c_121, eq_true c_124, eq_false c_128, eq_false c_134, eq_false c_139, eq_true c_140, ↓reduceIte]) _ _ hP hD hS ls (lv_sub hl [5, 6, 7, 0, 8, 2] rfl)
                          · refine lv_iload hx hb d_MD_go_203 (lv_at hl 1 rfl) ?_
                            refine lv_if_eq (tgt := 245) hx hb d_MD_go_205 (by decide) (fun c_142 => ?_) (fun c_142 => absurd (by decide) c_142)
                            refine lv_iload hx hb d_MD_go_245 (lv_at hl 1 rfl) ?_
                            refine lv_if_eq (tgt := 268) hx hb d_MD_go_247 (by decide) (fun c_143 => ?_) (fun c_143 => absurd (by decide) c_143)
                            refine lv_aload_n hx hb d_MD_go_268 rfl (lv_at hl 4 rfl) ?_
                            refine va_get (D := D) (ci := 3) (v := .ref (q 1)) (C := R_MD) (T := F_MD) (N := 15) hx hb hts i_MD hown hK hP 0 rfl rfl 1 (by decide) (hts _ wd_576) (fun _ h9 => h9) rfl d_MD_go_269 ?_
                            refine lv_iload hx hb d_MD_go_272 (lv_at hl 3 rfl) ?_
                            refine va_iald hx hb hK hP 1 0 rfl rfl (show vp_in (nI (768 + (32 * u_126))) 1360 from vp_in_nI (n := (768 + (32 * u_126))) (by omega) (by omega)) d_MD_go_274 ?_
                            rw [show ((nI (768 + (32 * u_126))) : Int32).toNatClampNeg = (768 + (32 * u_126)) from nI_clamp (n := (768 + (32 * u_126))) (by omega)]
                            refine lv_iconst (v := 1) hx hb d_MD_go_275 (by decide) ?_
                            refine lv_isub hx hb d_MD_go_276 ?_
                            refine lv_istore_n (lv' := [(3, .int ((xB (768 + (32 * u_126))) - 1)), (8, .int 0), (5, .int 0), (7, .int (xB ((768 + (32 * u_126)) + 1))), (6, .int (nI (768 + (32 * u_126)))), (0, .ref (q 0)), (1, .int (nI ro)), (2, .int 1), (4, .int vmo)]) hx hb d_MD_go_277 rfl hl (by decide) rfl (fun ls hl => ?_)
                            refine lv_goto (tgt := 79) hx hb d_MD_go_278 (by decide) ?_
                            exact ih79 (k + 1) 0 ((xB (768 + (32 * u_126))) - 1) vmo (upd vpa k vp) vw vhe hn (by omega) (by omega) (by omega) (by rw [← heq79]; simp only [f_MD_go_l79_1, ← hu_1, ← hu_113, ← hu_123, ← hu_126, ← hu_127, ← hu_133, eq_false c_115, eq_false c_117, eq_false c_119, eq_false c_121, eq_true c_124, eq_false c_128, eq_false c_134, eq_false c_139, eq_false c_140, ↓reduceIte]) _ _ hP hD hS ls (lv_sub hl [5, 6, 7, 0, 8, 2] rfl)
                        · refine lv_iconst (v := 1) hx hb d_MD_go_186 (by decide) ?_
                          refine lv_goto (tgt := 191) hx hb d_MD_go_187 (by decide) ?_
                          refine lv_istore (lv' := [(5, .int 1), (7, .int (xB ((768 + (32 * u_126)) + 1))), (6, .int (nI (768 + (32 * u_126)))), (0, .ref (q 0)), (1, .int (nI ro)), (2, .int 1), (3, .int vp), (4, .int vmo)]) hx hb d_MD_go_191 hl (by decide) rfl (fun ls hl => ?_)
                          obtain ⟨u_144, hu_144⟩ : ∃ z, z = (xB ((768 + (32 * u_126)) + 1)).toNatClampNeg := ⟨_, rfl⟩
                          obtain ⟨he_u_144, ha_u_144, hb_u_144⟩ := sf_natn hu_144 (by rw [← hu_133]; exact c_134)
                          rw [he_u_144] at hl
                          refine lv_iconst (v := 0) hx hb d_MD_go_193 (by decide) ?_
                          refine lv_istore (lv' := [(8, .int 0), (5, .int 1), (7, .int (nI u_144)), (6, .int (nI (768 + (32 * u_126)))), (0, .ref (q 0)), (1, .int (nI ro)), (2, .int 1), (3, .int vp), (4, .int vmo)]) hx hb d_MD_go_194 hl (by decide) rfl (fun ls hl => ?_)
                          obtain ⟨u_145, hu_145⟩ : ∃ z, z = (f_MD_go_l196_1 xB vp hn (u_144 + 1) 0 vhe) := ⟨_, rfl⟩
                          have loop196 : ∀ (fukk kk : Nat) (xh : (Nat → Int32)), kk ≤ u_144 → kk + fukk = u_144 + 1 → f_MD_go_l196_1 xB vp hn fukk kk xh = u_145 → ∀ (H : Heap) (locs : List Loc), va_P D classes (md_w q cI cZ xth xB xsh xcu xtp xtd (upd vpa k vp) (nI (k + 1)) vw xh (nI (hn + kk)) xtk xto xwa xmn) H → va_D A (md_w q cI cZ xth xB xsh xcu xtp xtd (upd vpa k vp) (nI (k + 1)) vw xh (nI (hn + kk)) xtk xto xwa xmn) → va_S A s.heap H locs → ∀ (ls : Array Slot), lv_has ls 9 [(0, .ref (q 0)), (1, .int (nI ro)), (2, .int 1), (3, .int vp), (4, .int vmo), (5, .int 1), (6, .int (nI (768 + (32 * u_126)))), (7, .int (nI u_144)), (8, .int (nI kk))] → W p l e R s m args below meth c H locs 0 0 Q (F0 m 196 ls []) := by
                            intro fukk
                            induction fukk with
                            | zero =>
                              intro kk xh h1 h2
                              exact absurd h2 (by omega)
                            | succ fukk ih196 =>
                              intro kk xh hk196 hkn196 heq196 H locs hP hD hS ls hl
                              refine lv_iload hx hb d_MD_go_196 (lv_at hl 8 rfl) ?_
                              refine lv_iload hx hb d_MD_go_198 (lv_at hl 7 rfl) ?_
                              refine lv_icmp_ge (tgt := 245) hx hb d_MD_go_200 (by decide) (fun c_146 => ?_) (fun c_146 => ?_)
                              · skip
                                have hv196 : xh = u_145 := by rw [← heq196]; simp only [f_MD_go_l196_1, ← hu_1, ← hu_113, ← hu_123, ← hu_126, ← hu_127, ← hu_133, ← hu_144, eq_true c_146, ↓reduceIte]
                                have hv196_0 : xh = u_145 := hv196
                                rw [hv196_0] at hP hD
                                have hke196 : kk = u_144 := sf_eq_of (N := u_144) (by omega) (by omega) hk196 c_146
                                try rw [hke196] at hP
                                try rw [hke196] at hD
                                try rw [hke196] at hl
                                refine lv_iload hx hb d_MD_go_245 (lv_at hl 5 rfl) ?_
                                refine lv_if_eq (tgt := 268) hx hb d_MD_go_247 (by decide) (fun c_148 => absurd c_148 (by decide)) (fun c_148 => ?_)
                                refine lv_aload_n hx hb d_MD_go_250 rfl (lv_at hl 0 rfl) ?_
                                refine va_get (D := D) (ci := 3) (v := .ref (q 1)) (C := R_MD) (T := F_MD) (N := 15) hx hb hts i_MD hown hK hP 0 rfl rfl 1 (by decide) (hts _ wd_576) (fun _ h9 => h9) rfl d_MD_go_251 ?_
                                refine lv_iload hx hb d_MD_go_254 (lv_at hl 6 rfl) ?_
                                refine va_iald hx hb hK hP 1 0 rfl rfl (show vp_in (nI (768 + (32 * u_126))) 1360 from vp_in_nI (n := (768 + (32 * u_126))) (by omega) (by omega)) d_MD_go_256 ?_
                                rw [show ((nI (768 + (32 * u_126))) : Int32).toNatClampNeg = (768 + (32 * u_126)) from nI_clamp (n := (768 + (32 * u_126))) (by omega)]
                                refine lv_if_ne (tgt := 268) hx hb d_MD_go_257 (by decide) (fun c_149 => ?_) (fun c_149 => ?_)
                                · refine lv_aload_n hx hb d_MD_go_268 rfl (lv_at hl 0 rfl) ?_
                                  refine va_get (D := D) (ci := 3) (v := .ref (q 1)) (C := R_MD) (T := F_MD) (N := 15) hx hb hts i_MD hown hK hP 0 rfl rfl 1 (by decide) (hts _ wd_576) (fun _ h9 => h9) rfl d_MD_go_269 ?_
                                  refine lv_iload hx hb d_MD_go_272 (lv_at hl 6 rfl) ?_
                                  refine va_iald hx hb hK hP 1 0 rfl rfl (show vp_in (nI (768 + (32 * u_126))) 1360 from vp_in_nI (n := (768 + (32 * u_126))) (by omega) (by omega)) d_MD_go_274 ?_
                                  rw [show ((nI (768 + (32 * u_126))) : Int32).toNatClampNeg = (768 + (32 * u_126)) from nI_clamp (n := (768 + (32 * u_126))) (by omega)]
                                  refine lv_iconst (v := 1) hx hb d_MD_go_275 (by decide) ?_
                                  refine lv_isub hx hb d_MD_go_276 ?_
                                  refine lv_istore_n (lv' := [(3, .int ((xB (768 + (32 * u_126))) - 1)), (0, .ref (q 0)), (1, .int (nI ro)), (2, .int 1), (4, .int vmo), (5, .int 1), (6, .int (nI (768 + (32 * u_126)))), (7, .int (nI u_144)), (8, .int (nI u_144))]) hx hb d_MD_go_277 rfl hl (by decide) rfl (fun ls hl => ?_)
                                  refine lv_goto (tgt := 79) hx hb d_MD_go_278 (by decide) ?_
                                  exact ih79 (k + 1) 1 ((xB (768 + (32 * u_126))) - 1) vmo (upd vpa k vp) vw u_145 (hn + u_144) (by omega) (by omega) (by omega) (by rw [← heq79]; simp only [f_MD_go_l79_1, ← hu_1, ← hu_113, ← hu_123, ← hu_126, ← hu_127, ← hu_133, ← hu_144, ← hu_145, eq_false c_115, eq_false c_117, eq_false c_119, eq_false c_121, eq_true c_124, eq_false c_128, eq_false c_134, eq_true c_139, eq_false c_149, ↓reduceIte]) _ _ hP hD hS ls (lv_sub hl [1, 2, 3, 0, 4, 5] rfl)
                                · refine lv_aload_n hx hb d_MD_go_260 rfl (lv_at hl 0 rfl) ?_
                                  refine lv_iconst (v := 1) hx hb d_MD_go_261 (by decide) ?_
                                  refine va_put (D := D) (ci := 3) (v := .int 1) (ty := .boolean) (C := R_MD) (T := F_MD) (N := 15) hx hb hts i_MD t_MD t_MD_ok n_MD hown hK hP hD hS 0 rfl rfl 8 (by decide) (hts _ wd_583) (fun _ h9 => h9) rfl (by decide +kernel) (sf_bp1).1 (sf_bp1).2 (Nat.le_of_ble_eq_true rfl) d_MD_go_262 (fun H locs hP hD hS => ?_)
                                  have hP : va_P D classes (md_w q cI cZ xth xB xsh xcu xtp xtd (upd vpa k vp) (nI (k + 1)) 1 u_145 (nI (hn + u_144)) xtk xto xwa xmn) H := hP
                                  have hD : va_D A (md_w q cI cZ xth xB xsh xcu xtp xtd (upd vpa k vp) (nI (k + 1)) 1 u_145 (nI (hn + u_144)) xtk xto xwa xmn) := hD
                                  refine lv_iconst (v := 0) hx hb d_MD_go_265 (by decide) ?_
                                  refine lv_istore (lv' := [(5, .int 0), (0, .ref (q 0)), (1, .int (nI ro)), (2, .int 1), (3, .int vp), (4, .int vmo), (6, .int (nI (768 + (32 * u_126)))), (7, .int (nI u_144)), (8, .int (nI u_144))]) hx hb d_MD_go_266 hl (by decide) rfl (fun ls hl => ?_)
                                  refine lv_aload_n hx hb d_MD_go_268 rfl (lv_at hl 1 rfl) ?_
                                  refine va_get (D := D) (ci := 3) (v := .ref (q 1)) (C := R_MD) (T := F_MD) (N := 15) hx hb hts i_MD hown hK hP 0 rfl rfl 1 (by decide) (hts _ wd_576) (fun _ h9 => h9) rfl d_MD_go_269 ?_
                                  refine lv_iload hx hb d_MD_go_272 (lv_at hl 6 rfl) ?_
                                  refine va_iald hx hb hK hP 1 0 rfl rfl (show vp_in (nI (768 + (32 * u_126))) 1360 from vp_in_nI (n := (768 + (32 * u_126))) (by omega) (by omega)) d_MD_go_274 ?_
                                  rw [show ((nI (768 + (32 * u_126))) : Int32).toNatClampNeg = (768 + (32 * u_126)) from nI_clamp (n := (768 + (32 * u_126))) (by omega)]
                                  refine lv_iconst (v := 1) hx hb d_MD_go_275 (by decide) ?_
                                  refine lv_isub hx hb d_MD_go_276 ?_
                                  refine lv_istore_n (lv' := [(3, .int ((xB (768 + (32 * u_126))) - 1)), (5, .int 0), (0, .ref (q 0)), (1, .int (nI ro)), (2, .int 1), (4, .int vmo), (6, .int (nI (768 + (32 * u_126)))), (7, .int (nI u_144)), (8, .int (nI u_144))]) hx hb d_MD_go_277 rfl hl (by decide) rfl (fun ls hl => ?_)
                                  refine lv_goto (tgt := 79) hx hb d_MD_go_278 (by decide) ?_
                                  exact ih79 (k + 1) 0 ((xB (768 + (32 * u_126))) - 1) vmo (upd vpa k vp) 1 u_145 (hn + u_144) (by omega) (by omega) (by omega) (by rw [← heq79]; simp only [f_MD_go_l79_1, ← hu_1, ← hu_113, ← hu_123, ← hu_126, ← hu_127, ← hu_133, ← hu_144, ← hu_145, eq_false c_115, eq_false c_117, eq_false c_119, eq_false c_121, eq_true c_124, eq_false c_128, eq_false c_134, eq_true c_139, eq_true c_149, ↓reduceIte]) _ _ hP hD hS ls (lv_sub hl [2, 3, 4, 0, 5, 1] rfl)
                              · have hlt : kk < u_144 := sf_lt_of (N := u_144) (by omega) (by omega) c_146
                                refine lv_iload hx hb d_MD_go_203 (lv_at hl 5 rfl) ?_
                                refine lv_if_eq (tgt := 245) hx hb d_MD_go_205 (by decide) (fun c_147 => absurd c_147 (by decide)) (fun c_147 => ?_)
                                refine lv_aload_n hx hb d_MD_go_208 rfl (lv_at hl 0 rfl) ?_
                                refine va_get (D := D) (ci := 3) (v := .ref (q 4)) (C := R_MD) (T := F_MD) (N := 15) hx hb hts i_MD hown hK hP 0 rfl rfl 9 (by decide) (hts _ wd_584) (fun _ h9 => h9) rfl d_MD_go_209 ?_
                                refine lv_aload_n hx hb d_MD_go_212 rfl (lv_at hl 0 rfl) ?_
                                refine va_get (D := D) (ci := 3) (v := .int (nI (hn + kk))) (C := R_MD) (T := F_MD) (N := 15) hx hb hts i_MD hown hK hP 0 rfl rfl 10 (by decide) (hts _ wd_585) (fun _ h9 => h9) rfl d_MD_go_213 ?_
                                refine lv_aload_n hx hb d_MD_go_216 rfl (lv_at hl 0 rfl) ?_
                                refine va_get (D := D) (ci := 3) (v := .ref (q 1)) (C := R_MD) (T := F_MD) (N := 15) hx hb hts i_MD hown hK hP 0 rfl rfl 1 (by decide) (hts _ wd_576) (fun _ h9 => h9) rfl d_MD_go_217 ?_
                                refine lv_iload hx hb d_MD_go_220 (lv_at hl 6 rfl) ?_
                                refine lv_iconst (v := 3) hx hb d_MD_go_222 (by decide) ?_
                                refine lv_iadd hx hb d_MD_go_223 ?_
                                rw [show (((nI (768 + (32 * u_126))) + 3) : Int32) = (nI ((768 + (32 * u_126)) + 3)) from nI_add (768 + (32 * u_126)) 3]
                                refine lv_iload hx hb d_MD_go_224 (lv_at hl 8 rfl) ?_
                                refine lv_iadd hx hb d_MD_go_226 ?_
                                rw [show (((nI ((768 + (32 * u_126)) + 3)) + (nI kk)) : Int32) = (nI (((768 + (32 * u_126)) + 3) + kk)) from nI_add ((768 + (32 * u_126)) + 3) kk]
                                refine va_iald hx hb hK hP 1 0 rfl rfl (show vp_in (nI (((768 + (32 * u_126)) + 3) + kk)) 1360 from vp_in_nI (n := (((768 + (32 * u_126)) + 3) + kk)) (by omega) (by omega)) d_MD_go_227 ?_
                                rw [show ((nI (((768 + (32 * u_126)) + 3) + kk)) : Int32).toNatClampNeg = (((768 + (32 * u_126)) + 3) + kk) from nI_clamp (n := (((768 + (32 * u_126)) + 3) + kk)) (by omega)]
                                refine va_iast hx hb hK hP hD hS 4 0 rfl rfl (show vp_in (nI (hn + kk)) 75 from vp_in_nI (n := (hn + kk)) (by omega) (by omega)) d_MD_go_228 (fun H locs hP hD hS => ?_)
                                rw [show ((nI (hn + kk)) : Int32).toNatClampNeg = (hn + kk) from nI_clamp (n := (hn + kk)) (by omega)] at hP hD
                                have hP : va_P D classes (md_w q cI cZ xth xB xsh xcu xtp xtd (upd vpa k vp) (nI (k + 1)) vw (upd xh (hn + kk) (xB (((768 + (32 * u_126)) + 3) + kk))) (nI (hn + kk)) xtk xto xwa xmn) H := hP
                                have hD : va_D A (md_w q cI cZ xth xB xsh xcu xtp xtd (upd vpa k vp) (nI (k + 1)) vw (upd xh (hn + kk) (xB (((768 + (32 * u_126)) + 3) + kk))) (nI (hn + kk)) xtk xto xwa xmn) := hD
                                refine lv_aload_n hx hb d_MD_go_229 rfl (lv_at hl 0 rfl) ?_
                                refine lv_dup hx hb d_MD_go_230 rfl ?_
                                refine va_get (D := D) (ci := 3) (v := .int (nI (hn + kk))) (C := R_MD) (T := F_MD) (N := 15) hx hb hts i_MD hown hK hP 0 rfl rfl 10 (by decide) (hts _ wd_585) (fun _ h9 => h9) rfl d_MD_go_231 ?_
                                refine lv_iconst (v := 1) hx hb d_MD_go_234 (by decide) ?_
                                refine lv_iadd hx hb d_MD_go_235 ?_
                                rw [show (((nI (hn + kk)) + 1) : Int32) = (nI ((hn + kk) + 1)) from nI_add (hn + kk) 1]
                                refine va_put (D := D) (ci := 3) (v := .int (nI ((hn + kk) + 1))) (ty := .int) (C := R_MD) (T := F_MD) (N := 15) hx hb hts i_MD t_MD t_MD_ok n_MD hown hK hP hD hS 0 rfl rfl 10 (by decide) (hts _ wd_585) (fun _ h9 => h9) rfl (by decide +kernel) rfl rfl (Nat.le_of_ble_eq_true rfl) d_MD_go_236 (fun H locs hP hD hS => ?_)
                                have hP : va_P D classes (md_w q cI cZ xth xB xsh xcu xtp xtd (upd vpa k vp) (nI (k + 1)) vw (upd xh (hn + kk) (xB (((768 + (32 * u_126)) + 3) + kk))) (nI ((hn + kk) + 1)) xtk xto xwa xmn) H := hP
                                have hD : va_D A (md_w q cI cZ xth xB xsh xcu xtp xtd (upd vpa k vp) (nI (k + 1)) vw (upd xh (hn + kk) (xB (((768 + (32 * u_126)) + 3) + kk))) (nI ((hn + kk) + 1)) xtk xto xwa xmn) := hD
                                refine lv_iinc (v := (nI (kk + 1))) (lv' := [(8, .int (nI (kk + 1))), (0, .ref (q 0)), (1, .int (nI ro)), (2, .int 1), (3, .int vp), (4, .int vmo), (5, .int 1), (6, .int (nI (768 + (32 * u_126)))), (7, .int (nI u_144))]) hx hb d_MD_go_239 hl (k := 8) rfl (nI_1 kk) (by decide) rfl (fun ls hl => ?_)
                                refine lv_goto (tgt := 196) hx hb d_MD_go_242 (by decide) ?_
                                exact ih196 (kk + 1) (upd xh (hn + kk) (xB (((768 + (32 * u_126)) + 3) + kk))) (by omega) (by omega) (by rw [← heq196]; simp only [f_MD_go_l196_1, ← hu_1, ← hu_113, ← hu_123, ← hu_126, ← hu_127, ← hu_133, ← hu_144, eq_false c_146, ↓reduceIte]) _ _ hP hD hS ls (lv_sub hl [1, 2, 3, 4, 5, 6, 7, 8, 0] rfl)
                          exact loop196 (u_144 + 1) 0 vhe (by omega) (by omega) hu_145.symm _ _ hP hD hS ls (lv_sub hl [4, 5, 6, 7, 8, 1, 3, 2, 0] rfl)
      exact loop79 (3 + 1) 0 1 (u_113 - 1) 0 xpa 0 xhe 0 (by omega) (by omega) (by omega) (by simp only [f_MD_go, ← hu_1, ← hu_113, eq_false hz0, eq_true c_114, ↓reduceIte]) _ _ hP hD hS ls (lv_sub hl [4, 5, 3, 2, 1, 0] rfl)
    · refine lv_iload_n hx hb d_MD_go_50 rfl (lv_at hl 0 rfl) ?_
      refine lv_iload_n hx hb d_MD_go_51 rfl (lv_at hl 1 rfl) ?_
      refine sf_callSr (S := Unit) (rest := [.int (u_113 - 1)]) ⟨hx, hb, hml, hown, hts⟩ (c_MD_places_1 l D cI cZ cJ) (sf_cwS lk_MD_80 hts (fun _ h => h) (by rw [hR]; exact ⟨Nat.le_of_ble_eq_true rfl, Nat.le_of_ble_eq_true rfl⟩)) hK hP hD hS hA [] rfl rfl (fun _ => rfl) rfl rfl hl.1 (Nat.le_of_ble_eq_true rfl) d_MD_go_52 ⟨Nat.zero_le _, Nat.zero_le _⟩ (fun u H locs hu hP hS => ?_)
      refine lv_icmp_ge (tgt := 73) hx hb d_MD_go_55 (by decide) (fun c_150 => ?_) (fun c_150 => ?_)
      · refine lv_iconst (v := 0) hx hb d_MD_go_73 (by decide) ?_
        refine lv_istore (lv' := [(4, .int 0), (3, .int (u_113 - 1)), (2, .int 1), (0, .ref (q 0)), (1, .int (nI ro))]) hx hb d_MD_go_74 hl (by decide) rfl (fun ls hl => ?_)
        refine lv_iconst (v := 1) hx hb d_MD_go_76 (by decide) ?_
        refine lv_istore (lv' := [(5, .int 1), (4, .int 0), (3, .int (u_113 - 1)), (2, .int 1), (0, .ref (q 0)), (1, .int (nI ro))]) hx hb d_MD_go_77 hl (by decide) rfl (fun ls hl => ?_)
        have loop79 : ∀ (fu k : Nat) (vg : Int32) (vp : Int32) (vmo : Int32) (vpa : (Nat → Int32)) (vw : Int32) (vhe : (Nat → Int32)) (hn : Nat), k ≤ 3 → k + fu = 3 + 1 → hn ≤ 25 * k → f_MD_go_l79_1 xB fu k vg vp vmo vpa vw vhe hn = f_MD_go xB xpa xhe ro → ∀ (H : Heap) (locs : List Loc), va_P D classes (md_w q cI cZ xth xB xsh xcu xtp xtd vpa (nI k) vw vhe (nI hn) xtk xto xwa xmn) H → va_D A (md_w q cI cZ xth xB xsh xcu xtp xtd vpa (nI k) vw vhe (nI hn) xtk xto xwa xmn) → va_S A s.heap H locs → ∀ (ls : Array Slot), lv_has ls 9 [(0, .ref (q 0)), (1, .int (nI ro)), (2, .int 1), (3, .int vp), (4, .int vmo), (5, .int vg)] → W p l e R s m args below meth c H locs 0 0 Q (F0 m 79 ls []) := by
          intro fu
          induction fu with
          | zero =>
            intro k vg vp vmo vpa vw vhe hn h1 h2
            exact absurd h2 (by omega)
          | succ fu ih79 =>
            intro k vg vp vmo vpa vw vhe hn hk79 hkn79 hi790 heq79 H locs hP hD hS ls hl
            refine lv_iload hx hb d_MD_go_79 (lv_at hl 5 rfl) ?_
            refine lv_if_eq (tgt := 281) hx hb d_MD_go_81 (by decide) (fun c_151 => ?_) (fun c_151 => ?_)
            · refine lv_aload_n hx hb d_MD_go_281 rfl (lv_at hl 0 rfl) ?_
              refine lv_aload_n hx hb d_MD_go_282 rfl (lv_at hl 0 rfl) ?_
              refine va_get (D := D) (ci := 3) (v := .int vw) (C := R_MD) (T := F_MD) (N := 15) hx hb hts i_MD hown hK hP 0 rfl rfl 8 (by decide) (hts _ wd_583) (fun _ h9 => h9) rfl d_MD_go_283 ?_
              refine lv_if_eq (tgt := 296) hx hb d_MD_go_286 (by decide) (fun c_152 => ?_) (fun c_152 => ?_)
              · refine lv_iconst (v := 0) hx hb d_MD_go_296 (by decide) ?_
                refine va_put (D := D) (ci := 3) (v := .int 0) (ty := .int) (C := R_MD) (T := F_MD) (N := 15) hx hb hts i_MD t_MD t_MD_ok n_MD hown hK hP hD hS 0 rfl rfl 10 (by decide) (hts _ wd_585) (fun _ h9 => h9) rfl (by decide +kernel) rfl rfl (Nat.le_of_ble_eq_true rfl) d_MD_go_297 (fun H locs hP hD hS => ?_)
                have hP : va_P D classes (md_w q cI cZ xth xB xsh xcu xtp xtd vpa (nI k) vw vhe 0 xtk xto xwa xmn) H := hP
                have hD : va_D A (md_w q cI cZ xth xB xsh xcu xtp xtd vpa (nI k) vw vhe 0 xtk xto xwa xmn) := hD
                rw [hQ]
                exact sf_vret (vpa, (nI k), vw, vhe, 0) hx hb hr hlk hS rfl (by rw [← heq79]; simp only [f_MD_go_l79_1, ← hu_1, ← hu_113, eq_true c_151, eq_true c_152, ↓reduceIte]) hP d_MD_go_300
              · refine lv_aload_n hx hb d_MD_go_289 rfl (lv_at hl 0 rfl) ?_
                refine va_get (D := D) (ci := 3) (v := .int (nI hn)) (C := R_MD) (T := F_MD) (N := 15) hx hb hts i_MD hown hK hP 0 rfl rfl 10 (by decide) (hts _ wd_585) (fun _ h9 => h9) rfl d_MD_go_290 ?_
                refine lv_goto (tgt := 297) hx hb d_MD_go_293 (by decide) ?_
                refine va_put (D := D) (ci := 3) (v := .int (nI hn)) (ty := .int) (C := R_MD) (T := F_MD) (N := 15) hx hb hts i_MD t_MD t_MD_ok n_MD hown hK hP hD hS 0 rfl rfl 10 (by decide) (hts _ wd_585) (fun _ h9 => h9) rfl (by decide +kernel) rfl rfl (Nat.le_of_ble_eq_true rfl) d_MD_go_297 (fun H locs hP hD hS => ?_)
                have hP : va_P D classes (md_w q cI cZ xth xB xsh xcu xtp xtd vpa (nI k) vw vhe (nI hn) xtk xto xwa xmn) H := hP
                have hD : va_D A (md_w q cI cZ xth xB xsh xcu xtp xtd vpa (nI k) vw vhe (nI hn) xtk xto xwa xmn) := hD
                rw [hQ]
                exact sf_vret (vpa, (nI k), vw, vhe, (nI hn)) hx hb hr hlk hS rfl (by rw [← heq79]; simp only [f_MD_go_l79_1, ← hu_1, ← hu_113, eq_true c_151, eq_false c_152, ↓reduceIte]) hP d_MD_go_300
            · refine lv_iload_n hx hb d_MD_go_84 rfl (lv_at hl 3 rfl) ?_
              refine lv_if_lt (tgt := 281) hx hb d_MD_go_85 (by decide) (fun c_153 => ?_) (fun c_153 => ?_)
              · refine lv_aload_n hx hb d_MD_go_281 rfl (lv_at hl 0 rfl) ?_
                refine lv_aload_n hx hb d_MD_go_282 rfl (lv_at hl 0 rfl) ?_
                refine va_get (D := D) (ci := 3) (v := .int vw) (C := R_MD) (T := F_MD) (N := 15) hx hb hts i_MD hown hK hP 0 rfl rfl 8 (by decide) (hts _ wd_583) (fun _ h9 => h9) rfl d_MD_go_283 ?_
                refine lv_if_eq (tgt := 296) hx hb d_MD_go_286 (by decide) (fun c_154 => ?_) (fun c_154 => ?_)
                · refine lv_iconst (v := 0) hx hb d_MD_go_296 (by decide) ?_
                  refine va_put (D := D) (ci := 3) (v := .int 0) (ty := .int) (C := R_MD) (T := F_MD) (N := 15) hx hb hts i_MD t_MD t_MD_ok n_MD hown hK hP hD hS 0 rfl rfl 10 (by decide) (hts _ wd_585) (fun _ h9 => h9) rfl (by decide +kernel) rfl rfl (Nat.le_of_ble_eq_true rfl) d_MD_go_297 (fun H locs hP hD hS => ?_)
                  have hP : va_P D classes (md_w q cI cZ xth xB xsh xcu xtp xtd vpa (nI k) vw vhe 0 xtk xto xwa xmn) H := hP
                  have hD : va_D A (md_w q cI cZ xth xB xsh xcu xtp xtd vpa (nI k) vw vhe 0 xtk xto xwa xmn) := hD
                  rw [hQ]
                  exact sf_vret (vpa, (nI k), vw, vhe, 0) hx hb hr hlk hS rfl (by rw [← heq79]; simp only [f_MD_go_l79_1, ← hu_1, ← hu_113, eq_false c_151, eq_true c_153, eq_true c_154, ↓reduceIte]) hP d_MD_go_300
                · refine lv_aload_n hx hb d_MD_go_289 rfl (lv_at hl 0 rfl) ?_
                  refine va_get (D := D) (ci := 3) (v := .int (nI hn)) (C := R_MD) (T := F_MD) (N := 15) hx hb hts i_MD hown hK hP 0 rfl rfl 10 (by decide) (hts _ wd_585) (fun _ h9 => h9) rfl d_MD_go_290 ?_
                  refine lv_goto (tgt := 297) hx hb d_MD_go_293 (by decide) ?_
                  refine va_put (D := D) (ci := 3) (v := .int (nI hn)) (ty := .int) (C := R_MD) (T := F_MD) (N := 15) hx hb hts i_MD t_MD t_MD_ok n_MD hown hK hP hD hS 0 rfl rfl 10 (by decide) (hts _ wd_585) (fun _ h9 => h9) rfl (by decide +kernel) rfl rfl (Nat.le_of_ble_eq_true rfl) d_MD_go_297 (fun H locs hP hD hS => ?_)
                  have hP : va_P D classes (md_w q cI cZ xth xB xsh xcu xtp xtd vpa (nI k) vw vhe (nI hn) xtk xto xwa xmn) H := hP
                  have hD : va_D A (md_w q cI cZ xth xB xsh xcu xtp xtd vpa (nI k) vw vhe (nI hn) xtk xto xwa xmn) := hD
                  rw [hQ]
                  exact sf_vret (vpa, (nI k), vw, vhe, (nI hn)) hx hb hr hlk hS rfl (by rw [← heq79]; simp only [f_MD_go_l79_1, ← hu_1, ← hu_113, eq_false c_151, eq_true c_153, eq_false c_154, ↓reduceIte]) hP d_MD_go_300
              · refine lv_iload_n hx hb d_MD_go_88 rfl (lv_at hl 3 rfl) ?_
                refine lv_iload_n hx hb d_MD_go_89 rfl (lv_at hl 2 rfl) ?_
                refine sf_callSr (S := Unit) (rest := [.int vp]) ⟨hx, hb, hml, hown, hts⟩ (c_MD_places_1 l D cI cZ cJ) (sf_cwS lk_MD_80 hts (fun _ h => h) (by rw [hR]; exact ⟨Nat.le_of_ble_eq_true rfl, Nat.le_of_ble_eq_true rfl⟩)) hK hP hD hS hA [] rfl rfl (fun _ => rfl) rfl rfl hl.1 (Nat.le_of_ble_eq_true rfl) d_MD_go_90 ⟨Nat.zero_le _, Nat.zero_le _⟩ (fun u H locs hu hP hS => ?_)
                refine lv_icmp_ge (tgt := 281) hx hb d_MD_go_93 (by decide) (fun c_155 => ?_) (fun c_155 => ?_)
                · refine lv_aload_n hx hb d_MD_go_281 rfl (lv_at hl 0 rfl) ?_
                  refine lv_aload_n hx hb d_MD_go_282 rfl (lv_at hl 0 rfl) ?_
                  refine va_get (D := D) (ci := 3) (v := .int vw) (C := R_MD) (T := F_MD) (N := 15) hx hb hts i_MD hown hK hP 0 rfl rfl 8 (by decide) (hts _ wd_583) (fun _ h9 => h9) rfl d_MD_go_283 ?_
                  refine lv_if_eq (tgt := 296) hx hb d_MD_go_286 (by decide) (fun c_156 => ?_) (fun c_156 => ?_)
                  · refine lv_iconst (v := 0) hx hb d_MD_go_296 (by decide) ?_
                    refine va_put (D := D) (ci := 3) (v := .int 0) (ty := .int) (C := R_MD) (T := F_MD) (N := 15) hx hb hts i_MD t_MD t_MD_ok n_MD hown hK hP hD hS 0 rfl rfl 10 (by decide) (hts _ wd_585) (fun _ h9 => h9) rfl (by decide +kernel) rfl rfl (Nat.le_of_ble_eq_true rfl) d_MD_go_297 (fun H locs hP hD hS => ?_)
                    have hP : va_P D classes (md_w q cI cZ xth xB xsh xcu xtp xtd vpa (nI k) vw vhe 0 xtk xto xwa xmn) H := hP
                    have hD : va_D A (md_w q cI cZ xth xB xsh xcu xtp xtd vpa (nI k) vw vhe 0 xtk xto xwa xmn) := hD
                    rw [hQ]
                    exact sf_vret (vpa, (nI k), vw, vhe, 0) hx hb hr hlk hS rfl (by rw [← heq79]; simp only [f_MD_go_l79_1, ← hu_1, ← hu_113, eq_false c_151, eq_false c_153, eq_true c_155, eq_true c_156, ↓reduceIte]) hP d_MD_go_300
                  · refine lv_aload_n hx hb d_MD_go_289 rfl (lv_at hl 0 rfl) ?_
                    refine va_get (D := D) (ci := 3) (v := .int (nI hn)) (C := R_MD) (T := F_MD) (N := 15) hx hb hts i_MD hown hK hP 0 rfl rfl 10 (by decide) (hts _ wd_585) (fun _ h9 => h9) rfl d_MD_go_290 ?_
                    refine lv_goto (tgt := 297) hx hb d_MD_go_293 (by decide) ?_
                    refine va_put (D := D) (ci := 3) (v := .int (nI hn)) (ty := .int) (C := R_MD) (T := F_MD) (N := 15) hx hb hts i_MD t_MD t_MD_ok n_MD hown hK hP hD hS 0 rfl rfl 10 (by decide) (hts _ wd_585) (fun _ h9 => h9) rfl (by decide +kernel) rfl rfl (Nat.le_of_ble_eq_true rfl) d_MD_go_297 (fun H locs hP hD hS => ?_)
                    have hP : va_P D classes (md_w q cI cZ xth xB xsh xcu xtp xtd vpa (nI k) vw vhe (nI hn) xtk xto xwa xmn) H := hP
                    have hD : va_D A (md_w q cI cZ xth xB xsh xcu xtp xtd vpa (nI k) vw vhe (nI hn) xtk xto xwa xmn) := hD
                    rw [hQ]
                    exact sf_vret (vpa, (nI k), vw, vhe, (nI hn)) hx hb hr hlk hS rfl (by rw [← heq79]; simp only [f_MD_go_l79_1, ← hu_1, ← hu_113, eq_false c_151, eq_false c_153, eq_true c_155, eq_false c_156, ↓reduceIte]) hP d_MD_go_300
                · refine lv_aload_n hx hb d_MD_go_96 rfl (lv_at hl 0 rfl) ?_
                  refine va_get (D := D) (ci := 3) (v := .int (nI k)) (C := R_MD) (T := F_MD) (N := 15) hx hb hts i_MD hown hK hP 0 rfl rfl 7 (by decide) (hts _ wd_582) (fun _ h9 => h9) rfl d_MD_go_97 ?_
                  refine lv_iconst (v := 3) hx hb d_MD_go_100 (by decide) ?_
                  refine lv_icmp_ge (tgt := 281) hx hb d_MD_go_101 (by decide) (fun c_157 => ?_) (fun c_157 => ?_)
                  · refine lv_aload_n hx hb d_MD_go_281 rfl (lv_at hl 0 rfl) ?_
                    refine lv_aload_n hx hb d_MD_go_282 rfl (lv_at hl 0 rfl) ?_
                    refine va_get (D := D) (ci := 3) (v := .int vw) (C := R_MD) (T := F_MD) (N := 15) hx hb hts i_MD hown hK hP 0 rfl rfl 8 (by decide) (hts _ wd_583) (fun _ h9 => h9) rfl d_MD_go_283 ?_
                    refine lv_if_eq (tgt := 296) hx hb d_MD_go_286 (by decide) (fun c_158 => ?_) (fun c_158 => ?_)
                    · refine lv_iconst (v := 0) hx hb d_MD_go_296 (by decide) ?_
                      refine va_put (D := D) (ci := 3) (v := .int 0) (ty := .int) (C := R_MD) (T := F_MD) (N := 15) hx hb hts i_MD t_MD t_MD_ok n_MD hown hK hP hD hS 0 rfl rfl 10 (by decide) (hts _ wd_585) (fun _ h9 => h9) rfl (by decide +kernel) rfl rfl (Nat.le_of_ble_eq_true rfl) d_MD_go_297 (fun H locs hP hD hS => ?_)
                      have hP : va_P D classes (md_w q cI cZ xth xB xsh xcu xtp xtd vpa (nI k) vw vhe 0 xtk xto xwa xmn) H := hP
                      have hD : va_D A (md_w q cI cZ xth xB xsh xcu xtp xtd vpa (nI k) vw vhe 0 xtk xto xwa xmn) := hD
                      rw [hQ]
                      exact sf_vret (vpa, (nI k), vw, vhe, 0) hx hb hr hlk hS rfl (by rw [← heq79]; simp only [f_MD_go_l79_1, ← hu_1, ← hu_113, eq_false c_151, eq_false c_153, eq_false c_155, eq_true c_157, eq_true c_158, ↓reduceIte]) hP d_MD_go_300
                    · refine lv_aload_n hx hb d_MD_go_289 rfl (lv_at hl 0 rfl) ?_
                      refine va_get (D := D) (ci := 3) (v := .int (nI hn)) (C := R_MD) (T := F_MD) (N := 15) hx hb hts i_MD hown hK hP 0 rfl rfl 10 (by decide) (hts _ wd_585) (fun _ h9 => h9) rfl d_MD_go_290 ?_
                      refine lv_goto (tgt := 297) hx hb d_MD_go_293 (by decide) ?_
                      refine va_put (D := D) (ci := 3) (v := .int (nI hn)) (ty := .int) (C := R_MD) (T := F_MD) (N := 15) hx hb hts i_MD t_MD t_MD_ok n_MD hown hK hP hD hS 0 rfl rfl 10 (by decide) (hts _ wd_585) (fun _ h9 => h9) rfl (by decide +kernel) rfl rfl (Nat.le_of_ble_eq_true rfl) d_MD_go_297 (fun H locs hP hD hS => ?_)
                      have hP : va_P D classes (md_w q cI cZ xth xB xsh xcu xtp xtd vpa (nI k) vw vhe (nI hn) xtk xto xwa xmn) H := hP
                      have hD : va_D A (md_w q cI cZ xth xB xsh xcu xtp xtd vpa (nI k) vw vhe (nI hn) xtk xto xwa xmn) := hD
                      rw [hQ]
                      exact sf_vret (vpa, (nI k), vw, vhe, (nI hn)) hx hb hr hlk hS rfl (by rw [← heq79]; simp only [f_MD_go_l79_1, ← hu_1, ← hu_113, eq_false c_151, eq_false c_153, eq_false c_155, eq_true c_157, eq_false c_158, ↓reduceIte]) hP d_MD_go_300
                  · have hlt : k < 3 := sf_lt_of (N := 3) (by omega) (by omega) c_157
                    refine lv_aload_n hx hb d_MD_go_104 rfl (lv_at hl 0 rfl) ?_
                    refine lv_iload_n hx hb d_MD_go_105 rfl (lv_at hl 3 rfl) ?_
                    refine sf_callVw (S := Int32) (rest := []) ⟨hx, hb, hml, hown, hts⟩ (c_MD_isThrough l D cI cZ cJ q xth xB xsh xcu xtp xtd vpa vw vhe (nI hn) xtk xto xwa xmn k vp (by omega)) (sf_cwV lk_MD_88 hts (fun _ h => h) (by rw [hR]; exact ⟨Nat.le_of_ble_eq_true rfl, Nat.le_of_ble_eq_true rfl⟩)) hK hP hD hS hA (fun _ => by simp only [md_w_fst]) (ci := 3) (q0 := 0) rfl rfl rfl rfl rfl hl.1 (Nat.le_of_ble_eq_true rfl) d_MD_go_106 ⟨Nat.zero_le _, Nat.zero_le _⟩ (fun u_159 H locs hu_159 hP hD hS => ?_)
                    have hP : va_P D classes (md_w q cI cZ xth xB xsh xcu xtp xtd vpa (nI k) vw vhe (nI hn) xtk xto xwa xmn) H := hP
                    have hD : va_D A (md_w q cI cZ xth xB xsh xcu xtp xtd vpa (nI k) vw vhe (nI hn) xtk xto xwa xmn) := hD
                    refine lv_if_ne (tgt := 281) hx hb d_MD_go_109 (by decide) (fun c_160 => ?_) (fun c_160 => ?_)
                    · refine lv_aload_n hx hb d_MD_go_281 rfl (lv_at hl 0 rfl) ?_
                      refine lv_aload_n hx hb d_MD_go_282 rfl (lv_at hl 0 rfl) ?_
                      refine va_get (D := D) (ci := 3) (v := .int vw) (C := R_MD) (T := F_MD) (N := 15) hx hb hts i_MD hown hK hP 0 rfl rfl 8 (by decide) (hts _ wd_583) (fun _ h9 => h9) rfl d_MD_go_283 ?_
                      refine lv_if_eq (tgt := 296) hx hb d_MD_go_286 (by decide) (fun c_161 => ?_) (fun c_161 => ?_)
                      · refine lv_iconst (v := 0) hx hb d_MD_go_296 (by decide) ?_
                        refine va_put (D := D) (ci := 3) (v := .int 0) (ty := .int) (C := R_MD) (T := F_MD) (N := 15) hx hb hts i_MD t_MD t_MD_ok n_MD hown hK hP hD hS 0 rfl rfl 10 (by decide) (hts _ wd_585) (fun _ h9 => h9) rfl (by decide +kernel) rfl rfl (Nat.le_of_ble_eq_true rfl) d_MD_go_297 (fun H locs hP hD hS => ?_)
                        have hP : va_P D classes (md_w q cI cZ xth xB xsh xcu xtp xtd vpa (nI k) vw vhe 0 xtk xto xwa xmn) H := hP
                        have hD : va_D A (md_w q cI cZ xth xB xsh xcu xtp xtd vpa (nI k) vw vhe 0 xtk xto xwa xmn) := hD
                        rw [hQ]
                        exact sf_vret (vpa, (nI k), vw, vhe, 0) hx hb hr hlk hS rfl (by rw [← heq79]; simp only [f_MD_go_l79_1, ← hu_1, ← hu_113, ← hu_159, eq_false c_151, eq_false c_153, eq_false c_155, eq_false c_157, eq_false c_160, eq_true c_161, ↓reduceIte]) hP d_MD_go_300
                      · refine lv_aload_n hx hb d_MD_go_289 rfl (lv_at hl 0 rfl) ?_
                        refine va_get (D := D) (ci := 3) (v := .int (nI hn)) (C := R_MD) (T := F_MD) (N := 15) hx hb hts i_MD hown hK hP 0 rfl rfl 10 (by decide) (hts _ wd_585) (fun _ h9 => h9) rfl d_MD_go_290 ?_
                        refine lv_goto (tgt := 297) hx hb d_MD_go_293 (by decide) ?_
                        refine va_put (D := D) (ci := 3) (v := .int (nI hn)) (ty := .int) (C := R_MD) (T := F_MD) (N := 15) hx hb hts i_MD t_MD t_MD_ok n_MD hown hK hP hD hS 0 rfl rfl 10 (by decide) (hts _ wd_585) (fun _ h9 => h9) rfl (by decide +kernel) rfl rfl (Nat.le_of_ble_eq_true rfl) d_MD_go_297 (fun H locs hP hD hS => ?_)
                        have hP : va_P D classes (md_w q cI cZ xth xB xsh xcu xtp xtd vpa (nI k) vw vhe (nI hn) xtk xto xwa xmn) H := hP
                        have hD : va_D A (md_w q cI cZ xth xB xsh xcu xtp xtd vpa (nI k) vw vhe (nI hn) xtk xto xwa xmn) := hD
                        rw [hQ]
                        exact sf_vret (vpa, (nI k), vw, vhe, (nI hn)) hx hb hr hlk hS rfl (by rw [← heq79]; simp only [f_MD_go_l79_1, ← hu_1, ← hu_113, ← hu_159, eq_false c_151, eq_false c_153, eq_false c_155, eq_false c_157, eq_false c_160, eq_false c_161, ↓reduceIte]) hP d_MD_go_300
                    · refine lv_iload_n hx hb d_MD_go_112 rfl (lv_at hl 2 rfl) ?_
                      refine lv_iload_n hx hb d_MD_go_113 rfl (lv_at hl 3 rfl) ?_
                      obtain ⟨u_162, hu_162⟩ : ∃ z, z = vp.toNatClampNeg := ⟨_, rfl⟩
                      obtain ⟨he_u_162, hb_u_162⟩ := sf_natp (B := 16) (by omega) hu_162 c_153 c_155
                      rw [he_u_162]
                      refine sf_callSr (S := Unit) (rest := []) ⟨hx, hb, hml, hown, hts⟩ (c_MD_begin_1 l D cI cZ cJ u_162) (sf_cwS lk_MD_84 hts (fun _ h => h) (by rw [hR]; exact ⟨Nat.le_of_ble_eq_true rfl, Nat.le_of_ble_eq_true rfl⟩)) hK hP hD hS hA [] rfl rfl (fun _ => rfl) rfl rfl hl.1 (Nat.le_of_ble_eq_true rfl) d_MD_go_114 ⟨Nat.zero_le _, Nat.zero_le _⟩ (fun u H locs hu hP hS => ?_)
                      refine lv_istore (lv' := [(6, .int (nI (768 + (32 * u_162)))), (0, .ref (q 0)), (1, .int (nI ro)), (2, .int 1), (3, .int vp), (4, .int vmo), (5, .int vg)]) hx hb d_MD_go_117 hl (by decide) rfl (fun ls hl => ?_)
                      refine lv_aload_n hx hb d_MD_go_119 rfl (lv_at hl 1 rfl) ?_
                      refine va_get (D := D) (ci := 3) (v := .ref (q 3)) (C := R_MD) (T := F_MD) (N := 15) hx hb hts i_MD hown hK hP 0 rfl rfl 6 (by decide) (hts _ wd_581) (fun _ h9 => h9) rfl d_MD_go_120 ?_
                      refine lv_aload_n hx hb d_MD_go_123 rfl (lv_at hl 1 rfl) ?_
                      refine va_get (D := D) (ci := 3) (v := .int (nI k)) (C := R_MD) (T := F_MD) (N := 15) hx hb hts i_MD hown hK hP 0 rfl rfl 7 (by decide) (hts _ wd_582) (fun _ h9 => h9) rfl d_MD_go_124 ?_
                      refine lv_iload_n hx hb d_MD_go_127 rfl (lv_at hl 4 rfl) ?_
                      refine va_iast hx hb hK hP hD hS 3 0 rfl rfl (show vp_in (nI k) 3 from vp_in_nI (n := k) (by omega) (by omega)) d_MD_go_128 (fun H locs hP hD hS => ?_)
                      rw [show ((nI k) : Int32).toNatClampNeg = k from nI_clamp (n := k) (by omega)] at hP hD
                      have hP : va_P D classes (md_w q cI cZ xth xB xsh xcu xtp xtd (upd vpa k vp) (nI k) vw vhe (nI hn) xtk xto xwa xmn) H := hP
                      have hD : va_D A (md_w q cI cZ xth xB xsh xcu xtp xtd (upd vpa k vp) (nI k) vw vhe (nI hn) xtk xto xwa xmn) := hD
                      refine lv_aload_n hx hb d_MD_go_129 rfl (lv_at hl 1 rfl) ?_
                      refine lv_dup hx hb d_MD_go_130 rfl ?_
                      refine va_get (D := D) (ci := 3) (v := .int (nI k)) (C := R_MD) (T := F_MD) (N := 15) hx hb hts i_MD hown hK hP 0 rfl rfl 7 (by decide) (hts _ wd_582) (fun _ h9 => h9) rfl d_MD_go_131 ?_
                      refine lv_iconst (v := 1) hx hb d_MD_go_134 (by decide) ?_
                      refine lv_iadd hx hb d_MD_go_135 ?_
                      rw [show (((nI k) + 1) : Int32) = (nI (k + 1)) from nI_add k 1]
                      refine va_put (D := D) (ci := 3) (v := .int (nI (k + 1))) (ty := .int) (C := R_MD) (T := F_MD) (N := 15) hx hb hts i_MD t_MD t_MD_ok n_MD hown hK hP hD hS 0 rfl rfl 7 (by decide) (hts _ wd_582) (fun _ h9 => h9) rfl (by decide +kernel) rfl rfl (Nat.le_of_ble_eq_true rfl) d_MD_go_136 (fun H locs hP hD hS => ?_)
                      have hP : va_P D classes (md_w q cI cZ xth xB xsh xcu xtp xtd (upd vpa k vp) (nI (k + 1)) vw vhe (nI hn) xtk xto xwa xmn) H := hP
                      have hD : va_D A (md_w q cI cZ xth xB xsh xcu xtp xtd (upd vpa k vp) (nI (k + 1)) vw vhe (nI hn) xtk xto xwa xmn) := hD
                      refine lv_aload_n hx hb d_MD_go_139 rfl (lv_at hl 1 rfl) ?_
                      refine va_get (D := D) (ci := 3) (v := .ref (q 1)) (C := R_MD) (T := F_MD) (N := 15) hx hb hts i_MD hown hK hP 0 rfl rfl 1 (by decide) (hts _ wd_576) (fun _ h9 => h9) rfl d_MD_go_140 ?_
                      refine lv_iload hx hb d_MD_go_143 (lv_at hl 0 rfl) ?_
                      refine lv_iconst (v := 1) hx hb d_MD_go_145 (by decide) ?_
                      refine lv_iadd hx hb d_MD_go_146 ?_
                      rw [show (((nI (768 + (32 * u_162))) + 1) : Int32) = (nI ((768 + (32 * u_162)) + 1)) from nI_add (768 + (32 * u_162)) 1]
                      refine va_iald hx hb hK hP 1 0 rfl rfl (show vp_in (nI ((768 + (32 * u_162)) + 1)) 1360 from vp_in_nI (n := ((768 + (32 * u_162)) + 1)) (by omega) (by omega)) d_MD_go_147 ?_
                      rw [show ((nI ((768 + (32 * u_162)) + 1)) : Int32).toNatClampNeg = ((768 + (32 * u_162)) + 1) from nI_clamp (n := ((768 + (32 * u_162)) + 1)) (by omega)]
                      refine lv_istore (lv' := [(7, .int (xB ((768 + (32 * u_162)) + 1))), (6, .int (nI (768 + (32 * u_162)))), (0, .ref (q 0)), (1, .int (nI ro)), (2, .int 1), (3, .int vp), (4, .int vmo), (5, .int vg)]) hx hb d_MD_go_148 hl (by decide) rfl (fun ls hl => ?_)
                      refine lv_aload_n hx hb d_MD_go_150 rfl (lv_at hl 2 rfl) ?_
                      refine lv_iload hx hb d_MD_go_151 (lv_at hl 1 rfl) ?_
                      refine lv_bipush (v := 28) hx hb d_MD_go_153 (by decide) ?_
                      refine sf_callVw (S := Int32) (rest := []) ⟨hx, hb, hml, hown, hts⟩ (c_MD_isSummed l D cI cZ cJ q xth xB xsh xcu xtp xtd (upd vpa k vp) (nI (k + 1)) vw vhe (nI hn) xtk xto xwa xmn (768 + (32 * u_162)) 28 (by omega)) (sf_cwV lk_MD_48 hts (fun _ h => h) (by rw [hR]; exact ⟨Nat.le_of_ble_eq_true rfl, Nat.le_of_ble_eq_true rfl⟩)) hK hP hD hS hA (fun _ => by simp only [md_w_fst]) (ci := 3) (q0 := 0) rfl rfl rfl rfl rfl hl.1 (Nat.le_of_ble_eq_true rfl) d_MD_go_155 ⟨Nat.zero_le _, Nat.zero_le _⟩ (fun u_163 H locs hu_163 hP hD hS => ?_)
                      have hP : va_P D classes (md_w q cI cZ xth xB xsh xcu xtp xtd (upd vpa k vp) (nI (k + 1)) vw vhe (nI hn) xtk xto xwa xmn) H := hP
                      have hD : va_D A (md_w q cI cZ xth xB xsh xcu xtp xtd (upd vpa k vp) (nI (k + 1)) vw vhe (nI hn) xtk xto xwa xmn) := hD
                      refine lv_if_eq (tgt := 190) hx hb d_MD_go_158 (by decide) (fun c_164 => ?_) (fun c_164 => ?_)
                      · refine lv_iconst (v := 0) hx hb d_MD_go_190 (by decide) ?_
                        refine lv_istore (lv' := [(5, .int 0), (7, .int (xB ((768 + (32 * u_162)) + 1))), (6, .int (nI (768 + (32 * u_162)))), (0, .ref (q 0)), (1, .int (nI ro)), (2, .int 1), (3, .int vp), (4, .int vmo)]) hx hb d_MD_go_191 hl (by decide) rfl (fun ls hl => ?_)
                        refine lv_iconst (v := 0) hx hb d_MD_go_193 (by decide) ?_
                        refine lv_istore (lv' := [(8, .int 0), (5, .int 0), (7, .int (xB ((768 + (32 * u_162)) + 1))), (6, .int (nI (768 + (32 * u_162)))), (0, .ref (q 0)), (1, .int (nI ro)), (2, .int 1), (3, .int vp), (4, .int vmo)]) hx hb d_MD_go_194 hl (by decide) rfl (fun ls hl => ?_)
                        refine lv_iload hx hb d_MD_go_196 (lv_at hl 0 rfl) ?_
                        refine lv_iload hx hb d_MD_go_198 (lv_at hl 2 rfl) ?_
                        refine lv_icmp_ge (tgt := 245) hx hb d_MD_go_200 (by decide) (fun c_165 => ?_) (fun c_165 => ?_)
                        · refine lv_iload hx hb d_MD_go_245 (lv_at hl 1 rfl) ?_
                          refine lv_if_eq (tgt := 268) hx hb d_MD_go_247 (by decide) (fun c_166 => ?_) (fun c_166 => absurd (by decide) c_166)
                          refine lv_aload_n hx hb d_MD_go_268 rfl (lv_at hl 4 rfl) ?_
                          refine va_get (D := D) (ci := 3) (v := .ref (q 1)) (C := R_MD) (T := F_MD) (N := 15) hx hb hts i_MD hown hK hP 0 rfl rfl 1 (by decide) (hts _ wd_576) (fun _ h9 => h9) rfl d_MD_go_269 ?_
                          refine lv_iload hx hb d_MD_go_272 (lv_at hl 3 rfl) ?_
                          refine va_iald hx hb hK hP 1 0 rfl rfl (show vp_in (nI (768 + (32 * u_162))) 1360 from vp_in_nI (n := (768 + (32 * u_162))) (by omega) (by omega)) d_MD_go_274 ?_
                          rw [show ((nI (768 + (32 * u_162))) : Int32).toNatClampNeg = (768 + (32 * u_162)) from nI_clamp (n := (768 + (32 * u_162))) (by omega)]
                          refine lv_iconst (v := 1) hx hb d_MD_go_275 (by decide) ?_
                          refine lv_isub hx hb d_MD_go_276 ?_
                          refine lv_istore_n (lv' := [(3, .int ((xB (768 + (32 * u_162))) - 1)), (8, .int 0), (5, .int 0), (7, .int (xB ((768 + (32 * u_162)) + 1))), (6, .int (nI (768 + (32 * u_162)))), (0, .ref (q 0)), (1, .int (nI ro)), (2, .int 1), (4, .int vmo)]) hx hb d_MD_go_277 rfl hl (by decide) rfl (fun ls hl => ?_)
                          refine lv_goto (tgt := 79) hx hb d_MD_go_278 (by decide) ?_
                          exact ih79 (k + 1) 0 ((xB (768 + (32 * u_162))) - 1) vmo (upd vpa k vp) vw vhe hn (by omega) (by omega) (by omega) (by rw [← heq79]; simp only [f_MD_go_l79_1, ← hu_1, ← hu_113, ← hu_159, ← hu_162, ← hu_163, eq_false c_151, eq_false c_153, eq_false c_155, eq_false c_157, eq_true c_160, eq_true c_164, eq_true c_165, ↓reduceIte]) _ _ hP hD hS ls (lv_sub hl [5, 6, 7, 0, 8, 2] rfl)
                        · refine lv_iload hx hb d_MD_go_203 (lv_at hl 1 rfl) ?_
                          refine lv_if_eq (tgt := 245) hx hb d_MD_go_205 (by decide) (fun c_167 => ?_) (fun c_167 => absurd (by decide) c_167)
                          refine lv_iload hx hb d_MD_go_245 (lv_at hl 1 rfl) ?_
                          refine lv_if_eq (tgt := 268) hx hb d_MD_go_247 (by decide) (fun c_168 => ?_) (fun c_168 => absurd (by decide) c_168)
                          refine lv_aload_n hx hb d_MD_go_268 rfl (lv_at hl 4 rfl) ?_
                          refine va_get (D := D) (ci := 3) (v := .ref (q 1)) (C := R_MD) (T := F_MD) (N := 15) hx hb hts i_MD hown hK hP 0 rfl rfl 1 (by decide) (hts _ wd_576) (fun _ h9 => h9) rfl d_MD_go_269 ?_
                          refine lv_iload hx hb d_MD_go_272 (lv_at hl 3 rfl) ?_
                          refine va_iald hx hb hK hP 1 0 rfl rfl (show vp_in (nI (768 + (32 * u_162))) 1360 from vp_in_nI (n := (768 + (32 * u_162))) (by omega) (by omega)) d_MD_go_274 ?_
                          rw [show ((nI (768 + (32 * u_162))) : Int32).toNatClampNeg = (768 + (32 * u_162)) from nI_clamp (n := (768 + (32 * u_162))) (by omega)]
                          refine lv_iconst (v := 1) hx hb d_MD_go_275 (by decide) ?_
                          refine lv_isub hx hb d_MD_go_276 ?_
                          refine lv_istore_n (lv' := [(3, .int ((xB (768 + (32 * u_162))) - 1)), (8, .int 0), (5, .int 0), (7, .int (xB ((768 + (32 * u_162)) + 1))), (6, .int (nI (768 + (32 * u_162)))), (0, .ref (q 0)), (1, .int (nI ro)), (2, .int 1), (4, .int vmo)]) hx hb d_MD_go_277 rfl hl (by decide) rfl (fun ls hl => ?_)
                          refine lv_goto (tgt := 79) hx hb d_MD_go_278 (by decide) ?_
                          exact ih79 (k + 1) 0 ((xB (768 + (32 * u_162))) - 1) vmo (upd vpa k vp) vw vhe hn (by omega) (by omega) (by omega) (by rw [← heq79]; simp only [f_MD_go_l79_1, ← hu_1, ← hu_113, ← hu_159, ← hu_162, ← hu_163, eq_false c_151, eq_false c_153, eq_false c_155, eq_false c_157, eq_true c_160, eq_true c_164, eq_false c_165, ↓reduceIte]) _ _ hP hD hS ls (lv_sub hl [5, 6, 7, 0, 8, 2] rfl)
                      · refine lv_iload hx hb d_MD_go_161 (lv_at hl 0 rfl) ?_
                        refine lv_iconst (v := 1) hx hb d_MD_go_163 (by decide) ?_
                        refine lv_bipush (v := 25) hx hb d_MD_go_164 (by decide) ?_
                        refine sf_callSr (S := Int32) (rest := []) ⟨hx, hb, hml, hown, hts⟩ (c_MD_in l D cI cZ cJ (xB ((768 + (32 * u_162)) + 1)) 1 25) (sf_cwS lk_MD_44 hts (fun _ h => h) (by rw [hR]; exact ⟨Nat.le_of_ble_eq_true rfl, Nat.le_of_ble_eq_true rfl⟩)) hK hP hD hS hA [] rfl rfl (fun _ => rfl) rfl rfl hl.1 (Nat.le_of_ble_eq_true rfl) d_MD_go_166 ⟨Nat.zero_le _, Nat.zero_le _⟩ (fun u_169 H locs hu_169 hP hS => ?_)
                        refine lv_if_eq (tgt := 190) hx hb d_MD_go_169 (by decide) (fun c_170 => ?_) (fun c_170 => ?_)
                        · refine lv_iconst (v := 0) hx hb d_MD_go_190 (by decide) ?_
                          refine lv_istore (lv' := [(5, .int 0), (7, .int (xB ((768 + (32 * u_162)) + 1))), (6, .int (nI (768 + (32 * u_162)))), (0, .ref (q 0)), (1, .int (nI ro)), (2, .int 1), (3, .int vp), (4, .int vmo)]) hx hb d_MD_go_191 hl (by decide) rfl (fun ls hl => ?_)
                          refine lv_iconst (v := 0) hx hb d_MD_go_193 (by decide) ?_
                          refine lv_istore (lv' := [(8, .int 0), (5, .int 0), (7, .int (xB ((768 + (32 * u_162)) + 1))), (6, .int (nI (768 + (32 * u_162)))), (0, .ref (q 0)), (1, .int (nI ro)), (2, .int 1), (3, .int vp), (4, .int vmo)]) hx hb d_MD_go_194 hl (by decide) rfl (fun ls hl => ?_)
                          refine lv_iload hx hb d_MD_go_196 (lv_at hl 0 rfl) ?_
                          refine lv_iload hx hb d_MD_go_198 (lv_at hl 2 rfl) ?_
                          refine lv_icmp_ge (tgt := 245) hx hb d_MD_go_200 (by decide) (fun c_171 => ?_) (fun c_171 => ?_)
                          · refine lv_iload hx hb d_MD_go_245 (lv_at hl 1 rfl) ?_
                            refine lv_if_eq (tgt := 268) hx hb d_MD_go_247 (by decide) (fun c_172 => ?_) (fun c_172 => absurd (by decide) c_172)
                            refine lv_aload_n hx hb d_MD_go_268 rfl (lv_at hl 4 rfl) ?_
                            refine va_get (D := D) (ci := 3) (v := .ref (q 1)) (C := R_MD) (T := F_MD) (N := 15) hx hb hts i_MD hown hK hP 0 rfl rfl 1 (by decide) (hts _ wd_576) (fun _ h9 => h9) rfl d_MD_go_269 ?_
                            refine lv_iload hx hb d_MD_go_272 (lv_at hl 3 rfl) ?_
                            refine va_iald hx hb hK hP 1 0 rfl rfl (show vp_in (nI (768 + (32 * u_162))) 1360 from vp_in_nI (n := (768 + (32 * u_162))) (by omega) (by omega)) d_MD_go_274 ?_
                            rw [show ((nI (768 + (32 * u_162))) : Int32).toNatClampNeg = (768 + (32 * u_162)) from nI_clamp (n := (768 + (32 * u_162))) (by omega)]
                            refine lv_iconst (v := 1) hx hb d_MD_go_275 (by decide) ?_
                            refine lv_isub hx hb d_MD_go_276 ?_
                            refine lv_istore_n (lv' := [(3, .int ((xB (768 + (32 * u_162))) - 1)), (8, .int 0), (5, .int 0), (7, .int (xB ((768 + (32 * u_162)) + 1))), (6, .int (nI (768 + (32 * u_162)))), (0, .ref (q 0)), (1, .int (nI ro)), (2, .int 1), (4, .int vmo)]) hx hb d_MD_go_277 rfl hl (by decide) rfl (fun ls hl => ?_)
                            refine lv_goto (tgt := 79) hx hb d_MD_go_278 (by decide) ?_
                            exact ih79 (k + 1) 0 ((xB (768 + (32 * u_162))) - 1) vmo (upd vpa k vp) vw vhe hn (by omega) (by omega) (by omega) (by rw [← heq79]; simp only [f_MD_go_l79_1, ← hu_1, ← hu_113, ← hu_159, ← hu_162, ← hu_163, ← hu_169, eq_false c_151, eq_false c_153, eq_false c_155, eq_false c_157, eq_true c_160, eq_false c_164, eq_true c_170, eq_true c_171, ↓reduceIte]) _ _ hP hD hS ls (lv_sub hl [5, 6, 7, 0, 8, 2] rfl)
                          · refine lv_iload hx hb d_MD_go_203 (lv_at hl 1 rfl) ?_
                            refine lv_if_eq (tgt := 245) hx hb d_MD_go_205 (by decide) (fun c_173 => ?_) (fun c_173 => absurd (by decide) c_173)
                            refine lv_iload hx hb d_MD_go_245 (lv_at hl 1 rfl) ?_
                            refine lv_if_eq (tgt := 268) hx hb d_MD_go_247 (by decide) (fun c_174 => ?_) (fun c_174 => absurd (by decide) c_174)
                            refine lv_aload_n hx hb d_MD_go_268 rfl (lv_at hl 4 rfl) ?_
                            refine va_get (D := D) (ci := 3) (v := .ref (q 1)) (C := R_MD) (T := F_MD) (N := 15) hx hb hts i_MD hown hK hP 0 rfl rfl 1 (by decide) (hts _ wd_576) (fun _ h9 => h9) rfl d_MD_go_269 ?_
                            refine lv_iload hx hb d_MD_go_272 (lv_at hl 3 rfl) ?_
                            refine va_iald hx hb hK hP 1 0 rfl rfl (show vp_in (nI (768 + (32 * u_162))) 1360 from vp_in_nI (n := (768 + (32 * u_162))) (by omega) (by omega)) d_MD_go_274 ?_
                            rw [show ((nI (768 + (32 * u_162))) : Int32).toNatClampNeg = (768 + (32 * u_162)) from nI_clamp (n := (768 + (32 * u_162))) (by omega)]
                            refine lv_iconst (v := 1) hx hb d_MD_go_275 (by decide) ?_
                            refine lv_isub hx hb d_MD_go_276 ?_
                            refine lv_istore_n (lv' := [(3, .int ((xB (768 + (32 * u_162))) - 1)), (8, .int 0), (5, .int 0), (7, .int (xB ((768 + (32 * u_162)) + 1))), (6, .int (nI (768 + (32 * u_162)))), (0, .ref (q 0)), (1, .int (nI ro)), (2, .int 1), (4, .int vmo)]) hx hb d_MD_go_277 rfl hl (by decide) rfl (fun ls hl => ?_)
                            refine lv_goto (tgt := 79) hx hb d_MD_go_278 (by decide) ?_
                            exact ih79 (k + 1) 0 ((xB (768 + (32 * u_162))) - 1) vmo (upd vpa k vp) vw vhe hn (by omega) (by omega) (by omega) (by rw [← heq79]; simp only [f_MD_go_l79_1, ← hu_1, ← hu_113, ← hu_159, ← hu_162, ← hu_163, ← hu_169, eq_false c_151, eq_false c_153, eq_false c_155, eq_false c_157, eq_true c_160, eq_false c_164, eq_true c_170, eq_false c_171, ↓reduceIte]) _ _ hP hD hS ls (lv_sub hl [5, 6, 7, 0, 8, 2] rfl)
                        · refine lv_aload_n hx hb d_MD_go_172 rfl (lv_at hl 2 rfl) ?_
                          refine va_get (D := D) (ci := 3) (v := .ref (q 1)) (C := R_MD) (T := F_MD) (N := 15) hx hb hts i_MD hown hK hP 0 rfl rfl 1 (by decide) (hts _ wd_576) (fun _ h9 => h9) rfl d_MD_go_173 ?_
                          refine lv_iload hx hb d_MD_go_176 (lv_at hl 1 rfl) ?_
                          refine lv_iconst (v := 2) hx hb d_MD_go_178 (by decide) ?_
                          refine lv_iadd hx hb d_MD_go_179 ?_
                          rw [show (((nI (768 + (32 * u_162))) + 2) : Int32) = (nI ((768 + (32 * u_162)) + 2)) from nI_add (768 + (32 * u_162)) 2]
                          refine va_iald hx hb hK hP 1 0 rfl rfl (show vp_in (nI ((768 + (32 * u_162)) + 2)) 1360 from vp_in_nI (n := ((768 + (32 * u_162)) + 2)) (by omega) (by omega)) d_MD_go_180 ?_
                          rw [show ((nI ((768 + (32 * u_162)) + 2)) : Int32).toNatClampNeg = ((768 + (32 * u_162)) + 2) from nI_clamp (n := ((768 + (32 * u_162)) + 2)) (by omega)]
                          refine lv_iload hx hb d_MD_go_181 (lv_at hl 6 rfl) ?_
                          refine lv_icmp_ne (tgt := 190) hx hb d_MD_go_183 (by decide) (fun c_175 => ?_) (fun c_175 => ?_)
                          · refine lv_iconst (v := 0) hx hb d_MD_go_190 (by decide) ?_
                            refine lv_istore (lv' := [(5, .int 0), (7, .int (xB ((768 + (32 * u_162)) + 1))), (6, .int (nI (768 + (32 * u_162)))), (0, .ref (q 0)), (1, .int (nI ro)), (2, .int 1), (3, .int vp), (4, .int vmo)]) hx hb d_MD_go_191 hl (by decide) rfl (fun ls hl => ?_)
                            refine lv_iconst (v := 0) hx hb d_MD_go_193 (by decide) ?_
                            refine lv_istore (lv' := [(8, .int 0), (5, .int 0), (7, .int (xB ((768 + (32 * u_162)) + 1))), (6, .int (nI (768 + (32 * u_162)))), (0, .ref (q 0)), (1, .int (nI ro)), (2, .int 1), (3, .int vp), (4, .int vmo)]) hx hb d_MD_go_194 hl (by decide) rfl (fun ls hl => ?_)
                            refine lv_iload hx hb d_MD_go_196 (lv_at hl 0 rfl) ?_
                            refine lv_iload hx hb d_MD_go_198 (lv_at hl 2 rfl) ?_
                            refine lv_icmp_ge (tgt := 245) hx hb d_MD_go_200 (by decide) (fun c_176 => ?_) (fun c_176 => ?_)
                            · refine lv_iload hx hb d_MD_go_245 (lv_at hl 1 rfl) ?_
                              refine lv_if_eq (tgt := 268) hx hb d_MD_go_247 (by decide) (fun c_177 => ?_) (fun c_177 => absurd (by decide) c_177)
                              refine lv_aload_n hx hb d_MD_go_268 rfl (lv_at hl 4 rfl) ?_
                              refine va_get (D := D) (ci := 3) (v := .ref (q 1)) (C := R_MD) (T := F_MD) (N := 15) hx hb hts i_MD hown hK hP 0 rfl rfl 1 (by decide) (hts _ wd_576) (fun _ h9 => h9) rfl d_MD_go_269 ?_
                              refine lv_iload hx hb d_MD_go_272 (lv_at hl 3 rfl) ?_
                              refine va_iald hx hb hK hP 1 0 rfl rfl (show vp_in (nI (768 + (32 * u_162))) 1360 from vp_in_nI (n := (768 + (32 * u_162))) (by omega) (by omega)) d_MD_go_274 ?_
                              rw [show ((nI (768 + (32 * u_162))) : Int32).toNatClampNeg = (768 + (32 * u_162)) from nI_clamp (n := (768 + (32 * u_162))) (by omega)]
                              refine lv_iconst (v := 1) hx hb d_MD_go_275 (by decide) ?_
                              refine lv_isub hx hb d_MD_go_276 ?_
                              refine lv_istore_n (lv' := [(3, .int ((xB (768 + (32 * u_162))) - 1)), (8, .int 0), (5, .int 0), (7, .int (xB ((768 + (32 * u_162)) + 1))), (6, .int (nI (768 + (32 * u_162)))), (0, .ref (q 0)), (1, .int (nI ro)), (2, .int 1), (4, .int vmo)]) hx hb d_MD_go_277 rfl hl (by decide) rfl (fun ls hl => ?_)
                              refine lv_goto (tgt := 79) hx hb d_MD_go_278 (by decide) ?_
                              exact ih79 (k + 1) 0 ((xB (768 + (32 * u_162))) - 1) vmo (upd vpa k vp) vw vhe hn (by omega) (by omega) (by omega) (by rw [← heq79]; simp only [f_MD_go_l79_1, ← hu_1, ← hu_113, ← hu_159, ← hu_162, ← hu_163, ← hu_169, eq_false c_151, eq_false c_153, eq_false c_155, eq_false c_157, eq_true c_160, eq_false c_164, eq_false c_170, eq_false c_175, eq_true c_176, ↓reduceIte]) _ _ hP hD hS ls (lv_sub hl [5, 6, 7, 0, 8, 2] rfl)
                            · refine lv_iload hx hb d_MD_go_203 (lv_at hl 1 rfl) ?_
                              refine lv_if_eq (tgt := 245) hx hb d_MD_go_205 (by decide) (fun c_178 => ?_) (fun c_178 => absurd (by decide) c_178)
                              refine lv_iload hx hb d_MD_go_245 (lv_at hl 1 rfl) ?_
                              refine lv_if_eq (tgt := 268) hx hb d_MD_go_247 (by decide) (fun c_179 => ?_) (fun c_179 => absurd (by decide) c_179)
                              refine lv_aload_n hx hb d_MD_go_268 rfl (lv_at hl 4 rfl) ?_
                              refine va_get (D := D) (ci := 3) (v := .ref (q 1)) (C := R_MD) (T := F_MD) (N := 15) hx hb hts i_MD hown hK hP 0 rfl rfl 1 (by decide) (hts _ wd_576) (fun _ h9 => h9) rfl d_MD_go_269 ?_
                              refine lv_iload hx hb d_MD_go_272 (lv_at hl 3 rfl) ?_
                              refine va_iald hx hb hK hP 1 0 rfl rfl (show vp_in (nI (768 + (32 * u_162))) 1360 from vp_in_nI (n := (768 + (32 * u_162))) (by omega) (by omega)) d_MD_go_274 ?_
                              rw [show ((nI (768 + (32 * u_162))) : Int32).toNatClampNeg = (768 + (32 * u_162)) from nI_clamp (n := (768 + (32 * u_162))) (by omega)]
                              refine lv_iconst (v := 1) hx hb d_MD_go_275 (by decide) ?_
                              refine lv_isub hx hb d_MD_go_276 ?_
                              refine lv_istore_n (lv' := [(3, .int ((xB (768 + (32 * u_162))) - 1)), (8, .int 0), (5, .int 0), (7, .int (xB ((768 + (32 * u_162)) + 1))), (6, .int (nI (768 + (32 * u_162)))), (0, .ref (q 0)), (1, .int (nI ro)), (2, .int 1), (4, .int vmo)]) hx hb d_MD_go_277 rfl hl (by decide) rfl (fun ls hl => ?_)
                              refine lv_goto (tgt := 79) hx hb d_MD_go_278 (by decide) ?_
                              exact ih79 (k + 1) 0 ((xB (768 + (32 * u_162))) - 1) vmo (upd vpa k vp) vw vhe hn (by omega) (by omega) (by omega) (by rw [← heq79]; simp only [f_MD_go_l79_1, ← hu_1, ← hu_113, ← hu_159, ← hu_162, ← hu_163, ← hu_169, eq_false c_151, eq_false c_153, eq_false c_155, eq_false c_157, eq_true c_160, eq_false c_164, eq_false c_170, eq_false c_175, eq_false c_176, ↓reduceIte]) _ _ hP hD hS ls (lv_sub hl [5, 6, 7, 0, 8, 2] rfl)
                          · refine lv_iconst (v := 1) hx hb d_MD_go_186 (by decide) ?_
                            refine lv_goto (tgt := 191) hx hb d_MD_go_187 (by decide) ?_
                            refine lv_istore (lv' := [(5, .int 1), (7, .int (xB ((768 + (32 * u_162)) + 1))), (6, .int (nI (768 + (32 * u_162)))), (0, .ref (q 0)), (1, .int (nI ro)), (2, .int 1), (3, .int vp), (4, .int vmo)]) hx hb d_MD_go_191 hl (by decide) rfl (fun ls hl => ?_)
                            obtain ⟨u_180, hu_180⟩ : ∃ z, z = (xB ((768 + (32 * u_162)) + 1)).toNatClampNeg := ⟨_, rfl⟩
                            obtain ⟨he_u_180, ha_u_180, hb_u_180⟩ := sf_natn hu_180 (by rw [← hu_169]; exact c_170)
                            rw [he_u_180] at hl
                            refine lv_iconst (v := 0) hx hb d_MD_go_193 (by decide) ?_
                            refine lv_istore (lv' := [(8, .int 0), (5, .int 1), (7, .int (nI u_180)), (6, .int (nI (768 + (32 * u_162)))), (0, .ref (q 0)), (1, .int (nI ro)), (2, .int 1), (3, .int vp), (4, .int vmo)]) hx hb d_MD_go_194 hl (by decide) rfl (fun ls hl => ?_)
                            obtain ⟨u_181, hu_181⟩ : ∃ z, z = (f_MD_go_l196_1 xB vp hn (u_180 + 1) 0 vhe) := ⟨_, rfl⟩
                            have loop196 : ∀ (fukk kk : Nat) (xh : (Nat → Int32)), kk ≤ u_180 → kk + fukk = u_180 + 1 → f_MD_go_l196_1 xB vp hn fukk kk xh = u_181 → ∀ (H : Heap) (locs : List Loc), va_P D classes (md_w q cI cZ xth xB xsh xcu xtp xtd (upd vpa k vp) (nI (k + 1)) vw xh (nI (hn + kk)) xtk xto xwa xmn) H → va_D A (md_w q cI cZ xth xB xsh xcu xtp xtd (upd vpa k vp) (nI (k + 1)) vw xh (nI (hn + kk)) xtk xto xwa xmn) → va_S A s.heap H locs → ∀ (ls : Array Slot), lv_has ls 9 [(0, .ref (q 0)), (1, .int (nI ro)), (2, .int 1), (3, .int vp), (4, .int vmo), (5, .int 1), (6, .int (nI (768 + (32 * u_162)))), (7, .int (nI u_180)), (8, .int (nI kk))] → W p l e R s m args below meth c H locs 0 0 Q (F0 m 196 ls []) := by
                              intro fukk
                              induction fukk with
                              | zero =>
                                intro kk xh h1 h2
                                exact absurd h2 (by omega)
                              | succ fukk ih196 =>
                                intro kk xh hk196 hkn196 heq196 H locs hP hD hS ls hl
                                refine lv_iload hx hb d_MD_go_196 (lv_at hl 8 rfl) ?_
                                refine lv_iload hx hb d_MD_go_198 (lv_at hl 7 rfl) ?_
                                refine lv_icmp_ge (tgt := 245) hx hb d_MD_go_200 (by decide) (fun c_182 => ?_) (fun c_182 => ?_)
                                · skip
                                  have hv196 : xh = u_181 := by rw [← heq196]; simp only [f_MD_go_l196_1, ← hu_1, ← hu_113, ← hu_159, ← hu_162, ← hu_163, ← hu_169, ← hu_180, eq_true c_182, ↓reduceIte]
                                  have hv196_0 : xh = u_181 := hv196
                                  rw [hv196_0] at hP hD
                                  have hke196 : kk = u_180 := sf_eq_of (N := u_180) (by omega) (by omega) hk196 c_182
                                  try rw [hke196] at hP
                                  try rw [hke196] at hD
                                  try rw [hke196] at hl
                                  refine lv_iload hx hb d_MD_go_245 (lv_at hl 5 rfl) ?_
                                  refine lv_if_eq (tgt := 268) hx hb d_MD_go_247 (by decide) (fun c_184 => absurd c_184 (by decide)) (fun c_184 => ?_)
                                  refine lv_aload_n hx hb d_MD_go_250 rfl (lv_at hl 0 rfl) ?_
                                  refine va_get (D := D) (ci := 3) (v := .ref (q 1)) (C := R_MD) (T := F_MD) (N := 15) hx hb hts i_MD hown hK hP 0 rfl rfl 1 (by decide) (hts _ wd_576) (fun _ h9 => h9) rfl d_MD_go_251 ?_
                                  refine lv_iload hx hb d_MD_go_254 (lv_at hl 6 rfl) ?_
                                  refine va_iald hx hb hK hP 1 0 rfl rfl (show vp_in (nI (768 + (32 * u_162))) 1360 from vp_in_nI (n := (768 + (32 * u_162))) (by omega) (by omega)) d_MD_go_256 ?_
                                  rw [show ((nI (768 + (32 * u_162))) : Int32).toNatClampNeg = (768 + (32 * u_162)) from nI_clamp (n := (768 + (32 * u_162))) (by omega)]
                                  refine lv_if_ne (tgt := 268) hx hb d_MD_go_257 (by decide) (fun c_185 => ?_) (fun c_185 => ?_)
                                  · refine lv_aload_n hx hb d_MD_go_268 rfl (lv_at hl 0 rfl) ?_
                                    refine va_get (D := D) (ci := 3) (v := .ref (q 1)) (C := R_MD) (T := F_MD) (N := 15) hx hb hts i_MD hown hK hP 0 rfl rfl 1 (by decide) (hts _ wd_576) (fun _ h9 => h9) rfl d_MD_go_269 ?_
                                    refine lv_iload hx hb d_MD_go_272 (lv_at hl 6 rfl) ?_
                                    refine va_iald hx hb hK hP 1 0 rfl rfl (show vp_in (nI (768 + (32 * u_162))) 1360 from vp_in_nI (n := (768 + (32 * u_162))) (by omega) (by omega)) d_MD_go_274 ?_
                                    rw [show ((nI (768 + (32 * u_162))) : Int32).toNatClampNeg = (768 + (32 * u_162)) from nI_clamp (n := (768 + (32 * u_162))) (by omega)]
                                    refine lv_iconst (v := 1) hx hb d_MD_go_275 (by decide) ?_
                                    refine lv_isub hx hb d_MD_go_276 ?_
                                    refine lv_istore_n (lv' := [(3, .int ((xB (768 + (32 * u_162))) - 1)), (0, .ref (q 0)), (1, .int (nI ro)), (2, .int 1), (4, .int vmo), (5, .int 1), (6, .int (nI (768 + (32 * u_162)))), (7, .int (nI u_180)), (8, .int (nI u_180))]) hx hb d_MD_go_277 rfl hl (by decide) rfl (fun ls hl => ?_)
                                    refine lv_goto (tgt := 79) hx hb d_MD_go_278 (by decide) ?_
                                    exact ih79 (k + 1) 1 ((xB (768 + (32 * u_162))) - 1) vmo (upd vpa k vp) vw u_181 (hn + u_180) (by omega) (by omega) (by omega) (by rw [← heq79]; simp only [f_MD_go_l79_1, ← hu_1, ← hu_113, ← hu_159, ← hu_162, ← hu_163, ← hu_169, ← hu_180, ← hu_181, eq_false c_151, eq_false c_153, eq_false c_155, eq_false c_157, eq_true c_160, eq_false c_164, eq_false c_170, eq_true c_175, eq_false c_185, ↓reduceIte]) _ _ hP hD hS ls (lv_sub hl [1, 2, 3, 0, 4, 5] rfl)
                                  · refine lv_aload_n hx hb d_MD_go_260 rfl (lv_at hl 0 rfl) ?_
                                    refine lv_iconst (v := 1) hx hb d_MD_go_261 (by decide) ?_
                                    refine va_put (D := D) (ci := 3) (v := .int 1) (ty := .boolean) (C := R_MD) (T := F_MD) (N := 15) hx hb hts i_MD t_MD t_MD_ok n_MD hown hK hP hD hS 0 rfl rfl 8 (by decide) (hts _ wd_583) (fun _ h9 => h9) rfl (by decide +kernel) (sf_bp1).1 (sf_bp1).2 (Nat.le_of_ble_eq_true rfl) d_MD_go_262 (fun H locs hP hD hS => ?_)
                                    have hP : va_P D classes (md_w q cI cZ xth xB xsh xcu xtp xtd (upd vpa k vp) (nI (k + 1)) 1 u_181 (nI (hn + u_180)) xtk xto xwa xmn) H := hP
                                    have hD : va_D A (md_w q cI cZ xth xB xsh xcu xtp xtd (upd vpa k vp) (nI (k + 1)) 1 u_181 (nI (hn + u_180)) xtk xto xwa xmn) := hD
                                    refine lv_iconst (v := 0) hx hb d_MD_go_265 (by decide) ?_
                                    refine lv_istore (lv' := [(5, .int 0), (0, .ref (q 0)), (1, .int (nI ro)), (2, .int 1), (3, .int vp), (4, .int vmo), (6, .int (nI (768 + (32 * u_162)))), (7, .int (nI u_180)), (8, .int (nI u_180))]) hx hb d_MD_go_266 hl (by decide) rfl (fun ls hl => ?_)
                                    refine lv_aload_n hx hb d_MD_go_268 rfl (lv_at hl 1 rfl) ?_
                                    refine va_get (D := D) (ci := 3) (v := .ref (q 1)) (C := R_MD) (T := F_MD) (N := 15) hx hb hts i_MD hown hK hP 0 rfl rfl 1 (by decide) (hts _ wd_576) (fun _ h9 => h9) rfl d_MD_go_269 ?_
                                    refine lv_iload hx hb d_MD_go_272 (lv_at hl 6 rfl) ?_
                                    refine va_iald hx hb hK hP 1 0 rfl rfl (show vp_in (nI (768 + (32 * u_162))) 1360 from vp_in_nI (n := (768 + (32 * u_162))) (by omega) (by omega)) d_MD_go_274 ?_
                                    rw [show ((nI (768 + (32 * u_162))) : Int32).toNatClampNeg = (768 + (32 * u_162)) from nI_clamp (n := (768 + (32 * u_162))) (by omega)]
                                    refine lv_iconst (v := 1) hx hb d_MD_go_275 (by decide) ?_
                                    refine lv_isub hx hb d_MD_go_276 ?_
                                    refine lv_istore_n (lv' := [(3, .int ((xB (768 + (32 * u_162))) - 1)), (5, .int 0), (0, .ref (q 0)), (1, .int (nI ro)), (2, .int 1), (4, .int vmo), (6, .int (nI (768 + (32 * u_162)))), (7, .int (nI u_180)), (8, .int (nI u_180))]) hx hb d_MD_go_277 rfl hl (by decide) rfl (fun ls hl => ?_)
                                    refine lv_goto (tgt := 79) hx hb d_MD_go_278 (by decide) ?_
                                    exact ih79 (k + 1) 0 ((xB (768 + (32 * u_162))) - 1) vmo (upd vpa k vp) 1 u_181 (hn + u_180) (by omega) (by omega) (by omega) (by rw [← heq79]; simp only [f_MD_go_l79_1, ← hu_1, ← hu_113, ← hu_159, ← hu_162, ← hu_163, ← hu_169, ← hu_180, ← hu_181, eq_false c_151, eq_false c_153, eq_false c_155, eq_false c_157, eq_true c_160, eq_false c_164, eq_false c_170, eq_true c_175, eq_true c_185, ↓reduceIte]) _ _ hP hD hS ls (lv_sub hl [2, 3, 4, 0, 5, 1] rfl)
                                · have hlt : kk < u_180 := sf_lt_of (N := u_180) (by omega) (by omega) c_182
                                  refine lv_iload hx hb d_MD_go_203 (lv_at hl 5 rfl) ?_
                                  refine lv_if_eq (tgt := 245) hx hb d_MD_go_205 (by decide) (fun c_183 => absurd c_183 (by decide)) (fun c_183 => ?_)
                                  refine lv_aload_n hx hb d_MD_go_208 rfl (lv_at hl 0 rfl) ?_
                                  refine va_get (D := D) (ci := 3) (v := .ref (q 4)) (C := R_MD) (T := F_MD) (N := 15) hx hb hts i_MD hown hK hP 0 rfl rfl 9 (by decide) (hts _ wd_584) (fun _ h9 => h9) rfl d_MD_go_209 ?_
                                  refine lv_aload_n hx hb d_MD_go_212 rfl (lv_at hl 0 rfl) ?_
                                  refine va_get (D := D) (ci := 3) (v := .int (nI (hn + kk))) (C := R_MD) (T := F_MD) (N := 15) hx hb hts i_MD hown hK hP 0 rfl rfl 10 (by decide) (hts _ wd_585) (fun _ h9 => h9) rfl d_MD_go_213 ?_
                                  refine lv_aload_n hx hb d_MD_go_216 rfl (lv_at hl 0 rfl) ?_
                                  refine va_get (D := D) (ci := 3) (v := .ref (q 1)) (C := R_MD) (T := F_MD) (N := 15) hx hb hts i_MD hown hK hP 0 rfl rfl 1 (by decide) (hts _ wd_576) (fun _ h9 => h9) rfl d_MD_go_217 ?_
                                  refine lv_iload hx hb d_MD_go_220 (lv_at hl 6 rfl) ?_
                                  refine lv_iconst (v := 3) hx hb d_MD_go_222 (by decide) ?_
                                  refine lv_iadd hx hb d_MD_go_223 ?_
                                  rw [show (((nI (768 + (32 * u_162))) + 3) : Int32) = (nI ((768 + (32 * u_162)) + 3)) from nI_add (768 + (32 * u_162)) 3]
                                  refine lv_iload hx hb d_MD_go_224 (lv_at hl 8 rfl) ?_
                                  refine lv_iadd hx hb d_MD_go_226 ?_
                                  rw [show (((nI ((768 + (32 * u_162)) + 3)) + (nI kk)) : Int32) = (nI (((768 + (32 * u_162)) + 3) + kk)) from nI_add ((768 + (32 * u_162)) + 3) kk]
                                  refine va_iald hx hb hK hP 1 0 rfl rfl (show vp_in (nI (((768 + (32 * u_162)) + 3) + kk)) 1360 from vp_in_nI (n := (((768 + (32 * u_162)) + 3) + kk)) (by omega) (by omega)) d_MD_go_227 ?_
                                  rw [show ((nI (((768 + (32 * u_162)) + 3) + kk)) : Int32).toNatClampNeg = (((768 + (32 * u_162)) + 3) + kk) from nI_clamp (n := (((768 + (32 * u_162)) + 3) + kk)) (by omega)]
                                  refine va_iast hx hb hK hP hD hS 4 0 rfl rfl (show vp_in (nI (hn + kk)) 75 from vp_in_nI (n := (hn + kk)) (by omega) (by omega)) d_MD_go_228 (fun H locs hP hD hS => ?_)
                                  rw [show ((nI (hn + kk)) : Int32).toNatClampNeg = (hn + kk) from nI_clamp (n := (hn + kk)) (by omega)] at hP hD
                                  have hP : va_P D classes (md_w q cI cZ xth xB xsh xcu xtp xtd (upd vpa k vp) (nI (k + 1)) vw (upd xh (hn + kk) (xB (((768 + (32 * u_162)) + 3) + kk))) (nI (hn + kk)) xtk xto xwa xmn) H := hP
                                  have hD : va_D A (md_w q cI cZ xth xB xsh xcu xtp xtd (upd vpa k vp) (nI (k + 1)) vw (upd xh (hn + kk) (xB (((768 + (32 * u_162)) + 3) + kk))) (nI (hn + kk)) xtk xto xwa xmn) := hD
                                  refine lv_aload_n hx hb d_MD_go_229 rfl (lv_at hl 0 rfl) ?_
                                  refine lv_dup hx hb d_MD_go_230 rfl ?_
                                  refine va_get (D := D) (ci := 3) (v := .int (nI (hn + kk))) (C := R_MD) (T := F_MD) (N := 15) hx hb hts i_MD hown hK hP 0 rfl rfl 10 (by decide) (hts _ wd_585) (fun _ h9 => h9) rfl d_MD_go_231 ?_
                                  refine lv_iconst (v := 1) hx hb d_MD_go_234 (by decide) ?_
                                  refine lv_iadd hx hb d_MD_go_235 ?_
                                  rw [show (((nI (hn + kk)) + 1) : Int32) = (nI ((hn + kk) + 1)) from nI_add (hn + kk) 1]
                                  refine va_put (D := D) (ci := 3) (v := .int (nI ((hn + kk) + 1))) (ty := .int) (C := R_MD) (T := F_MD) (N := 15) hx hb hts i_MD t_MD t_MD_ok n_MD hown hK hP hD hS 0 rfl rfl 10 (by decide) (hts _ wd_585) (fun _ h9 => h9) rfl (by decide +kernel) rfl rfl (Nat.le_of_ble_eq_true rfl) d_MD_go_236 (fun H locs hP hD hS => ?_)
                                  have hP : va_P D classes (md_w q cI cZ xth xB xsh xcu xtp xtd (upd vpa k vp) (nI (k + 1)) vw (upd xh (hn + kk) (xB (((768 + (32 * u_162)) + 3) + kk))) (nI ((hn + kk) + 1)) xtk xto xwa xmn) H := hP
                                  have hD : va_D A (md_w q cI cZ xth xB xsh xcu xtp xtd (upd vpa k vp) (nI (k + 1)) vw (upd xh (hn + kk) (xB (((768 + (32 * u_162)) + 3) + kk))) (nI ((hn + kk) + 1)) xtk xto xwa xmn) := hD
                                  refine lv_iinc (v := (nI (kk + 1))) (lv' := [(8, .int (nI (kk + 1))), (0, .ref (q 0)), (1, .int (nI ro)), (2, .int 1), (3, .int vp), (4, .int vmo), (5, .int 1), (6, .int (nI (768 + (32 * u_162)))), (7, .int (nI u_180))]) hx hb d_MD_go_239 hl (k := 8) rfl (nI_1 kk) (by decide) rfl (fun ls hl => ?_)
                                  refine lv_goto (tgt := 196) hx hb d_MD_go_242 (by decide) ?_
                                  exact ih196 (kk + 1) (upd xh (hn + kk) (xB (((768 + (32 * u_162)) + 3) + kk))) (by omega) (by omega) (by rw [← heq196]; simp only [f_MD_go_l196_1, ← hu_1, ← hu_113, ← hu_159, ← hu_162, ← hu_163, ← hu_169, ← hu_180, eq_false c_182, ↓reduceIte]) _ _ hP hD hS ls (lv_sub hl [1, 2, 3, 4, 5, 6, 7, 8, 0] rfl)
                            exact loop196 (u_180 + 1) 0 vhe (by omega) (by omega) hu_181.symm _ _ hP hD hS ls (lv_sub hl [4, 5, 6, 7, 8, 1, 3, 2, 0] rfl)
        exact loop79 (3 + 1) 0 1 (u_113 - 1) 0 xpa 0 xhe 0 (by omega) (by omega) (by omega) (by simp only [f_MD_go, ← hu_1, ← hu_113, eq_false hz0, eq_false c_114, eq_true c_150, ↓reduceIte]) _ _ hP hD hS ls (lv_sub hl [4, 5, 3, 2, 1, 0] rfl)
      · refine lv_aload_n hx hb d_MD_go_58 rfl (lv_at hl 2 rfl) ?_
        refine va_get (D := D) (ci := 3) (v := .ref (q 1)) (C := R_MD) (T := F_MD) (N := 15) hx hb hts i_MD hown hK hP 0 rfl rfl 1 (by decide) (hts _ wd_576) (fun _ h9 => h9) rfl d_MD_go_59 ?_
        refine lv_iload_n hx hb d_MD_go_62 rfl (lv_at hl 1 rfl) ?_
        refine lv_iload_n hx hb d_MD_go_63 rfl (lv_at hl 0 rfl) ?_
        obtain ⟨u_186, hu_186⟩ : ∃ z, z = (u_113 - 1).toNatClampNeg := ⟨_, rfl⟩
        obtain ⟨he_u_186, hb_u_186⟩ := sf_natp (B := 16) (by omega) hu_186 c_114 c_150
        rw [he_u_186]
        refine sf_callSr (S := Unit) (rest := [.ref (q 1)]) ⟨hx, hb, hml, hown, hts⟩ (c_MD_begin_1 l D cI cZ cJ u_186) (sf_cwS lk_MD_84 hts (fun _ h => h) (by rw [hR]; exact ⟨Nat.le_of_ble_eq_true rfl, Nat.le_of_ble_eq_true rfl⟩)) hK hP hD hS hA [] rfl rfl (fun _ => rfl) rfl rfl hl.1 (Nat.le_of_ble_eq_true rfl) d_MD_go_64 ⟨Nat.zero_le _, Nat.zero_le _⟩ (fun u H locs hu hP hS => ?_)
        refine lv_iconst (v := 2) hx hb d_MD_go_67 (by decide) ?_
        refine lv_iadd hx hb d_MD_go_68 ?_
        rw [show (((nI (768 + (32 * u_186))) + 2) : Int32) = (nI ((768 + (32 * u_186)) + 2)) from nI_add (768 + (32 * u_186)) 2]
        refine va_iald hx hb hK hP 1 0 rfl rfl (show vp_in (nI ((768 + (32 * u_186)) + 2)) 1360 from vp_in_nI (n := ((768 + (32 * u_186)) + 2)) (by omega) (by omega)) d_MD_go_69 ?_
        rw [show ((nI ((768 + (32 * u_186)) + 2)) : Int32).toNatClampNeg = ((768 + (32 * u_186)) + 2) from nI_clamp (n := ((768 + (32 * u_186)) + 2)) (by omega)]
        refine lv_goto (tgt := 74) hx hb d_MD_go_70 (by decide) ?_
        refine lv_istore (lv' := [(4, .int (xB ((768 + (32 * u_186)) + 2))), (3, .int (u_113 - 1)), (2, .int 1), (0, .ref (q 0)), (1, .int (nI ro))]) hx hb d_MD_go_74 hl (by decide) rfl (fun ls hl => ?_)
        refine lv_iconst (v := 1) hx hb d_MD_go_76 (by decide) ?_
        refine lv_istore (lv' := [(5, .int 1), (4, .int (xB ((768 + (32 * u_186)) + 2))), (3, .int (u_113 - 1)), (2, .int 1), (0, .ref (q 0)), (1, .int (nI ro))]) hx hb d_MD_go_77 hl (by decide) rfl (fun ls hl => ?_)
        have loop79 : ∀ (fu k : Nat) (vg : Int32) (vp : Int32) (vmo : Int32) (vpa : (Nat → Int32)) (vw : Int32) (vhe : (Nat → Int32)) (hn : Nat), k ≤ 3 → k + fu = 3 + 1 → hn ≤ 25 * k → f_MD_go_l79_1 xB fu k vg vp vmo vpa vw vhe hn = f_MD_go xB xpa xhe ro → ∀ (H : Heap) (locs : List Loc), va_P D classes (md_w q cI cZ xth xB xsh xcu xtp xtd vpa (nI k) vw vhe (nI hn) xtk xto xwa xmn) H → va_D A (md_w q cI cZ xth xB xsh xcu xtp xtd vpa (nI k) vw vhe (nI hn) xtk xto xwa xmn) → va_S A s.heap H locs → ∀ (ls : Array Slot), lv_has ls 9 [(0, .ref (q 0)), (1, .int (nI ro)), (2, .int 1), (3, .int vp), (4, .int vmo), (5, .int vg)] → W p l e R s m args below meth c H locs 0 0 Q (F0 m 79 ls []) := by
          intro fu
          induction fu with
          | zero =>
            intro k vg vp vmo vpa vw vhe hn h1 h2
            exact absurd h2 (by omega)
          | succ fu ih79 =>
            intro k vg vp vmo vpa vw vhe hn hk79 hkn79 hi790 heq79 H locs hP hD hS ls hl
            refine lv_iload hx hb d_MD_go_79 (lv_at hl 5 rfl) ?_
            refine lv_if_eq (tgt := 281) hx hb d_MD_go_81 (by decide) (fun c_187 => ?_) (fun c_187 => ?_)
            · refine lv_aload_n hx hb d_MD_go_281 rfl (lv_at hl 0 rfl) ?_
              refine lv_aload_n hx hb d_MD_go_282 rfl (lv_at hl 0 rfl) ?_
              refine va_get (D := D) (ci := 3) (v := .int vw) (C := R_MD) (T := F_MD) (N := 15) hx hb hts i_MD hown hK hP 0 rfl rfl 8 (by decide) (hts _ wd_583) (fun _ h9 => h9) rfl d_MD_go_283 ?_
              refine lv_if_eq (tgt := 296) hx hb d_MD_go_286 (by decide) (fun c_188 => ?_) (fun c_188 => ?_)
              · refine lv_iconst (v := 0) hx hb d_MD_go_296 (by decide) ?_
                refine va_put (D := D) (ci := 3) (v := .int 0) (ty := .int) (C := R_MD) (T := F_MD) (N := 15) hx hb hts i_MD t_MD t_MD_ok n_MD hown hK hP hD hS 0 rfl rfl 10 (by decide) (hts _ wd_585) (fun _ h9 => h9) rfl (by decide +kernel) rfl rfl (Nat.le_of_ble_eq_true rfl) d_MD_go_297 (fun H locs hP hD hS => ?_)
                have hP : va_P D classes (md_w q cI cZ xth xB xsh xcu xtp xtd vpa (nI k) vw vhe 0 xtk xto xwa xmn) H := hP
                have hD : va_D A (md_w q cI cZ xth xB xsh xcu xtp xtd vpa (nI k) vw vhe 0 xtk xto xwa xmn) := hD
                rw [hQ]
                exact sf_vret (vpa, (nI k), vw, vhe, 0) hx hb hr hlk hS rfl (by rw [← heq79]; simp only [f_MD_go_l79_1, ← hu_1, ← hu_113, ← hu_186, eq_true c_187, eq_true c_188, ↓reduceIte]) hP d_MD_go_300
              · refine lv_aload_n hx hb d_MD_go_289 rfl (lv_at hl 0 rfl) ?_
                refine va_get (D := D) (ci := 3) (v := .int (nI hn)) (C := R_MD) (T := F_MD) (N := 15) hx hb hts i_MD hown hK hP 0 rfl rfl 10 (by decide) (hts _ wd_585) (fun _ h9 => h9) rfl d_MD_go_290 ?_
                refine lv_goto (tgt := 297) hx hb d_MD_go_293 (by decide) ?_
                refine va_put (D := D) (ci := 3) (v := .int (nI hn)) (ty := .int) (C := R_MD) (T := F_MD) (N := 15) hx hb hts i_MD t_MD t_MD_ok n_MD hown hK hP hD hS 0 rfl rfl 10 (by decide) (hts _ wd_585) (fun _ h9 => h9) rfl (by decide +kernel) rfl rfl (Nat.le_of_ble_eq_true rfl) d_MD_go_297 (fun H locs hP hD hS => ?_)
                have hP : va_P D classes (md_w q cI cZ xth xB xsh xcu xtp xtd vpa (nI k) vw vhe (nI hn) xtk xto xwa xmn) H := hP
                have hD : va_D A (md_w q cI cZ xth xB xsh xcu xtp xtd vpa (nI k) vw vhe (nI hn) xtk xto xwa xmn) := hD
                rw [hQ]
                exact sf_vret (vpa, (nI k), vw, vhe, (nI hn)) hx hb hr hlk hS rfl (by rw [← heq79]; simp only [f_MD_go_l79_1, ← hu_1, ← hu_113, ← hu_186, eq_true c_187, eq_false c_188, ↓reduceIte]) hP d_MD_go_300
            · refine lv_iload_n hx hb d_MD_go_84 rfl (lv_at hl 3 rfl) ?_
              refine lv_if_lt (tgt := 281) hx hb d_MD_go_85 (by decide) (fun c_189 => ?_) (fun c_189 => ?_)
              · refine lv_aload_n hx hb d_MD_go_281 rfl (lv_at hl 0 rfl) ?_
                refine lv_aload_n hx hb d_MD_go_282 rfl (lv_at hl 0 rfl) ?_
                refine va_get (D := D) (ci := 3) (v := .int vw) (C := R_MD) (T := F_MD) (N := 15) hx hb hts i_MD hown hK hP 0 rfl rfl 8 (by decide) (hts _ wd_583) (fun _ h9 => h9) rfl d_MD_go_283 ?_
                refine lv_if_eq (tgt := 296) hx hb d_MD_go_286 (by decide) (fun c_190 => ?_) (fun c_190 => ?_)
                · refine lv_iconst (v := 0) hx hb d_MD_go_296 (by decide) ?_
                  refine va_put (D := D) (ci := 3) (v := .int 0) (ty := .int) (C := R_MD) (T := F_MD) (N := 15) hx hb hts i_MD t_MD t_MD_ok n_MD hown hK hP hD hS 0 rfl rfl 10 (by decide) (hts _ wd_585) (fun _ h9 => h9) rfl (by decide +kernel) rfl rfl (Nat.le_of_ble_eq_true rfl) d_MD_go_297 (fun H locs hP hD hS => ?_)
                  have hP : va_P D classes (md_w q cI cZ xth xB xsh xcu xtp xtd vpa (nI k) vw vhe 0 xtk xto xwa xmn) H := hP
                  have hD : va_D A (md_w q cI cZ xth xB xsh xcu xtp xtd vpa (nI k) vw vhe 0 xtk xto xwa xmn) := hD
                  rw [hQ]
                  exact sf_vret (vpa, (nI k), vw, vhe, 0) hx hb hr hlk hS rfl (by rw [← heq79]; simp only [f_MD_go_l79_1, ← hu_1, ← hu_113, ← hu_186, eq_false c_187, eq_true c_189, eq_true c_190, ↓reduceIte]) hP d_MD_go_300
                · refine lv_aload_n hx hb d_MD_go_289 rfl (lv_at hl 0 rfl) ?_
                  refine va_get (D := D) (ci := 3) (v := .int (nI hn)) (C := R_MD) (T := F_MD) (N := 15) hx hb hts i_MD hown hK hP 0 rfl rfl 10 (by decide) (hts _ wd_585) (fun _ h9 => h9) rfl d_MD_go_290 ?_
                  refine lv_goto (tgt := 297) hx hb d_MD_go_293 (by decide) ?_
                  refine va_put (D := D) (ci := 3) (v := .int (nI hn)) (ty := .int) (C := R_MD) (T := F_MD) (N := 15) hx hb hts i_MD t_MD t_MD_ok n_MD hown hK hP hD hS 0 rfl rfl 10 (by decide) (hts _ wd_585) (fun _ h9 => h9) rfl (by decide +kernel) rfl rfl (Nat.le_of_ble_eq_true rfl) d_MD_go_297 (fun H locs hP hD hS => ?_)
                  have hP : va_P D classes (md_w q cI cZ xth xB xsh xcu xtp xtd vpa (nI k) vw vhe (nI hn) xtk xto xwa xmn) H := hP
                  have hD : va_D A (md_w q cI cZ xth xB xsh xcu xtp xtd vpa (nI k) vw vhe (nI hn) xtk xto xwa xmn) := hD
                  rw [hQ]
                  exact sf_vret (vpa, (nI k), vw, vhe, (nI hn)) hx hb hr hlk hS rfl (by rw [← heq79]; simp only [f_MD_go_l79_1, ← hu_1, ← hu_113, ← hu_186, eq_false c_187, eq_true c_189, eq_false c_190, ↓reduceIte]) hP d_MD_go_300
              · refine lv_iload_n hx hb d_MD_go_88 rfl (lv_at hl 3 rfl) ?_
                refine lv_iload_n hx hb d_MD_go_89 rfl (lv_at hl 2 rfl) ?_
                refine sf_callSr (S := Unit) (rest := [.int vp]) ⟨hx, hb, hml, hown, hts⟩ (c_MD_places_1 l D cI cZ cJ) (sf_cwS lk_MD_80 hts (fun _ h => h) (by rw [hR]; exact ⟨Nat.le_of_ble_eq_true rfl, Nat.le_of_ble_eq_true rfl⟩)) hK hP hD hS hA [] rfl rfl (fun _ => rfl) rfl rfl hl.1 (Nat.le_of_ble_eq_true rfl) d_MD_go_90 ⟨Nat.zero_le _, Nat.zero_le _⟩ (fun u H locs hu hP hS => ?_)
                refine lv_icmp_ge (tgt := 281) hx hb d_MD_go_93 (by decide) (fun c_191 => ?_) (fun c_191 => ?_)
                · refine lv_aload_n hx hb d_MD_go_281 rfl (lv_at hl 0 rfl) ?_
                  refine lv_aload_n hx hb d_MD_go_282 rfl (lv_at hl 0 rfl) ?_
                  refine va_get (D := D) (ci := 3) (v := .int vw) (C := R_MD) (T := F_MD) (N := 15) hx hb hts i_MD hown hK hP 0 rfl rfl 8 (by decide) (hts _ wd_583) (fun _ h9 => h9) rfl d_MD_go_283 ?_
                  refine lv_if_eq (tgt := 296) hx hb d_MD_go_286 (by decide) (fun c_192 => ?_) (fun c_192 => ?_)
                  · refine lv_iconst (v := 0) hx hb d_MD_go_296 (by decide) ?_
                    refine va_put (D := D) (ci := 3) (v := .int 0) (ty := .int) (C := R_MD) (T := F_MD) (N := 15) hx hb hts i_MD t_MD t_MD_ok n_MD hown hK hP hD hS 0 rfl rfl 10 (by decide) (hts _ wd_585) (fun _ h9 => h9) rfl (by decide +kernel) rfl rfl (Nat.le_of_ble_eq_true rfl) d_MD_go_297 (fun H locs hP hD hS => ?_)
                    have hP : va_P D classes (md_w q cI cZ xth xB xsh xcu xtp xtd vpa (nI k) vw vhe 0 xtk xto xwa xmn) H := hP
                    have hD : va_D A (md_w q cI cZ xth xB xsh xcu xtp xtd vpa (nI k) vw vhe 0 xtk xto xwa xmn) := hD
                    rw [hQ]
                    exact sf_vret (vpa, (nI k), vw, vhe, 0) hx hb hr hlk hS rfl (by rw [← heq79]; simp only [f_MD_go_l79_1, ← hu_1, ← hu_113, ← hu_186, eq_false c_187, eq_false c_189, eq_true c_191, eq_true c_192, ↓reduceIte]) hP d_MD_go_300
                  · refine lv_aload_n hx hb d_MD_go_289 rfl (lv_at hl 0 rfl) ?_
                    refine va_get (D := D) (ci := 3) (v := .int (nI hn)) (C := R_MD) (T := F_MD) (N := 15) hx hb hts i_MD hown hK hP 0 rfl rfl 10 (by decide) (hts _ wd_585) (fun _ h9 => h9) rfl d_MD_go_290 ?_
                    refine lv_goto (tgt := 297) hx hb d_MD_go_293 (by decide) ?_
                    refine va_put (D := D) (ci := 3) (v := .int (nI hn)) (ty := .int) (C := R_MD) (T := F_MD) (N := 15) hx hb hts i_MD t_MD t_MD_ok n_MD hown hK hP hD hS 0 rfl rfl 10 (by decide) (hts _ wd_585) (fun _ h9 => h9) rfl (by decide +kernel) rfl rfl (Nat.le_of_ble_eq_true rfl) d_MD_go_297 (fun H locs hP hD hS => ?_)
                    have hP : va_P D classes (md_w q cI cZ xth xB xsh xcu xtp xtd vpa (nI k) vw vhe (nI hn) xtk xto xwa xmn) H := hP
                    have hD : va_D A (md_w q cI cZ xth xB xsh xcu xtp xtd vpa (nI k) vw vhe (nI hn) xtk xto xwa xmn) := hD
                    rw [hQ]
                    exact sf_vret (vpa, (nI k), vw, vhe, (nI hn)) hx hb hr hlk hS rfl (by rw [← heq79]; simp only [f_MD_go_l79_1, ← hu_1, ← hu_113, ← hu_186, eq_false c_187, eq_false c_189, eq_true c_191, eq_false c_192, ↓reduceIte]) hP d_MD_go_300
                · refine lv_aload_n hx hb d_MD_go_96 rfl (lv_at hl 0 rfl) ?_
                  refine va_get (D := D) (ci := 3) (v := .int (nI k)) (C := R_MD) (T := F_MD) (N := 15) hx hb hts i_MD hown hK hP 0 rfl rfl 7 (by decide) (hts _ wd_582) (fun _ h9 => h9) rfl d_MD_go_97 ?_
                  refine lv_iconst (v := 3) hx hb d_MD_go_100 (by decide) ?_
                  refine lv_icmp_ge (tgt := 281) hx hb d_MD_go_101 (by decide) (fun c_193 => ?_) (fun c_193 => ?_)
                  · refine lv_aload_n hx hb d_MD_go_281 rfl (lv_at hl 0 rfl) ?_
                    refine lv_aload_n hx hb d_MD_go_282 rfl (lv_at hl 0 rfl) ?_
                    refine va_get (D := D) (ci := 3) (v := .int vw) (C := R_MD) (T := F_MD) (N := 15) hx hb hts i_MD hown hK hP 0 rfl rfl 8 (by decide) (hts _ wd_583) (fun _ h9 => h9) rfl d_MD_go_283 ?_
                    refine lv_if_eq (tgt := 296) hx hb d_MD_go_286 (by decide) (fun c_194 => ?_) (fun c_194 => ?_)
                    · refine lv_iconst (v := 0) hx hb d_MD_go_296 (by decide) ?_
                      refine va_put (D := D) (ci := 3) (v := .int 0) (ty := .int) (C := R_MD) (T := F_MD) (N := 15) hx hb hts i_MD t_MD t_MD_ok n_MD hown hK hP hD hS 0 rfl rfl 10 (by decide) (hts _ wd_585) (fun _ h9 => h9) rfl (by decide +kernel) rfl rfl (Nat.le_of_ble_eq_true rfl) d_MD_go_297 (fun H locs hP hD hS => ?_)
                      have hP : va_P D classes (md_w q cI cZ xth xB xsh xcu xtp xtd vpa (nI k) vw vhe 0 xtk xto xwa xmn) H := hP
                      have hD : va_D A (md_w q cI cZ xth xB xsh xcu xtp xtd vpa (nI k) vw vhe 0 xtk xto xwa xmn) := hD
                      rw [hQ]
                      exact sf_vret (vpa, (nI k), vw, vhe, 0) hx hb hr hlk hS rfl (by rw [← heq79]; simp only [f_MD_go_l79_1, ← hu_1, ← hu_113, ← hu_186, eq_false c_187, eq_false c_189, eq_false c_191, eq_true c_193, eq_true c_194, ↓reduceIte]) hP d_MD_go_300
                    · refine lv_aload_n hx hb d_MD_go_289 rfl (lv_at hl 0 rfl) ?_
                      refine va_get (D := D) (ci := 3) (v := .int (nI hn)) (C := R_MD) (T := F_MD) (N := 15) hx hb hts i_MD hown hK hP 0 rfl rfl 10 (by decide) (hts _ wd_585) (fun _ h9 => h9) rfl d_MD_go_290 ?_
                      refine lv_goto (tgt := 297) hx hb d_MD_go_293 (by decide) ?_
                      refine va_put (D := D) (ci := 3) (v := .int (nI hn)) (ty := .int) (C := R_MD) (T := F_MD) (N := 15) hx hb hts i_MD t_MD t_MD_ok n_MD hown hK hP hD hS 0 rfl rfl 10 (by decide) (hts _ wd_585) (fun _ h9 => h9) rfl (by decide +kernel) rfl rfl (Nat.le_of_ble_eq_true rfl) d_MD_go_297 (fun H locs hP hD hS => ?_)
                      have hP : va_P D classes (md_w q cI cZ xth xB xsh xcu xtp xtd vpa (nI k) vw vhe (nI hn) xtk xto xwa xmn) H := hP
                      have hD : va_D A (md_w q cI cZ xth xB xsh xcu xtp xtd vpa (nI k) vw vhe (nI hn) xtk xto xwa xmn) := hD
                      rw [hQ]
                      exact sf_vret (vpa, (nI k), vw, vhe, (nI hn)) hx hb hr hlk hS rfl (by rw [← heq79]; simp only [f_MD_go_l79_1, ← hu_1, ← hu_113, ← hu_186, eq_false c_187, eq_false c_189, eq_false c_191, eq_true c_193, eq_false c_194, ↓reduceIte]) hP d_MD_go_300
                  · have hlt : k < 3 := sf_lt_of (N := 3) (by omega) (by omega) c_193
                    refine lv_aload_n hx hb d_MD_go_104 rfl (lv_at hl 0 rfl) ?_
                    refine lv_iload_n hx hb d_MD_go_105 rfl (lv_at hl 3 rfl) ?_
                    refine sf_callVw (S := Int32) (rest := []) ⟨hx, hb, hml, hown, hts⟩ (c_MD_isThrough l D cI cZ cJ q xth xB xsh xcu xtp xtd vpa vw vhe (nI hn) xtk xto xwa xmn k vp (by omega)) (sf_cwV lk_MD_88 hts (fun _ h => h) (by rw [hR]; exact ⟨Nat.le_of_ble_eq_true rfl, Nat.le_of_ble_eq_true rfl⟩)) hK hP hD hS hA (fun _ => by simp only [md_w_fst]) (ci := 3) (q0 := 0) rfl rfl rfl rfl rfl hl.1 (Nat.le_of_ble_eq_true rfl) d_MD_go_106 ⟨Nat.zero_le _, Nat.zero_le _⟩ (fun u_195 H locs hu_195 hP hD hS => ?_)
                    have hP : va_P D classes (md_w q cI cZ xth xB xsh xcu xtp xtd vpa (nI k) vw vhe (nI hn) xtk xto xwa xmn) H := hP
                    have hD : va_D A (md_w q cI cZ xth xB xsh xcu xtp xtd vpa (nI k) vw vhe (nI hn) xtk xto xwa xmn) := hD
                    refine lv_if_ne (tgt := 281) hx hb d_MD_go_109 (by decide) (fun c_196 => ?_) (fun c_196 => ?_)
                    · refine lv_aload_n hx hb d_MD_go_281 rfl (lv_at hl 0 rfl) ?_
                      refine lv_aload_n hx hb d_MD_go_282 rfl (lv_at hl 0 rfl) ?_
                      refine va_get (D := D) (ci := 3) (v := .int vw) (C := R_MD) (T := F_MD) (N := 15) hx hb hts i_MD hown hK hP 0 rfl rfl 8 (by decide) (hts _ wd_583) (fun _ h9 => h9) rfl d_MD_go_283 ?_
                      refine lv_if_eq (tgt := 296) hx hb d_MD_go_286 (by decide) (fun c_197 => ?_) (fun c_197 => ?_)
                      · refine lv_iconst (v := 0) hx hb d_MD_go_296 (by decide) ?_
                        refine va_put (D := D) (ci := 3) (v := .int 0) (ty := .int) (C := R_MD) (T := F_MD) (N := 15) hx hb hts i_MD t_MD t_MD_ok n_MD hown hK hP hD hS 0 rfl rfl 10 (by decide) (hts _ wd_585) (fun _ h9 => h9) rfl (by decide +kernel) rfl rfl (Nat.le_of_ble_eq_true rfl) d_MD_go_297 (fun H locs hP hD hS => ?_)
                        have hP : va_P D classes (md_w q cI cZ xth xB xsh xcu xtp xtd vpa (nI k) vw vhe 0 xtk xto xwa xmn) H := hP
                        have hD : va_D A (md_w q cI cZ xth xB xsh xcu xtp xtd vpa (nI k) vw vhe 0 xtk xto xwa xmn) := hD
                        rw [hQ]
                        exact sf_vret (vpa, (nI k), vw, vhe, 0) hx hb hr hlk hS rfl (by rw [← heq79]; simp only [f_MD_go_l79_1, ← hu_1, ← hu_113, ← hu_186, ← hu_195, eq_false c_187, eq_false c_189, eq_false c_191, eq_false c_193, eq_false c_196, eq_true c_197, ↓reduceIte]) hP d_MD_go_300
                      · refine lv_aload_n hx hb d_MD_go_289 rfl (lv_at hl 0 rfl) ?_
                        refine va_get (D := D) (ci := 3) (v := .int (nI hn)) (C := R_MD) (T := F_MD) (N := 15) hx hb hts i_MD hown hK hP 0 rfl rfl 10 (by decide) (hts _ wd_585) (fun _ h9 => h9) rfl d_MD_go_290 ?_
                        refine lv_goto (tgt := 297) hx hb d_MD_go_293 (by decide) ?_
                        refine va_put (D := D) (ci := 3) (v := .int (nI hn)) (ty := .int) (C := R_MD) (T := F_MD) (N := 15) hx hb hts i_MD t_MD t_MD_ok n_MD hown hK hP hD hS 0 rfl rfl 10 (by decide) (hts _ wd_585) (fun _ h9 => h9) rfl (by decide +kernel) rfl rfl (Nat.le_of_ble_eq_true rfl) d_MD_go_297 (fun H locs hP hD hS => ?_)
                        have hP : va_P D classes (md_w q cI cZ xth xB xsh xcu xtp xtd vpa (nI k) vw vhe (nI hn) xtk xto xwa xmn) H := hP
                        have hD : va_D A (md_w q cI cZ xth xB xsh xcu xtp xtd vpa (nI k) vw vhe (nI hn) xtk xto xwa xmn) := hD
                        rw [hQ]
                        exact sf_vret (vpa, (nI k), vw, vhe, (nI hn)) hx hb hr hlk hS rfl (by rw [← heq79]; simp only [f_MD_go_l79_1, ← hu_1, ← hu_113, ← hu_186, ← hu_195, eq_false c_187, eq_false c_189, eq_false c_191, eq_false c_193, eq_false c_196, eq_false c_197, ↓reduceIte]) hP d_MD_go_300
                    · refine lv_iload_n hx hb d_MD_go_112 rfl (lv_at hl 2 rfl) ?_
                      refine lv_iload_n hx hb d_MD_go_113 rfl (lv_at hl 3 rfl) ?_
                      obtain ⟨u_198, hu_198⟩ : ∃ z, z = vp.toNatClampNeg := ⟨_, rfl⟩
                      obtain ⟨he_u_198, hb_u_198⟩ := sf_natp (B := 16) (by omega) hu_198 c_189 c_191
                      rw [he_u_198]
                      refine sf_callSr (S := Unit) (rest := []) ⟨hx, hb, hml, hown, hts⟩ (c_MD_begin_1 l D cI cZ cJ u_198) (sf_cwS lk_MD_84 hts (fun _ h => h) (by rw [hR]; exact ⟨Nat.le_of_ble_eq_true rfl, Nat.le_of_ble_eq_true rfl⟩)) hK hP hD hS hA [] rfl rfl (fun _ => rfl) rfl rfl hl.1 (Nat.le_of_ble_eq_true rfl) d_MD_go_114 ⟨Nat.zero_le _, Nat.zero_le _⟩ (fun u H locs hu hP hS => ?_)
                      refine lv_istore (lv' := [(6, .int (nI (768 + (32 * u_198)))), (0, .ref (q 0)), (1, .int (nI ro)), (2, .int 1), (3, .int vp), (4, .int vmo), (5, .int vg)]) hx hb d_MD_go_117 hl (by decide) rfl (fun ls hl => ?_)
                      refine lv_aload_n hx hb d_MD_go_119 rfl (lv_at hl 1 rfl) ?_
                      refine va_get (D := D) (ci := 3) (v := .ref (q 3)) (C := R_MD) (T := F_MD) (N := 15) hx hb hts i_MD hown hK hP 0 rfl rfl 6 (by decide) (hts _ wd_581) (fun _ h9 => h9) rfl d_MD_go_120 ?_
                      refine lv_aload_n hx hb d_MD_go_123 rfl (lv_at hl 1 rfl) ?_
                      refine va_get (D := D) (ci := 3) (v := .int (nI k)) (C := R_MD) (T := F_MD) (N := 15) hx hb hts i_MD hown hK hP 0 rfl rfl 7 (by decide) (hts _ wd_582) (fun _ h9 => h9) rfl d_MD_go_124 ?_
                      refine lv_iload_n hx hb d_MD_go_127 rfl (lv_at hl 4 rfl) ?_
                      refine va_iast hx hb hK hP hD hS 3 0 rfl rfl (show vp_in (nI k) 3 from vp_in_nI (n := k) (by omega) (by omega)) d_MD_go_128 (fun H locs hP hD hS => ?_)
                      rw [show ((nI k) : Int32).toNatClampNeg = k from nI_clamp (n := k) (by omega)] at hP hD
                      have hP : va_P D classes (md_w q cI cZ xth xB xsh xcu xtp xtd (upd vpa k vp) (nI k) vw vhe (nI hn) xtk xto xwa xmn) H := hP
                      have hD : va_D A (md_w q cI cZ xth xB xsh xcu xtp xtd (upd vpa k vp) (nI k) vw vhe (nI hn) xtk xto xwa xmn) := hD
                      refine lv_aload_n hx hb d_MD_go_129 rfl (lv_at hl 1 rfl) ?_
                      refine lv_dup hx hb d_MD_go_130 rfl ?_
                      refine va_get (D := D) (ci := 3) (v := .int (nI k)) (C := R_MD) (T := F_MD) (N := 15) hx hb hts i_MD hown hK hP 0 rfl rfl 7 (by decide) (hts _ wd_582) (fun _ h9 => h9) rfl d_MD_go_131 ?_
                      refine lv_iconst (v := 1) hx hb d_MD_go_134 (by decide) ?_
                      refine lv_iadd hx hb d_MD_go_135 ?_
                      rw [show (((nI k) + 1) : Int32) = (nI (k + 1)) from nI_add k 1]
                      refine va_put (D := D) (ci := 3) (v := .int (nI (k + 1))) (ty := .int) (C := R_MD) (T := F_MD) (N := 15) hx hb hts i_MD t_MD t_MD_ok n_MD hown hK hP hD hS 0 rfl rfl 7 (by decide) (hts _ wd_582) (fun _ h9 => h9) rfl (by decide +kernel) rfl rfl (Nat.le_of_ble_eq_true rfl) d_MD_go_136 (fun H locs hP hD hS => ?_)
                      have hP : va_P D classes (md_w q cI cZ xth xB xsh xcu xtp xtd (upd vpa k vp) (nI (k + 1)) vw vhe (nI hn) xtk xto xwa xmn) H := hP
                      have hD : va_D A (md_w q cI cZ xth xB xsh xcu xtp xtd (upd vpa k vp) (nI (k + 1)) vw vhe (nI hn) xtk xto xwa xmn) := hD
                      refine lv_aload_n hx hb d_MD_go_139 rfl (lv_at hl 1 rfl) ?_
                      refine va_get (D := D) (ci := 3) (v := .ref (q 1)) (C := R_MD) (T := F_MD) (N := 15) hx hb hts i_MD hown hK hP 0 rfl rfl 1 (by decide) (hts _ wd_576) (fun _ h9 => h9) rfl d_MD_go_140 ?_
                      refine lv_iload hx hb d_MD_go_143 (lv_at hl 0 rfl) ?_
                      refine lv_iconst (v := 1) hx hb d_MD_go_145 (by decide) ?_
                      refine lv_iadd hx hb d_MD_go_146 ?_
                      rw [show (((nI (768 + (32 * u_198))) + 1) : Int32) = (nI ((768 + (32 * u_198)) + 1)) from nI_add (768 + (32 * u_198)) 1]
                      refine va_iald hx hb hK hP 1 0 rfl rfl (show vp_in (nI ((768 + (32 * u_198)) + 1)) 1360 from vp_in_nI (n := ((768 + (32 * u_198)) + 1)) (by omega) (by omega)) d_MD_go_147 ?_
                      rw [show ((nI ((768 + (32 * u_198)) + 1)) : Int32).toNatClampNeg = ((768 + (32 * u_198)) + 1) from nI_clamp (n := ((768 + (32 * u_198)) + 1)) (by omega)]
                      refine lv_istore (lv' := [(7, .int (xB ((768 + (32 * u_198)) + 1))), (6, .int (nI (768 + (32 * u_198)))), (0, .ref (q 0)), (1, .int (nI ro)), (2, .int 1), (3, .int vp), (4, .int vmo), (5, .int vg)]) hx hb d_MD_go_148 hl (by decide) rfl (fun ls hl => ?_)
                      refine lv_aload_n hx hb d_MD_go_150 rfl (lv_at hl 2 rfl) ?_
                      refine lv_iload hx hb d_MD_go_151 (lv_at hl 1 rfl) ?_
                      refine lv_bipush (v := 28) hx hb d_MD_go_153 (by decide) ?_
                      refine sf_callVw (S := Int32) (rest := []) ⟨hx, hb, hml, hown, hts⟩ (c_MD_isSummed l D cI cZ cJ q xth xB xsh xcu xtp xtd (upd vpa k vp) (nI (k + 1)) vw vhe (nI hn) xtk xto xwa xmn (768 + (32 * u_198)) 28 (by omega)) (sf_cwV lk_MD_48 hts (fun _ h => h) (by rw [hR]; exact ⟨Nat.le_of_ble_eq_true rfl, Nat.le_of_ble_eq_true rfl⟩)) hK hP hD hS hA (fun _ => by simp only [md_w_fst]) (ci := 3) (q0 := 0) rfl rfl rfl rfl rfl hl.1 (Nat.le_of_ble_eq_true rfl) d_MD_go_155 ⟨Nat.zero_le _, Nat.zero_le _⟩ (fun u_199 H locs hu_199 hP hD hS => ?_)
                      have hP : va_P D classes (md_w q cI cZ xth xB xsh xcu xtp xtd (upd vpa k vp) (nI (k + 1)) vw vhe (nI hn) xtk xto xwa xmn) H := hP
                      have hD : va_D A (md_w q cI cZ xth xB xsh xcu xtp xtd (upd vpa k vp) (nI (k + 1)) vw vhe (nI hn) xtk xto xwa xmn) := hD
                      refine lv_if_eq (tgt := 190) hx hb d_MD_go_158 (by decide) (fun c_200 => ?_) (fun c_200 => ?_)
                      · refine lv_iconst (v := 0) hx hb d_MD_go_190 (by decide) ?_
                        refine lv_istore (lv' := [(5, .int 0), (7, .int (xB ((768 + (32 * u_198)) + 1))), (6, .int (nI (768 + (32 * u_198)))), (0, .ref (q 0)), (1, .int (nI ro)), (2, .int 1), (3, .int vp), (4, .int vmo)]) hx hb d_MD_go_191 hl (by decide) rfl (fun ls hl => ?_)
                        refine lv_iconst (v := 0) hx hb d_MD_go_193 (by decide) ?_
                        refine lv_istore (lv' := [(8, .int 0), (5, .int 0), (7, .int (xB ((768 + (32 * u_198)) + 1))), (6, .int (nI (768 + (32 * u_198)))), (0, .ref (q 0)), (1, .int (nI ro)), (2, .int 1), (3, .int vp), (4, .int vmo)]) hx hb d_MD_go_194 hl (by decide) rfl (fun ls hl => ?_)
                        refine lv_iload hx hb d_MD_go_196 (lv_at hl 0 rfl) ?_
                        refine lv_iload hx hb d_MD_go_198 (lv_at hl 2 rfl) ?_
                        refine lv_icmp_ge (tgt := 245) hx hb d_MD_go_200 (by decide) (fun c_201 => ?_) (fun c_201 => ?_)
                        · refine lv_iload hx hb d_MD_go_245 (lv_at hl 1 rfl) ?_
                          refine lv_if_eq (tgt := 268) hx hb d_MD_go_247 (by decide) (fun c_202 => ?_) (fun c_202 => absurd (by decide) c_202)
                          refine lv_aload_n hx hb d_MD_go_268 rfl (lv_at hl 4 rfl) ?_
                          refine va_get (D := D) (ci := 3) (v := .ref (q 1)) (C := R_MD) (T := F_MD) (N := 15) hx hb hts i_MD hown hK hP 0 rfl rfl 1 (by decide) (hts _ wd_576) (fun _ h9 => h9) rfl d_MD_go_269 ?_
                          refine lv_iload hx hb d_MD_go_272 (lv_at hl 3 rfl) ?_
                          refine va_iald hx hb hK hP 1 0 rfl rfl (show vp_in (nI (768 + (32 * u_198))) 1360 from vp_in_nI (n := (768 + (32 * u_198))) (by omega) (by omega)) d_MD_go_274 ?_
                          rw [show ((nI (768 + (32 * u_198))) : Int32).toNatClampNeg = (768 + (32 * u_198)) from nI_clamp (n := (768 + (32 * u_198))) (by omega)]
                          refine lv_iconst (v := 1) hx hb d_MD_go_275 (by decide) ?_
                          refine lv_isub hx hb d_MD_go_276 ?_
                          refine lv_istore_n (lv' := [(3, .int ((xB (768 + (32 * u_198))) - 1)), (8, .int 0), (5, .int 0), (7, .int (xB ((768 + (32 * u_198)) + 1))), (6, .int (nI (768 + (32 * u_198)))), (0, .ref (q 0)), (1, .int (nI ro)), (2, .int 1), (4, .int vmo)]) hx hb d_MD_go_277 rfl hl (by decide) rfl (fun ls hl => ?_)
                          refine lv_goto (tgt := 79) hx hb d_MD_go_278 (by decide) ?_
                          exact ih79 (k + 1) 0 ((xB (768 + (32 * u_198))) - 1) vmo (upd vpa k vp) vw vhe hn (by omega) (by omega) (by omega) (by rw [← heq79]; simp only [f_MD_go_l79_1, ← hu_1, ← hu_113, ← hu_186, ← hu_195, ← hu_198, ← hu_199, eq_false c_187, eq_false c_189, eq_false c_191, eq_false c_193, eq_true c_196, eq_true c_200, eq_true c_201, ↓reduceIte]) _ _ hP hD hS ls (lv_sub hl [5, 6, 7, 0, 8, 2] rfl)
                        · refine lv_iload hx hb d_MD_go_203 (lv_at hl 1 rfl) ?_
                          refine lv_if_eq (tgt := 245) hx hb d_MD_go_205 (by decide) (fun c_203 => ?_) (fun c_203 => absurd (by decide) c_203)
                          refine lv_iload hx hb d_MD_go_245 (lv_at hl 1 rfl) ?_
                          refine lv_if_eq (tgt := 268) hx hb d_MD_go_247 (by decide) (fun c_204 => ?_) (fun c_204 => absurd (by decide) c_204)
                          refine lv_aload_n hx hb d_MD_go_268 rfl (lv_at hl 4 rfl) ?_
                          refine va_get (D := D) (ci := 3) (v := .ref (q 1)) (C := R_MD) (T := F_MD) (N := 15) hx hb hts i_MD hown hK hP 0 rfl rfl 1 (by decide) (hts _ wd_576) (fun _ h9 => h9) rfl d_MD_go_269 ?_
                          refine lv_iload hx hb d_MD_go_272 (lv_at hl 3 rfl) ?_
                          refine va_iald hx hb hK hP 1 0 rfl rfl (show vp_in (nI (768 + (32 * u_198))) 1360 from vp_in_nI (n := (768 + (32 * u_198))) (by omega) (by omega)) d_MD_go_274 ?_
                          rw [show ((nI (768 + (32 * u_198))) : Int32).toNatClampNeg = (768 + (32 * u_198)) from nI_clamp (n := (768 + (32 * u_198))) (by omega)]
                          refine lv_iconst (v := 1) hx hb d_MD_go_275 (by decide) ?_
                          refine lv_isub hx hb d_MD_go_276 ?_
                          refine lv_istore_n (lv' := [(3, .int ((xB (768 + (32 * u_198))) - 1)), (8, .int 0), (5, .int 0), (7, .int (xB ((768 + (32 * u_198)) + 1))), (6, .int (nI (768 + (32 * u_198)))), (0, .ref (q 0)), (1, .int (nI ro)), (2, .int 1), (4, .int vmo)]) hx hb d_MD_go_277 rfl hl (by decide) rfl (fun ls hl => ?_)
                          refine lv_goto (tgt := 79) hx hb d_MD_go_278 (by decide) ?_
                          exact ih79 (k + 1) 0 ((xB (768 + (32 * u_198))) - 1) vmo (upd vpa k vp) vw vhe hn (by omega) (by omega) (by omega) (by rw [← heq79]; simp only [f_MD_go_l79_1, ← hu_1, ← hu_113, ← hu_186, ← hu_195, ← hu_198, ← hu_199, eq_false c_187, eq_false c_189, eq_false c_191, eq_false c_193, eq_true c_196, eq_true c_200, eq_false c_201, ↓reduceIte]) _ _ hP hD hS ls (lv_sub hl [5, 6, 7, 0, 8, 2] rfl)
                      · refine lv_iload hx hb d_MD_go_161 (lv_at hl 0 rfl) ?_
                        refine lv_iconst (v := 1) hx hb d_MD_go_163 (by decide) ?_
                        refine lv_bipush (v := 25) hx hb d_MD_go_164 (by decide) ?_
                        refine sf_callSr (S := Int32) (rest := []) ⟨hx, hb, hml, hown, hts⟩ (c_MD_in l D cI cZ cJ (xB ((768 + (32 * u_198)) + 1)) 1 25) (sf_cwS lk_MD_44 hts (fun _ h => h) (by rw [hR]; exact ⟨Nat.le_of_ble_eq_true rfl, Nat.le_of_ble_eq_true rfl⟩)) hK hP hD hS hA [] rfl rfl (fun _ => rfl) rfl rfl hl.1 (Nat.le_of_ble_eq_true rfl) d_MD_go_166 ⟨Nat.zero_le _, Nat.zero_le _⟩ (fun u_205 H locs hu_205 hP hS => ?_)
                        refine lv_if_eq (tgt := 190) hx hb d_MD_go_169 (by decide) (fun c_206 => ?_) (fun c_206 => ?_)
                        · refine lv_iconst (v := 0) hx hb d_MD_go_190 (by decide) ?_
                          refine lv_istore (lv' := [(5, .int 0), (7, .int (xB ((768 + (32 * u_198)) + 1))), (6, .int (nI (768 + (32 * u_198)))), (0, .ref (q 0)), (1, .int (nI ro)), (2, .int 1), (3, .int vp), (4, .int vmo)]) hx hb d_MD_go_191 hl (by decide) rfl (fun ls hl => ?_)
                          refine lv_iconst (v := 0) hx hb d_MD_go_193 (by decide) ?_
                          refine lv_istore (lv' := [(8, .int 0), (5, .int 0), (7, .int (xB ((768 + (32 * u_198)) + 1))), (6, .int (nI (768 + (32 * u_198)))), (0, .ref (q 0)), (1, .int (nI ro)), (2, .int 1), (3, .int vp), (4, .int vmo)]) hx hb d_MD_go_194 hl (by decide) rfl (fun ls hl => ?_)
                          refine lv_iload hx hb d_MD_go_196 (lv_at hl 0 rfl) ?_
                          refine lv_iload hx hb d_MD_go_198 (lv_at hl 2 rfl) ?_
                          refine lv_icmp_ge (tgt := 245) hx hb d_MD_go_200 (by decide) (fun c_207 => ?_) (fun c_207 => ?_)
                          · refine lv_iload hx hb d_MD_go_245 (lv_at hl 1 rfl) ?_
                            refine lv_if_eq (tgt := 268) hx hb d_MD_go_247 (by decide) (fun c_208 => ?_) (fun c_208 => absurd (by decide) c_208)
                            refine lv_aload_n hx hb d_MD_go_268 rfl (lv_at hl 4 rfl) ?_
                            refine va_get (D := D) (ci := 3) (v := .ref (q 1)) (C := R_MD) (T := F_MD) (N := 15) hx hb hts i_MD hown hK hP 0 rfl rfl 1 (by decide) (hts _ wd_576) (fun _ h9 => h9) rfl d_MD_go_269 ?_
                            refine lv_iload hx hb d_MD_go_272 (lv_at hl 3 rfl) ?_
                            refine va_iald hx hb hK hP 1 0 rfl rfl (show vp_in (nI (768 + (32 * u_198))) 1360 from vp_in_nI (n := (768 + (32 * u_198))) (by omega) (by omega)) d_MD_go_274 ?_
                            rw [show ((nI (768 + (32 * u_198))) : Int32).toNatClampNeg = (768 + (32 * u_198)) from nI_clamp (n := (768 + (32 * u_198))) (by omega)]
                            refine lv_iconst (v := 1) hx hb d_MD_go_275 (by decide) ?_
                            refine lv_isub hx hb d_MD_go_276 ?_
                            refine lv_istore_n (lv' := [(3, .int ((xB (768 + (32 * u_198))) - 1)), (8, .int 0), (5, .int 0), (7, .int (xB ((768 + (32 * u_198)) + 1))), (6, .int (nI (768 + (32 * u_198)))), (0, .ref (q 0)), (1, .int (nI ro)), (2, .int 1), (4, .int vmo)]) hx hb d_MD_go_277 rfl hl (by decide) rfl (fun ls hl => ?_)
                            refine lv_goto (tgt := 79) hx hb d_MD_go_278 (by decide) ?_
                            exact ih79 (k + 1) 0 ((xB (768 + (32 * u_198))) - 1) vmo (upd vpa k vp) vw vhe hn (by omega) (by omega) (by omega) (by rw [← heq79]; simp only [f_MD_go_l79_1, ← hu_1, ← hu_113, ← hu_186, ← hu_195, ← hu_198, ← hu_199, ← hu_205, eq_false c_187, eq_false c_189, eq_false c_191, eq_false c_193, eq_true c_196, eq_false c_200, eq_true c_206, eq_true c_207, ↓reduceIte]) _ _ hP hD hS ls (lv_sub hl [5, 6, 7, 0, 8, 2] rfl)
                          · refine lv_iload hx hb d_MD_go_203 (lv_at hl 1 rfl) ?_
                            refine lv_if_eq (tgt := 245) hx hb d_MD_go_205 (by decide) (fun c_209 => ?_) (fun c_209 => absurd (by decide) c_209)
                            refine lv_iload hx hb d_MD_go_245 (lv_at hl 1 rfl) ?_
                            refine lv_if_eq (tgt := 268) hx hb d_MD_go_247 (by decide) (fun c_210 => ?_) (fun c_210 => absurd (by decide) c_210)
                            refine lv_aload_n hx hb d_MD_go_268 rfl (lv_at hl 4 rfl) ?_
                            refine va_get (D := D) (ci := 3) (v := .ref (q 1)) (C := R_MD) (T := F_MD) (N := 15) hx hb hts i_MD hown hK hP 0 rfl rfl 1 (by decide) (hts _ wd_576) (fun _ h9 => h9) rfl d_MD_go_269 ?_
                            refine lv_iload hx hb d_MD_go_272 (lv_at hl 3 rfl) ?_
                            refine va_iald hx hb hK hP 1 0 rfl rfl (show vp_in (nI (768 + (32 * u_198))) 1360 from vp_in_nI (n := (768 + (32 * u_198))) (by omega) (by omega)) d_MD_go_274 ?_
                            rw [show ((nI (768 + (32 * u_198))) : Int32).toNatClampNeg = (768 + (32 * u_198)) from nI_clamp (n := (768 + (32 * u_198))) (by omega)]
                            refine lv_iconst (v := 1) hx hb d_MD_go_275 (by decide) ?_
                            refine lv_isub hx hb d_MD_go_276 ?_
                            refine lv_istore_n (lv' := [(3, .int ((xB (768 + (32 * u_198))) - 1)), (8, .int 0), (5, .int 0), (7, .int (xB ((768 + (32 * u_198)) + 1))), (6, .int (nI (768 + (32 * u_198)))), (0, .ref (q 0)), (1, .int (nI ro)), (2, .int 1), (4, .int vmo)]) hx hb d_MD_go_277 rfl hl (by decide) rfl (fun ls hl => ?_)
                            refine lv_goto (tgt := 79) hx hb d_MD_go_278 (by decide) ?_
                            exact ih79 (k + 1) 0 ((xB (768 + (32 * u_198))) - 1) vmo (upd vpa k vp) vw vhe hn (by omega) (by omega) (by omega) (by rw [← heq79]; simp only [f_MD_go_l79_1, ← hu_1, ← hu_113, ← hu_186, ← hu_195, ← hu_198, ← hu_199, ← hu_205, eq_false c_187, eq_false c_189, eq_false c_191, eq_false c_193, eq_true c_196, eq_false c_200, eq_true c_206, eq_false c_207, ↓reduceIte]) _ _ hP hD hS ls (lv_sub hl [5, 6, 7, 0, 8, 2] rfl)
                        · refine lv_aload_n hx hb d_MD_go_172 rfl (lv_at hl 2 rfl) ?_
                          refine va_get (D := D) (ci := 3) (v := .ref (q 1)) (C := R_MD) (T := F_MD) (N := 15) hx hb hts i_MD hown hK hP 0 rfl rfl 1 (by decide) (hts _ wd_576) (fun _ h9 => h9) rfl d_MD_go_173 ?_
                          refine lv_iload hx hb d_MD_go_176 (lv_at hl 1 rfl) ?_
                          refine lv_iconst (v := 2) hx hb d_MD_go_178 (by decide) ?_
                          refine lv_iadd hx hb d_MD_go_179 ?_
                          rw [show (((nI (768 + (32 * u_198))) + 2) : Int32) = (nI ((768 + (32 * u_198)) + 2)) from nI_add (768 + (32 * u_198)) 2]
                          refine va_iald hx hb hK hP 1 0 rfl rfl (show vp_in (nI ((768 + (32 * u_198)) + 2)) 1360 from vp_in_nI (n := ((768 + (32 * u_198)) + 2)) (by omega) (by omega)) d_MD_go_180 ?_
                          rw [show ((nI ((768 + (32 * u_198)) + 2)) : Int32).toNatClampNeg = ((768 + (32 * u_198)) + 2) from nI_clamp (n := ((768 + (32 * u_198)) + 2)) (by omega)]
                          refine lv_iload hx hb d_MD_go_181 (lv_at hl 6 rfl) ?_
                          refine lv_icmp_ne (tgt := 190) hx hb d_MD_go_183 (by decide) (fun c_211 => ?_) (fun c_211 => ?_)
                          · refine lv_iconst (v := 0) hx hb d_MD_go_190 (by decide) ?_
                            refine lv_istore (lv' := [(5, .int 0), (7, .int (xB ((768 + (32 * u_198)) + 1))), (6, .int (nI (768 + (32 * u_198)))), (0, .ref (q 0)), (1, .int (nI ro)), (2, .int 1), (3, .int vp), (4, .int vmo)]) hx hb d_MD_go_191 hl (by decide) rfl (fun ls hl => ?_)
                            refine lv_iconst (v := 0) hx hb d_MD_go_193 (by decide) ?_
                            refine lv_istore (lv' := [(8, .int 0), (5, .int 0), (7, .int (xB ((768 + (32 * u_198)) + 1))), (6, .int (nI (768 + (32 * u_198)))), (0, .ref (q 0)), (1, .int (nI ro)), (2, .int 1), (3, .int vp), (4, .int vmo)]) hx hb d_MD_go_194 hl (by decide) rfl (fun ls hl => ?_)
                            refine lv_iload hx hb d_MD_go_196 (lv_at hl 0 rfl) ?_
                            refine lv_iload hx hb d_MD_go_198 (lv_at hl 2 rfl) ?_
                            refine lv_icmp_ge (tgt := 245) hx hb d_MD_go_200 (by decide) (fun c_212 => ?_) (fun c_212 => ?_)
                            · refine lv_iload hx hb d_MD_go_245 (lv_at hl 1 rfl) ?_
                              refine lv_if_eq (tgt := 268) hx hb d_MD_go_247 (by decide) (fun c_213 => ?_) (fun c_213 => absurd (by decide) c_213)
                              refine lv_aload_n hx hb d_MD_go_268 rfl (lv_at hl 4 rfl) ?_
                              refine va_get (D := D) (ci := 3) (v := .ref (q 1)) (C := R_MD) (T := F_MD) (N := 15) hx hb hts i_MD hown hK hP 0 rfl rfl 1 (by decide) (hts _ wd_576) (fun _ h9 => h9) rfl d_MD_go_269 ?_
                              refine lv_iload hx hb d_MD_go_272 (lv_at hl 3 rfl) ?_
                              refine va_iald hx hb hK hP 1 0 rfl rfl (show vp_in (nI (768 + (32 * u_198))) 1360 from vp_in_nI (n := (768 + (32 * u_198))) (by omega) (by omega)) d_MD_go_274 ?_
                              rw [show ((nI (768 + (32 * u_198))) : Int32).toNatClampNeg = (768 + (32 * u_198)) from nI_clamp (n := (768 + (32 * u_198))) (by omega)]
                              refine lv_iconst (v := 1) hx hb d_MD_go_275 (by decide) ?_
                              refine lv_isub hx hb d_MD_go_276 ?_
                              refine lv_istore_n (lv' := [(3, .int ((xB (768 + (32 * u_198))) - 1)), (8, .int 0), (5, .int 0), (7, .int (xB ((768 + (32 * u_198)) + 1))), (6, .int (nI (768 + (32 * u_198)))), (0, .ref (q 0)), (1, .int (nI ro)), (2, .int 1), (4, .int vmo)]) hx hb d_MD_go_277 rfl hl (by decide) rfl (fun ls hl => ?_)
                              refine lv_goto (tgt := 79) hx hb d_MD_go_278 (by decide) ?_
                              exact ih79 (k + 1) 0 ((xB (768 + (32 * u_198))) - 1) vmo (upd vpa k vp) vw vhe hn (by omega) (by omega) (by omega) (by rw [← heq79]; simp only [f_MD_go_l79_1, ← hu_1, ← hu_113, ← hu_186, ← hu_195, ← hu_198, ← hu_199, ← hu_205, eq_false c_187, eq_false c_189, eq_false c_191, eq_false c_193, eq_true c_196, eq_false c_200, eq_false c_206, eq_false c_211, eq_true c_212, ↓reduceIte]) _ _ hP hD hS ls (lv_sub hl [5, 6, 7, 0, 8, 2] rfl)
                            · refine lv_iload hx hb d_MD_go_203 (lv_at hl 1 rfl) ?_
                              refine lv_if_eq (tgt := 245) hx hb d_MD_go_205 (by decide) (fun c_214 => ?_) (fun c_214 => absurd (by decide) c_214)
                              refine lv_iload hx hb d_MD_go_245 (lv_at hl 1 rfl) ?_
                              refine lv_if_eq (tgt := 268) hx hb d_MD_go_247 (by decide) (fun c_215 => ?_) (fun c_215 => absurd (by decide) c_215)
                              refine lv_aload_n hx hb d_MD_go_268 rfl (lv_at hl 4 rfl) ?_
                              refine va_get (D := D) (ci := 3) (v := .ref (q 1)) (C := R_MD) (T := F_MD) (N := 15) hx hb hts i_MD hown hK hP 0 rfl rfl 1 (by decide) (hts _ wd_576) (fun _ h9 => h9) rfl d_MD_go_269 ?_
                              refine lv_iload hx hb d_MD_go_272 (lv_at hl 3 rfl) ?_
                              refine va_iald hx hb hK hP 1 0 rfl rfl (show vp_in (nI (768 + (32 * u_198))) 1360 from vp_in_nI (n := (768 + (32 * u_198))) (by omega) (by omega)) d_MD_go_274 ?_
                              rw [show ((nI (768 + (32 * u_198))) : Int32).toNatClampNeg = (768 + (32 * u_198)) from nI_clamp (n := (768 + (32 * u_198))) (by omega)]
                              refine lv_iconst (v := 1) hx hb d_MD_go_275 (by decide) ?_
                              refine lv_isub hx hb d_MD_go_276 ?_
                              refine lv_istore_n (lv' := [(3, .int ((xB (768 + (32 * u_198))) - 1)), (8, .int 0), (5, .int 0), (7, .int (xB ((768 + (32 * u_198)) + 1))), (6, .int (nI (768 + (32 * u_198)))), (0, .ref (q 0)), (1, .int (nI ro)), (2, .int 1), (4, .int vmo)]) hx hb d_MD_go_277 rfl hl (by decide) rfl (fun ls hl => ?_)
                              refine lv_goto (tgt := 79) hx hb d_MD_go_278 (by decide) ?_
                              exact ih79 (k + 1) 0 ((xB (768 + (32 * u_198))) - 1) vmo (upd vpa k vp) vw vhe hn (by omega) (by omega) (by omega) (by rw [← heq79]; simp only [f_MD_go_l79_1, ← hu_1, ← hu_113, ← hu_186, ← hu_195, ← hu_198, ← hu_199, ← hu_205, eq_false c_187, eq_false c_189, eq_false c_191, eq_false c_193, eq_true c_196, eq_false c_200, eq_false c_206, eq_false c_211, eq_false c_212, ↓reduceIte]) _ _ hP hD hS ls (lv_sub hl [5, 6, 7, 0, 8, 2] rfl)
                          · refine lv_iconst (v := 1) hx hb d_MD_go_186 (by decide) ?_
                            refine lv_goto (tgt := 191) hx hb d_MD_go_187 (by decide) ?_
                            refine lv_istore (lv' := [(5, .int 1), (7, .int (xB ((768 + (32 * u_198)) + 1))), (6, .int (nI (768 + (32 * u_198)))), (0, .ref (q 0)), (1, .int (nI ro)), (2, .int 1), (3, .int vp), (4, .int vmo)]) hx hb d_MD_go_191 hl (by decide) rfl (fun ls hl => ?_)
                            obtain ⟨u_216, hu_216⟩ : ∃ z, z = (xB ((768 + (32 * u_198)) + 1)).toNatClampNeg := ⟨_, rfl⟩
                            obtain ⟨he_u_216, ha_u_216, hb_u_216⟩ := sf_natn hu_216 (by rw [← hu_205]; exact c_206)
                            rw [he_u_216] at hl
                            refine lv_iconst (v := 0) hx hb d_MD_go_193 (by decide) ?_
                            refine lv_istore (lv' := [(8, .int 0), (5, .int 1), (7, .int (nI u_216)), (6, .int (nI (768 + (32 * u_198)))), (0, .ref (q 0)), (1, .int (nI ro)), (2, .int 1), (3, .int vp), (4, .int vmo)]) hx hb d_MD_go_194 hl (by decide) rfl (fun ls hl => ?_)
                            obtain ⟨u_217, hu_217⟩ : ∃ z, z = (f_MD_go_l196_1 xB vp hn (u_216 + 1) 0 vhe) := ⟨_, rfl⟩
                            have loop196 : ∀ (fukk kk : Nat) (xh : (Nat → Int32)), kk ≤ u_216 → kk + fukk = u_216 + 1 → f_MD_go_l196_1 xB vp hn fukk kk xh = u_217 → ∀ (H : Heap) (locs : List Loc), va_P D classes (md_w q cI cZ xth xB xsh xcu xtp xtd (upd vpa k vp) (nI (k + 1)) vw xh (nI (hn + kk)) xtk xto xwa xmn) H → va_D A (md_w q cI cZ xth xB xsh xcu xtp xtd (upd vpa k vp) (nI (k + 1)) vw xh (nI (hn + kk)) xtk xto xwa xmn) → va_S A s.heap H locs → ∀ (ls : Array Slot), lv_has ls 9 [(0, .ref (q 0)), (1, .int (nI ro)), (2, .int 1), (3, .int vp), (4, .int vmo), (5, .int 1), (6, .int (nI (768 + (32 * u_198)))), (7, .int (nI u_216)), (8, .int (nI kk))] → W p l e R s m args below meth c H locs 0 0 Q (F0 m 196 ls []) := by
                              intro fukk
                              induction fukk with
                              | zero =>
                                intro kk xh h1 h2
                                exact absurd h2 (by omega)
                              | succ fukk ih196 =>
                                intro kk xh hk196 hkn196 heq196 H locs hP hD hS ls hl
                                refine lv_iload hx hb d_MD_go_196 (lv_at hl 8 rfl) ?_
                                refine lv_iload hx hb d_MD_go_198 (lv_at hl 7 rfl) ?_
                                refine lv_icmp_ge (tgt := 245) hx hb d_MD_go_200 (by decide) (fun c_218 => ?_) (fun c_218 => ?_)
                                · skip
                                  have hv196 : xh = u_217 := by rw [← heq196]; simp only [f_MD_go_l196_1, ← hu_1, ← hu_113, ← hu_186, ← hu_195, ← hu_198, ← hu_199, ← hu_205, ← hu_216, eq_true c_218, ↓reduceIte]
                                  have hv196_0 : xh = u_217 := hv196
                                  rw [hv196_0] at hP hD
                                  have hke196 : kk = u_216 := sf_eq_of (N := u_216) (by omega) (by omega) hk196 c_218
                                  try rw [hke196] at hP
                                  try rw [hke196] at hD
                                  try rw [hke196] at hl
                                  refine lv_iload hx hb d_MD_go_245 (lv_at hl 5 rfl) ?_
                                  refine lv_if_eq (tgt := 268) hx hb d_MD_go_247 (by decide) (fun c_220 => absurd c_220 (by decide)) (fun c_220 => ?_)
                                  refine lv_aload_n hx hb d_MD_go_250 rfl (lv_at hl 0 rfl) ?_
                                  refine va_get (D := D) (ci := 3) (v := .ref (q 1)) (C := R_MD) (T := F_MD) (N := 15) hx hb hts i_MD hown hK hP 0 rfl rfl 1 (by decide) (hts _ wd_576) (fun _ h9 => h9) rfl d_MD_go_251 ?_
                                  refine lv_iload hx hb d_MD_go_254 (lv_at hl 6 rfl) ?_
                                  refine va_iald hx hb hK hP 1 0 rfl rfl (show vp_in (nI (768 + (32 * u_198))) 1360 from vp_in_nI (n := (768 + (32 * u_198))) (by omega) (by omega)) d_MD_go_256 ?_
                                  rw [show ((nI (768 + (32 * u_198))) : Int32).toNatClampNeg = (768 + (32 * u_198)) from nI_clamp (n := (768 + (32 * u_198))) (by omega)]
                                  refine lv_if_ne (tgt := 268) hx hb d_MD_go_257 (by decide) (fun c_221 => ?_) (fun c_221 => ?_)
                                  · refine lv_aload_n hx hb d_MD_go_268 rfl (lv_at hl 0 rfl) ?_
                                    refine va_get (D := D) (ci := 3) (v := .ref (q 1)) (C := R_MD) (T := F_MD) (N := 15) hx hb hts i_MD hown hK hP 0 rfl rfl 1 (by decide) (hts _ wd_576) (fun _ h9 => h9) rfl d_MD_go_269 ?_
                                    refine lv_iload hx hb d_MD_go_272 (lv_at hl 6 rfl) ?_
                                    refine va_iald hx hb hK hP 1 0 rfl rfl (show vp_in (nI (768 + (32 * u_198))) 1360 from vp_in_nI (n := (768 + (32 * u_198))) (by omega) (by omega)) d_MD_go_274 ?_
                                    rw [show ((nI (768 + (32 * u_198))) : Int32).toNatClampNeg = (768 + (32 * u_198)) from nI_clamp (n := (768 + (32 * u_198))) (by omega)]
                                    refine lv_iconst (v := 1) hx hb d_MD_go_275 (by decide) ?_
                                    refine lv_isub hx hb d_MD_go_276 ?_
                                    refine lv_istore_n (lv' := [(3, .int ((xB (768 + (32 * u_198))) - 1)), (0, .ref (q 0)), (1, .int (nI ro)), (2, .int 1), (4, .int vmo), (5, .int 1), (6, .int (nI (768 + (32 * u_198)))), (7, .int (nI u_216)), (8, .int (nI u_216))]) hx hb d_MD_go_277 rfl hl (by decide) rfl (fun ls hl => ?_)
                                    refine lv_goto (tgt := 79) hx hb d_MD_go_278 (by decide) ?_
                                    exact ih79 (k + 1) 1 ((xB (768 + (32 * u_198))) - 1) vmo (upd vpa k vp) vw u_217 (hn + u_216) (by omega) (by omega) (by omega) (by rw [← heq79]; simp only [f_MD_go_l79_1, ← hu_1, ← hu_113, ← hu_186, ← hu_195, ← hu_198, ← hu_199, ← hu_205, ← hu_216, ← hu_217, eq_false c_187, eq_false c_189, eq_false c_191, eq_false c_193, eq_true c_196, eq_false c_200, eq_false c_206, eq_true c_211, eq_false c_221, ↓reduceIte]) _ _ hP hD hS ls (lv_sub hl [1, 2, 3, 0, 4, 5] rfl)
                                  · refine lv_aload_n hx hb d_MD_go_260 rfl (lv_at hl 0 rfl) ?_
                                    refine lv_iconst (v := 1) hx hb d_MD_go_261 (by decide) ?_
                                    refine va_put (D := D) (ci := 3) (v := .int 1) (ty := .boolean) (C := R_MD) (T := F_MD) (N := 15) hx hb hts i_MD t_MD t_MD_ok n_MD hown hK hP hD hS 0 rfl rfl 8 (by decide) (hts _ wd_583) (fun _ h9 => h9) rfl (by decide +kernel) (sf_bp1).1 (sf_bp1).2 (Nat.le_of_ble_eq_true rfl) d_MD_go_262 (fun H locs hP hD hS => ?_)
                                    have hP : va_P D classes (md_w q cI cZ xth xB xsh xcu xtp xtd (upd vpa k vp) (nI (k + 1)) 1 u_217 (nI (hn + u_216)) xtk xto xwa xmn) H := hP
                                    have hD : va_D A (md_w q cI cZ xth xB xsh xcu xtp xtd (upd vpa k vp) (nI (k + 1)) 1 u_217 (nI (hn + u_216)) xtk xto xwa xmn) := hD
                                    refine lv_iconst (v := 0) hx hb d_MD_go_265 (by decide) ?_
                                    refine lv_istore (lv' := [(5, .int 0), (0, .ref (q 0)), (1, .int (nI ro)), (2, .int 1), (3, .int vp), (4, .int vmo), (6, .int (nI (768 + (32 * u_198)))), (7, .int (nI u_216)), (8, .int (nI u_216))]) hx hb d_MD_go_266 hl (by decide) rfl (fun ls hl => ?_)
                                    refine lv_aload_n hx hb d_MD_go_268 rfl (lv_at hl 1 rfl) ?_
                                    refine va_get (D := D) (ci := 3) (v := .ref (q 1)) (C := R_MD) (T := F_MD) (N := 15) hx hb hts i_MD hown hK hP 0 rfl rfl 1 (by decide) (hts _ wd_576) (fun _ h9 => h9) rfl d_MD_go_269 ?_
                                    refine lv_iload hx hb d_MD_go_272 (lv_at hl 6 rfl) ?_
                                    refine va_iald hx hb hK hP 1 0 rfl rfl (show vp_in (nI (768 + (32 * u_198))) 1360 from vp_in_nI (n := (768 + (32 * u_198))) (by omega) (by omega)) d_MD_go_274 ?_
                                    rw [show ((nI (768 + (32 * u_198))) : Int32).toNatClampNeg = (768 + (32 * u_198)) from nI_clamp (n := (768 + (32 * u_198))) (by omega)]
                                    refine lv_iconst (v := 1) hx hb d_MD_go_275 (by decide) ?_
                                    refine lv_isub hx hb d_MD_go_276 ?_
                                    refine lv_istore_n (lv' := [(3, .int ((xB (768 + (32 * u_198))) - 1)), (5, .int 0), (0, .ref (q 0)), (1, .int (nI ro)), (2, .int 1), (4, .int vmo), (6, .int (nI (768 + (32 * u_198)))), (7, .int (nI u_216)), (8, .int (nI u_216))]) hx hb d_MD_go_277 rfl hl (by decide) rfl (fun ls hl => ?_)
                                    refine lv_goto (tgt := 79) hx hb d_MD_go_278 (by decide) ?_
                                    exact ih79 (k + 1) 0 ((xB (768 + (32 * u_198))) - 1) vmo (upd vpa k vp) 1 u_217 (hn + u_216) (by omega) (by omega) (by omega) (by rw [← heq79]; simp only [f_MD_go_l79_1, ← hu_1, ← hu_113, ← hu_186, ← hu_195, ← hu_198, ← hu_199, ← hu_205, ← hu_216, ← hu_217, eq_false c_187, eq_false c_189, eq_false c_191, eq_false c_193, eq_true c_196, eq_false c_200, eq_false c_206, eq_true c_211, eq_true c_221, ↓reduceIte]) _ _ hP hD hS ls (lv_sub hl [2, 3, 4, 0, 5, 1] rfl)
                                · have hlt : kk < u_216 := sf_lt_of (N := u_216) (by omega) (by omega) c_218
                                  refine lv_iload hx hb d_MD_go_203 (lv_at hl 5 rfl) ?_
                                  refine lv_if_eq (tgt := 245) hx hb d_MD_go_205 (by decide) (fun c_219 => absurd c_219 (by decide)) (fun c_219 => ?_)
                                  refine lv_aload_n hx hb d_MD_go_208 rfl (lv_at hl 0 rfl) ?_
                                  refine va_get (D := D) (ci := 3) (v := .ref (q 4)) (C := R_MD) (T := F_MD) (N := 15) hx hb hts i_MD hown hK hP 0 rfl rfl 9 (by decide) (hts _ wd_584) (fun _ h9 => h9) rfl d_MD_go_209 ?_
                                  refine lv_aload_n hx hb d_MD_go_212 rfl (lv_at hl 0 rfl) ?_
                                  refine va_get (D := D) (ci := 3) (v := .int (nI (hn + kk))) (C := R_MD) (T := F_MD) (N := 15) hx hb hts i_MD hown hK hP 0 rfl rfl 10 (by decide) (hts _ wd_585) (fun _ h9 => h9) rfl d_MD_go_213 ?_
                                  refine lv_aload_n hx hb d_MD_go_216 rfl (lv_at hl 0 rfl) ?_
                                  refine va_get (D := D) (ci := 3) (v := .ref (q 1)) (C := R_MD) (T := F_MD) (N := 15) hx hb hts i_MD hown hK hP 0 rfl rfl 1 (by decide) (hts _ wd_576) (fun _ h9 => h9) rfl d_MD_go_217 ?_
                                  refine lv_iload hx hb d_MD_go_220 (lv_at hl 6 rfl) ?_
                                  refine lv_iconst (v := 3) hx hb d_MD_go_222 (by decide) ?_
                                  refine lv_iadd hx hb d_MD_go_223 ?_
                                  rw [show (((nI (768 + (32 * u_198))) + 3) : Int32) = (nI ((768 + (32 * u_198)) + 3)) from nI_add (768 + (32 * u_198)) 3]
                                  refine lv_iload hx hb d_MD_go_224 (lv_at hl 8 rfl) ?_
                                  refine lv_iadd hx hb d_MD_go_226 ?_
                                  rw [show (((nI ((768 + (32 * u_198)) + 3)) + (nI kk)) : Int32) = (nI (((768 + (32 * u_198)) + 3) + kk)) from nI_add ((768 + (32 * u_198)) + 3) kk]
                                  refine va_iald hx hb hK hP 1 0 rfl rfl (show vp_in (nI (((768 + (32 * u_198)) + 3) + kk)) 1360 from vp_in_nI (n := (((768 + (32 * u_198)) + 3) + kk)) (by omega) (by omega)) d_MD_go_227 ?_
                                  rw [show ((nI (((768 + (32 * u_198)) + 3) + kk)) : Int32).toNatClampNeg = (((768 + (32 * u_198)) + 3) + kk) from nI_clamp (n := (((768 + (32 * u_198)) + 3) + kk)) (by omega)]
                                  refine va_iast hx hb hK hP hD hS 4 0 rfl rfl (show vp_in (nI (hn + kk)) 75 from vp_in_nI (n := (hn + kk)) (by omega) (by omega)) d_MD_go_228 (fun H locs hP hD hS => ?_)
                                  rw [show ((nI (hn + kk)) : Int32).toNatClampNeg = (hn + kk) from nI_clamp (n := (hn + kk)) (by omega)] at hP hD
                                  have hP : va_P D classes (md_w q cI cZ xth xB xsh xcu xtp xtd (upd vpa k vp) (nI (k + 1)) vw (upd xh (hn + kk) (xB (((768 + (32 * u_198)) + 3) + kk))) (nI (hn + kk)) xtk xto xwa xmn) H := hP
                                  have hD : va_D A (md_w q cI cZ xth xB xsh xcu xtp xtd (upd vpa k vp) (nI (k + 1)) vw (upd xh (hn + kk) (xB (((768 + (32 * u_198)) + 3) + kk))) (nI (hn + kk)) xtk xto xwa xmn) := hD
                                  refine lv_aload_n hx hb d_MD_go_229 rfl (lv_at hl 0 rfl) ?_
                                  refine lv_dup hx hb d_MD_go_230 rfl ?_
                                  refine va_get (D := D) (ci := 3) (v := .int (nI (hn + kk))) (C := R_MD) (T := F_MD) (N := 15) hx hb hts i_MD hown hK hP 0 rfl rfl 10 (by decide) (hts _ wd_585) (fun _ h9 => h9) rfl d_MD_go_231 ?_
                                  refine lv_iconst (v := 1) hx hb d_MD_go_234 (by decide) ?_
                                  refine lv_iadd hx hb d_MD_go_235 ?_
                                  rw [show (((nI (hn + kk)) + 1) : Int32) = (nI ((hn + kk) + 1)) from nI_add (hn + kk) 1]
                                  refine va_put (D := D) (ci := 3) (v := .int (nI ((hn + kk) + 1))) (ty := .int) (C := R_MD) (T := F_MD) (N := 15) hx hb hts i_MD t_MD t_MD_ok n_MD hown hK hP hD hS 0 rfl rfl 10 (by decide) (hts _ wd_585) (fun _ h9 => h9) rfl (by decide +kernel) rfl rfl (Nat.le_of_ble_eq_true rfl) d_MD_go_236 (fun H locs hP hD hS => ?_)
                                  have hP : va_P D classes (md_w q cI cZ xth xB xsh xcu xtp xtd (upd vpa k vp) (nI (k + 1)) vw (upd xh (hn + kk) (xB (((768 + (32 * u_198)) + 3) + kk))) (nI ((hn + kk) + 1)) xtk xto xwa xmn) H := hP
                                  have hD : va_D A (md_w q cI cZ xth xB xsh xcu xtp xtd (upd vpa k vp) (nI (k + 1)) vw (upd xh (hn + kk) (xB (((768 + (32 * u_198)) + 3) + kk))) (nI ((hn + kk) + 1)) xtk xto xwa xmn) := hD
                                  refine lv_iinc (v := (nI (kk + 1))) (lv' := [(8, .int (nI (kk + 1))), (0, .ref (q 0)), (1, .int (nI ro)), (2, .int 1), (3, .int vp), (4, .int vmo), (5, .int 1), (6, .int (nI (768 + (32 * u_198)))), (7, .int (nI u_216))]) hx hb d_MD_go_239 hl (k := 8) rfl (nI_1 kk) (by decide) rfl (fun ls hl => ?_)
                                  refine lv_goto (tgt := 196) hx hb d_MD_go_242 (by decide) ?_
                                  exact ih196 (kk + 1) (upd xh (hn + kk) (xB (((768 + (32 * u_198)) + 3) + kk))) (by omega) (by omega) (by rw [← heq196]; simp only [f_MD_go_l196_1, ← hu_1, ← hu_113, ← hu_186, ← hu_195, ← hu_198, ← hu_199, ← hu_205, ← hu_216, eq_false c_218, ↓reduceIte]) _ _ hP hD hS ls (lv_sub hl [1, 2, 3, 4, 5, 6, 7, 8, 0] rfl)
                            exact loop196 (u_216 + 1) 0 vhe (by omega) (by omega) hu_217.symm _ _ hP hD hS ls (lv_sub hl [4, 5, 6, 7, 8, 1, 3, 2, 0] rfl)
        exact loop79 (3 + 1) 0 1 (u_113 - 1) (xB ((768 + (32 * u_186)) + 2)) xpa 0 xhe 0 (by omega) (by omega) (by omega) (by simp only [f_MD_go, ← hu_1, ← hu_113, ← hu_186, eq_false hz0, eq_false c_114, eq_false c_150, ↓reduceIte]) _ _ hP hD hS ls (lv_sub hl [4, 5, 3, 2, 1, 0] rfl)
