/-! sf1: contracts, with the pure functions that they speak of (printed by wip/gen) -/
set_option maxRecDepth 20000 in
theorem wd_120 : Cond.fieldLink R_SF 62 "ShadowFiles" "tapeLength" "I" ∈ sf_tb := sf_tb_in 120 rfl rfl
set_option maxRecDepth 20000 in
theorem wd_119 : Cond.fieldLink R_SF 48 "ShadowFiles" "tape" "[I" ∈ sf_tb := sf_tb_in 119 rfl rfl
set_option maxRecDepth 20000 in
theorem wd_112 : Cond.fieldLink R_SF 21 "ShadowFiles" "tables" "LShadowFiles$Blocks;" ∈ sf_tb := sf_tb_in 112 rfl rfl
set_option maxRecDepth 20000 in
theorem wd_110 : Cond.fieldLink R_SF 14 "ShadowFiles" "file" "LShadowFiles$Blocks;" ∈ sf_tb := sf_tb_in 110 rfl rfl
set_option maxRecDepth 20000 in
theorem wd_111 : Cond.fieldLink R_SF 18 "ShadowFiles" "slowFile" "LShadowFiles$Blocks;" ∈ sf_tb := sf_tb_in 111 rfl rfl
set_option maxRecDepth 20000 in
theorem wd_115 : Cond.fieldLink R_SF 33 "ShadowFiles" "chain" "LShadowFiles$Chain;" ∈ sf_tb := sf_tb_in 115 rfl rfl
set_option maxRecDepth 20000 in
theorem wd_118 : Cond.fieldLink R_SF 44 "ShadowFiles" "taken" "[I" ∈ sf_tb := sf_tb_in 118 rfl rfl
set_option maxRecDepth 20000 in
theorem wd_121 : Cond.fieldLink R_SF 51 "ShadowFiles" "cutBehind" "I" ∈ sf_tb := sf_tb_in 121 rfl rfl
set_option maxRecDepth 20000 in
theorem wd_123 : Cond.fieldLink R_SF 247 "ShadowFiles" "powerFails" "Z" ∈ sf_tb := sf_tb_in 123 rfl rfl
set_option maxRecDepth 20000 in
theorem wd_122 : Cond.fieldLink R_SF 250 "ShadowFiles" "bytesLeft" "I" ∈ sf_tb := sf_tb_in 122 rfl rfl
set_option maxRecDepth 20000 in
theorem wd_124 : Cond.fieldLink R_SF 83 "ShadowFiles" "shut" "Z" ∈ sf_tb := sf_tb_in 124 rfl rfl
set_option maxRecDepth 20000 in
theorem wd_409 : Cond.methodLink R_SF 110 y_SF_takenAt ∈ sf_tb := sf_tb_in 409 rfl rfl
set_option maxRecDepth 20000 in
theorem wd_412 : Cond.code y_SF_takenAt b_SF_takenAt 2 (some .int) ∈ sf_tb := sf_tb_in 412 rfl rfl
set_option maxRecDepth 20000 in
theorem wd_52 : Cond.initialized R_SF ∈ sf_tb := sf_tb_in 52 rfl rfl
set_option maxRecDepth 20000 in
theorem wd_411 : Cond.instanceMethod y_SF_takenAt ∈ sf_tb := sf_tb_in 411 rfl rfl
set_option maxRecDepth 20000 in
theorem wd_17 : Cond.selects R_SF y_SF_takenAt y_SF_takenAt ∈ sf_tb := sf_tb_in 17 rfl rfl
set_option maxRecDepth 20000 in
theorem wd_356 : Cond.methodLink R_SF 160 y_SF_placesOf ∈ sf_tb := sf_tb_in 356 rfl rfl
set_option maxRecDepth 20000 in
theorem wd_359 : Cond.code y_SF_placesOf b_SF_placesOf 2 (some (.object "ShadowFiles$Blocks")) ∈ sf_tb := sf_tb_in 359 rfl rfl
set_option maxRecDepth 20000 in
theorem wd_358 : Cond.instanceMethod y_SF_placesOf ∈ sf_tb := sf_tb_in 358 rfl rfl
set_option maxRecDepth 20000 in
theorem wd_10 : Cond.selects R_SF y_SF_placesOf y_SF_placesOf ∈ sf_tb := sf_tb_in 10 rfl rfl
set_option maxRecDepth 20000 in
theorem wd_165 : Cond.methodLink R_SF 179 y_SF_countingTable ∈ sf_tb := sf_tb_in 165 rfl rfl
set_option maxRecDepth 20000 in
theorem wd_168 : Cond.code y_SF_countingTable b_SF_countingTable 3 (some .int) ∈ sf_tb := sf_tb_in 168 rfl rfl
set_option maxRecDepth 20000 in
theorem wd_167 : Cond.instanceMethod y_SF_countingTable ∈ sf_tb := sf_tb_in 167 rfl rfl
set_option maxRecDepth 20000 in
theorem wd_1 : Cond.selects R_SF y_SF_countingTable y_SF_countingTable ∈ sf_tb := sf_tb_in 1 rfl rfl
set_option maxRecDepth 20000 in
theorem wd_187 : Cond.methodLink R_SF 182 y_SF_numberOf ∈ sf_tb := sf_tb_in 187 rfl rfl
set_option maxRecDepth 20000 in
theorem wd_190 : Cond.code y_SF_numberOf b_SF_numberOf 2 (some .int) ∈ sf_tb := sf_tb_in 190 rfl rfl
set_option maxRecDepth 20000 in
theorem wd_189 : Cond.instanceMethod y_SF_numberOf ∈ sf_tb := sf_tb_in 189 rfl rfl
set_option maxRecDepth 20000 in
theorem wd_3 : Cond.selects R_SF y_SF_numberOf y_SF_numberOf ∈ sf_tb := sf_tb_in 3 rfl rfl
set_option maxRecDepth 20000 in
theorem wd_173 : Cond.methodLink R_SF 203 y_Bl_get ∈ sf_tb := sf_tb_in 173 rfl rfl
set_option maxRecDepth 20000 in
theorem wd_177 : Cond.methodLink R_SF 215 y_Bl_sumIsRight ∈ sf_tb := sf_tb_in 177 rfl rfl
set_option maxRecDepth 20000 in
theorem wd_169 : Cond.methodLink R_SF 218 y_SF_isGood ∈ sf_tb := sf_tb_in 169 rfl rfl
set_option maxRecDepth 20000 in
theorem wd_172 : Cond.code y_SF_isGood b_SF_isGood 3 (some .boolean) ∈ sf_tb := sf_tb_in 172 rfl rfl
set_option maxRecDepth 20000 in
theorem wd_171 : Cond.instanceMethod y_SF_isGood ∈ sf_tb := sf_tb_in 171 rfl rfl
set_option maxRecDepth 20000 in
theorem wd_2 : Cond.selects R_SF y_SF_isGood y_SF_isGood ∈ sf_tb := sf_tb_in 2 rfl rfl
set_option maxRecDepth 20000 in
theorem wd_191 : Cond.methodLink R_SF 221 y_SF_numberBehind ∈ sf_tb := sf_tb_in 191 rfl rfl
set_option maxRecDepth 20000 in
theorem wd_193 : Cond.code y_SF_numberBehind b_SF_numberBehind 1 (some .int) ∈ sf_tb := sf_tb_in 193 rfl rfl
set_option maxRecDepth 20000 in
theorem wd_192 : Cond.static y_SF_numberBehind ∈ sf_tb := sf_tb_in 192 rfl rfl
set_option maxRecDepth 20000 in
theorem wd_194 : Cond.methodLink R_SF 224 y_SF_firstOf ∈ sf_tb := sf_tb_in 194 rfl rfl
set_option maxRecDepth 20000 in
theorem wd_197 : Cond.code y_SF_firstOf b_SF_firstOf 4 (some .int) ∈ sf_tb := sf_tb_in 197 rfl rfl
set_option maxRecDepth 20000 in
theorem wd_196 : Cond.instanceMethod y_SF_firstOf ∈ sf_tb := sf_tb_in 196 rfl rfl
set_option maxRecDepth 20000 in
theorem wd_4 : Cond.selects R_SF y_SF_firstOf y_SF_firstOf ∈ sf_tb := sf_tb_in 4 rfl rfl
set_option maxRecDepth 20000 in
theorem wd_360 : Cond.methodLink R_SF 228 y_Ch_follow ∈ sf_tb := sf_tb_in 360 rfl rfl
set_option maxRecDepth 20000 in
theorem wd_363 : Cond.code y_Ch_follow b_Ch_follow 6 none ∈ sf_tb := sf_tb_in 363 rfl rfl
set_option maxRecDepth 20000 in
theorem wd_361 : Cond.instanceMethod y_Ch_follow ∈ sf_tb := sf_tb_in 361 rfl rfl
set_option maxRecDepth 20000 in
theorem wd_362 : Cond.selects R_Ch y_Ch_follow y_Ch_follow ∈ sf_tb := sf_tb_in 362 rfl rfl
theorem lk_SF_110 : sf_LV R_SF 110 y_SF_takenAt b_SF_takenAt 2 (some .int) 1 := ⟨wd_412, wd_409, wd_411, wd_17, wd_52, by decide +kernel⟩
theorem lk_SF_160 : sf_LV R_SF 160 y_SF_placesOf b_SF_placesOf 2 (some (.object "ShadowFiles$Blocks")) 1 := ⟨wd_359, wd_356, wd_358, wd_10, wd_52, by decide +kernel⟩
theorem lk_SF_179 : sf_LV R_SF 179 y_SF_countingTable b_SF_countingTable 3 (some .int) 0 := ⟨wd_168, wd_165, wd_167, wd_1, wd_52, by decide +kernel⟩
theorem lk_SF_182 : sf_LV R_SF 182 y_SF_numberOf b_SF_numberOf 2 (some .int) 1 := ⟨wd_190, wd_187, wd_189, wd_3, wd_52, by decide +kernel⟩
theorem lk_SF_203 : sf_LV R_SF 203 y_Bl_get b_Bl_get 4 (some .int) 2 := ⟨wd_176, wd_173, wd_174, wd_175, wd_53, by decide +kernel⟩
theorem lk_SF_215 : sf_LV R_SF 215 y_Bl_sumIsRight b_Bl_sumIsRight 4 (some .boolean) 1 := ⟨wd_180, wd_177, wd_178, wd_179, wd_53, by decide +kernel⟩
theorem lk_SF_218 : sf_LV R_SF 218 y_SF_isGood b_SF_isGood 3 (some .boolean) 1 := ⟨wd_172, wd_169, wd_171, wd_2, wd_52, by decide +kernel⟩
theorem lk_SF_221 : sf_LS R_SF 221 y_SF_numberBehind b_SF_numberBehind 1 (some .int) 1 := ⟨wd_193, wd_191, wd_192, wd_52, by decide +kernel⟩
theorem lk_SF_224 : sf_LV R_SF 224 y_SF_firstOf b_SF_firstOf 4 (some .int) 3 := ⟨wd_197, wd_194, wd_196, wd_4, wd_52, by decide +kernel⟩
theorem lk_SF_228 : sf_LV R_SF 228 y_Ch_follow b_Ch_follow 6 none 2 := ⟨wd_363, wd_360, wd_361, wd_362, wd_54, by decide +kernel⟩
theorem d_SF_isRow_0 : decode b_SF_isRow 0 = .ok (.iload_n 0, 1) := by decide +kernel
theorem d_SF_isRow_1 : decode b_SF_isRow 1 = .ok (.ifCond .lt 13, 3) := by decide +kernel
theorem d_SF_isRow_4 : decode b_SF_isRow 4 = .ok (.iload_n 0, 1) := by decide +kernel
theorem d_SF_isRow_5 : decode b_SF_isRow 5 = .ok (.bipush 12, 2) := by decide +kernel
theorem d_SF_isRow_7 : decode b_SF_isRow 7 = .ok (.if_icmp .ge 7, 3) := by decide +kernel
theorem d_SF_isRow_10 : decode b_SF_isRow 10 = .ok (.iconst 1, 1) := by decide +kernel
theorem d_SF_isRow_11 : decode b_SF_isRow 11 = .ok (.goto 4, 3) := by decide +kernel
theorem d_SF_isRow_14 : decode b_SF_isRow 14 = .ok (.iconst 0, 1) := by decide +kernel
theorem d_SF_isRow_15 : decode b_SF_isRow 15 = .ok (.ireturn, 1) := by decide +kernel
theorem d_SF_isMonth_0 : decode b_SF_isMonth 0 = .ok (.iload_n 0, 1) := by decide +kernel
theorem d_SF_isMonth_1 : decode b_SF_isMonth 1 = .ok (.ifCond .lt 13, 3) := by decide +kernel
theorem d_SF_isMonth_4 : decode b_SF_isMonth 4 = .ok (.iload_n 0, 1) := by decide +kernel
theorem d_SF_isMonth_5 : decode b_SF_isMonth 5 = .ok (.bipush 12, 2) := by decide +kernel
theorem d_SF_isMonth_7 : decode b_SF_isMonth 7 = .ok (.if_icmp .ge 7, 3) := by decide +kernel
theorem d_SF_isMonth_10 : decode b_SF_isMonth 10 = .ok (.iconst 1, 1) := by decide +kernel
theorem d_SF_isMonth_11 : decode b_SF_isMonth 11 = .ok (.goto 4, 3) := by decide +kernel
theorem d_SF_isMonth_14 : decode b_SF_isMonth 14 = .ok (.iconst 0, 1) := by decide +kernel
theorem d_SF_isMonth_15 : decode b_SF_isMonth 15 = .ok (.ireturn, 1) := by decide +kernel
theorem d_SF_numberBehind_0 : decode b_SF_numberBehind 0 = .ok (.iload_n 0, 1) := by decide +kernel
theorem d_SF_numberBehind_1 : decode b_SF_numberBehind 1 = .ok (.sipush 250, 3) := by decide +kernel
theorem d_SF_numberBehind_4 : decode b_SF_numberBehind 4 = .ok (.if_icmp .lt 7, 3) := by decide +kernel
theorem d_SF_numberBehind_7 : decode b_SF_numberBehind 7 = .ok (.iconst 1, 1) := by decide +kernel
theorem d_SF_numberBehind_8 : decode b_SF_numberBehind 8 = .ok (.goto 6, 3) := by decide +kernel
theorem d_SF_numberBehind_11 : decode b_SF_numberBehind 11 = .ok (.iload_n 0, 1) := by decide +kernel
theorem d_SF_numberBehind_12 : decode b_SF_numberBehind 12 = .ok (.iconst 1, 1) := by decide +kernel
theorem d_SF_numberBehind_13 : decode b_SF_numberBehind 13 = .ok (.iadd, 1) := by decide +kernel
theorem d_SF_numberBehind_14 : decode b_SF_numberBehind 14 = .ok (.ireturn, 1) := by decide +kernel
theorem d_SF_countPlaces_0 : decode b_SF_countPlaces 0 = .ok (.iload_n 0, 1) := by decide +kernel
theorem d_SF_countPlaces_1 : decode b_SF_countPlaces 1 = .ok (.ifCond .eq 8, 3) := by decide +kernel
theorem d_SF_countPlaces_4 : decode b_SF_countPlaces 4 = .ok (.bipush 16, 2) := by decide +kernel
theorem d_SF_countPlaces_6 : decode b_SF_countPlaces 6 = .ok (.goto 5, 3) := by decide +kernel
theorem d_SF_countPlaces_9 : decode b_SF_countPlaces 9 = .ok (.bipush 24, 2) := by decide +kernel
theorem d_SF_countPlaces_11 : decode b_SF_countPlaces 11 = .ok (.ireturn, 1) := by decide +kernel
theorem d_SF_addToTape_0 : decode b_SF_addToTape 0 = .ok (.aload_n 0, 1) := by decide +kernel
theorem d_SF_addToTape_1 : decode b_SF_addToTape 1 = .ok (.getfield 62, 3) := by decide +kernel
theorem d_SF_addToTape_4 : decode b_SF_addToTape 4 = .ok (.ifCond .lt 32, 3) := by decide +kernel
theorem d_SF_addToTape_7 : decode b_SF_addToTape 7 = .ok (.aload_n 0, 1) := by decide +kernel
theorem d_SF_addToTape_8 : decode b_SF_addToTape 8 = .ok (.getfield 62, 3) := by decide +kernel
theorem d_SF_addToTape_11 : decode b_SF_addToTape 11 = .ok (.bipush 60, 2) := by decide +kernel
theorem d_SF_addToTape_13 : decode b_SF_addToTape 13 = .ok (.if_icmp .ge 23, 3) := by decide +kernel
theorem d_SF_addToTape_16 : decode b_SF_addToTape 16 = .ok (.aload_n 0, 1) := by decide +kernel
theorem d_SF_addToTape_17 : decode b_SF_addToTape 17 = .ok (.getfield 48, 3) := by decide +kernel
theorem d_SF_addToTape_20 : decode b_SF_addToTape 20 = .ok (.aload_n 0, 1) := by decide +kernel
theorem d_SF_addToTape_21 : decode b_SF_addToTape 21 = .ok (.getfield 62, 3) := by decide +kernel
theorem d_SF_addToTape_24 : decode b_SF_addToTape 24 = .ok (.iload_n 1, 1) := by decide +kernel
theorem d_SF_addToTape_25 : decode b_SF_addToTape 25 = .ok (.iastore, 1) := by decide +kernel
theorem d_SF_addToTape_26 : decode b_SF_addToTape 26 = .ok (.aload_n 0, 1) := by decide +kernel
theorem d_SF_addToTape_27 : decode b_SF_addToTape 27 = .ok (.dup, 1) := by decide +kernel
theorem d_SF_addToTape_28 : decode b_SF_addToTape 28 = .ok (.getfield 62, 3) := by decide +kernel
theorem d_SF_addToTape_31 : decode b_SF_addToTape 31 = .ok (.iconst 1, 1) := by decide +kernel
theorem d_SF_addToTape_32 : decode b_SF_addToTape 32 = .ok (.iadd, 1) := by decide +kernel
theorem d_SF_addToTape_33 : decode b_SF_addToTape 33 = .ok (.putfield 62, 3) := by decide +kernel
theorem d_SF_addToTape_36 : decode b_SF_addToTape 36 = .ok (.return_, 1) := by decide +kernel
theorem d_SF_isGood_0 : decode b_SF_isGood 0 = .ok (.aload_n 0, 1) := by decide +kernel
theorem d_SF_isGood_1 : decode b_SF_isGood 1 = .ok (.getfield 21, 3) := by decide +kernel
theorem d_SF_isGood_4 : decode b_SF_isGood 4 = .ok (.iload_n 1, 1) := by decide +kernel
theorem d_SF_isGood_5 : decode b_SF_isGood 5 = .ok (.iconst 0, 1) := by decide +kernel
theorem d_SF_isGood_6 : decode b_SF_isGood 6 = .ok (.invokevirtual 203, 3) := by decide +kernel
theorem d_SF_isGood_9 : decode b_SF_isGood 9 = .ok (.istore_n 2, 1) := by decide +kernel
theorem d_SF_isGood_10 : decode b_SF_isGood 10 = .ok (.iload_n 2, 1) := by decide +kernel
theorem d_SF_isGood_11 : decode b_SF_isGood 11 = .ok (.iconst 1, 1) := by decide +kernel
theorem d_SF_isGood_12 : decode b_SF_isGood 12 = .ok (.if_icmp .lt 25, 3) := by decide +kernel
theorem d_SF_isGood_15 : decode b_SF_isGood 15 = .ok (.iload_n 2, 1) := by decide +kernel
theorem d_SF_isGood_16 : decode b_SF_isGood 16 = .ok (.sipush 250, 3) := by decide +kernel
theorem d_SF_isGood_19 : decode b_SF_isGood 19 = .ok (.if_icmp .gt 18, 3) := by decide +kernel
theorem d_SF_isGood_22 : decode b_SF_isGood 22 = .ok (.aload_n 0, 1) := by decide +kernel
theorem d_SF_isGood_23 : decode b_SF_isGood 23 = .ok (.getfield 21, 3) := by decide +kernel
theorem d_SF_isGood_26 : decode b_SF_isGood 26 = .ok (.iload_n 1, 1) := by decide +kernel
theorem d_SF_isGood_27 : decode b_SF_isGood 27 = .ok (.invokevirtual 215, 3) := by decide +kernel
theorem d_SF_isGood_30 : decode b_SF_isGood 30 = .ok (.ifCond .eq 7, 3) := by decide +kernel
theorem d_SF_isGood_33 : decode b_SF_isGood 33 = .ok (.iconst 1, 1) := by decide +kernel
theorem d_SF_isGood_34 : decode b_SF_isGood 34 = .ok (.goto 4, 3) := by decide +kernel
theorem d_SF_isGood_37 : decode b_SF_isGood 37 = .ok (.iconst 0, 1) := by decide +kernel
theorem d_SF_isGood_38 : decode b_SF_isGood 38 = .ok (.ireturn, 1) := by decide +kernel
theorem d_SF_numberOf_0 : decode b_SF_numberOf 0 = .ok (.iload_n 1, 1) := by decide +kernel
theorem d_SF_numberOf_1 : decode b_SF_numberOf 1 = .ok (.iconst (-1), 1) := by decide +kernel
theorem d_SF_numberOf_2 : decode b_SF_numberOf 2 = .ok (.if_icmp .ne 7, 3) := by decide +kernel
theorem d_SF_numberOf_5 : decode b_SF_numberOf 5 = .ok (.iconst 0, 1) := by decide +kernel
theorem d_SF_numberOf_6 : decode b_SF_numberOf 6 = .ok (.goto 12, 3) := by decide +kernel
theorem d_SF_numberOf_9 : decode b_SF_numberOf 9 = .ok (.aload_n 0, 1) := by decide +kernel
theorem d_SF_numberOf_10 : decode b_SF_numberOf 10 = .ok (.getfield 21, 3) := by decide +kernel
theorem d_SF_numberOf_13 : decode b_SF_numberOf 13 = .ok (.iload_n 1, 1) := by decide +kernel
theorem d_SF_numberOf_14 : decode b_SF_numberOf 14 = .ok (.iconst 0, 1) := by decide +kernel
theorem d_SF_numberOf_15 : decode b_SF_numberOf 15 = .ok (.invokevirtual 203, 3) := by decide +kernel
theorem d_SF_numberOf_18 : decode b_SF_numberOf 18 = .ok (.ireturn, 1) := by decide +kernel
theorem d_SF_countingTable_0 : decode b_SF_countingTable 0 = .ok (.aload_n 0, 1) := by decide +kernel
theorem d_SF_countingTable_1 : decode b_SF_countingTable 1 = .ok (.iconst 0, 1) := by decide +kernel
theorem d_SF_countingTable_2 : decode b_SF_countingTable 2 = .ok (.invokevirtual 218, 3) := by decide +kernel
theorem d_SF_countingTable_5 : decode b_SF_countingTable 5 = .ok (.istore_n 1, 1) := by decide +kernel
theorem d_SF_countingTable_6 : decode b_SF_countingTable 6 = .ok (.aload_n 0, 1) := by decide +kernel
theorem d_SF_countingTable_7 : decode b_SF_countingTable 7 = .ok (.iconst 1, 1) := by decide +kernel
theorem d_SF_countingTable_8 : decode b_SF_countingTable 8 = .ok (.invokevirtual 218, 3) := by decide +kernel
theorem d_SF_countingTable_11 : decode b_SF_countingTable 11 = .ok (.istore_n 2, 1) := by decide +kernel
theorem d_SF_countingTable_12 : decode b_SF_countingTable 12 = .ok (.iload_n 1, 1) := by decide +kernel
theorem d_SF_countingTable_13 : decode b_SF_countingTable 13 = .ok (.ifCond .eq 29, 3) := by decide +kernel
theorem d_SF_countingTable_16 : decode b_SF_countingTable 16 = .ok (.iload_n 2, 1) := by decide +kernel
theorem d_SF_countingTable_17 : decode b_SF_countingTable 17 = .ok (.ifCond .eq 25, 3) := by decide +kernel
theorem d_SF_countingTable_20 : decode b_SF_countingTable 20 = .ok (.aload_n 0, 1) := by decide +kernel
theorem d_SF_countingTable_21 : decode b_SF_countingTable 21 = .ok (.iconst 1, 1) := by decide +kernel
theorem d_SF_countingTable_22 : decode b_SF_countingTable 22 = .ok (.invokevirtual 182, 3) := by decide +kernel
theorem d_SF_countingTable_25 : decode b_SF_countingTable 25 = .ok (.aload_n 0, 1) := by decide +kernel
theorem d_SF_countingTable_26 : decode b_SF_countingTable 26 = .ok (.iconst 0, 1) := by decide +kernel
theorem d_SF_countingTable_27 : decode b_SF_countingTable 27 = .ok (.invokevirtual 182, 3) := by decide +kernel
theorem d_SF_countingTable_30 : decode b_SF_countingTable 30 = .ok (.invokestatic 221, 3) := by decide +kernel
theorem d_SF_countingTable_33 : decode b_SF_countingTable 33 = .ok (.if_icmp .ne 7, 3) := by decide +kernel
theorem d_SF_countingTable_36 : decode b_SF_countingTable 36 = .ok (.iconst 1, 1) := by decide +kernel
theorem d_SF_countingTable_37 : decode b_SF_countingTable 37 = .ok (.goto 4, 3) := by decide +kernel
theorem d_SF_countingTable_40 : decode b_SF_countingTable 40 = .ok (.iconst 0, 1) := by decide +kernel
theorem d_SF_countingTable_41 : decode b_SF_countingTable 41 = .ok (.ireturn, 1) := by decide +kernel
theorem d_SF_countingTable_42 : decode b_SF_countingTable 42 = .ok (.iload_n 1, 1) := by decide +kernel
theorem d_SF_countingTable_43 : decode b_SF_countingTable 43 = .ok (.ifCond .eq 5, 3) := by decide +kernel
theorem d_SF_countingTable_46 : decode b_SF_countingTable 46 = .ok (.iconst 0, 1) := by decide +kernel
theorem d_SF_countingTable_47 : decode b_SF_countingTable 47 = .ok (.ireturn, 1) := by decide +kernel
theorem d_SF_countingTable_48 : decode b_SF_countingTable 48 = .ok (.iload_n 2, 1) := by decide +kernel
theorem d_SF_countingTable_49 : decode b_SF_countingTable 49 = .ok (.ifCond .eq 7, 3) := by decide +kernel
theorem d_SF_countingTable_52 : decode b_SF_countingTable 52 = .ok (.iconst 1, 1) := by decide +kernel
theorem d_SF_countingTable_53 : decode b_SF_countingTable 53 = .ok (.goto 4, 3) := by decide +kernel
theorem d_SF_countingTable_56 : decode b_SF_countingTable 56 = .ok (.iconst (-1), 1) := by decide +kernel
theorem d_SF_countingTable_57 : decode b_SF_countingTable 57 = .ok (.ireturn, 1) := by decide +kernel
theorem d_SF_firstOf_0 : decode b_SF_firstOf 0 = .ok (.iload_n 1, 1) := by decide +kernel
theorem d_SF_firstOf_1 : decode b_SF_firstOf 1 = .ok (.iconst (-1), 1) := by decide +kernel
theorem d_SF_firstOf_2 : decode b_SF_firstOf 2 = .ok (.if_icmp .ne 7, 3) := by decide +kernel
theorem d_SF_firstOf_5 : decode b_SF_firstOf 5 = .ok (.iconst 0, 1) := by decide +kernel
theorem d_SF_firstOf_6 : decode b_SF_firstOf 6 = .ok (.goto 23, 3) := by decide +kernel
theorem d_SF_firstOf_9 : decode b_SF_firstOf 9 = .ok (.aload_n 0, 1) := by decide +kernel
theorem d_SF_firstOf_10 : decode b_SF_firstOf 10 = .ok (.getfield 21, 3) := by decide +kernel
theorem d_SF_firstOf_13 : decode b_SF_firstOf 13 = .ok (.iload_n 1, 1) := by decide +kernel
theorem d_SF_firstOf_14 : decode b_SF_firstOf 14 = .ok (.iload_n 3, 1) := by decide +kernel
theorem d_SF_firstOf_15 : decode b_SF_firstOf 15 = .ok (.ifCond .eq 8, 3) := by decide +kernel
theorem d_SF_firstOf_18 : decode b_SF_firstOf 18 = .ok (.bipush 13, 2) := by decide +kernel
theorem d_SF_firstOf_20 : decode b_SF_firstOf 20 = .ok (.goto 4, 3) := by decide +kernel
theorem d_SF_firstOf_23 : decode b_SF_firstOf 23 = .ok (.iconst 1, 1) := by decide +kernel
theorem d_SF_firstOf_24 : decode b_SF_firstOf 24 = .ok (.iload_n 2, 1) := by decide +kernel
theorem d_SF_firstOf_25 : decode b_SF_firstOf 25 = .ok (.iadd, 1) := by decide +kernel
theorem d_SF_firstOf_26 : decode b_SF_firstOf 26 = .ok (.invokevirtual 203, 3) := by decide +kernel
theorem d_SF_firstOf_29 : decode b_SF_firstOf 29 = .ok (.ireturn, 1) := by decide +kernel
theorem d_SF_chainStart_0 : decode b_SF_chainStart 0 = .ok (.iload_n 3, 1) := by decide +kernel
theorem d_SF_chainStart_1 : decode b_SF_chainStart 1 = .ok (.ifCond .ne 17, 3) := by decide +kernel
theorem d_SF_chainStart_4 : decode b_SF_chainStart 4 = .ok (.aload_n 0, 1) := by decide +kernel
theorem d_SF_chainStart_5 : decode b_SF_chainStart 5 = .ok (.iload_n 1, 1) := by decide +kernel
theorem d_SF_chainStart_6 : decode b_SF_chainStart 6 = .ok (.iload_n 2, 1) := by decide +kernel
theorem d_SF_chainStart_7 : decode b_SF_chainStart 7 = .ok (.iconst 1, 1) := by decide +kernel
theorem d_SF_chainStart_8 : decode b_SF_chainStart 8 = .ok (.invokevirtual 224, 3) := by decide +kernel
theorem d_SF_chainStart_11 : decode b_SF_chainStart 11 = .ok (.ifCond .eq 7, 3) := by decide +kernel
theorem d_SF_chainStart_14 : decode b_SF_chainStart 14 = .ok (.iconst 0, 1) := by decide +kernel
theorem d_SF_chainStart_15 : decode b_SF_chainStart 15 = .ok (.goto 10, 3) := by decide +kernel
theorem d_SF_chainStart_18 : decode b_SF_chainStart 18 = .ok (.aload_n 0, 1) := by decide +kernel
theorem d_SF_chainStart_19 : decode b_SF_chainStart 19 = .ok (.iload_n 1, 1) := by decide +kernel
theorem d_SF_chainStart_20 : decode b_SF_chainStart 20 = .ok (.iload_n 2, 1) := by decide +kernel
theorem d_SF_chainStart_21 : decode b_SF_chainStart 21 = .ok (.iload_n 3, 1) := by decide +kernel
theorem d_SF_chainStart_22 : decode b_SF_chainStart 22 = .ok (.invokevirtual 224, 3) := by decide +kernel
theorem d_SF_chainStart_25 : decode b_SF_chainStart 25 = .ok (.ireturn, 1) := by decide +kernel
theorem d_SF_isThere_0 : decode b_SF_isThere 0 = .ok (.aload_n 0, 1) := by decide +kernel
theorem d_SF_isThere_1 : decode b_SF_isThere 1 = .ok (.invokevirtual 179, 3) := by decide +kernel
theorem d_SF_isThere_4 : decode b_SF_isThere 4 = .ok (.istore_n 2, 1) := by decide +kernel
theorem d_SF_isThere_5 : decode b_SF_isThere 5 = .ok (.aload_n 0, 1) := by decide +kernel
theorem d_SF_isThere_6 : decode b_SF_isThere 6 = .ok (.iload_n 2, 1) := by decide +kernel
theorem d_SF_isThere_7 : decode b_SF_isThere 7 = .ok (.iload_n 1, 1) := by decide +kernel
theorem d_SF_isThere_8 : decode b_SF_isThere 8 = .ok (.iconst 0, 1) := by decide +kernel
theorem d_SF_isThere_9 : decode b_SF_isThere 9 = .ok (.invokevirtual 224, 3) := by decide +kernel
theorem d_SF_isThere_12 : decode b_SF_isThere 12 = .ok (.ifCond .ne 13, 3) := by decide +kernel
theorem d_SF_isThere_15 : decode b_SF_isThere 15 = .ok (.aload_n 0, 1) := by decide +kernel
theorem d_SF_isThere_16 : decode b_SF_isThere 16 = .ok (.iload_n 2, 1) := by decide +kernel
theorem d_SF_isThere_17 : decode b_SF_isThere 17 = .ok (.iload_n 1, 1) := by decide +kernel
theorem d_SF_isThere_18 : decode b_SF_isThere 18 = .ok (.iconst 1, 1) := by decide +kernel
theorem d_SF_isThere_19 : decode b_SF_isThere 19 = .ok (.invokevirtual 224, 3) := by decide +kernel
theorem d_SF_isThere_22 : decode b_SF_isThere 22 = .ok (.ifCond .eq 7, 3) := by decide +kernel
theorem d_SF_isThere_25 : decode b_SF_isThere 25 = .ok (.iconst 1, 1) := by decide +kernel
theorem d_SF_isThere_26 : decode b_SF_isThere 26 = .ok (.goto 4, 3) := by decide +kernel
theorem d_SF_isThere_29 : decode b_SF_isThere 29 = .ok (.iconst 0, 1) := by decide +kernel
theorem d_SF_isThere_30 : decode b_SF_isThere 30 = .ok (.ireturn, 1) := by decide +kernel
theorem d_SF_isSlow_0 : decode b_SF_isSlow 0 = .ok (.aload_n 0, 1) := by decide +kernel
theorem d_SF_isSlow_1 : decode b_SF_isSlow 1 = .ok (.aload_n 0, 1) := by decide +kernel
theorem d_SF_isSlow_2 : decode b_SF_isSlow 2 = .ok (.invokevirtual 179, 3) := by decide +kernel
theorem d_SF_isSlow_5 : decode b_SF_isSlow 5 = .ok (.iload_n 1, 1) := by decide +kernel
theorem d_SF_isSlow_6 : decode b_SF_isSlow 6 = .ok (.iconst 1, 1) := by decide +kernel
theorem d_SF_isSlow_7 : decode b_SF_isSlow 7 = .ok (.invokevirtual 224, 3) := by decide +kernel
theorem d_SF_isSlow_10 : decode b_SF_isSlow 10 = .ok (.ifCond .eq 7, 3) := by decide +kernel
theorem d_SF_isSlow_13 : decode b_SF_isSlow 13 = .ok (.iconst 1, 1) := by decide +kernel
theorem d_SF_isSlow_14 : decode b_SF_isSlow 14 = .ok (.goto 4, 3) := by decide +kernel
theorem d_SF_isSlow_17 : decode b_SF_isSlow 17 = .ok (.iconst 0, 1) := by decide +kernel
theorem d_SF_isSlow_18 : decode b_SF_isSlow 18 = .ok (.ireturn, 1) := by decide +kernel
theorem d_SF_placesOf_0 : decode b_SF_placesOf 0 = .ok (.iload_n 1, 1) := by decide +kernel
theorem d_SF_placesOf_1 : decode b_SF_placesOf 1 = .ok (.ifCond .eq 10, 3) := by decide +kernel
theorem d_SF_placesOf_4 : decode b_SF_placesOf 4 = .ok (.aload_n 0, 1) := by decide +kernel
theorem d_SF_placesOf_5 : decode b_SF_placesOf 5 = .ok (.getfield 18, 3) := by decide +kernel
theorem d_SF_placesOf_8 : decode b_SF_placesOf 8 = .ok (.goto 7, 3) := by decide +kernel
theorem d_SF_placesOf_11 : decode b_SF_placesOf 11 = .ok (.aload_n 0, 1) := by decide +kernel
theorem d_SF_placesOf_12 : decode b_SF_placesOf 12 = .ok (.getfield 14, 3) := by decide +kernel
theorem d_SF_placesOf_15 : decode b_SF_placesOf 15 = .ok (.areturn, 1) := by decide +kernel
theorem d_SF_followRow_0 : decode b_SF_followRow 0 = .ok (.aload_n 0, 1) := by decide +kernel
theorem d_SF_followRow_1 : decode b_SF_followRow 1 = .ok (.invokevirtual 179, 3) := by decide +kernel
theorem d_SF_followRow_4 : decode b_SF_followRow 4 = .ok (.istore_n 2, 1) := by decide +kernel
theorem d_SF_followRow_5 : decode b_SF_followRow 5 = .ok (.aload_n 0, 1) := by decide +kernel
theorem d_SF_followRow_6 : decode b_SF_followRow 6 = .ok (.iload_n 2, 1) := by decide +kernel
theorem d_SF_followRow_7 : decode b_SF_followRow 7 = .ok (.iload_n 1, 1) := by decide +kernel
theorem d_SF_followRow_8 : decode b_SF_followRow 8 = .ok (.iconst 1, 1) := by decide +kernel
theorem d_SF_followRow_9 : decode b_SF_followRow 9 = .ok (.invokevirtual 224, 3) := by decide +kernel
theorem d_SF_followRow_12 : decode b_SF_followRow 12 = .ok (.ifCond .eq 7, 3) := by decide +kernel
theorem d_SF_followRow_15 : decode b_SF_followRow 15 = .ok (.iconst 1, 1) := by decide +kernel
theorem d_SF_followRow_16 : decode b_SF_followRow 16 = .ok (.goto 4, 3) := by decide +kernel
theorem d_SF_followRow_19 : decode b_SF_followRow 19 = .ok (.iconst 0, 1) := by decide +kernel
theorem d_SF_followRow_20 : decode b_SF_followRow 20 = .ok (.istore_n 3, 1) := by decide +kernel
theorem d_SF_followRow_21 : decode b_SF_followRow 21 = .ok (.aload_n 0, 1) := by decide +kernel
theorem d_SF_followRow_22 : decode b_SF_followRow 22 = .ok (.getfield 33, 3) := by decide +kernel
theorem d_SF_followRow_25 : decode b_SF_followRow 25 = .ok (.aload_n 0, 1) := by decide +kernel
theorem d_SF_followRow_26 : decode b_SF_followRow 26 = .ok (.iload_n 3, 1) := by decide +kernel
theorem d_SF_followRow_27 : decode b_SF_followRow 27 = .ok (.invokevirtual 160, 3) := by decide +kernel
theorem d_SF_followRow_30 : decode b_SF_followRow 30 = .ok (.aload_n 0, 1) := by decide +kernel
theorem d_SF_followRow_31 : decode b_SF_followRow 31 = .ok (.iload_n 2, 1) := by decide +kernel
theorem d_SF_followRow_32 : decode b_SF_followRow 32 = .ok (.iload_n 1, 1) := by decide +kernel
theorem d_SF_followRow_33 : decode b_SF_followRow 33 = .ok (.iload_n 3, 1) := by decide +kernel
theorem d_SF_followRow_34 : decode b_SF_followRow 34 = .ok (.invokevirtual 224, 3) := by decide +kernel
theorem d_SF_followRow_37 : decode b_SF_followRow 37 = .ok (.iconst 1, 1) := by decide +kernel
theorem d_SF_followRow_38 : decode b_SF_followRow 38 = .ok (.isub, 1) := by decide +kernel
theorem d_SF_followRow_39 : decode b_SF_followRow 39 = .ok (.invokevirtual 228, 3) := by decide +kernel
theorem d_SF_followRow_42 : decode b_SF_followRow 42 = .ok (.return_, 1) := by decide +kernel
theorem d_SF_takenAt_0 : decode b_SF_takenAt 0 = .ok (.iload_n 1, 1) := by decide +kernel
theorem d_SF_takenAt_1 : decode b_SF_takenAt 1 = .ok (.ifCond .lt 17, 3) := by decide +kernel
theorem d_SF_takenAt_4 : decode b_SF_takenAt 4 = .ok (.iload_n 1, 1) := by decide +kernel
theorem d_SF_takenAt_5 : decode b_SF_takenAt 5 = .ok (.iconst 3, 1) := by decide +kernel
theorem d_SF_takenAt_6 : decode b_SF_takenAt 6 = .ok (.if_icmp .ge 12, 3) := by decide +kernel
theorem d_SF_takenAt_9 : decode b_SF_takenAt 9 = .ok (.aload_n 0, 1) := by decide +kernel
theorem d_SF_takenAt_10 : decode b_SF_takenAt 10 = .ok (.getfield 44, 3) := by decide +kernel
theorem d_SF_takenAt_13 : decode b_SF_takenAt 13 = .ok (.iload_n 1, 1) := by decide +kernel
theorem d_SF_takenAt_14 : decode b_SF_takenAt 14 = .ok (.iaload, 1) := by decide +kernel
theorem d_SF_takenAt_15 : decode b_SF_takenAt 15 = .ok (.goto 4, 3) := by decide +kernel
theorem d_SF_takenAt_18 : decode b_SF_takenAt 18 = .ok (.iconst (-1), 1) := by decide +kernel
theorem d_SF_takenAt_19 : decode b_SF_takenAt 19 = .ok (.ireturn, 1) := by decide +kernel
theorem d_SF_tapeAt_0 : decode b_SF_tapeAt 0 = .ok (.iload_n 1, 1) := by decide +kernel
theorem d_SF_tapeAt_1 : decode b_SF_tapeAt 1 = .ok (.ifCond .lt 26, 3) := by decide +kernel
theorem d_SF_tapeAt_4 : decode b_SF_tapeAt 4 = .ok (.iload_n 1, 1) := by decide +kernel
theorem d_SF_tapeAt_5 : decode b_SF_tapeAt 5 = .ok (.aload_n 0, 1) := by decide +kernel
theorem d_SF_tapeAt_6 : decode b_SF_tapeAt 6 = .ok (.getfield 62, 3) := by decide +kernel
theorem d_SF_tapeAt_9 : decode b_SF_tapeAt 9 = .ok (.if_icmp .ge 18, 3) := by decide +kernel
theorem d_SF_tapeAt_12 : decode b_SF_tapeAt 12 = .ok (.iload_n 1, 1) := by decide +kernel
theorem d_SF_tapeAt_13 : decode b_SF_tapeAt 13 = .ok (.bipush 60, 2) := by decide +kernel
theorem d_SF_tapeAt_15 : decode b_SF_tapeAt 15 = .ok (.if_icmp .ge 12, 3) := by decide +kernel
theorem d_SF_tapeAt_18 : decode b_SF_tapeAt 18 = .ok (.aload_n 0, 1) := by decide +kernel
theorem d_SF_tapeAt_19 : decode b_SF_tapeAt 19 = .ok (.getfield 48, 3) := by decide +kernel
theorem d_SF_tapeAt_22 : decode b_SF_tapeAt 22 = .ok (.iload_n 1, 1) := by decide +kernel
theorem d_SF_tapeAt_23 : decode b_SF_tapeAt 23 = .ok (.iaload, 1) := by decide +kernel
theorem d_SF_tapeAt_24 : decode b_SF_tapeAt 24 = .ok (.goto 4, 3) := by decide +kernel
theorem d_SF_tapeAt_27 : decode b_SF_tapeAt 27 = .ok (.iconst 0, 1) := by decide +kernel
theorem d_SF_tapeAt_28 : decode b_SF_tapeAt 28 = .ok (.ireturn, 1) := by decide +kernel
theorem d_SF_linkBehind_0 : decode b_SF_linkBehind 0 = .ok (.iload_n 1, 1) := by decide +kernel
theorem d_SF_linkBehind_1 : decode b_SF_linkBehind 1 = .ok (.iconst 1, 1) := by decide +kernel
theorem d_SF_linkBehind_2 : decode b_SF_linkBehind 2 = .ok (.iadd, 1) := by decide +kernel
theorem d_SF_linkBehind_3 : decode b_SF_linkBehind 3 = .ok (.iload_n 2, 1) := by decide +kernel
theorem d_SF_linkBehind_4 : decode b_SF_linkBehind 4 = .ok (.if_icmp .ge 15, 3) := by decide +kernel
theorem d_SF_linkBehind_7 : decode b_SF_linkBehind 7 = .ok (.aload_n 0, 1) := by decide +kernel
theorem d_SF_linkBehind_8 : decode b_SF_linkBehind 8 = .ok (.iload_n 1, 1) := by decide +kernel
theorem d_SF_linkBehind_9 : decode b_SF_linkBehind 9 = .ok (.iconst 1, 1) := by decide +kernel
theorem d_SF_linkBehind_10 : decode b_SF_linkBehind 10 = .ok (.iadd, 1) := by decide +kernel
theorem d_SF_linkBehind_11 : decode b_SF_linkBehind 11 = .ok (.invokevirtual 110, 3) := by decide +kernel
theorem d_SF_linkBehind_14 : decode b_SF_linkBehind 14 = .ok (.iconst 1, 1) := by decide +kernel
theorem d_SF_linkBehind_15 : decode b_SF_linkBehind 15 = .ok (.iadd, 1) := by decide +kernel
theorem d_SF_linkBehind_16 : decode b_SF_linkBehind 16 = .ok (.goto 4, 3) := by decide +kernel
theorem d_SF_linkBehind_19 : decode b_SF_linkBehind 19 = .ok (.iconst 0, 1) := by decide +kernel
theorem d_SF_linkBehind_20 : decode b_SF_linkBehind 20 = .ok (.ireturn, 1) := by decide +kernel
theorem d_SF_beginWriting_0 : decode b_SF_beginWriting 0 = .ok (.iload_n 1, 1) := by decide +kernel
theorem d_SF_beginWriting_1 : decode b_SF_beginWriting 1 = .ok (.bipush 32, 2) := by decide +kernel
theorem d_SF_beginWriting_3 : decode b_SF_beginWriting 3 = .ok (.imul, 1) := by decide +kernel
theorem d_SF_beginWriting_4 : decode b_SF_beginWriting 4 = .ok (.bipush 40, 2) := by decide +kernel
theorem d_SF_beginWriting_6 : decode b_SF_beginWriting 6 = .ok (.iadd, 1) := by decide +kernel
theorem d_SF_beginWriting_7 : decode b_SF_beginWriting 7 = .ok (.istore_n 2, 1) := by decide +kernel
theorem d_SF_beginWriting_8 : decode b_SF_beginWriting 8 = .ok (.aload_n 0, 1) := by decide +kernel
theorem d_SF_beginWriting_9 : decode b_SF_beginWriting 9 = .ok (.aload_n 0, 1) := by decide +kernel
theorem d_SF_beginWriting_10 : decode b_SF_beginWriting 10 = .ok (.getfield 51, 3) := by decide +kernel
theorem d_SF_beginWriting_13 : decode b_SF_beginWriting 13 = .ok (.iconst (-1), 1) := by decide +kernel
theorem d_SF_beginWriting_14 : decode b_SF_beginWriting 14 = .ok (.if_icmp .eq 15, 3) := by decide +kernel
theorem d_SF_beginWriting_17 : decode b_SF_beginWriting 17 = .ok (.iload_n 2, 1) := by decide +kernel
theorem d_SF_beginWriting_18 : decode b_SF_beginWriting 18 = .ok (.aload_n 0, 1) := by decide +kernel
theorem d_SF_beginWriting_19 : decode b_SF_beginWriting 19 = .ok (.getfield 51, 3) := by decide +kernel
theorem d_SF_beginWriting_22 : decode b_SF_beginWriting 22 = .ok (.if_icmp .le 7, 3) := by decide +kernel
theorem d_SF_beginWriting_25 : decode b_SF_beginWriting 25 = .ok (.iconst 1, 1) := by decide +kernel
theorem d_SF_beginWriting_26 : decode b_SF_beginWriting 26 = .ok (.goto 4, 3) := by decide +kernel
theorem d_SF_beginWriting_29 : decode b_SF_beginWriting 29 = .ok (.iconst 0, 1) := by decide +kernel
theorem d_SF_beginWriting_30 : decode b_SF_beginWriting 30 = .ok (.putfield 247, 3) := by decide +kernel
theorem d_SF_beginWriting_33 : decode b_SF_beginWriting 33 = .ok (.aload_n 0, 1) := by decide +kernel
theorem d_SF_beginWriting_34 : decode b_SF_beginWriting 34 = .ok (.aload_n 0, 1) := by decide +kernel
theorem d_SF_beginWriting_35 : decode b_SF_beginWriting 35 = .ok (.getfield 247, 3) := by decide +kernel
theorem d_SF_beginWriting_38 : decode b_SF_beginWriting 38 = .ok (.ifCond .eq 10, 3) := by decide +kernel
theorem d_SF_beginWriting_41 : decode b_SF_beginWriting 41 = .ok (.aload_n 0, 1) := by decide +kernel
theorem d_SF_beginWriting_42 : decode b_SF_beginWriting 42 = .ok (.getfield 51, 3) := by decide +kernel
theorem d_SF_beginWriting_45 : decode b_SF_beginWriting 45 = .ok (.goto 4, 3) := by decide +kernel
theorem d_SF_beginWriting_48 : decode b_SF_beginWriting 48 = .ok (.iload_n 2, 1) := by decide +kernel
theorem d_SF_beginWriting_49 : decode b_SF_beginWriting 49 = .ok (.putfield 250, 3) := by decide +kernel
theorem d_SF_beginWriting_52 : decode b_SF_beginWriting 52 = .ok (.aload_n 0, 1) := by decide +kernel
theorem d_SF_beginWriting_53 : decode b_SF_beginWriting 53 = .ok (.iconst (-1), 1) := by decide +kernel
theorem d_SF_beginWriting_54 : decode b_SF_beginWriting 54 = .ok (.putfield 51, 3) := by decide +kernel
theorem d_SF_beginWriting_57 : decode b_SF_beginWriting 57 = .ok (.return_, 1) := by decide +kernel
theorem d_SF_endWriting_0 : decode b_SF_endWriting 0 = .ok (.aload_n 0, 1) := by decide +kernel
theorem d_SF_endWriting_1 : decode b_SF_endWriting 1 = .ok (.getfield 247, 3) := by decide +kernel
theorem d_SF_endWriting_4 : decode b_SF_endWriting 4 = .ok (.ifCond .eq 8, 3) := by decide +kernel
theorem d_SF_endWriting_7 : decode b_SF_endWriting 7 = .ok (.aload_n 0, 1) := by decide +kernel
theorem d_SF_endWriting_8 : decode b_SF_endWriting 8 = .ok (.iconst 1, 1) := by decide +kernel
theorem d_SF_endWriting_9 : decode b_SF_endWriting 9 = .ok (.putfield 83, 3) := by decide +kernel
theorem d_SF_endWriting_12 : decode b_SF_endWriting 12 = .ok (.aload_n 0, 1) := by decide +kernel
theorem d_SF_endWriting_13 : decode b_SF_endWriting 13 = .ok (.getfield 247, 3) := by decide +kernel
theorem d_SF_endWriting_16 : decode b_SF_endWriting 16 = .ok (.ifCond .ne 7, 3) := by decide +kernel
theorem d_SF_endWriting_19 : decode b_SF_endWriting 19 = .ok (.iconst 1, 1) := by decide +kernel
theorem d_SF_endWriting_20 : decode b_SF_endWriting 20 = .ok (.goto 4, 3) := by decide +kernel
theorem d_SF_endWriting_23 : decode b_SF_endWriting 23 = .ok (.iconst 0, 1) := by decide +kernel
theorem d_SF_endWriting_24 : decode b_SF_endWriting 24 = .ok (.ireturn, 1) := by decide +kernel
/-- the cells of a ShadowFiles: where they lie (q), what they hold -/
def sf_w (q : Nat → Nat) (cI cZ : ClassId) (fl : Nat → Int32) (sl : Nat → Int32) (tb : Nat → Int32) (np : Nat → Int32) (nt : Nat → Int32) (cp : Nat → Int32) (cc : Int32) (cb : Int32) (ch : Int32) (cm : Int32) (mp : Nat → Int32) (mc : Int32) (mb : Int32) (mh : Int32) (mm : Int32) (us : Nat → Int32) (ta : Nat → Int32) (tp : Nat → Int32) (tl : Int32) (cu : Int32) (bl : Int32) (pf : Int32) (sh : Int32) : va_W :=
  [((q 0), .inr (2, [.ref (q 1), .ref (q 3), .ref (q 5), .ref (q 7), .ref (q 9), .ref (q 11), .ref (q 13), .ref (q 15), .ref (q 16), .ref (q 17), .int tl, .int cu, .int bl, .int pf, .int sh])), ((q 1), .inr (0, [.ref (q 2), .int (nI 32)])), ((q 2), .inl (cI, 768, .inl fl)), ((q 3), .inr (0, [.ref (q 4), .int (nI 32)])), ((q 4), .inl (cI, 512, .inl sl)), ((q 5), .inr (0, [.ref (q 6), .int (nI 40)])), ((q 6), .inl (cI, 80, .inl tb)), ((q 7), .inr (0, [.ref (q 8), .int (nI 32)])), ((q 8), .inl (cI, 32, .inl np)), ((q 9), .inr (0, [.ref (q 10), .int (nI 40)])), ((q 10), .inl (cI, 40, .inl nt)), ((q 11), .inr (1, [.ref (q 12), .int cc, .int cb, .int ch, .int cm])), ((q 12), .inl (cI, 3, .inl cp)), ((q 13), .inr (1, [.ref (q 14), .int mc, .int mb, .int mh, .int mm])), ((q 14), .inl (cI, 3, .inl mp)), ((q 15), .inl (cZ, 24, .inl us)), ((q 16), .inl (cI, 3, .inl ta)), ((q 17), .inl (cI, 60, .inl tp))]
theorem sf_w_fst (q : Nat → Nat) (cI cZ : ClassId) (fl : Nat → Int32) (sl : Nat → Int32) (tb : Nat → Int32) (np : Nat → Int32) (nt : Nat → Int32) (cp : Nat → Int32) (cc : Int32) (cb : Int32) (ch : Int32) (cm : Int32) (mp : Nat → Int32) (mc : Int32) (mb : Int32) (mh : Int32) (mm : Int32) (us : Nat → Int32) (ta : Nat → Int32) (tp : Nat → Int32) (tl : Int32) (cu : Int32) (bl : Int32) (pf : Int32) (sh : Int32) : (sf_w q cI cZ fl sl tb np nt cp cc cb ch cm mp mc mb mh mm us ta tp tl cu bl pf sh).map Prod.fst = [q 0, q 1, q 2, q 3, q 4, q 5, q 6, q 7, q 8, q 9, q 10, q 11, q 12, q 13, q 14, q 15, q 16, q 17] := rfl
def f_SF_isRow (ro : Int32) : Int32 :=
  if ro < 0 then
    0
  else
    if 12 ≤ ro then
      0
    else
      1
set_option maxHeartbeats 1000000 in
set_option maxRecDepth 100000 in
/-- isRow -/
theorem c_SF_isRow (l : Launch) (D : va_G) (cI cZ cJ : ClassId)  (ro : Int32) : sf_M (S := Int32) l D classes (sf_tys cI cZ cJ) y_SF_isRow (sf_ws y_SF_isRow b_SF_isRow 1 (some .boolean)) 0 0 [.int ro] [] (fun r => some (.int r)) (fun r => r = f_SF_isRow ro) (fun _ => []) := by
  refine sf_ofW (S := Int32) (by decide) (Nat.le_of_ble_eq_true rfl) ?_
  intro p e s m below meth c A ls R args Q hR hArgs hQ hC0 hr hK hP hD hl
  obtain ⟨hx, hb, hml, hown, hts, hA, hlk⟩ := hC0
  have hS : va_S A s.heap s.heap [] := va_S.rf
  have hl : lv_has ls 1 [(0, .int ro)] := hl
  refine lv_iload_n hx hb d_SF_isRow_0 rfl (lv_at hl 0 rfl) ?_
  refine lv_if_lt (tgt := 14) hx hb d_SF_isRow_1 (by decide) (fun c_1 => ?_) (fun c_1 => ?_)
  · refine lv_iconst (v := 0) hx hb d_SF_isRow_14 (by decide) ?_
    rw [hQ]
    exact sf_iret 0 hx hb hr hlk hS sf_b0 rfl (by simp only [f_SF_isRow, eq_true c_1, ↓reduceIte]) hP d_SF_isRow_15
  · refine lv_iload_n hx hb d_SF_isRow_4 rfl (lv_at hl 0 rfl) ?_
    refine lv_bipush (v := 12) hx hb d_SF_isRow_5 (by decide) ?_
    refine lv_icmp_ge (tgt := 14) hx hb d_SF_isRow_7 (by decide) (fun c_2 => ?_) (fun c_2 => ?_)
    · refine lv_iconst (v := 0) hx hb d_SF_isRow_14 (by decide) ?_
      rw [hQ]
      exact sf_iret 0 hx hb hr hlk hS sf_b0 rfl (by simp only [f_SF_isRow, eq_false c_1, eq_true c_2, ↓reduceIte]) hP d_SF_isRow_15
    · refine lv_iconst (v := 1) hx hb d_SF_isRow_10 (by decide) ?_
      refine lv_goto (tgt := 15) hx hb d_SF_isRow_11 (by decide) ?_
      rw [hQ]
      exact sf_iret 1 hx hb hr hlk hS sf_b1 rfl (by simp only [f_SF_isRow, eq_false c_1, eq_false c_2, ↓reduceIte]) hP d_SF_isRow_15
def f_SF_isMonth (mo : Int32) : Int32 :=
  if mo < 0 then
    0
  else
    if 12 ≤ mo then
      0
    else
      1
set_option maxHeartbeats 1000000 in
set_option maxRecDepth 100000 in
/-- isMonth -/
theorem c_SF_isMonth (l : Launch) (D : va_G) (cI cZ cJ : ClassId)  (mo : Int32) : sf_M (S := Int32) l D classes (sf_tys cI cZ cJ) y_SF_isMonth (sf_ws y_SF_isMonth b_SF_isMonth 1 (some .boolean)) 0 0 [.int mo] [] (fun r => some (.int r)) (fun r => r = f_SF_isMonth mo) (fun _ => []) := by
  refine sf_ofW (S := Int32) (by decide) (Nat.le_of_ble_eq_true rfl) ?_
  intro p e s m below meth c A ls R args Q hR hArgs hQ hC0 hr hK hP hD hl
  obtain ⟨hx, hb, hml, hown, hts, hA, hlk⟩ := hC0
  have hS : va_S A s.heap s.heap [] := va_S.rf
  have hl : lv_has ls 1 [(0, .int mo)] := hl
  refine lv_iload_n hx hb d_SF_isMonth_0 rfl (lv_at hl 0 rfl) ?_
  refine lv_if_lt (tgt := 14) hx hb d_SF_isMonth_1 (by decide) (fun c_1 => ?_) (fun c_1 => ?_)
  · refine lv_iconst (v := 0) hx hb d_SF_isMonth_14 (by decide) ?_
    rw [hQ]
    exact sf_iret 0 hx hb hr hlk hS sf_b0 rfl (by simp only [f_SF_isMonth, eq_true c_1, ↓reduceIte]) hP d_SF_isMonth_15
  · refine lv_iload_n hx hb d_SF_isMonth_4 rfl (lv_at hl 0 rfl) ?_
    refine lv_bipush (v := 12) hx hb d_SF_isMonth_5 (by decide) ?_
    refine lv_icmp_ge (tgt := 14) hx hb d_SF_isMonth_7 (by decide) (fun c_2 => ?_) (fun c_2 => ?_)
    · refine lv_iconst (v := 0) hx hb d_SF_isMonth_14 (by decide) ?_
      rw [hQ]
      exact sf_iret 0 hx hb hr hlk hS sf_b0 rfl (by simp only [f_SF_isMonth, eq_false c_1, eq_true c_2, ↓reduceIte]) hP d_SF_isMonth_15
    · refine lv_iconst (v := 1) hx hb d_SF_isMonth_10 (by decide) ?_
      refine lv_goto (tgt := 15) hx hb d_SF_isMonth_11 (by decide) ?_
      rw [hQ]
      exact sf_iret 1 hx hb hr hlk hS sf_b1 rfl (by simp only [f_SF_isMonth, eq_false c_1, eq_false c_2, ↓reduceIte]) hP d_SF_isMonth_15
def f_SF_numberBehind (nu : Int32) : Int32 :=
  if nu < 250 then
    (nu + 1)
  else
    1
set_option maxHeartbeats 1000000 in
set_option maxRecDepth 100000 in
/-- numberBehind -/
theorem c_SF_numberBehind (l : Launch) (D : va_G) (cI cZ cJ : ClassId)  (nu : Int32) : sf_M (S := Int32) l D classes (sf_tys cI cZ cJ) y_SF_numberBehind (sf_ws y_SF_numberBehind b_SF_numberBehind 1 (some .int)) 0 0 [.int nu] [] (fun r => some (.int r)) (fun r => r = f_SF_numberBehind nu) (fun _ => []) := by
  refine sf_ofW (S := Int32) (by decide) (Nat.le_of_ble_eq_true rfl) ?_
  intro p e s m below meth c A ls R args Q hR hArgs hQ hC0 hr hK hP hD hl
  obtain ⟨hx, hb, hml, hown, hts, hA, hlk⟩ := hC0
  have hS : va_S A s.heap s.heap [] := va_S.rf
  have hl : lv_has ls 1 [(0, .int nu)] := hl
  refine lv_iload_n hx hb d_SF_numberBehind_0 rfl (lv_at hl 0 rfl) ?_
  refine lv_sipush (v := 250) hx hb d_SF_numberBehind_1 (by decide) ?_
  refine lv_icmp_lt (tgt := 11) hx hb d_SF_numberBehind_4 (by decide) (fun c_1 => ?_) (fun c_1 => ?_)
  · refine lv_iload_n hx hb d_SF_numberBehind_11 rfl (lv_at hl 0 rfl) ?_
    refine lv_iconst (v := 1) hx hb d_SF_numberBehind_12 (by decide) ?_
    refine lv_iadd hx hb d_SF_numberBehind_13 ?_
    rw [hQ]
    exact sf_iret (nu + 1) hx hb hr hlk hS rfl rfl (by simp only [f_SF_numberBehind, eq_true c_1, ↓reduceIte]) hP d_SF_numberBehind_14
  · refine lv_iconst (v := 1) hx hb d_SF_numberBehind_7 (by decide) ?_
    refine lv_goto (tgt := 14) hx hb d_SF_numberBehind_8 (by decide) ?_
    rw [hQ]
    exact sf_iret 1 hx hb hr hlk hS rfl rfl (by simp only [f_SF_numberBehind, eq_false c_1, ↓reduceIte]) hP d_SF_numberBehind_14
def f_SF_countPlaces (sw : Int32) : Int32 :=
  if sw = 0 then
    24
  else
    16
set_option maxHeartbeats 1000000 in
set_option maxRecDepth 100000 in
/-- countPlaces -/
theorem c_SF_countPlaces (l : Launch) (D : va_G) (cI cZ cJ : ClassId)  (sw : Int32) : sf_M (S := Int32) l D classes (sf_tys cI cZ cJ) y_SF_countPlaces (sf_ws y_SF_countPlaces b_SF_countPlaces 1 (some .int)) 0 0 [.int sw] [] (fun r => some (.int r)) (fun r => r = f_SF_countPlaces sw) (fun _ => []) := by
  refine sf_ofW (S := Int32) (by decide) (Nat.le_of_ble_eq_true rfl) ?_
  intro p e s m below meth c A ls R args Q hR hArgs hQ hC0 hr hK hP hD hl
  obtain ⟨hx, hb, hml, hown, hts, hA, hlk⟩ := hC0
  have hS : va_S A s.heap s.heap [] := va_S.rf
  have hl : lv_has ls 1 [(0, .int sw)] := hl
  refine lv_iload_n hx hb d_SF_countPlaces_0 rfl (lv_at hl 0 rfl) ?_
  refine lv_if_eq (tgt := 9) hx hb d_SF_countPlaces_1 (by decide) (fun c_1 => ?_) (fun c_1 => ?_)
  · refine lv_bipush (v := 24) hx hb d_SF_countPlaces_9 (by decide) ?_
    rw [hQ]
    exact sf_iret 24 hx hb hr hlk hS rfl rfl (by simp only [f_SF_countPlaces, eq_true c_1, ↓reduceIte]) hP d_SF_countPlaces_11
  · refine lv_bipush (v := 16) hx hb d_SF_countPlaces_4 (by decide) ?_
    refine lv_goto (tgt := 11) hx hb d_SF_countPlaces_6 (by decide) ?_
    rw [hQ]
    exact sf_iret 16 hx hb hr hlk hS rfl rfl (by simp only [f_SF_countPlaces, eq_false c_1, ↓reduceIte]) hP d_SF_countPlaces_11
def f_SF_addToTape (tp : Nat → Int32) (tl : Int32) (va : Int32) : ((Nat → Int32) × Int32) :=
  if tl < 0 then
    (tp, tl)
  else
    if 60 ≤ tl then
      (tp, tl)
    else
      ((upd tp tl.toNatClampNeg va), (tl + 1))
set_option maxHeartbeats 1000000 in
set_option maxRecDepth 100000 in
/-- addToTape -/
theorem c_SF_addToTape (l : Launch) (D : va_G) (cI cZ cJ : ClassId) (q : Nat → Nat) (fl : Nat → Int32) (sl : Nat → Int32) (tb : Nat → Int32) (np : Nat → Int32) (nt : Nat → Int32) (cp : Nat → Int32) (cc : Int32) (cb : Int32) (ch : Int32) (cm : Int32) (mp : Nat → Int32) (mc : Int32) (mb : Int32) (mh : Int32) (mm : Int32) (us : Nat → Int32) (ta : Nat → Int32) (tp : Nat → Int32) (tl : Int32) (cu : Int32) (bl : Int32) (pf : Int32) (sh : Int32) (va : Int32) : sf_M (S := ((Nat → Int32) × Int32)) l D classes (sf_tys cI cZ cJ) y_SF_addToTape (sf_ws y_SF_addToTape b_SF_addToTape 2 none) 0 0 [.ref (q 0), .int va] (sf_w q cI cZ fl sl tb np nt cp cc cb ch cm mp mc mb mh mm us ta tp tl cu bl pf sh) (fun _ => none) (fun r => r = f_SF_addToTape tp tl va) (fun r => (sf_w q cI cZ fl sl tb np nt cp cc cb ch cm mp mc mb mh mm us ta r.1 r.2 cu bl pf sh)) := by
  refine sf_ofW (S := ((Nat → Int32) × Int32)) (by decide) (Nat.le_of_ble_eq_true rfl) ?_
  intro p e s m below meth c A ls R args Q hR hArgs hQ hC0 hr hK hP hD hl
  obtain ⟨hx, hb, hml, hown, hts, hA, hlk⟩ := hC0
  have hS : va_S A s.heap s.heap [] := va_S.rf
  have hl : lv_has ls 2 [(0, .ref (q 0)), (1, .int va)] := hl
  refine lv_aload_n hx hb d_SF_addToTape_0 rfl (lv_at hl 0 rfl) ?_
  refine va_get (D := D) (ci := 2) (v := .int tl) (C := R_SF) (T := F_SF) (N := 15) hx hb hts i_SF hown hK hP 0 rfl rfl 10 (by decide) (hts _ wd_120) (fun _ h9 => h9) rfl d_SF_addToTape_1 ?_
  refine lv_if_lt (tgt := 36) hx hb d_SF_addToTape_4 (by decide) (fun c_1 => ?_) (fun c_1 => ?_)
  · rw [hQ]
    exact sf_vret (tp, tl) hx hb hr hlk hS rfl (by simp only [f_SF_addToTape, eq_true c_1, ↓reduceIte]) hP d_SF_addToTape_36
  · refine lv_aload_n hx hb d_SF_addToTape_7 rfl (lv_at hl 0 rfl) ?_
    refine va_get (D := D) (ci := 2) (v := .int tl) (C := R_SF) (T := F_SF) (N := 15) hx hb hts i_SF hown hK hP 0 rfl rfl 10 (by decide) (hts _ wd_120) (fun _ h9 => h9) rfl d_SF_addToTape_8 ?_
    refine lv_bipush (v := 60) hx hb d_SF_addToTape_11 (by decide) ?_
    refine lv_icmp_ge (tgt := 36) hx hb d_SF_addToTape_13 (by decide) (fun c_2 => ?_) (fun c_2 => ?_)
    · rw [hQ]
      exact sf_vret (tp, tl) hx hb hr hlk hS rfl (by simp only [f_SF_addToTape, eq_false c_1, eq_true c_2, ↓reduceIte]) hP d_SF_addToTape_36
    · refine lv_aload_n hx hb d_SF_addToTape_16 rfl (lv_at hl 0 rfl) ?_
      refine va_get (D := D) (ci := 2) (v := .ref (q 17)) (C := R_SF) (T := F_SF) (N := 15) hx hb hts i_SF hown hK hP 0 rfl rfl 9 (by decide) (hts _ wd_119) (fun _ h9 => h9) rfl d_SF_addToTape_17 ?_
      refine lv_aload_n hx hb d_SF_addToTape_20 rfl (lv_at hl 0 rfl) ?_
      refine va_get (D := D) (ci := 2) (v := .int tl) (C := R_SF) (T := F_SF) (N := 15) hx hb hts i_SF hown hK hP 0 rfl rfl 10 (by decide) (hts _ wd_120) (fun _ h9 => h9) rfl d_SF_addToTape_21 ?_
      refine lv_iload_n hx hb d_SF_addToTape_24 rfl (lv_at hl 1 rfl) ?_
      refine va_iast hx hb hK hP hD hS 17 0 rfl rfl (sf_in (n := 60) c_1 c_2 (by omega)) d_SF_addToTape_25 (fun H locs hP hD hS => ?_)
      have hP : va_P D classes (sf_w q cI cZ fl sl tb np nt cp cc cb ch cm mp mc mb mh mm us ta (upd tp tl.toNatClampNeg va) tl cu bl pf sh) H := hP
      have hD : va_D A (sf_w q cI cZ fl sl tb np nt cp cc cb ch cm mp mc mb mh mm us ta (upd tp tl.toNatClampNeg va) tl cu bl pf sh) := hD
      refine lv_aload_n hx hb d_SF_addToTape_26 rfl (lv_at hl 0 rfl) ?_
      refine lv_dup hx hb d_SF_addToTape_27 rfl ?_
      refine va_get (D := D) (ci := 2) (v := .int tl) (C := R_SF) (T := F_SF) (N := 15) hx hb hts i_SF hown hK hP 0 rfl rfl 10 (by decide) (hts _ wd_120) (fun _ h9 => h9) rfl d_SF_addToTape_28 ?_
      refine lv_iconst (v := 1) hx hb d_SF_addToTape_31 (by decide) ?_
      refine lv_iadd hx hb d_SF_addToTape_32 ?_
      refine va_put (D := D) (ci := 2) (v := .int (tl + 1)) (ty := .int) (C := R_SF) (T := F_SF) (N := 15) hx hb hts i_SF t_SF t_SF_ok n_SF hown hK hP hD hS 0 rfl rfl 10 (by decide) (hts _ wd_120) (fun _ h9 => h9) rfl (by decide +kernel) rfl rfl (Nat.le_of_ble_eq_true rfl) d_SF_addToTape_33 (fun H locs hP hD hS => ?_)
      have hP : va_P D classes (sf_w q cI cZ fl sl tb np nt cp cc cb ch cm mp mc mb mh mm us ta (upd tp tl.toNatClampNeg va) (tl + 1) cu bl pf sh) H := hP
      have hD : va_D A (sf_w q cI cZ fl sl tb np nt cp cc cb ch cm mp mc mb mh mm us ta (upd tp tl.toNatClampNeg va) (tl + 1) cu bl pf sh) := hD
      rw [hQ]
      exact sf_vret ((upd tp tl.toNatClampNeg va), (tl + 1)) hx hb hr hlk hS rfl (by simp only [f_SF_addToTape, eq_false c_1, eq_false c_2, ↓reduceIte]) hP d_SF_addToTape_36
def f_SF_isGood (tb : Nat → Int32) (ta0 : Int32) : Int32 :=
  if (f_Bl_get 80 tb (nI 40) ta0 0) < 1 then
    0
  else
    if 250 < (f_Bl_get 80 tb (nI 40) ta0 0) then
      0
    else
      if (f_Bl_sumIsRight 80 tb ta0 36) = 0 then
        0
      else
        1
set_option maxHeartbeats 1000000 in
set_option maxRecDepth 100000 in
/-- isGood -/
theorem c_SF_isGood (l : Launch) (D : va_G) (cI cZ cJ : ClassId) (q : Nat → Nat) (fl : Nat → Int32) (sl : Nat → Int32) (tb : Nat → Int32) (np : Nat → Int32) (nt : Nat → Int32) (cp : Nat → Int32) (cc : Int32) (cb : Int32) (ch : Int32) (cm : Int32) (mp : Nat → Int32) (mc : Int32) (mb : Int32) (mh : Int32) (mm : Int32) (us : Nat → Int32) (ta : Nat → Int32) (tp : Nat → Int32) (tl : Int32) (cu : Int32) (bl : Int32) (pf : Int32) (sh : Int32) (ta0 : Int32) : sf_M (S := Int32) l D classes (sf_tys cI cZ cJ) y_SF_isGood (sf_ws y_SF_isGood b_SF_isGood 3 (some .boolean)) 2 49 [.ref (q 0), .int ta0] (sf_w q cI cZ fl sl tb np nt cp cc cb ch cm mp mc mb mh mm us ta tp tl cu bl pf sh) (fun r => some (.int r)) (fun r => r = f_SF_isGood tb ta0) (fun r => (sf_w q cI cZ fl sl tb np nt cp cc cb ch cm mp mc mb mh mm us ta tp tl cu bl pf sh)) := by
  refine sf_ofW (S := Int32) (by decide) (Nat.le_of_ble_eq_true rfl) ?_
  intro p e s m below meth c A ls R args Q hR hArgs hQ hC0 hr hK hP hD hl
  obtain ⟨hx, hb, hml, hown, hts, hA, hlk⟩ := hC0
  have hS : va_S A s.heap s.heap [] := va_S.rf
  have hl : lv_has ls 3 [(0, .ref (q 0)), (1, .int ta0)] := hl
  refine lv_aload_n hx hb d_SF_isGood_0 rfl (lv_at hl 0 rfl) ?_
  refine va_get (D := D) (ci := 2) (v := .ref (q 5)) (C := R_SF) (T := F_SF) (N := 15) hx hb hts i_SF hown hK hP 0 rfl rfl 2 (by decide) (hts _ wd_112) (fun _ h9 => h9) rfl d_SF_isGood_1 ?_
  refine lv_iload_n hx hb d_SF_isGood_4 rfl (lv_at hl 1 rfl) ?_
  refine lv_iconst (v := 0) hx hb d_SF_isGood_5 (by decide) ?_
  refine sf_callVr (S := Int32) (rest := []) ⟨hx, hb, hml, hown, hts⟩ (c_Bl_get l D cI cZ cJ (q 5) (q 6) 80 tb (nI 40) ta0 0 (by omega)) (sf_cwV lk_SF_203 hts (fun _ h => h) (by rw [hR]; exact ⟨Nat.le_of_ble_eq_true rfl, Nat.le_of_ble_eq_true rfl⟩)) hK hP hD hS hA [5, 6] rfl rfl (fun _ => rfl) (ci := 0) (q0 := 0) rfl rfl rfl rfl rfl hl.1 (Nat.le_of_ble_eq_true rfl) d_SF_isGood_6 ⟨Nat.zero_le _, Nat.zero_le _⟩ (fun u_1 H locs hu_1 hP hS => ?_)
  refine lv_istore_n (lv' := [(2, .int u_1), (0, .ref (q 0)), (1, .int ta0)]) hx hb d_SF_isGood_9 rfl hl (by decide) rfl (fun ls hl => ?_)
  refine lv_iload_n hx hb d_SF_isGood_10 rfl (lv_at hl 0 rfl) ?_
  refine lv_iconst (v := 1) hx hb d_SF_isGood_11 (by decide) ?_
  refine lv_icmp_lt (tgt := 37) hx hb d_SF_isGood_12 (by decide) (fun c_2 => ?_) (fun c_2 => ?_)
  · refine lv_iconst (v := 0) hx hb d_SF_isGood_37 (by decide) ?_
    rw [hQ]
    exact sf_iret 0 hx hb hr hlk hS sf_b0 rfl (by simp only [f_SF_isGood, ← hu_1, eq_true c_2, ↓reduceIte]) hP d_SF_isGood_38
  · refine lv_iload_n hx hb d_SF_isGood_15 rfl (lv_at hl 0 rfl) ?_
    refine lv_sipush (v := 250) hx hb d_SF_isGood_16 (by decide) ?_
    refine lv_icmp_gt (tgt := 37) hx hb d_SF_isGood_19 (by decide) (fun c_3 => ?_) (fun c_3 => ?_)
    · refine lv_iconst (v := 0) hx hb d_SF_isGood_37 (by decide) ?_
      rw [hQ]
      exact sf_iret 0 hx hb hr hlk hS sf_b0 rfl (by simp only [f_SF_isGood, ← hu_1, eq_false c_2, eq_true c_3, ↓reduceIte]) hP d_SF_isGood_38
    · refine lv_aload_n hx hb d_SF_isGood_22 rfl (lv_at hl 1 rfl) ?_
      refine va_get (D := D) (ci := 2) (v := .ref (q 5)) (C := R_SF) (T := F_SF) (N := 15) hx hb hts i_SF hown hK hP 0 rfl rfl 2 (by decide) (hts _ wd_112) (fun _ h9 => h9) rfl d_SF_isGood_23 ?_
      refine lv_iload_n hx hb d_SF_isGood_26 rfl (lv_at hl 2 rfl) ?_
      refine sf_callVr (S := Int32) (rest := []) ⟨hx, hb, hml, hown, hts⟩ (c_Bl_sumIsRight l D cI cZ cJ (q 5) (q 6) 80 tb ta0 36 (by omega) (by omega)) (sf_cwV lk_SF_215 hts (fun _ h => h) (by rw [hR]; exact ⟨Nat.le_of_ble_eq_true rfl, Nat.le_of_ble_eq_true rfl⟩)) hK hP hD hS hA [5, 6] rfl rfl (fun _ => rfl) (ci := 0) (q0 := 0) rfl rfl rfl rfl rfl hl.1 (Nat.le_of_ble_eq_true rfl) d_SF_isGood_27 ⟨Nat.zero_le _, Nat.zero_le _⟩ (fun u_4 H locs hu_4 hP hS => ?_)
      refine lv_if_eq (tgt := 37) hx hb d_SF_isGood_30 (by decide) (fun c_5 => ?_) (fun c_5 => ?_)
      · refine lv_iconst (v := 0) hx hb d_SF_isGood_37 (by decide) ?_
        rw [hQ]
        exact sf_iret 0 hx hb hr hlk hS sf_b0 rfl (by simp only [f_SF_isGood, ← hu_1, ← hu_4, eq_false c_2, eq_false c_3, eq_true c_5, ↓reduceIte]) hP d_SF_isGood_38
      · refine lv_iconst (v := 1) hx hb d_SF_isGood_33 (by decide) ?_
        refine lv_goto (tgt := 38) hx hb d_SF_isGood_34 (by decide) ?_
        rw [hQ]
        exact sf_iret 1 hx hb hr hlk hS sf_b1 rfl (by simp only [f_SF_isGood, ← hu_1, ← hu_4, eq_false c_2, eq_false c_3, eq_false c_5, ↓reduceIte]) hP d_SF_isGood_38
def f_SF_numberOf (tb : Nat → Int32) (ta0 : Int32) : Int32 :=
  if ta0 = (-1) then
    0
  else
    (f_Bl_get 80 tb (nI 40) ta0 0)
set_option maxHeartbeats 1000000 in
set_option maxRecDepth 100000 in
/-- numberOf -/
theorem c_SF_numberOf (l : Launch) (D : va_G) (cI cZ cJ : ClassId) (q : Nat → Nat) (fl : Nat → Int32) (sl : Nat → Int32) (tb : Nat → Int32) (np : Nat → Int32) (nt : Nat → Int32) (cp : Nat → Int32) (cc : Int32) (cb : Int32) (ch : Int32) (cm : Int32) (mp : Nat → Int32) (mc : Int32) (mb : Int32) (mh : Int32) (mm : Int32) (us : Nat → Int32) (ta : Nat → Int32) (tp : Nat → Int32) (tl : Int32) (cu : Int32) (bl : Int32) (pf : Int32) (sh : Int32) (ta0 : Int32) : sf_M (S := Int32) l D classes (sf_tys cI cZ cJ) y_SF_numberOf (sf_ws y_SF_numberOf b_SF_numberOf 2 (some .int)) 1 23 [.ref (q 0), .int ta0] (sf_w q cI cZ fl sl tb np nt cp cc cb ch cm mp mc mb mh mm us ta tp tl cu bl pf sh) (fun r => some (.int r)) (fun r => r = f_SF_numberOf tb ta0) (fun r => (sf_w q cI cZ fl sl tb np nt cp cc cb ch cm mp mc mb mh mm us ta tp tl cu bl pf sh)) := by
  refine sf_ofW (S := Int32) (by decide) (Nat.le_of_ble_eq_true rfl) ?_
  intro p e s m below meth c A ls R args Q hR hArgs hQ hC0 hr hK hP hD hl
  obtain ⟨hx, hb, hml, hown, hts, hA, hlk⟩ := hC0
  have hS : va_S A s.heap s.heap [] := va_S.rf
  have hl : lv_has ls 2 [(0, .ref (q 0)), (1, .int ta0)] := hl
  refine lv_iload_n hx hb d_SF_numberOf_0 rfl (lv_at hl 1 rfl) ?_
  refine lv_iconst (v := (-1)) hx hb d_SF_numberOf_1 (by decide) ?_
  refine lv_icmp_ne (tgt := 9) hx hb d_SF_numberOf_2 (by decide) (fun c_1 => ?_) (fun c_1 => ?_)
  · refine lv_aload_n hx hb d_SF_numberOf_9 rfl (lv_at hl 0 rfl) ?_
    refine va_get (D := D) (ci := 2) (v := .ref (q 5)) (C := R_SF) (T := F_SF) (N := 15) hx hb hts i_SF hown hK hP 0 rfl rfl 2 (by decide) (hts _ wd_112) (fun _ h9 => h9) rfl d_SF_numberOf_10 ?_
    refine lv_iload_n hx hb d_SF_numberOf_13 rfl (lv_at hl 1 rfl) ?_
    refine lv_iconst (v := 0) hx hb d_SF_numberOf_14 (by decide) ?_
    refine sf_callVr (S := Int32) (rest := []) ⟨hx, hb, hml, hown, hts⟩ (c_Bl_get l D cI cZ cJ (q 5) (q 6) 80 tb (nI 40) ta0 0 (by omega)) (sf_cwV lk_SF_203 hts (fun _ h => h) (by rw [hR]; exact ⟨Nat.le_of_ble_eq_true rfl, Nat.le_of_ble_eq_true rfl⟩)) hK hP hD hS hA [5, 6] rfl rfl (fun _ => rfl) (ci := 0) (q0 := 0) rfl rfl rfl rfl rfl hl.1 (Nat.le_of_ble_eq_true rfl) d_SF_numberOf_15 ⟨Nat.zero_le _, Nat.zero_le _⟩ (fun u_2 H locs hu_2 hP hS => ?_)
    rw [hQ]
    exact sf_iret u_2 hx hb hr hlk hS rfl rfl (by simp only [f_SF_numberOf, ← hu_2, eq_false c_1, ↓reduceIte]) hP d_SF_numberOf_18
  · refine lv_iconst (v := 0) hx hb d_SF_numberOf_5 (by decide) ?_
    refine lv_goto (tgt := 18) hx hb d_SF_numberOf_6 (by decide) ?_
    rw [hQ]
    exact sf_iret 0 hx hb hr hlk hS rfl rfl (by simp only [f_SF_numberOf, eq_true c_1, ↓reduceIte]) hP d_SF_numberOf_18
def f_SF_countingTable (tb : Nat → Int32) : Int32 :=
  if (f_SF_isGood tb 0) = 0 then
    if (f_SF_isGood tb 1) = 0 then
      (-1)
    else
      1
  else
    if (f_SF_isGood tb 1) = 0 then
      0
    else
      if (f_SF_numberOf tb 1) = (f_SF_numberBehind (f_SF_numberOf tb 0)) then
        1
      else
        0
set_option maxHeartbeats 1000000 in
set_option maxRecDepth 100000 in
/-- countingTable -/
theorem c_SF_countingTable (l : Launch) (D : va_G) (cI cZ cJ : ClassId) (q : Nat → Nat) (fl : Nat → Int32) (sl : Nat → Int32) (tb : Nat → Int32) (np : Nat → Int32) (nt : Nat → Int32) (cp : Nat → Int32) (cc : Int32) (cb : Int32) (ch : Int32) (cm : Int32) (mp : Nat → Int32) (mc : Int32) (mb : Int32) (mh : Int32) (mm : Int32) (us : Nat → Int32) (ta : Nat → Int32) (tp : Nat → Int32) (tl : Int32) (cu : Int32) (bl : Int32) (pf : Int32) (sh : Int32) : sf_M (S := Int32) l D classes (sf_tys cI cZ cJ) y_SF_countingTable (sf_ws y_SF_countingTable b_SF_countingTable 3 (some .int)) 3 71 [.ref (q 0)] (sf_w q cI cZ fl sl tb np nt cp cc cb ch cm mp mc mb mh mm us ta tp tl cu bl pf sh) (fun r => some (.int r)) (fun r => r = f_SF_countingTable tb) (fun r => (sf_w q cI cZ fl sl tb np nt cp cc cb ch cm mp mc mb mh mm us ta tp tl cu bl pf sh)) := by
  refine sf_ofW (S := Int32) (by decide) (Nat.le_of_ble_eq_true rfl) ?_
  intro p e s m below meth c A ls R args Q hR hArgs hQ hC0 hr hK hP hD hl
  obtain ⟨hx, hb, hml, hown, hts, hA, hlk⟩ := hC0
  have hS : va_S A s.heap s.heap [] := va_S.rf
  have hl : lv_has ls 3 [(0, .ref (q 0))] := hl
  refine lv_aload_n hx hb d_SF_countingTable_0 rfl (lv_at hl 0 rfl) ?_
  refine lv_iconst (v := 0) hx hb d_SF_countingTable_1 (by decide) ?_
  refine sf_callVw (S := Int32) (rest := []) ⟨hx, hb, hml, hown, hts⟩ (c_SF_isGood l D cI cZ cJ q fl sl tb np nt cp cc cb ch cm mp mc mb mh mm us ta tp tl cu bl pf sh 0) (sf_cwV lk_SF_218 hts (fun _ h => h) (by rw [hR]; exact ⟨Nat.le_of_ble_eq_true rfl, Nat.le_of_ble_eq_true rfl⟩)) hK hP hD hS hA (fun _ => by simp only [sf_w_fst]) (ci := 2) (q0 := 0) rfl rfl rfl rfl rfl hl.1 (Nat.le_of_ble_eq_true rfl) d_SF_countingTable_2 ⟨Nat.zero_le _, Nat.zero_le _⟩ (fun u_1 H locs hu_1 hP hD hS => ?_)
  have hP : va_P D classes (sf_w q cI cZ fl sl tb np nt cp cc cb ch cm mp mc mb mh mm us ta tp tl cu bl pf sh) H := hP
  have hD : va_D A (sf_w q cI cZ fl sl tb np nt cp cc cb ch cm mp mc mb mh mm us ta tp tl cu bl pf sh) := hD
  refine lv_istore_n (lv' := [(1, .int u_1), (0, .ref (q 0))]) hx hb d_SF_countingTable_5 rfl hl (by decide) rfl (fun ls hl => ?_)
  refine lv_aload_n hx hb d_SF_countingTable_6 rfl (lv_at hl 1 rfl) ?_
  refine lv_iconst (v := 1) hx hb d_SF_countingTable_7 (by decide) ?_
  refine sf_callVw (S := Int32) (rest := []) ⟨hx, hb, hml, hown, hts⟩ (c_SF_isGood l D cI cZ cJ q fl sl tb np nt cp cc cb ch cm mp mc mb mh mm us ta tp tl cu bl pf sh 1) (sf_cwV lk_SF_218 hts (fun _ h => h) (by rw [hR]; exact ⟨Nat.le_of_ble_eq_true rfl, Nat.le_of_ble_eq_true rfl⟩)) hK hP hD hS hA (fun _ => by simp only [sf_w_fst]) (ci := 2) (q0 := 0) rfl rfl rfl rfl rfl hl.1 (Nat.le_of_ble_eq_true rfl) d_SF_countingTable_8 ⟨Nat.zero_le _, Nat.zero_le _⟩ (fun u_2 H locs hu_2 hP hD hS => ?_)
  have hP : va_P D classes (sf_w q cI cZ fl sl tb np nt cp cc cb ch cm mp mc mb mh mm us ta tp tl cu bl pf sh) H := hP
  have hD : va_D A (sf_w q cI cZ fl sl tb np nt cp cc cb ch cm mp mc mb mh mm us ta tp tl cu bl pf sh) := hD
  refine lv_istore_n (lv' := [(2, .int u_2), (1, .int u_1), (0, .ref (q 0))]) hx hb d_SF_countingTable_11 rfl hl (by decide) rfl (fun ls hl => ?_)
  refine lv_iload_n hx hb d_SF_countingTable_12 rfl (lv_at hl 1 rfl) ?_
  refine lv_if_eq (tgt := 42) hx hb d_SF_countingTable_13 (by decide) (fun c_3 => ?_) (fun c_3 => ?_)
  · refine lv_iload_n hx hb d_SF_countingTable_42 rfl (lv_at hl 1 rfl) ?_
    refine lv_if_eq (tgt := 48) hx hb d_SF_countingTable_43 (by decide) (fun c_4 => ?_) (fun c_4 => absurd c_3 c_4)
    refine lv_iload_n hx hb d_SF_countingTable_48 rfl (lv_at hl 0 rfl) ?_
    refine lv_if_eq (tgt := 56) hx hb d_SF_countingTable_49 (by decide) (fun c_5 => ?_) (fun c_5 => ?_)
    · refine lv_iconst (v := (-1)) hx hb d_SF_countingTable_56 (by decide) ?_
      rw [hQ]
      exact sf_iret (-1) hx hb hr hlk hS rfl rfl (by simp only [f_SF_countingTable, ← hu_1, ← hu_2, eq_true c_3, eq_true c_5, ↓reduceIte]) hP d_SF_countingTable_57
    · refine lv_iconst (v := 1) hx hb d_SF_countingTable_52 (by decide) ?_
      refine lv_goto (tgt := 57) hx hb d_SF_countingTable_53 (by decide) ?_
      rw [hQ]
      exact sf_iret 1 hx hb hr hlk hS rfl rfl (by simp only [f_SF_countingTable, ← hu_1, ← hu_2, eq_true c_3, eq_false c_5, ↓reduceIte]) hP d_SF_countingTable_57
  · refine lv_iload_n hx hb d_SF_countingTable_16 rfl (lv_at hl 0 rfl) ?_
    refine lv_if_eq (tgt := 42) hx hb d_SF_countingTable_17 (by decide) (fun c_6 => ?_) (fun c_6 => ?_)
    · refine lv_iload_n hx hb d_SF_countingTable_42 rfl (lv_at hl 1 rfl) ?_
      refine lv_if_eq (tgt := 48) hx hb d_SF_countingTable_43 (by decide) (fun c_7 => absurd c_7 c_3) (fun c_7 => ?_)
      refine lv_iconst (v := 0) hx hb d_SF_countingTable_46 (by decide) ?_
      rw [hQ]
      exact sf_iret 0 hx hb hr hlk hS rfl rfl (by simp only [f_SF_countingTable, ← hu_1, ← hu_2, eq_false c_3, eq_true c_6, ↓reduceIte]) hP d_SF_countingTable_47
    · refine lv_aload_n hx hb d_SF_countingTable_20 rfl (lv_at hl 2 rfl) ?_
      refine lv_iconst (v := 1) hx hb d_SF_countingTable_21 (by decide) ?_
      refine sf_callVw (S := Int32) (rest := []) ⟨hx, hb, hml, hown, hts⟩ (c_SF_numberOf l D cI cZ cJ q fl sl tb np nt cp cc cb ch cm mp mc mb mh mm us ta tp tl cu bl pf sh 1) (sf_cwV lk_SF_182 hts (fun _ h => h) (by rw [hR]; exact ⟨Nat.le_of_ble_eq_true rfl, Nat.le_of_ble_eq_true rfl⟩)) hK hP hD hS hA (fun _ => by simp only [sf_w_fst]) (ci := 2) (q0 := 0) rfl rfl rfl rfl rfl hl.1 (Nat.le_of_ble_eq_true rfl) d_SF_countingTable_22 ⟨Nat.zero_le _, Nat.zero_le _⟩ (fun u_8 H locs hu_8 hP hD hS => ?_)
      have hP : va_P D classes (sf_w q cI cZ fl sl tb np nt cp cc cb ch cm mp mc mb mh mm us ta tp tl cu bl pf sh) H := hP
      have hD : va_D A (sf_w q cI cZ fl sl tb np nt cp cc cb ch cm mp mc mb mh mm us ta tp tl cu bl pf sh) := hD
      refine lv_aload_n hx hb d_SF_countingTable_25 rfl (lv_at hl 2 rfl) ?_
      refine lv_iconst (v := 0) hx hb d_SF_countingTable_26 (by decide) ?_
      refine sf_callVw (S := Int32) (rest := [.int u_8]) ⟨hx, hb, hml, hown, hts⟩ (c_SF_numberOf l D cI cZ cJ q fl sl tb np nt cp cc cb ch cm mp mc mb mh mm us ta tp tl cu bl pf sh 0) (sf_cwV lk_SF_182 hts (fun _ h => h) (by rw [hR]; exact ⟨Nat.le_of_ble_eq_true rfl, Nat.le_of_ble_eq_true rfl⟩)) hK hP hD hS hA (fun _ => by simp only [sf_w_fst]) (ci := 2) (q0 := 0) rfl rfl rfl rfl rfl hl.1 (Nat.le_of_ble_eq_true rfl) d_SF_countingTable_27 ⟨Nat.zero_le _, Nat.zero_le _⟩ (fun u_9 H locs hu_9 hP hD hS => ?_)
      have hP : va_P D classes (sf_w q cI cZ fl sl tb np nt cp cc cb ch cm mp mc mb mh mm us ta tp tl cu bl pf sh) H := hP
      have hD : va_D A (sf_w q cI cZ fl sl tb np nt cp cc cb ch cm mp mc mb mh mm us ta tp tl cu bl pf sh) := hD
      refine sf_callSr (S := Int32) (rest := [.int u_8]) ⟨hx, hb, hml, hown, hts⟩ (c_SF_numberBehind l D cI cZ cJ u_9) (sf_cwS lk_SF_221 hts (fun _ h => h) (by rw [hR]; exact ⟨Nat.le_of_ble_eq_true rfl, Nat.le_of_ble_eq_true rfl⟩)) hK hP hD hS hA [] rfl rfl (fun _ => rfl) rfl rfl hl.1 (Nat.le_of_ble_eq_true rfl) d_SF_countingTable_30 ⟨Nat.zero_le _, Nat.zero_le _⟩ (fun u_10 H locs hu_10 hP hS => ?_)
      refine lv_icmp_ne (tgt := 40) hx hb d_SF_countingTable_33 (by decide) (fun c_11 => ?_) (fun c_11 => ?_)
      · refine lv_iconst (v := 0) hx hb d_SF_countingTable_40 (by decide) ?_
        rw [hQ]
        exact sf_iret 0 hx hb hr hlk hS rfl rfl (by simp only [f_SF_countingTable, ← hu_1, ← hu_2, ← hu_8, ← hu_9, ← hu_10, eq_false c_3, eq_false c_6, eq_false c_11, ↓reduceIte]) hP d_SF_countingTable_41
      · refine lv_iconst (v := 1) hx hb d_SF_countingTable_36 (by decide) ?_
        refine lv_goto (tgt := 41) hx hb d_SF_countingTable_37 (by decide) ?_
        rw [hQ]
        exact sf_iret 1 hx hb hr hlk hS rfl rfl (by simp only [f_SF_countingTable, ← hu_1, ← hu_2, ← hu_8, ← hu_9, ← hu_10, eq_false c_3, eq_false c_6, eq_true c_11, ↓reduceIte]) hP d_SF_countingTable_41
def f_SF_firstOf (tb : Nat → Int32) (ta0 : Int32) (ro : Int32) (sw : Int32) : Int32 :=
  if ta0 = (-1) then
    0
  else
    if sw = 0 then
      (f_Bl_get 80 tb (nI 40) ta0 (1 + ro))
    else
      (f_Bl_get 80 tb (nI 40) ta0 (13 + ro))
set_option maxHeartbeats 1000000 in
set_option maxRecDepth 100000 in
/-- firstOf -/
theorem c_SF_firstOf (l : Launch) (D : va_G) (cI cZ cJ : ClassId) (q : Nat → Nat) (fl : Nat → Int32) (sl : Nat → Int32) (tb : Nat → Int32) (np : Nat → Int32) (nt : Nat → Int32) (cp : Nat → Int32) (cc : Int32) (cb : Int32) (ch : Int32) (cm : Int32) (mp : Nat → Int32) (mc : Int32) (mb : Int32) (mh : Int32) (mm : Int32) (us : Nat → Int32) (ta : Nat → Int32) (tp : Nat → Int32) (tl : Int32) (cu : Int32) (bl : Int32) (pf : Int32) (sh : Int32) (ta0 : Int32) (ro : Int32) (sw : Int32) : sf_M (S := Int32) l D classes (sf_tys cI cZ cJ) y_SF_firstOf (sf_ws y_SF_firstOf b_SF_firstOf 4 (some .int)) 1 23 [.ref (q 0), .int ta0, .int ro, .int sw] (sf_w q cI cZ fl sl tb np nt cp cc cb ch cm mp mc mb mh mm us ta tp tl cu bl pf sh) (fun r => some (.int r)) (fun r => r = f_SF_firstOf tb ta0 ro sw) (fun r => (sf_w q cI cZ fl sl tb np nt cp cc cb ch cm mp mc mb mh mm us ta tp tl cu bl pf sh)) := by
  refine sf_ofW (S := Int32) (by decide) (Nat.le_of_ble_eq_true rfl) ?_
  intro p e s m below meth c A ls R args Q hR hArgs hQ hC0 hr hK hP hD hl
  obtain ⟨hx, hb, hml, hown, hts, hA, hlk⟩ := hC0
  have hS : va_S A s.heap s.heap [] := va_S.rf
  have hl : lv_has ls 4 [(0, .ref (q 0)), (1, .int ta0), (2, .int ro), (3, .int sw)] := hl
  refine lv_iload_n hx hb d_SF_firstOf_0 rfl (lv_at hl 1 rfl) ?_
  refine lv_iconst (v := (-1)) hx hb d_SF_firstOf_1 (by decide) ?_
  refine lv_icmp_ne (tgt := 9) hx hb d_SF_firstOf_2 (by decide) (fun c_1 => ?_) (fun c_1 => ?_)
  · refine lv_aload_n hx hb d_SF_firstOf_9 rfl (lv_at hl 0 rfl) ?_
    refine va_get (D := D) (ci := 2) (v := .ref (q 5)) (C := R_SF) (T := F_SF) (N := 15) hx hb hts i_SF hown hK hP 0 rfl rfl 2 (by decide) (hts _ wd_112) (fun _ h9 => h9) rfl d_SF_firstOf_10 ?_
    refine lv_iload_n hx hb d_SF_firstOf_13 rfl (lv_at hl 1 rfl) ?_
    refine lv_iload_n hx hb d_SF_firstOf_14 rfl (lv_at hl 3 rfl) ?_
    refine lv_if_eq (tgt := 23) hx hb d_SF_firstOf_15 (by decide) (fun c_2 => ?_) (fun c_2 => ?_)
    · refine lv_iconst (v := 1) hx hb d_SF_firstOf_23 (by decide) ?_
      refine lv_iload_n hx hb d_SF_firstOf_24 rfl (lv_at hl 2 rfl) ?_
      refine lv_iadd hx hb d_SF_firstOf_25 ?_
      refine sf_callVr (S := Int32) (rest := []) ⟨hx, hb, hml, hown, hts⟩ (c_Bl_get l D cI cZ cJ (q 5) (q 6) 80 tb (nI 40) ta0 (1 + ro) (by omega)) (sf_cwV lk_SF_203 hts (fun _ h => h) (by rw [hR]; exact ⟨Nat.le_of_ble_eq_true rfl, Nat.le_of_ble_eq_true rfl⟩)) hK hP hD hS hA [5, 6] rfl rfl (fun _ => rfl) (ci := 0) (q0 := 0) rfl rfl rfl rfl rfl hl.1 (Nat.le_of_ble_eq_true rfl) d_SF_firstOf_26 ⟨Nat.zero_le _, Nat.zero_le _⟩ (fun u_3 H locs hu_3 hP hS => ?_)
      rw [hQ]
      exact sf_iret u_3 hx hb hr hlk hS rfl rfl (by simp only [f_SF_firstOf, ← hu_3, eq_false c_1, eq_true c_2, ↓reduceIte]) hP d_SF_firstOf_29
    · refine lv_bipush (v := 13) hx hb d_SF_firstOf_18 (by decide) ?_
      refine lv_goto (tgt := 24) hx hb d_SF_firstOf_20 (by decide) ?_
      refine lv_iload_n hx hb d_SF_firstOf_24 rfl (lv_at hl 2 rfl) ?_
      refine lv_iadd hx hb d_SF_firstOf_25 ?_
      refine sf_callVr (S := Int32) (rest := []) ⟨hx, hb, hml, hown, hts⟩ (c_Bl_get l D cI cZ cJ (q 5) (q 6) 80 tb (nI 40) ta0 (13 + ro) (by omega)) (sf_cwV lk_SF_203 hts (fun _ h => h) (by rw [hR]; exact ⟨Nat.le_of_ble_eq_true rfl, Nat.le_of_ble_eq_true rfl⟩)) hK hP hD hS hA [5, 6] rfl rfl (fun _ => rfl) (ci := 0) (q0 := 0) rfl rfl rfl rfl rfl hl.1 (Nat.le_of_ble_eq_true rfl) d_SF_firstOf_26 ⟨Nat.zero_le _, Nat.zero_le _⟩ (fun u_4 H locs hu_4 hP hS => ?_)
      rw [hQ]
      exact sf_iret u_4 hx hb hr hlk hS rfl rfl (by simp only [f_SF_firstOf, ← hu_4, eq_false c_1, eq_false c_2, ↓reduceIte]) hP d_SF_firstOf_29
  · refine lv_iconst (v := 0) hx hb d_SF_firstOf_5 (by decide) ?_
    refine lv_goto (tgt := 29) hx hb d_SF_firstOf_6 (by decide) ?_
    rw [hQ]
    exact sf_iret 0 hx hb hr hlk hS rfl rfl (by simp only [f_SF_firstOf, eq_true c_1, ↓reduceIte]) hP d_SF_firstOf_29
def f_SF_chainStart (tb : Nat → Int32) (ta0 : Int32) (ro : Int32) (sw : Int32) : Int32 :=
  if sw = 0 then
    if (f_SF_firstOf tb ta0 ro 1) = 0 then
      (f_SF_firstOf tb ta0 ro sw)
    else
      0
  else
    (f_SF_firstOf tb ta0 ro sw)
set_option maxHeartbeats 1000000 in
set_option maxRecDepth 100000 in
/-- chainStart -/
theorem c_SF_chainStart (l : Launch) (D : va_G) (cI cZ cJ : ClassId) (q : Nat → Nat) (fl : Nat → Int32) (sl : Nat → Int32) (tb : Nat → Int32) (np : Nat → Int32) (nt : Nat → Int32) (cp : Nat → Int32) (cc : Int32) (cb : Int32) (ch : Int32) (cm : Int32) (mp : Nat → Int32) (mc : Int32) (mb : Int32) (mh : Int32) (mm : Int32) (us : Nat → Int32) (ta : Nat → Int32) (tp : Nat → Int32) (tl : Int32) (cu : Int32) (bl : Int32) (pf : Int32) (sh : Int32) (ta0 : Int32) (ro : Int32) (sw : Int32) : sf_M (S := Int32) l D classes (sf_tys cI cZ cJ) y_SF_chainStart (sf_ws y_SF_chainStart b_SF_chainStart 4 (some .int)) 2 46 [.ref (q 0), .int ta0, .int ro, .int sw] (sf_w q cI cZ fl sl tb np nt cp cc cb ch cm mp mc mb mh mm us ta tp tl cu bl pf sh) (fun r => some (.int r)) (fun r => r = f_SF_chainStart tb ta0 ro sw) (fun r => (sf_w q cI cZ fl sl tb np nt cp cc cb ch cm mp mc mb mh mm us ta tp tl cu bl pf sh)) := by
  refine sf_ofW (S := Int32) (by decide) (Nat.le_of_ble_eq_true rfl) ?_
  intro p e s m below meth c A ls R args Q hR hArgs hQ hC0 hr hK hP hD hl
  obtain ⟨hx, hb, hml, hown, hts, hA, hlk⟩ := hC0
  have hS : va_S A s.heap s.heap [] := va_S.rf
  have hl : lv_has ls 4 [(0, .ref (q 0)), (1, .int ta0), (2, .int ro), (3, .int sw)] := hl
  refine lv_iload_n hx hb d_SF_chainStart_0 rfl (lv_at hl 3 rfl) ?_
  refine lv_if_ne (tgt := 18) hx hb d_SF_chainStart_1 (by decide) (fun c_1 => ?_) (fun c_1 => ?_)
  · refine lv_aload_n hx hb d_SF_chainStart_18 rfl (lv_at hl 0 rfl) ?_
    refine lv_iload_n hx hb d_SF_chainStart_19 rfl (lv_at hl 1 rfl) ?_
    refine lv_iload_n hx hb d_SF_chainStart_20 rfl (lv_at hl 2 rfl) ?_
    refine lv_iload_n hx hb d_SF_chainStart_21 rfl (lv_at hl 3 rfl) ?_
    refine sf_callVw (S := Int32) (rest := []) ⟨hx, hb, hml, hown, hts⟩ (c_SF_firstOf l D cI cZ cJ q fl sl tb np nt cp cc cb ch cm mp mc mb mh mm us ta tp tl cu bl pf sh ta0 ro sw) (sf_cwV lk_SF_224 hts (fun _ h => h) (by rw [hR]; exact ⟨Nat.le_of_ble_eq_true rfl, Nat.le_of_ble_eq_true rfl⟩)) hK hP hD hS hA (fun _ => by simp only [sf_w_fst]) (ci := 2) (q0 := 0) rfl rfl rfl rfl rfl hl.1 (Nat.le_of_ble_eq_true rfl) d_SF_chainStart_22 ⟨Nat.zero_le _, Nat.zero_le _⟩ (fun u_2 H locs hu_2 hP hD hS => ?_)
    have hP : va_P D classes (sf_w q cI cZ fl sl tb np nt cp cc cb ch cm mp mc mb mh mm us ta tp tl cu bl pf sh) H := hP
    have hD : va_D A (sf_w q cI cZ fl sl tb np nt cp cc cb ch cm mp mc mb mh mm us ta tp tl cu bl pf sh) := hD
    rw [hQ]
    exact sf_iret u_2 hx hb hr hlk hS rfl rfl (by simp only [f_SF_chainStart, ← hu_2, eq_false c_1, ↓reduceIte]) hP d_SF_chainStart_25
  · refine lv_aload_n hx hb d_SF_chainStart_4 rfl (lv_at hl 0 rfl) ?_
    refine lv_iload_n hx hb d_SF_chainStart_5 rfl (lv_at hl 1 rfl) ?_
    refine lv_iload_n hx hb d_SF_chainStart_6 rfl (lv_at hl 2 rfl) ?_
    refine lv_iconst (v := 1) hx hb d_SF_chainStart_7 (by decide) ?_
    refine sf_callVw (S := Int32) (rest := []) ⟨hx, hb, hml, hown, hts⟩ (c_SF_firstOf l D cI cZ cJ q fl sl tb np nt cp cc cb ch cm mp mc mb mh mm us ta tp tl cu bl pf sh ta0 ro 1) (sf_cwV lk_SF_224 hts (fun _ h => h) (by rw [hR]; exact ⟨Nat.le_of_ble_eq_true rfl, Nat.le_of_ble_eq_true rfl⟩)) hK hP hD hS hA (fun _ => by simp only [sf_w_fst]) (ci := 2) (q0 := 0) rfl rfl rfl rfl rfl hl.1 (Nat.le_of_ble_eq_true rfl) d_SF_chainStart_8 ⟨Nat.zero_le _, Nat.zero_le _⟩ (fun u_3 H locs hu_3 hP hD hS => ?_)
    have hP : va_P D classes (sf_w q cI cZ fl sl tb np nt cp cc cb ch cm mp mc mb mh mm us ta tp tl cu bl pf sh) H := hP
    have hD : va_D A (sf_w q cI cZ fl sl tb np nt cp cc cb ch cm mp mc mb mh mm us ta tp tl cu bl pf sh) := hD
    refine lv_if_eq (tgt := 18) hx hb d_SF_chainStart_11 (by decide) (fun c_4 => ?_) (fun c_4 => ?_)
    · refine lv_aload_n hx hb d_SF_chainStart_18 rfl (lv_at hl 0 rfl) ?_
      refine lv_iload_n hx hb d_SF_chainStart_19 rfl (lv_at hl 1 rfl) ?_
      refine lv_iload_n hx hb d_SF_chainStart_20 rfl (lv_at hl 2 rfl) ?_
      refine lv_iload_n hx hb d_SF_chainStart_21 rfl (lv_at hl 3 rfl) ?_
      refine sf_callVw (S := Int32) (rest := []) ⟨hx, hb, hml, hown, hts⟩ (c_SF_firstOf l D cI cZ cJ q fl sl tb np nt cp cc cb ch cm mp mc mb mh mm us ta tp tl cu bl pf sh ta0 ro sw) (sf_cwV lk_SF_224 hts (fun _ h => h) (by rw [hR]; exact ⟨Nat.le_of_ble_eq_true rfl, Nat.le_of_ble_eq_true rfl⟩)) hK hP hD hS hA (fun _ => by simp only [sf_w_fst]) (ci := 2) (q0 := 0) rfl rfl rfl rfl rfl hl.1 (Nat.le_of_ble_eq_true rfl) d_SF_chainStart_22 ⟨Nat.zero_le _, Nat.zero_le _⟩ (fun u_5 H locs hu_5 hP hD hS => ?_)
      have hP : va_P D classes (sf_w q cI cZ fl sl tb np nt cp cc cb ch cm mp mc mb mh mm us ta tp tl cu bl pf sh) H := hP
      have hD : va_D A (sf_w q cI cZ fl sl tb np nt cp cc cb ch cm mp mc mb mh mm us ta tp tl cu bl pf sh) := hD
      rw [hQ]
      exact sf_iret u_5 hx hb hr hlk hS rfl rfl (by simp only [f_SF_chainStart, ← hu_3, ← hu_5, eq_true c_1, eq_true c_4, ↓reduceIte]) hP d_SF_chainStart_25
    · refine lv_iconst (v := 0) hx hb d_SF_chainStart_14 (by decide) ?_
      refine lv_goto (tgt := 25) hx hb d_SF_chainStart_15 (by decide) ?_
      rw [hQ]
      exact sf_iret 0 hx hb hr hlk hS rfl rfl (by simp only [f_SF_chainStart, ← hu_3, eq_true c_1, eq_false c_4, ↓reduceIte]) hP d_SF_chainStart_25
def f_SF_isThere (tb : Nat → Int32) (ro : Int32) : Int32 :=
  if (f_SF_firstOf tb (f_SF_countingTable tb) ro 0) = 0 then
    if (f_SF_firstOf tb (f_SF_countingTable tb) ro 1) = 0 then
      0
    else
      1
  else
    1
set_option maxHeartbeats 1000000 in
set_option maxRecDepth 100000 in
/-- isThere -/
theorem c_SF_isThere (l : Launch) (D : va_G) (cI cZ cJ : ClassId) (q : Nat → Nat) (fl : Nat → Int32) (sl : Nat → Int32) (tb : Nat → Int32) (np : Nat → Int32) (nt : Nat → Int32) (cp : Nat → Int32) (cc : Int32) (cb : Int32) (ch : Int32) (cm : Int32) (mp : Nat → Int32) (mc : Int32) (mb : Int32) (mh : Int32) (mm : Int32) (us : Nat → Int32) (ta : Nat → Int32) (tp : Nat → Int32) (tl : Int32) (cu : Int32) (bl : Int32) (pf : Int32) (sh : Int32) (ro : Int32) : sf_M (S := Int32) l D classes (sf_tys cI cZ cJ) y_SF_isThere (sf_ws y_SF_isThere b_SF_isThere 3 (some .boolean)) 4 93 [.ref (q 0), .int ro] (sf_w q cI cZ fl sl tb np nt cp cc cb ch cm mp mc mb mh mm us ta tp tl cu bl pf sh) (fun r => some (.int r)) (fun r => r = f_SF_isThere tb ro) (fun r => (sf_w q cI cZ fl sl tb np nt cp cc cb ch cm mp mc mb mh mm us ta tp tl cu bl pf sh)) := by
  refine sf_ofW (S := Int32) (by decide) (Nat.le_of_ble_eq_true rfl) ?_
  intro p e s m below meth c A ls R args Q hR hArgs hQ hC0 hr hK hP hD hl
  obtain ⟨hx, hb, hml, hown, hts, hA, hlk⟩ := hC0
  have hS : va_S A s.heap s.heap [] := va_S.rf
  have hl : lv_has ls 3 [(0, .ref (q 0)), (1, .int ro)] := hl
  refine lv_aload_n hx hb d_SF_isThere_0 rfl (lv_at hl 0 rfl) ?_
  refine sf_callVw (S := Int32) (rest := []) ⟨hx, hb, hml, hown, hts⟩ (c_SF_countingTable l D cI cZ cJ q fl sl tb np nt cp cc cb ch cm mp mc mb mh mm us ta tp tl cu bl pf sh) (sf_cwV lk_SF_179 hts (fun _ h => h) (by rw [hR]; exact ⟨Nat.le_of_ble_eq_true rfl, Nat.le_of_ble_eq_true rfl⟩)) hK hP hD hS hA (fun _ => by simp only [sf_w_fst]) (ci := 2) (q0 := 0) rfl rfl rfl rfl rfl hl.1 (Nat.le_of_ble_eq_true rfl) d_SF_isThere_1 ⟨Nat.zero_le _, Nat.zero_le _⟩ (fun u_1 H locs hu_1 hP hD hS => ?_)
  have hP : va_P D classes (sf_w q cI cZ fl sl tb np nt cp cc cb ch cm mp mc mb mh mm us ta tp tl cu bl pf sh) H := hP
  have hD : va_D A (sf_w q cI cZ fl sl tb np nt cp cc cb ch cm mp mc mb mh mm us ta tp tl cu bl pf sh) := hD
  refine lv_istore_n (lv' := [(2, .int u_1), (0, .ref (q 0)), (1, .int ro)]) hx hb d_SF_isThere_4 rfl hl (by decide) rfl (fun ls hl => ?_)
  refine lv_aload_n hx hb d_SF_isThere_5 rfl (lv_at hl 1 rfl) ?_
  refine lv_iload_n hx hb d_SF_isThere_6 rfl (lv_at hl 0 rfl) ?_
  refine lv_iload_n hx hb d_SF_isThere_7 rfl (lv_at hl 2 rfl) ?_
  refine lv_iconst (v := 0) hx hb d_SF_isThere_8 (by decide) ?_
  refine sf_callVw (S := Int32) (rest := []) ⟨hx, hb, hml, hown, hts⟩ (c_SF_firstOf l D cI cZ cJ q fl sl tb np nt cp cc cb ch cm mp mc mb mh mm us ta tp tl cu bl pf sh u_1 ro 0) (sf_cwV lk_SF_224 hts (fun _ h => h) (by rw [hR]; exact ⟨Nat.le_of_ble_eq_true rfl, Nat.le_of_ble_eq_true rfl⟩)) hK hP hD hS hA (fun _ => by simp only [sf_w_fst]) (ci := 2) (q0 := 0) rfl rfl rfl rfl rfl hl.1 (Nat.le_of_ble_eq_true rfl) d_SF_isThere_9 ⟨Nat.zero_le _, Nat.zero_le _⟩ (fun u_2 H locs hu_2 hP hD hS => ?_)
  have hP : va_P D classes (sf_w q cI cZ fl sl tb np nt cp cc cb ch cm mp mc mb mh mm us ta tp tl cu bl pf sh) H := hP
  have hD : va_D A (sf_w q cI cZ fl sl tb np nt cp cc cb ch cm mp mc mb mh mm us ta tp tl cu bl pf sh) := hD
  refine lv_if_ne (tgt := 25) hx hb d_SF_isThere_12 (by decide) (fun c_3 => ?_) (fun c_3 => ?_)
  · refine lv_iconst (v := 1) hx hb d_SF_isThere_25 (by decide) ?_
    refine lv_goto (tgt := 30) hx hb d_SF_isThere_26 (by decide) ?_
    rw [hQ]
    exact sf_iret 1 hx hb hr hlk hS sf_b1 rfl (by simp only [f_SF_isThere, ← hu_1, ← hu_2, eq_false c_3, ↓reduceIte]) hP d_SF_isThere_30
  · refine lv_aload_n hx hb d_SF_isThere_15 rfl (lv_at hl 1 rfl) ?_
    refine lv_iload_n hx hb d_SF_isThere_16 rfl (lv_at hl 0 rfl) ?_
    refine lv_iload_n hx hb d_SF_isThere_17 rfl (lv_at hl 2 rfl) ?_
    refine lv_iconst (v := 1) hx hb d_SF_isThere_18 (by decide) ?_
    refine sf_callVw (S := Int32) (rest := []) ⟨hx, hb, hml, hown, hts⟩ (c_SF_firstOf l D cI cZ cJ q fl sl tb np nt cp cc cb ch cm mp mc mb mh mm us ta tp tl cu bl pf sh u_1 ro 1) (sf_cwV lk_SF_224 hts (fun _ h => h) (by rw [hR]; exact ⟨Nat.le_of_ble_eq_true rfl, Nat.le_of_ble_eq_true rfl⟩)) hK hP hD hS hA (fun _ => by simp only [sf_w_fst]) (ci := 2) (q0 := 0) rfl rfl rfl rfl rfl hl.1 (Nat.le_of_ble_eq_true rfl) d_SF_isThere_19 ⟨Nat.zero_le _, Nat.zero_le _⟩ (fun u_4 H locs hu_4 hP hD hS => ?_)
    have hP : va_P D classes (sf_w q cI cZ fl sl tb np nt cp cc cb ch cm mp mc mb mh mm us ta tp tl cu bl pf sh) H := hP
    have hD : va_D A (sf_w q cI cZ fl sl tb np nt cp cc cb ch cm mp mc mb mh mm us ta tp tl cu bl pf sh) := hD
    refine lv_if_eq (tgt := 29) hx hb d_SF_isThere_22 (by decide) (fun c_5 => ?_) (fun c_5 => ?_)
    · refine lv_iconst (v := 0) hx hb d_SF_isThere_29 (by decide) ?_
      rw [hQ]
      exact sf_iret 0 hx hb hr hlk hS sf_b0 rfl (by simp only [f_SF_isThere, ← hu_1, ← hu_2, ← hu_4, eq_true c_3, eq_true c_5, ↓reduceIte]) hP d_SF_isThere_30
    · refine lv_iconst (v := 1) hx hb d_SF_isThere_25 (by decide) ?_
      refine lv_goto (tgt := 30) hx hb d_SF_isThere_26 (by decide) ?_
      rw [hQ]
      exact sf_iret 1 hx hb hr hlk hS sf_b1 rfl (by simp only [f_SF_isThere, ← hu_1, ← hu_2, ← hu_4, eq_true c_3, eq_false c_5, ↓reduceIte]) hP d_SF_isThere_30
def f_SF_isSlow (tb : Nat → Int32) (ro : Int32) : Int32 :=
  if (f_SF_firstOf tb (f_SF_countingTable tb) ro 1) = 0 then
    0
  else
    1
set_option maxHeartbeats 1000000 in
set_option maxRecDepth 100000 in
/-- isSlow -/
theorem c_SF_isSlow (l : Launch) (D : va_G) (cI cZ cJ : ClassId) (q : Nat → Nat) (fl : Nat → Int32) (sl : Nat → Int32) (tb : Nat → Int32) (np : Nat → Int32) (nt : Nat → Int32) (cp : Nat → Int32) (cc : Int32) (cb : Int32) (ch : Int32) (cm : Int32) (mp : Nat → Int32) (mc : Int32) (mb : Int32) (mh : Int32) (mm : Int32) (us : Nat → Int32) (ta : Nat → Int32) (tp : Nat → Int32) (tl : Int32) (cu : Int32) (bl : Int32) (pf : Int32) (sh : Int32) (ro : Int32) : sf_M (S := Int32) l D classes (sf_tys cI cZ cJ) y_SF_isSlow (sf_ws y_SF_isSlow b_SF_isSlow 2 (some .boolean)) 4 93 [.ref (q 0), .int ro] (sf_w q cI cZ fl sl tb np nt cp cc cb ch cm mp mc mb mh mm us ta tp tl cu bl pf sh) (fun r => some (.int r)) (fun r => r = f_SF_isSlow tb ro) (fun r => (sf_w q cI cZ fl sl tb np nt cp cc cb ch cm mp mc mb mh mm us ta tp tl cu bl pf sh)) := by
  refine sf_ofW (S := Int32) (by decide) (Nat.le_of_ble_eq_true rfl) ?_
  intro p e s m below meth c A ls R args Q hR hArgs hQ hC0 hr hK hP hD hl
  obtain ⟨hx, hb, hml, hown, hts, hA, hlk⟩ := hC0
  have hS : va_S A s.heap s.heap [] := va_S.rf
  have hl : lv_has ls 2 [(0, .ref (q 0)), (1, .int ro)] := hl
  refine lv_aload_n hx hb d_SF_isSlow_0 rfl (lv_at hl 0 rfl) ?_
  refine lv_aload_n hx hb d_SF_isSlow_1 rfl (lv_at hl 0 rfl) ?_
  refine sf_callVw (S := Int32) (rest := [.ref (q 0)]) ⟨hx, hb, hml, hown, hts⟩ (c_SF_countingTable l D cI cZ cJ q fl sl tb np nt cp cc cb ch cm mp mc mb mh mm us ta tp tl cu bl pf sh) (sf_cwV lk_SF_179 hts (fun _ h => h) (by rw [hR]; exact ⟨Nat.le_of_ble_eq_true rfl, Nat.le_of_ble_eq_true rfl⟩)) hK hP hD hS hA (fun _ => by simp only [sf_w_fst]) (ci := 2) (q0 := 0) rfl rfl rfl rfl rfl hl.1 (Nat.le_of_ble_eq_true rfl) d_SF_isSlow_2 ⟨Nat.zero_le _, Nat.zero_le _⟩ (fun u_1 H locs hu_1 hP hD hS => ?_)
  have hP : va_P D classes (sf_w q cI cZ fl sl tb np nt cp cc cb ch cm mp mc mb mh mm us ta tp tl cu bl pf sh) H := hP
  have hD : va_D A (sf_w q cI cZ fl sl tb np nt cp cc cb ch cm mp mc mb mh mm us ta tp tl cu bl pf sh) := hD
  refine lv_iload_n hx hb d_SF_isSlow_5 rfl (lv_at hl 1 rfl) ?_
  refine lv_iconst (v := 1) hx hb d_SF_isSlow_6 (by decide) ?_
  refine sf_callVw (S := Int32) (rest := []) ⟨hx, hb, hml, hown, hts⟩ (c_SF_firstOf l D cI cZ cJ q fl sl tb np nt cp cc cb ch cm mp mc mb mh mm us ta tp tl cu bl pf sh u_1 ro 1) (sf_cwV lk_SF_224 hts (fun _ h => h) (by rw [hR]; exact ⟨Nat.le_of_ble_eq_true rfl, Nat.le_of_ble_eq_true rfl⟩)) hK hP hD hS hA (fun _ => by simp only [sf_w_fst]) (ci := 2) (q0 := 0) rfl rfl rfl rfl rfl hl.1 (Nat.le_of_ble_eq_true rfl) d_SF_isSlow_7 ⟨Nat.zero_le _, Nat.zero_le _⟩ (fun u_2 H locs hu_2 hP hD hS => ?_)
  have hP : va_P D classes (sf_w q cI cZ fl sl tb np nt cp cc cb ch cm mp mc mb mh mm us ta tp tl cu bl pf sh) H := hP
  have hD : va_D A (sf_w q cI cZ fl sl tb np nt cp cc cb ch cm mp mc mb mh mm us ta tp tl cu bl pf sh) := hD
  refine lv_if_eq (tgt := 17) hx hb d_SF_isSlow_10 (by decide) (fun c_3 => ?_) (fun c_3 => ?_)
  · refine lv_iconst (v := 0) hx hb d_SF_isSlow_17 (by decide) ?_
    rw [hQ]
    exact sf_iret 0 hx hb hr hlk hS sf_b0 rfl (by simp only [f_SF_isSlow, ← hu_1, ← hu_2, eq_true c_3, ↓reduceIte]) hP d_SF_isSlow_18
  · refine lv_iconst (v := 1) hx hb d_SF_isSlow_13 (by decide) ?_
    refine lv_goto (tgt := 18) hx hb d_SF_isSlow_14 (by decide) ?_
    rw [hQ]
    exact sf_iret 1 hx hb hr hlk hS sf_b1 rfl (by simp only [f_SF_isSlow, ← hu_1, ← hu_2, eq_false c_3, ↓reduceIte]) hP d_SF_isSlow_18
set_option maxHeartbeats 1000000 in
set_option maxRecDepth 100000 in
/-- placesOf -/
theorem c_SF_placesOf_0 (l : Launch) (D : va_G) (cI cZ cJ : ClassId) (q : Nat → Nat) (fl : Nat → Int32) (sl : Nat → Int32) (tb : Nat → Int32) (np : Nat → Int32) (nt : Nat → Int32) (cp : Nat → Int32) (cc : Int32) (cb : Int32) (ch : Int32) (cm : Int32) (mp : Nat → Int32) (mc : Int32) (mb : Int32) (mh : Int32) (mm : Int32) (us : Nat → Int32) (ta : Nat → Int32) (tp : Nat → Int32) (tl : Int32) (cu : Int32) (bl : Int32) (pf : Int32) (sh : Int32) : sf_M (S := Unit) l D classes (sf_tys cI cZ cJ) y_SF_placesOf (sf_ws y_SF_placesOf b_SF_placesOf 2 (some (.object "ShadowFiles$Blocks"))) 0 0 [.ref (q 0), .int 0] (sf_w q cI cZ fl sl tb np nt cp cc cb ch cm mp mc mb mh mm us ta tp tl cu bl pf sh) (fun _ => some (.ref (q 1))) (fun _ => True) (fun _ => (sf_w q cI cZ fl sl tb np nt cp cc cb ch cm mp mc mb mh mm us ta tp tl cu bl pf sh)) := by
  refine sf_ofW (S := Unit) (by decide) (Nat.le_of_ble_eq_true rfl) ?_
  intro p e s m below meth c A ls R args Q hR hArgs hQ hC0 hr hK hP hD hl
  obtain ⟨hx, hb, hml, hown, hts, hA, hlk⟩ := hC0
  have hS : va_S A s.heap s.heap [] := va_S.rf
  have hl : lv_has ls 2 [(0, .ref (q 0)), (1, .int 0)] := hl
  refine lv_iload_n hx hb d_SF_placesOf_0 rfl (lv_at hl 1 rfl) ?_
  refine lv_if_eq (tgt := 11) hx hb d_SF_placesOf_1 (by decide) (fun c_1 => ?_) (fun c_1 => absurd (by decide) c_1)
  refine lv_aload_n hx hb d_SF_placesOf_11 rfl (lv_at hl 0 rfl) ?_
  refine va_get (D := D) (ci := 2) (v := .ref (q 1)) (C := R_SF) (T := F_SF) (N := 15) hx hb hts i_SF hown hK hP 0 rfl rfl 0 (by decide) (hts _ wd_110) (fun _ h9 => h9) rfl d_SF_placesOf_12 ?_
  rw [hQ]
  exact sf_aret () hx hb hr hlk hS rfl trivial hP d_SF_placesOf_15
set_option maxHeartbeats 1000000 in
set_option maxRecDepth 100000 in
/-- placesOf -/
theorem c_SF_placesOf_1 (l : Launch) (D : va_G) (cI cZ cJ : ClassId) (q : Nat → Nat) (fl : Nat → Int32) (sl : Nat → Int32) (tb : Nat → Int32) (np : Nat → Int32) (nt : Nat → Int32) (cp : Nat → Int32) (cc : Int32) (cb : Int32) (ch : Int32) (cm : Int32) (mp : Nat → Int32) (mc : Int32) (mb : Int32) (mh : Int32) (mm : Int32) (us : Nat → Int32) (ta : Nat → Int32) (tp : Nat → Int32) (tl : Int32) (cu : Int32) (bl : Int32) (pf : Int32) (sh : Int32) : sf_M (S := Unit) l D classes (sf_tys cI cZ cJ) y_SF_placesOf (sf_ws y_SF_placesOf b_SF_placesOf 2 (some (.object "ShadowFiles$Blocks"))) 0 0 [.ref (q 0), .int 1] (sf_w q cI cZ fl sl tb np nt cp cc cb ch cm mp mc mb mh mm us ta tp tl cu bl pf sh) (fun _ => some (.ref (q 3))) (fun _ => True) (fun _ => (sf_w q cI cZ fl sl tb np nt cp cc cb ch cm mp mc mb mh mm us ta tp tl cu bl pf sh)) := by
  refine sf_ofW (S := Unit) (by decide) (Nat.le_of_ble_eq_true rfl) ?_
  intro p e s m below meth c A ls R args Q hR hArgs hQ hC0 hr hK hP hD hl
  obtain ⟨hx, hb, hml, hown, hts, hA, hlk⟩ := hC0
  have hS : va_S A s.heap s.heap [] := va_S.rf
  have hl : lv_has ls 2 [(0, .ref (q 0)), (1, .int 1)] := hl
  refine lv_iload_n hx hb d_SF_placesOf_0 rfl (lv_at hl 1 rfl) ?_
  refine lv_if_eq (tgt := 11) hx hb d_SF_placesOf_1 (by decide) (fun c_1 => absurd c_1 (by decide)) (fun c_1 => ?_)
  refine lv_aload_n hx hb d_SF_placesOf_4 rfl (lv_at hl 0 rfl) ?_
  refine va_get (D := D) (ci := 2) (v := .ref (q 3)) (C := R_SF) (T := F_SF) (N := 15) hx hb hts i_SF hown hK hP 0 rfl rfl 1 (by decide) (hts _ wd_111) (fun _ h9 => h9) rfl d_SF_placesOf_5 ?_
  refine lv_goto (tgt := 15) hx hb d_SF_placesOf_8 (by decide) ?_
  rw [hQ]
  exact sf_aret () hx hb hr hlk hS rfl trivial hP d_SF_placesOf_15
def f_SF_followRow (fl : Nat → Int32) (sl : Nat → Int32) (tb : Nat → Int32) (cp : Nat → Int32) (ro : Int32) : ((Nat → Int32) × Int32 × Int32 × Int32 × Int32) :=
  if (f_SF_firstOf tb (f_SF_countingTable tb) ro 1) = 0 then
    ((f_Ch_follow cp 768 fl 28 ((f_SF_firstOf tb (f_SF_countingTable tb) ro 0) - 1)).1, (f_Ch_follow cp 768 fl 28 ((f_SF_firstOf tb (f_SF_countingTable tb) ro 0) - 1)).2.1, (f_Ch_follow cp 768 fl 28 ((f_SF_firstOf tb (f_SF_countingTable tb) ro 0) - 1)).2.2.1, (f_Ch_follow cp 768 fl 28 ((f_SF_firstOf tb (f_SF_countingTable tb) ro 0) - 1)).2.2.2.1, (f_Ch_follow cp 768 fl 28 ((f_SF_firstOf tb (f_SF_countingTable tb) ro 0) - 1)).2.2.2.2)
  else
    ((f_Ch_follow cp 512 sl 28 ((f_SF_firstOf tb (f_SF_countingTable tb) ro 1) - 1)).1, (f_Ch_follow cp 512 sl 28 ((f_SF_firstOf tb (f_SF_countingTable tb) ro 1) - 1)).2.1, (f_Ch_follow cp 512 sl 28 ((f_SF_firstOf tb (f_SF_countingTable tb) ro 1) - 1)).2.2.1, (f_Ch_follow cp 512 sl 28 ((f_SF_firstOf tb (f_SF_countingTable tb) ro 1) - 1)).2.2.2.1, (f_Ch_follow cp 512 sl 28 ((f_SF_firstOf tb (f_SF_countingTable tb) ro 1) - 1)).2.2.2.2)
set_option maxHeartbeats 1000000 in
set_option maxRecDepth 100000 in
/-- followRow -/
theorem c_SF_followRow (l : Launch) (D : va_G) (cI cZ cJ : ClassId) (q : Nat → Nat) (fl : Nat → Int32) (sl : Nat → Int32) (tb : Nat → Int32) (np : Nat → Int32) (nt : Nat → Int32) (cp : Nat → Int32) (cc : Int32) (cb : Int32) (ch : Int32) (cm : Int32) (mp : Nat → Int32) (mc : Int32) (mb : Int32) (mh : Int32) (mm : Int32) (us : Nat → Int32) (ta : Nat → Int32) (tp : Nat → Int32) (tl : Int32) (cu : Int32) (bl : Int32) (pf : Int32) (sh : Int32) (ro : Int32) : sf_M (S := ((Nat → Int32) × Int32 × Int32 × Int32 × Int32)) l D classes (sf_tys cI cZ cJ) y_SF_followRow (sf_ws y_SF_followRow b_SF_followRow 4 none) 4 97 [.ref (q 0), .int ro] (sf_w q cI cZ fl sl tb np nt cp cc cb ch cm mp mc mb mh mm us ta tp tl cu bl pf sh) (fun _ => none) (fun r => r = f_SF_followRow fl sl tb cp ro) (fun r => (sf_w q cI cZ fl sl tb np nt r.1 r.2.1 r.2.2.1 r.2.2.2.1 r.2.2.2.2 mp mc mb mh mm us ta tp tl cu bl pf sh)) := by
  refine sf_ofW (S := ((Nat → Int32) × Int32 × Int32 × Int32 × Int32)) (by decide) (Nat.le_of_ble_eq_true rfl) ?_
  intro p e s m below meth c A ls R args Q hR hArgs hQ hC0 hr hK hP hD hl
  obtain ⟨hx, hb, hml, hown, hts, hA, hlk⟩ := hC0
  have hS : va_S A s.heap s.heap [] := va_S.rf
  have hl : lv_has ls 4 [(0, .ref (q 0)), (1, .int ro)] := hl
  refine lv_aload_n hx hb d_SF_followRow_0 rfl (lv_at hl 0 rfl) ?_
  refine sf_callVw (S := Int32) (rest := []) ⟨hx, hb, hml, hown, hts⟩ (c_SF_countingTable l D cI cZ cJ q fl sl tb np nt cp cc cb ch cm mp mc mb mh mm us ta tp tl cu bl pf sh) (sf_cwV lk_SF_179 hts (fun _ h => h) (by rw [hR]; exact ⟨Nat.le_of_ble_eq_true rfl, Nat.le_of_ble_eq_true rfl⟩)) hK hP hD hS hA (fun _ => by simp only [sf_w_fst]) (ci := 2) (q0 := 0) rfl rfl rfl rfl rfl hl.1 (Nat.le_of_ble_eq_true rfl) d_SF_followRow_1 ⟨Nat.zero_le _, Nat.zero_le _⟩ (fun u_1 H locs hu_1 hP hD hS => ?_)
  have hP : va_P D classes (sf_w q cI cZ fl sl tb np nt cp cc cb ch cm mp mc mb mh mm us ta tp tl cu bl pf sh) H := hP
  have hD : va_D A (sf_w q cI cZ fl sl tb np nt cp cc cb ch cm mp mc mb mh mm us ta tp tl cu bl pf sh) := hD
  refine lv_istore_n (lv' := [(2, .int u_1), (0, .ref (q 0)), (1, .int ro)]) hx hb d_SF_followRow_4 rfl hl (by decide) rfl (fun ls hl => ?_)
  refine lv_aload_n hx hb d_SF_followRow_5 rfl (lv_at hl 1 rfl) ?_
  refine lv_iload_n hx hb d_SF_followRow_6 rfl (lv_at hl 0 rfl) ?_
  refine lv_iload_n hx hb d_SF_followRow_7 rfl (lv_at hl 2 rfl) ?_
  refine lv_iconst (v := 1) hx hb d_SF_followRow_8 (by decide) ?_
  refine sf_callVw (S := Int32) (rest := []) ⟨hx, hb, hml, hown, hts⟩ (c_SF_firstOf l D cI cZ cJ q fl sl tb np nt cp cc cb ch cm mp mc mb mh mm us ta tp tl cu bl pf sh u_1 ro 1) (sf_cwV lk_SF_224 hts (fun _ h => h) (by rw [hR]; exact ⟨Nat.le_of_ble_eq_true rfl, Nat.le_of_ble_eq_true rfl⟩)) hK hP hD hS hA (fun _ => by simp only [sf_w_fst]) (ci := 2) (q0 := 0) rfl rfl rfl rfl rfl hl.1 (Nat.le_of_ble_eq_true rfl) d_SF_followRow_9 ⟨Nat.zero_le _, Nat.zero_le _⟩ (fun u_2 H locs hu_2 hP hD hS => ?_)
  have hP : va_P D classes (sf_w q cI cZ fl sl tb np nt cp cc cb ch cm mp mc mb mh mm us ta tp tl cu bl pf sh) H := hP
  have hD : va_D A (sf_w q cI cZ fl sl tb np nt cp cc cb ch cm mp mc mb mh mm us ta tp tl cu bl pf sh) := hD
  refine lv_if_eq (tgt := 19) hx hb d_SF_followRow_12 (by decide) (fun c_3 => ?_) (fun c_3 => ?_)
  · refine lv_iconst (v := 0) hx hb d_SF_followRow_19 (by decide) ?_
    refine lv_istore_n (lv' := [(3, .int 0), (2, .int u_1), (0, .ref (q 0)), (1, .int ro)]) hx hb d_SF_followRow_20 rfl hl (by decide) rfl (fun ls hl => ?_)
    refine lv_aload_n hx hb d_SF_followRow_21 rfl (lv_at hl 2 rfl) ?_
    refine va_get (D := D) (ci := 2) (v := .ref (q 11)) (C := R_SF) (T := F_SF) (N := 15) hx hb hts i_SF hown hK hP 0 rfl rfl 5 (by decide) (hts _ wd_115) (fun _ h9 => h9) rfl d_SF_followRow_22 ?_
    refine lv_aload_n hx hb d_SF_followRow_25 rfl (lv_at hl 2 rfl) ?_
    refine lv_iload_n hx hb d_SF_followRow_26 rfl (lv_at hl 0 rfl) ?_
    refine sf_callVw (S := Unit) (rest := [.ref (q 11)]) ⟨hx, hb, hml, hown, hts⟩ (c_SF_placesOf_0 l D cI cZ cJ q fl sl tb np nt cp cc cb ch cm mp mc mb mh mm us ta tp tl cu bl pf sh) (sf_cwV lk_SF_160 hts (fun _ h => h) (by rw [hR]; exact ⟨Nat.le_of_ble_eq_true rfl, Nat.le_of_ble_eq_true rfl⟩)) hK hP hD hS hA (fun _ => by simp only [sf_w_fst]) (ci := 2) (q0 := 0) rfl rfl rfl rfl rfl hl.1 (Nat.le_of_ble_eq_true rfl) d_SF_followRow_27 ⟨Nat.zero_le _, Nat.zero_le _⟩ (fun u H locs hu hP hD hS => ?_)
    have hP : va_P D classes (sf_w q cI cZ fl sl tb np nt cp cc cb ch cm mp mc mb mh mm us ta tp tl cu bl pf sh) H := hP
    have hD : va_D A (sf_w q cI cZ fl sl tb np nt cp cc cb ch cm mp mc mb mh mm us ta tp tl cu bl pf sh) := hD
    refine lv_aload_n hx hb d_SF_followRow_30 rfl (lv_at hl 2 rfl) ?_
    refine lv_iload_n hx hb d_SF_followRow_31 rfl (lv_at hl 1 rfl) ?_
    refine lv_iload_n hx hb d_SF_followRow_32 rfl (lv_at hl 3 rfl) ?_
    refine lv_iload_n hx hb d_SF_followRow_33 rfl (lv_at hl 0 rfl) ?_
    refine sf_callVw (S := Int32) (rest := [.ref (q 1), .ref (q 11)]) ⟨hx, hb, hml, hown, hts⟩ (c_SF_firstOf l D cI cZ cJ q fl sl tb np nt cp cc cb ch cm mp mc mb mh mm us ta tp tl cu bl pf sh u_1 ro 0) (sf_cwV lk_SF_224 hts (fun _ h => h) (by rw [hR]; exact ⟨Nat.le_of_ble_eq_true rfl, Nat.le_of_ble_eq_true rfl⟩)) hK hP hD hS hA (fun _ => by simp only [sf_w_fst]) (ci := 2) (q0 := 0) rfl rfl rfl rfl rfl hl.1 (Nat.le_of_ble_eq_true rfl) d_SF_followRow_34 ⟨Nat.zero_le _, Nat.zero_le _⟩ (fun u_4 H locs hu_4 hP hD hS => ?_)
    have hP : va_P D classes (sf_w q cI cZ fl sl tb np nt cp cc cb ch cm mp mc mb mh mm us ta tp tl cu bl pf sh) H := hP
    have hD : va_D A (sf_w q cI cZ fl sl tb np nt cp cc cb ch cm mp mc mb mh mm us ta tp tl cu bl pf sh) := hD
    refine lv_iconst (v := 1) hx hb d_SF_followRow_37 (by decide) ?_
    refine lv_isub hx hb d_SF_followRow_38 ?_
    refine sf_callV (S := ((Nat → Int32) × Int32 × Int32 × Int32 × Int32)) (rest := []) ⟨hx, hb, hml, hown, hts⟩ (c_Ch_follow l D cI cZ cJ (q 11) (q 12) cp cc cb ch cm (q 1) (q 2) 768 fl 28 (u_4 - 1) (by omega) (by omega)) (sf_cwV lk_SF_228 hts (fun _ h => h) (by rw [hR]; exact ⟨Nat.le_of_ble_eq_true rfl, Nat.le_of_ble_eq_true rfl⟩)) hK hP hD hS hA [11, 12, 1, 2] rfl rfl (fun _ => rfl) (ci := 1) (q0 := 0) rfl rfl rfl rfl rfl hl.1 (Nat.le_of_ble_eq_true rfl) d_SF_followRow_39 ⟨Nat.zero_le _, Nat.zero_le _⟩ (fun u_5 H locs hu_5 hP hD hS => ?_)
    have hP : va_P D classes (sf_w q cI cZ fl sl tb np nt u_5.1 u_5.2.1 u_5.2.2.1 u_5.2.2.2.1 u_5.2.2.2.2 mp mc mb mh mm us ta tp tl cu bl pf sh) H := hP
    have hD : va_D A (sf_w q cI cZ fl sl tb np nt u_5.1 u_5.2.1 u_5.2.2.1 u_5.2.2.2.1 u_5.2.2.2.2 mp mc mb mh mm us ta tp tl cu bl pf sh) := hD
    rw [hQ]
    exact sf_vret (u_5.1, u_5.2.1, u_5.2.2.1, u_5.2.2.2.1, u_5.2.2.2.2) hx hb hr hlk hS rfl (by simp only [f_SF_followRow, ← hu_1, ← hu_2, ← hu_4, ← hu_5, eq_true c_3, ↓reduceIte]) hP d_SF_followRow_42
  · refine lv_iconst (v := 1) hx hb d_SF_followRow_15 (by decide) ?_
    refine lv_goto (tgt := 20) hx hb d_SF_followRow_16 (by decide) ?_
    refine lv_istore_n (lv' := [(3, .int 1), (2, .int u_1), (0, .ref (q 0)), (1, .int ro)]) hx hb d_SF_followRow_20 rfl hl (by decide) rfl (fun ls hl => ?_)
    refine lv_aload_n hx hb d_SF_followRow_21 rfl (lv_at hl 2 rfl) ?_
    refine va_get (D := D) (ci := 2) (v := .ref (q 11)) (C := R_SF) (T := F_SF) (N := 15) hx hb hts i_SF hown hK hP 0 rfl rfl 5 (by decide) (hts _ wd_115) (fun _ h9 => h9) rfl d_SF_followRow_22 ?_
    refine lv_aload_n hx hb d_SF_followRow_25 rfl (lv_at hl 2 rfl) ?_
    refine lv_iload_n hx hb d_SF_followRow_26 rfl (lv_at hl 0 rfl) ?_
    refine sf_callVw (S := Unit) (rest := [.ref (q 11)]) ⟨hx, hb, hml, hown, hts⟩ (c_SF_placesOf_1 l D cI cZ cJ q fl sl tb np nt cp cc cb ch cm mp mc mb mh mm us ta tp tl cu bl pf sh) (sf_cwV lk_SF_160 hts (fun _ h => h) (by rw [hR]; exact ⟨Nat.le_of_ble_eq_true rfl, Nat.le_of_ble_eq_true rfl⟩)) hK hP hD hS hA (fun _ => by simp only [sf_w_fst]) (ci := 2) (q0 := 0) rfl rfl rfl rfl rfl hl.1 (Nat.le_of_ble_eq_true rfl) d_SF_followRow_27 ⟨Nat.zero_le _, Nat.zero_le _⟩ (fun u H locs hu hP hD hS => ?_)
    have hP : va_P D classes (sf_w q cI cZ fl sl tb np nt cp cc cb ch cm mp mc mb mh mm us ta tp tl cu bl pf sh) H := hP
    have hD : va_D A (sf_w q cI cZ fl sl tb np nt cp cc cb ch cm mp mc mb mh mm us ta tp tl cu bl pf sh) := hD
    refine lv_aload_n hx hb d_SF_followRow_30 rfl (lv_at hl 2 rfl) ?_
    refine lv_iload_n hx hb d_SF_followRow_31 rfl (lv_at hl 1 rfl) ?_
    refine lv_iload_n hx hb d_SF_followRow_32 rfl (lv_at hl 3 rfl) ?_
    refine lv_iload_n hx hb d_SF_followRow_33 rfl (lv_at hl 0 rfl) ?_
    refine sf_callVw (S := Int32) (rest := [.ref (q 3), .ref (q 11)]) ⟨hx, hb, hml, hown, hts⟩ (c_SF_firstOf l D cI cZ cJ q fl sl tb np nt cp cc cb ch cm mp mc mb mh mm us ta tp tl cu bl pf sh u_1 ro 1) (sf_cwV lk_SF_224 hts (fun _ h => h) (by rw [hR]; exact ⟨Nat.le_of_ble_eq_true rfl, Nat.le_of_ble_eq_true rfl⟩)) hK hP hD hS hA (fun _ => by simp only [sf_w_fst]) (ci := 2) (q0 := 0) rfl rfl rfl rfl rfl hl.1 (Nat.le_of_ble_eq_true rfl) d_SF_followRow_34 ⟨Nat.zero_le _, Nat.zero_le _⟩ (fun u_6 H locs hu_6 hP hD hS => ?_)
    rw [show u_6 = u_2 from hu_6.trans hu_2.symm]
    have hP : va_P D classes (sf_w q cI cZ fl sl tb np nt cp cc cb ch cm mp mc mb mh mm us ta tp tl cu bl pf sh) H := hP
    have hD : va_D A (sf_w q cI cZ fl sl tb np nt cp cc cb ch cm mp mc mb mh mm us ta tp tl cu bl pf sh) := hD
    refine lv_iconst (v := 1) hx hb d_SF_followRow_37 (by decide) ?_
    refine lv_isub hx hb d_SF_followRow_38 ?_
    refine sf_callV (S := ((Nat → Int32) × Int32 × Int32 × Int32 × Int32)) (rest := []) ⟨hx, hb, hml, hown, hts⟩ (c_Ch_follow l D cI cZ cJ (q 11) (q 12) cp cc cb ch cm (q 3) (q 4) 512 sl 28 (u_2 - 1) (by omega) (by omega)) (sf_cwV lk_SF_228 hts (fun _ h => h) (by rw [hR]; exact ⟨Nat.le_of_ble_eq_true rfl, Nat.le_of_ble_eq_true rfl⟩)) hK hP hD hS hA [11, 12, 3, 4] rfl rfl (fun _ => rfl) (ci := 1) (q0 := 0) rfl rfl rfl rfl rfl hl.1 (Nat.le_of_ble_eq_true rfl) d_SF_followRow_39 ⟨Nat.zero_le _, Nat.zero_le _⟩ (fun u_7 H locs hu_7 hP hD hS => ?_)
    have hP : va_P D classes (sf_w q cI cZ fl sl tb np nt u_7.1 u_7.2.1 u_7.2.2.1 u_7.2.2.2.1 u_7.2.2.2.2 mp mc mb mh mm us ta tp tl cu bl pf sh) H := hP
    have hD : va_D A (sf_w q cI cZ fl sl tb np nt u_7.1 u_7.2.1 u_7.2.2.1 u_7.2.2.2.1 u_7.2.2.2.2 mp mc mb mh mm us ta tp tl cu bl pf sh) := hD
    rw [hQ]
    exact sf_vret (u_7.1, u_7.2.1, u_7.2.2.1, u_7.2.2.2.1, u_7.2.2.2.2) hx hb hr hlk hS rfl (by simp only [f_SF_followRow, ← hu_1, ← hu_2, ← hu_7, eq_false c_3, ↓reduceIte]) hP d_SF_followRow_42
def f_SF_takenAt (ta : Nat → Int32) (i : Int32) : Int32 :=
  if i < 0 then
    (-1)
  else
    if 3 ≤ i then
      (-1)
    else
      (ta i.toNatClampNeg)
set_option maxHeartbeats 1000000 in
set_option maxRecDepth 100000 in
/-- takenAt -/
theorem c_SF_takenAt (l : Launch) (D : va_G) (cI cZ cJ : ClassId) (q : Nat → Nat) (fl : Nat → Int32) (sl : Nat → Int32) (tb : Nat → Int32) (np : Nat → Int32) (nt : Nat → Int32) (cp : Nat → Int32) (cc : Int32) (cb : Int32) (ch : Int32) (cm : Int32) (mp : Nat → Int32) (mc : Int32) (mb : Int32) (mh : Int32) (mm : Int32) (us : Nat → Int32) (ta : Nat → Int32) (tp : Nat → Int32) (tl : Int32) (cu : Int32) (bl : Int32) (pf : Int32) (sh : Int32) (i : Int32) : sf_M (S := Int32) l D classes (sf_tys cI cZ cJ) y_SF_takenAt (sf_ws y_SF_takenAt b_SF_takenAt 2 (some .int)) 0 0 [.ref (q 0), .int i] (sf_w q cI cZ fl sl tb np nt cp cc cb ch cm mp mc mb mh mm us ta tp tl cu bl pf sh) (fun r => some (.int r)) (fun r => r = f_SF_takenAt ta i) (fun r => (sf_w q cI cZ fl sl tb np nt cp cc cb ch cm mp mc mb mh mm us ta tp tl cu bl pf sh)) := by
  refine sf_ofW (S := Int32) (by decide) (Nat.le_of_ble_eq_true rfl) ?_
  intro p e s m below meth c A ls R args Q hR hArgs hQ hC0 hr hK hP hD hl
  obtain ⟨hx, hb, hml, hown, hts, hA, hlk⟩ := hC0
  have hS : va_S A s.heap s.heap [] := va_S.rf
  have hl : lv_has ls 2 [(0, .ref (q 0)), (1, .int i)] := hl
  refine lv_iload_n hx hb d_SF_takenAt_0 rfl (lv_at hl 1 rfl) ?_
  refine lv_if_lt (tgt := 18) hx hb d_SF_takenAt_1 (by decide) (fun c_1 => ?_) (fun c_1 => ?_)
  · refine lv_iconst (v := (-1)) hx hb d_SF_takenAt_18 (by decide) ?_
    rw [hQ]
    exact sf_iret (-1) hx hb hr hlk hS rfl rfl (by simp only [f_SF_takenAt, eq_true c_1, ↓reduceIte]) hP d_SF_takenAt_19
  · refine lv_iload_n hx hb d_SF_takenAt_4 rfl (lv_at hl 1 rfl) ?_
    refine lv_iconst (v := 3) hx hb d_SF_takenAt_5 (by decide) ?_
    refine lv_icmp_ge (tgt := 18) hx hb d_SF_takenAt_6 (by decide) (fun c_2 => ?_) (fun c_2 => ?_)
    · refine lv_iconst (v := (-1)) hx hb d_SF_takenAt_18 (by decide) ?_
      rw [hQ]
      exact sf_iret (-1) hx hb hr hlk hS rfl rfl (by simp only [f_SF_takenAt, eq_false c_1, eq_true c_2, ↓reduceIte]) hP d_SF_takenAt_19
    · refine lv_aload_n hx hb d_SF_takenAt_9 rfl (lv_at hl 0 rfl) ?_
      refine va_get (D := D) (ci := 2) (v := .ref (q 16)) (C := R_SF) (T := F_SF) (N := 15) hx hb hts i_SF hown hK hP 0 rfl rfl 8 (by decide) (hts _ wd_118) (fun _ h9 => h9) rfl d_SF_takenAt_10 ?_
      refine lv_iload_n hx hb d_SF_takenAt_13 rfl (lv_at hl 1 rfl) ?_
      refine va_iald hx hb hK hP 16 0 rfl rfl (sf_in (n := 3) c_1 c_2 (by omega)) d_SF_takenAt_14 ?_
      refine lv_goto (tgt := 19) hx hb d_SF_takenAt_15 (by decide) ?_
      rw [hQ]
      exact sf_iret (ta i.toNatClampNeg) hx hb hr hlk hS rfl rfl (by simp only [f_SF_takenAt, eq_false c_1, eq_false c_2, ↓reduceIte]) hP d_SF_takenAt_19
def f_SF_tapeAt (tp : Nat → Int32) (tl : Int32) (i : Int32) : Int32 :=
  if i < 0 then
    0
  else
    if tl ≤ i then
      0
    else
      if 60 ≤ i then
        0
      else
        (tp i.toNatClampNeg)
set_option maxHeartbeats 1000000 in
set_option maxRecDepth 100000 in
/-- tapeAt -/
theorem c_SF_tapeAt (l : Launch) (D : va_G) (cI cZ cJ : ClassId) (q : Nat → Nat) (fl : Nat → Int32) (sl : Nat → Int32) (tb : Nat → Int32) (np : Nat → Int32) (nt : Nat → Int32) (cp : Nat → Int32) (cc : Int32) (cb : Int32) (ch : Int32) (cm : Int32) (mp : Nat → Int32) (mc : Int32) (mb : Int32) (mh : Int32) (mm : Int32) (us : Nat → Int32) (ta : Nat → Int32) (tp : Nat → Int32) (tl : Int32) (cu : Int32) (bl : Int32) (pf : Int32) (sh : Int32) (i : Int32) : sf_M (S := Int32) l D classes (sf_tys cI cZ cJ) y_SF_tapeAt (sf_ws y_SF_tapeAt b_SF_tapeAt 2 (some .int)) 0 0 [.ref (q 0), .int i] (sf_w q cI cZ fl sl tb np nt cp cc cb ch cm mp mc mb mh mm us ta tp tl cu bl pf sh) (fun r => some (.int r)) (fun r => r = f_SF_tapeAt tp tl i) (fun r => (sf_w q cI cZ fl sl tb np nt cp cc cb ch cm mp mc mb mh mm us ta tp tl cu bl pf sh)) := by
  refine sf_ofW (S := Int32) (by decide) (Nat.le_of_ble_eq_true rfl) ?_
  intro p e s m below meth c A ls R args Q hR hArgs hQ hC0 hr hK hP hD hl
  obtain ⟨hx, hb, hml, hown, hts, hA, hlk⟩ := hC0
  have hS : va_S A s.heap s.heap [] := va_S.rf
  have hl : lv_has ls 2 [(0, .ref (q 0)), (1, .int i)] := hl
  refine lv_iload_n hx hb d_SF_tapeAt_0 rfl (lv_at hl 1 rfl) ?_
  refine lv_if_lt (tgt := 27) hx hb d_SF_tapeAt_1 (by decide) (fun c_1 => ?_) (fun c_1 => ?_)
  · refine lv_iconst (v := 0) hx hb d_SF_tapeAt_27 (by decide) ?_
    rw [hQ]
    exact sf_iret 0 hx hb hr hlk hS rfl rfl (by simp only [f_SF_tapeAt, eq_true c_1, ↓reduceIte]) hP d_SF_tapeAt_28
  · refine lv_iload_n hx hb d_SF_tapeAt_4 rfl (lv_at hl 1 rfl) ?_
    refine lv_aload_n hx hb d_SF_tapeAt_5 rfl (lv_at hl 0 rfl) ?_
    refine va_get (D := D) (ci := 2) (v := .int tl) (C := R_SF) (T := F_SF) (N := 15) hx hb hts i_SF hown hK hP 0 rfl rfl 10 (by decide) (hts _ wd_120) (fun _ h9 => h9) rfl d_SF_tapeAt_6 ?_
    refine lv_icmp_ge (tgt := 27) hx hb d_SF_tapeAt_9 (by decide) (fun c_2 => ?_) (fun c_2 => ?_)
    · refine lv_iconst (v := 0) hx hb d_SF_tapeAt_27 (by decide) ?_
      rw [hQ]
      exact sf_iret 0 hx hb hr hlk hS rfl rfl (by simp only [f_SF_tapeAt, eq_false c_1, eq_true c_2, ↓reduceIte]) hP d_SF_tapeAt_28
    · refine lv_iload_n hx hb d_SF_tapeAt_12 rfl (lv_at hl 1 rfl) ?_
      refine lv_bipush (v := 60) hx hb d_SF_tapeAt_13 (by decide) ?_
      refine lv_icmp_ge (tgt := 27) hx hb d_SF_tapeAt_15 (by decide) (fun c_3 => ?_) (fun c_3 => ?_)
      · refine lv_iconst (v := 0) hx hb d_SF_tapeAt_27 (by decide) ?_
        rw [hQ]
        exact sf_iret 0 hx hb hr hlk hS rfl rfl (by simp only [f_SF_tapeAt, eq_false c_1, eq_false c_2, eq_true c_3, ↓reduceIte]) hP d_SF_tapeAt_28
      · refine lv_aload_n hx hb d_SF_tapeAt_18 rfl (lv_at hl 0 rfl) ?_
        refine va_get (D := D) (ci := 2) (v := .ref (q 17)) (C := R_SF) (T := F_SF) (N := 15) hx hb hts i_SF hown hK hP 0 rfl rfl 9 (by decide) (hts _ wd_119) (fun _ h9 => h9) rfl d_SF_tapeAt_19 ?_
        refine lv_iload_n hx hb d_SF_tapeAt_22 rfl (lv_at hl 1 rfl) ?_
        refine va_iald hx hb hK hP 17 0 rfl rfl (sf_in (n := 60) c_1 c_3 (by omega)) d_SF_tapeAt_23 ?_
        refine lv_goto (tgt := 28) hx hb d_SF_tapeAt_24 (by decide) ?_
        rw [hQ]
        exact sf_iret (tp i.toNatClampNeg) hx hb hr hlk hS rfl rfl (by simp only [f_SF_tapeAt, eq_false c_1, eq_false c_2, eq_false c_3, ↓reduceIte]) hP d_SF_tapeAt_28
def f_SF_linkBehind (ta : Nat → Int32) (i : Int32) (n : Int32) : Int32 :=
  if n ≤ (i + 1) then
    0
  else
    ((f_SF_takenAt ta (i + 1)) + 1)
set_option maxHeartbeats 1000000 in
set_option maxRecDepth 100000 in
/-- linkBehind -/
theorem c_SF_linkBehind (l : Launch) (D : va_G) (cI cZ cJ : ClassId) (q : Nat → Nat) (fl : Nat → Int32) (sl : Nat → Int32) (tb : Nat → Int32) (np : Nat → Int32) (nt : Nat → Int32) (cp : Nat → Int32) (cc : Int32) (cb : Int32) (ch : Int32) (cm : Int32) (mp : Nat → Int32) (mc : Int32) (mb : Int32) (mh : Int32) (mm : Int32) (us : Nat → Int32) (ta : Nat → Int32) (tp : Nat → Int32) (tl : Int32) (cu : Int32) (bl : Int32) (pf : Int32) (sh : Int32) (i : Int32) (n : Int32) : sf_M (S := Int32) l D classes (sf_tys cI cZ cJ) y_SF_linkBehind (sf_ws y_SF_linkBehind b_SF_linkBehind 3 (some .int)) 1 21 [.ref (q 0), .int i, .int n] (sf_w q cI cZ fl sl tb np nt cp cc cb ch cm mp mc mb mh mm us ta tp tl cu bl pf sh) (fun r => some (.int r)) (fun r => r = f_SF_linkBehind ta i n) (fun r => (sf_w q cI cZ fl sl tb np nt cp cc cb ch cm mp mc mb mh mm us ta tp tl cu bl pf sh)) := by
  refine sf_ofW (S := Int32) (by decide) (Nat.le_of_ble_eq_true rfl) ?_
  intro p e s m below meth c A ls R args Q hR hArgs hQ hC0 hr hK hP hD hl
  obtain ⟨hx, hb, hml, hown, hts, hA, hlk⟩ := hC0
  have hS : va_S A s.heap s.heap [] := va_S.rf
  have hl : lv_has ls 3 [(0, .ref (q 0)), (1, .int i), (2, .int n)] := hl
  refine lv_iload_n hx hb d_SF_linkBehind_0 rfl (lv_at hl 1 rfl) ?_
  refine lv_iconst (v := 1) hx hb d_SF_linkBehind_1 (by decide) ?_
  refine lv_iadd hx hb d_SF_linkBehind_2 ?_
  refine lv_iload_n hx hb d_SF_linkBehind_3 rfl (lv_at hl 2 rfl) ?_
  refine lv_icmp_ge (tgt := 19) hx hb d_SF_linkBehind_4 (by decide) (fun c_1 => ?_) (fun c_1 => ?_)
  · refine lv_iconst (v := 0) hx hb d_SF_linkBehind_19 (by decide) ?_
    rw [hQ]
    exact sf_iret 0 hx hb hr hlk hS rfl rfl (by simp only [f_SF_linkBehind, eq_true c_1, ↓reduceIte]) hP d_SF_linkBehind_20
  · refine lv_aload_n hx hb d_SF_linkBehind_7 rfl (lv_at hl 0 rfl) ?_
    refine lv_iload_n hx hb d_SF_linkBehind_8 rfl (lv_at hl 1 rfl) ?_
    refine lv_iconst (v := 1) hx hb d_SF_linkBehind_9 (by decide) ?_
    refine lv_iadd hx hb d_SF_linkBehind_10 ?_
    refine sf_callVw (S := Int32) (rest := []) ⟨hx, hb, hml, hown, hts⟩ (c_SF_takenAt l D cI cZ cJ q fl sl tb np nt cp cc cb ch cm mp mc mb mh mm us ta tp tl cu bl pf sh (i + 1)) (sf_cwV lk_SF_110 hts (fun _ h => h) (by rw [hR]; exact ⟨Nat.le_of_ble_eq_true rfl, Nat.le_of_ble_eq_true rfl⟩)) hK hP hD hS hA (fun _ => by simp only [sf_w_fst]) (ci := 2) (q0 := 0) rfl rfl rfl rfl rfl hl.1 (Nat.le_of_ble_eq_true rfl) d_SF_linkBehind_11 ⟨Nat.zero_le _, Nat.zero_le _⟩ (fun u_2 H locs hu_2 hP hD hS => ?_)
    have hP : va_P D classes (sf_w q cI cZ fl sl tb np nt cp cc cb ch cm mp mc mb mh mm us ta tp tl cu bl pf sh) H := hP
    have hD : va_D A (sf_w q cI cZ fl sl tb np nt cp cc cb ch cm mp mc mb mh mm us ta tp tl cu bl pf sh) := hD
    refine lv_iconst (v := 1) hx hb d_SF_linkBehind_14 (by decide) ?_
    refine lv_iadd hx hb d_SF_linkBehind_15 ?_
    refine lv_goto (tgt := 20) hx hb d_SF_linkBehind_16 (by decide) ?_
    rw [hQ]
    exact sf_iret (u_2 + 1) hx hb hr hlk hS rfl rfl (by simp only [f_SF_linkBehind, ← hu_2, eq_false c_1, ↓reduceIte]) hP d_SF_linkBehind_20
def f_SF_beginWriting (cu : Int32) (n : Int32) : (Int32 × Int32 × Int32) :=
  if cu = (-1) then
    ((-1), ((n * 32) + 40), 0)
  else
    if ((n * 32) + 40) ≤ cu then
      ((-1), ((n * 32) + 40), 0)
    else
      ((-1), cu, 1)
set_option maxHeartbeats 1000000 in
set_option maxRecDepth 100000 in
/-- beginWriting -/
theorem c_SF_beginWriting (l : Launch) (D : va_G) (cI cZ cJ : ClassId) (q : Nat → Nat) (fl : Nat → Int32) (sl : Nat → Int32) (tb : Nat → Int32) (np : Nat → Int32) (nt : Nat → Int32) (cp : Nat → Int32) (cc : Int32) (cb : Int32) (ch : Int32) (cm : Int32) (mp : Nat → Int32) (mc : Int32) (mb : Int32) (mh : Int32) (mm : Int32) (us : Nat → Int32) (ta : Nat → Int32) (tp : Nat → Int32) (tl : Int32) (cu : Int32) (bl : Int32) (pf : Int32) (sh : Int32) (n : Int32) : sf_M (S := (Int32 × Int32 × Int32)) l D classes (sf_tys cI cZ cJ) y_SF_beginWriting (sf_ws y_SF_beginWriting b_SF_beginWriting 3 none) 0 0 [.ref (q 0), .int n] (sf_w q cI cZ fl sl tb np nt cp cc cb ch cm mp mc mb mh mm us ta tp tl cu bl pf sh) (fun _ => none) (fun r => r = f_SF_beginWriting cu n) (fun r => (sf_w q cI cZ fl sl tb np nt cp cc cb ch cm mp mc mb mh mm us ta tp tl r.1 r.2.1 r.2.2 sh)) := by
  refine sf_ofW (S := (Int32 × Int32 × Int32)) (by decide) (Nat.le_of_ble_eq_true rfl) ?_
  intro p e s m below meth c A ls R args Q hR hArgs hQ hC0 hr hK hP hD hl
  obtain ⟨hx, hb, hml, hown, hts, hA, hlk⟩ := hC0
  have hS : va_S A s.heap s.heap [] := va_S.rf
  have hl : lv_has ls 3 [(0, .ref (q 0)), (1, .int n)] := hl
  refine lv_iload_n hx hb d_SF_beginWriting_0 rfl (lv_at hl 1 rfl) ?_
  refine lv_bipush (v := 32) hx hb d_SF_beginWriting_1 (by decide) ?_
  refine lv_imul hx hb d_SF_beginWriting_3 ?_
  refine lv_bipush (v := 40) hx hb d_SF_beginWriting_4 (by decide) ?_
  refine lv_iadd hx hb d_SF_beginWriting_6 ?_
  refine lv_istore_n (lv' := [(2, .int ((n * 32) + 40)), (0, .ref (q 0)), (1, .int n)]) hx hb d_SF_beginWriting_7 rfl hl (by decide) rfl (fun ls hl => ?_)
  refine lv_aload_n hx hb d_SF_beginWriting_8 rfl (lv_at hl 1 rfl) ?_
  refine lv_aload_n hx hb d_SF_beginWriting_9 rfl (lv_at hl 1 rfl) ?_
  refine va_get (D := D) (ci := 2) (v := .int cu) (C := R_SF) (T := F_SF) (N := 15) hx hb hts i_SF hown hK hP 0 rfl rfl 11 (by decide) (hts _ wd_121) (fun _ h9 => h9) rfl d_SF_beginWriting_10 ?_
  refine lv_iconst (v := (-1)) hx hb d_SF_beginWriting_13 (by decide) ?_
  refine lv_icmp_eq (tgt := 29) hx hb d_SF_beginWriting_14 (by decide) (fun c_1 => ?_) (fun c_1 => ?_)
  · refine lv_iconst (v := 0) hx hb d_SF_beginWriting_29 (by decide) ?_
    refine va_put (D := D) (ci := 2) (v := .int 0) (ty := .boolean) (C := R_SF) (T := F_SF) (N := 15) hx hb hts i_SF t_SF t_SF_ok n_SF hown hK hP hD hS 0 rfl rfl 13 (by decide) (hts _ wd_123) (fun _ h9 => h9) rfl (by decide +kernel) (sf_bp0).1 (sf_bp0).2 (Nat.le_of_ble_eq_true rfl) d_SF_beginWriting_30 (fun H locs hP hD hS => ?_)
    have hP : va_P D classes (sf_w q cI cZ fl sl tb np nt cp cc cb ch cm mp mc mb mh mm us ta tp tl cu bl 0 sh) H := hP
    have hD : va_D A (sf_w q cI cZ fl sl tb np nt cp cc cb ch cm mp mc mb mh mm us ta tp tl cu bl 0 sh) := hD
    refine lv_aload_n hx hb d_SF_beginWriting_33 rfl (lv_at hl 1 rfl) ?_
    refine lv_aload_n hx hb d_SF_beginWriting_34 rfl (lv_at hl 1 rfl) ?_
    refine va_get (D := D) (ci := 2) (v := .int 0) (C := R_SF) (T := F_SF) (N := 15) hx hb hts i_SF hown hK hP 0 rfl rfl 13 (by decide) (hts _ wd_123) (fun _ h9 => h9) rfl d_SF_beginWriting_35 ?_
    refine lv_if_eq (tgt := 48) hx hb d_SF_beginWriting_38 (by decide) (fun c_2 => ?_) (fun c_2 => absurd (by decide) c_2)
    refine lv_iload_n hx hb d_SF_beginWriting_48 rfl (lv_at hl 0 rfl) ?_
    refine va_put (D := D) (ci := 2) (v := .int ((n * 32) + 40)) (ty := .int) (C := R_SF) (T := F_SF) (N := 15) hx hb hts i_SF t_SF t_SF_ok n_SF hown hK hP hD hS 0 rfl rfl 12 (by decide) (hts _ wd_122) (fun _ h9 => h9) rfl (by decide +kernel) rfl rfl (Nat.le_of_ble_eq_true rfl) d_SF_beginWriting_49 (fun H locs hP hD hS => ?_)
    have hP : va_P D classes (sf_w q cI cZ fl sl tb np nt cp cc cb ch cm mp mc mb mh mm us ta tp tl cu ((n * 32) + 40) 0 sh) H := hP
    have hD : va_D A (sf_w q cI cZ fl sl tb np nt cp cc cb ch cm mp mc mb mh mm us ta tp tl cu ((n * 32) + 40) 0 sh) := hD
    refine lv_aload_n hx hb d_SF_beginWriting_52 rfl (lv_at hl 1 rfl) ?_
    refine lv_iconst (v := (-1)) hx hb d_SF_beginWriting_53 (by decide) ?_
    refine va_put (D := D) (ci := 2) (v := .int (-1)) (ty := .int) (C := R_SF) (T := F_SF) (N := 15) hx hb hts i_SF t_SF t_SF_ok n_SF hown hK hP hD hS 0 rfl rfl 11 (by decide) (hts _ wd_121) (fun _ h9 => h9) rfl (by decide +kernel) rfl rfl (Nat.le_of_ble_eq_true rfl) d_SF_beginWriting_54 (fun H locs hP hD hS => ?_)
    have hP : va_P D classes (sf_w q cI cZ fl sl tb np nt cp cc cb ch cm mp mc mb mh mm us ta tp tl (-1) ((n * 32) + 40) 0 sh) H := hP
    have hD : va_D A (sf_w q cI cZ fl sl tb np nt cp cc cb ch cm mp mc mb mh mm us ta tp tl (-1) ((n * 32) + 40) 0 sh) := hD
    rw [hQ]
    exact sf_vret ((-1), ((n * 32) + 40), 0) hx hb hr hlk hS rfl (by simp only [f_SF_beginWriting, eq_true c_1, ↓reduceIte]) hP d_SF_beginWriting_57
  · refine lv_iload_n hx hb d_SF_beginWriting_17 rfl (lv_at hl 0 rfl) ?_
    refine lv_aload_n hx hb d_SF_beginWriting_18 rfl (lv_at hl 1 rfl) ?_
    refine va_get (D := D) (ci := 2) (v := .int cu) (C := R_SF) (T := F_SF) (N := 15) hx hb hts i_SF hown hK hP 0 rfl rfl 11 (by decide) (hts _ wd_121) (fun _ h9 => h9) rfl d_SF_beginWriting_19 ?_
    refine lv_icmp_le (tgt := 29) hx hb d_SF_beginWriting_22 (by decide) (fun c_3 => ?_) (fun c_3 => ?_)
    · refine lv_iconst (v := 0) hx hb d_SF_beginWriting_29 (by decide) ?_
      refine va_put (D := D) (ci := 2) (v := .int 0) (ty := .boolean) (C := R_SF) (T := F_SF) (N := 15) hx hb hts i_SF t_SF t_SF_ok n_SF hown hK hP hD hS 0 rfl rfl 13 (by decide) (hts _ wd_123) (fun _ h9 => h9) rfl (by decide +kernel) (sf_bp0).1 (sf_bp0).2 (Nat.le_of_ble_eq_true rfl) d_SF_beginWriting_30 (fun H locs hP hD hS => ?_)
      have hP : va_P D classes (sf_w q cI cZ fl sl tb np nt cp cc cb ch cm mp mc mb mh mm us ta tp tl cu bl 0 sh) H := hP
      have hD : va_D A (sf_w q cI cZ fl sl tb np nt cp cc cb ch cm mp mc mb mh mm us ta tp tl cu bl 0 sh) := hD
      refine lv_aload_n hx hb d_SF_beginWriting_33 rfl (lv_at hl 1 rfl) ?_
      refine lv_aload_n hx hb d_SF_beginWriting_34 rfl (lv_at hl 1 rfl) ?_
      refine va_get (D := D) (ci := 2) (v := .int 0) (C := R_SF) (T := F_SF) (N := 15) hx hb hts i_SF hown hK hP 0 rfl rfl 13 (by decide) (hts _ wd_123) (fun _ h9 => h9) rfl d_SF_beginWriting_35 ?_
      refine lv_if_eq (tgt := 48) hx hb d_SF_beginWriting_38 (by decide) (fun c_4 => ?_) (fun c_4 => absurd (by decide) c_4)
      refine lv_iload_n hx hb d_SF_beginWriting_48 rfl (lv_at hl 0 rfl) ?_
      refine va_put (D := D) (ci := 2) (v := .int ((n * 32) + 40)) (ty := .int) (C := R_SF) (T := F_SF) (N := 15) hx hb hts i_SF t_SF t_SF_ok n_SF hown hK hP hD hS 0 rfl rfl 12 (by decide) (hts _ wd_122) (fun _ h9 => h9) rfl (by decide +kernel) rfl rfl (Nat.le_of_ble_eq_true rfl) d_SF_beginWriting_49 (fun H locs hP hD hS => ?_)
      have hP : va_P D classes (sf_w q cI cZ fl sl tb np nt cp cc cb ch cm mp mc mb mh mm us ta tp tl cu ((n * 32) + 40) 0 sh) H := hP
      have hD : va_D A (sf_w q cI cZ fl sl tb np nt cp cc cb ch cm mp mc mb mh mm us ta tp tl cu ((n * 32) + 40) 0 sh) := hD
      refine lv_aload_n hx hb d_SF_beginWriting_52 rfl (lv_at hl 1 rfl) ?_
      refine lv_iconst (v := (-1)) hx hb d_SF_beginWriting_53 (by decide) ?_
      refine va_put (D := D) (ci := 2) (v := .int (-1)) (ty := .int) (C := R_SF) (T := F_SF) (N := 15) hx hb hts i_SF t_SF t_SF_ok n_SF hown hK hP hD hS 0 rfl rfl 11 (by decide) (hts _ wd_121) (fun _ h9 => h9) rfl (by decide +kernel) rfl rfl (Nat.le_of_ble_eq_true rfl) d_SF_beginWriting_54 (fun H locs hP hD hS => ?_)
      have hP : va_P D classes (sf_w q cI cZ fl sl tb np nt cp cc cb ch cm mp mc mb mh mm us ta tp tl (-1) ((n * 32) + 40) 0 sh) H := hP
      have hD : va_D A (sf_w q cI cZ fl sl tb np nt cp cc cb ch cm mp mc mb mh mm us ta tp tl (-1) ((n * 32) + 40) 0 sh) := hD
      rw [hQ]
      exact sf_vret ((-1), ((n * 32) + 40), 0) hx hb hr hlk hS rfl (by simp only [f_SF_beginWriting, eq_false c_1, eq_true c_3, ↓reduceIte]) hP d_SF_beginWriting_57
    · refine lv_iconst (v := 1) hx hb d_SF_beginWriting_25 (by decide) ?_
      refine lv_goto (tgt := 30) hx hb d_SF_beginWriting_26 (by decide) ?_
      refine va_put (D := D) (ci := 2) (v := .int 1) (ty := .boolean) (C := R_SF) (T := F_SF) (N := 15) hx hb hts i_SF t_SF t_SF_ok n_SF hown hK hP hD hS 0 rfl rfl 13 (by decide) (hts _ wd_123) (fun _ h9 => h9) rfl (by decide +kernel) (sf_bp1).1 (sf_bp1).2 (Nat.le_of_ble_eq_true rfl) d_SF_beginWriting_30 (fun H locs hP hD hS => ?_)
      have hP : va_P D classes (sf_w q cI cZ fl sl tb np nt cp cc cb ch cm mp mc mb mh mm us ta tp tl cu bl 1 sh) H := hP
      have hD : va_D A (sf_w q cI cZ fl sl tb np nt cp cc cb ch cm mp mc mb mh mm us ta tp tl cu bl 1 sh) := hD
      refine lv_aload_n hx hb d_SF_beginWriting_33 rfl (lv_at hl 1 rfl) ?_
      refine lv_aload_n hx hb d_SF_beginWriting_34 rfl (lv_at hl 1 rfl) ?_
      refine va_get (D := D) (ci := 2) (v := .int 1) (C := R_SF) (T := F_SF) (N := 15) hx hb hts i_SF hown hK hP 0 rfl rfl 13 (by decide) (hts _ wd_123) (fun _ h9 => h9) rfl d_SF_beginWriting_35 ?_
      refine lv_if_eq (tgt := 48) hx hb d_SF_beginWriting_38 (by decide) (fun c_5 => absurd c_5 (by decide)) (fun c_5 => ?_)
      refine lv_aload_n hx hb d_SF_beginWriting_41 rfl (lv_at hl 1 rfl) ?_
      refine va_get (D := D) (ci := 2) (v := .int cu) (C := R_SF) (T := F_SF) (N := 15) hx hb hts i_SF hown hK hP 0 rfl rfl 11 (by decide) (hts _ wd_121) (fun _ h9 => h9) rfl d_SF_beginWriting_42 ?_
      refine lv_goto (tgt := 49) hx hb d_SF_beginWriting_45 (by decide) ?_
      refine va_put (D := D) (ci := 2) (v := .int cu) (ty := .int) (C := R_SF) (T := F_SF) (N := 15) hx hb hts i_SF t_SF t_SF_ok n_SF hown hK hP hD hS 0 rfl rfl 12 (by decide) (hts _ wd_122) (fun _ h9 => h9) rfl (by decide +kernel) rfl rfl (Nat.le_of_ble_eq_true rfl) d_SF_beginWriting_49 (fun H locs hP hD hS => ?_)
      have hP : va_P D classes (sf_w q cI cZ fl sl tb np nt cp cc cb ch cm mp mc mb mh mm us ta tp tl cu cu 1 sh) H := hP
      have hD : va_D A (sf_w q cI cZ fl sl tb np nt cp cc cb ch cm mp mc mb mh mm us ta tp tl cu cu 1 sh) := hD
      refine lv_aload_n hx hb d_SF_beginWriting_52 rfl (lv_at hl 1 rfl) ?_
      refine lv_iconst (v := (-1)) hx hb d_SF_beginWriting_53 (by decide) ?_
      refine va_put (D := D) (ci := 2) (v := .int (-1)) (ty := .int) (C := R_SF) (T := F_SF) (N := 15) hx hb hts i_SF t_SF t_SF_ok n_SF hown hK hP hD hS 0 rfl rfl 11 (by decide) (hts _ wd_121) (fun _ h9 => h9) rfl (by decide +kernel) rfl rfl (Nat.le_of_ble_eq_true rfl) d_SF_beginWriting_54 (fun H locs hP hD hS => ?_)
      have hP : va_P D classes (sf_w q cI cZ fl sl tb np nt cp cc cb ch cm mp mc mb mh mm us ta tp tl (-1) cu 1 sh) H := hP
      have hD : va_D A (sf_w q cI cZ fl sl tb np nt cp cc cb ch cm mp mc mb mh mm us ta tp tl (-1) cu 1 sh) := hD
      rw [hQ]
      exact sf_vret ((-1), cu, 1) hx hb hr hlk hS rfl (by simp only [f_SF_beginWriting, eq_false c_1, eq_false c_3, ↓reduceIte]) hP d_SF_beginWriting_57
def f_SF_endWriting (pf : Int32) (sh : Int32) : (Int32 × Int32) :=
  if pf = 0 then
    (1, sh)
  else
    (0, 1)
set_option maxHeartbeats 1000000 in
set_option maxRecDepth 100000 in
/-- endWriting -/
theorem c_SF_endWriting (l : Launch) (D : va_G) (cI cZ cJ : ClassId) (q : Nat → Nat) (fl : Nat → Int32) (sl : Nat → Int32) (tb : Nat → Int32) (np : Nat → Int32) (nt : Nat → Int32) (cp : Nat → Int32) (cc : Int32) (cb : Int32) (ch : Int32) (cm : Int32) (mp : Nat → Int32) (mc : Int32) (mb : Int32) (mh : Int32) (mm : Int32) (us : Nat → Int32) (ta : Nat → Int32) (tp : Nat → Int32) (tl : Int32) (cu : Int32) (bl : Int32) (pf : Int32) (sh : Int32) : sf_M (S := (Int32 × Int32)) l D classes (sf_tys cI cZ cJ) y_SF_endWriting (sf_ws y_SF_endWriting b_SF_endWriting 1 (some .boolean)) 0 0 [.ref (q 0)] (sf_w q cI cZ fl sl tb np nt cp cc cb ch cm mp mc mb mh mm us ta tp tl cu bl pf sh) (fun r => some (.int r.1)) (fun r => r = f_SF_endWriting pf sh) (fun r => (sf_w q cI cZ fl sl tb np nt cp cc cb ch cm mp mc mb mh mm us ta tp tl cu bl pf r.2)) := by
  refine sf_ofW (S := (Int32 × Int32)) (by decide) (Nat.le_of_ble_eq_true rfl) ?_
  intro p e s m below meth c A ls R args Q hR hArgs hQ hC0 hr hK hP hD hl
  obtain ⟨hx, hb, hml, hown, hts, hA, hlk⟩ := hC0
  have hS : va_S A s.heap s.heap [] := va_S.rf
  have hl : lv_has ls 1 [(0, .ref (q 0))] := hl
  refine lv_aload_n hx hb d_SF_endWriting_0 rfl (lv_at hl 0 rfl) ?_
  refine va_get (D := D) (ci := 2) (v := .int pf) (C := R_SF) (T := F_SF) (N := 15) hx hb hts i_SF hown hK hP 0 rfl rfl 13 (by decide) (hts _ wd_123) (fun _ h9 => h9) rfl d_SF_endWriting_1 ?_
  refine lv_if_eq (tgt := 12) hx hb d_SF_endWriting_4 (by decide) (fun c_1 => ?_) (fun c_1 => ?_)
  · refine lv_aload_n hx hb d_SF_endWriting_12 rfl (lv_at hl 0 rfl) ?_
    refine va_get (D := D) (ci := 2) (v := .int pf) (C := R_SF) (T := F_SF) (N := 15) hx hb hts i_SF hown hK hP 0 rfl rfl 13 (by decide) (hts _ wd_123) (fun _ h9 => h9) rfl d_SF_endWriting_13 ?_
    refine lv_if_ne (tgt := 23) hx hb d_SF_endWriting_16 (by decide) (fun c_2 => absurd c_1 c_2) (fun c_2 => ?_)
    refine lv_iconst (v := 1) hx hb d_SF_endWriting_19 (by decide) ?_
    refine lv_goto (tgt := 24) hx hb d_SF_endWriting_20 (by decide) ?_
    rw [hQ]
    exact sf_iret (1, sh) hx hb hr hlk hS sf_b1 rfl (by simp only [f_SF_endWriting, eq_true c_1, ↓reduceIte]) hP d_SF_endWriting_24
  · refine lv_aload_n hx hb d_SF_endWriting_7 rfl (lv_at hl 0 rfl) ?_
    refine lv_iconst (v := 1) hx hb d_SF_endWriting_8 (by decide) ?_
    refine va_put (D := D) (ci := 2) (v := .int 1) (ty := .boolean) (C := R_SF) (T := F_SF) (N := 15) hx hb hts i_SF t_SF t_SF_ok n_SF hown hK hP hD hS 0 rfl rfl 14 (by decide) (hts _ wd_124) (fun _ h9 => h9) rfl (by decide +kernel) (sf_bp1).1 (sf_bp1).2 (Nat.le_of_ble_eq_true rfl) d_SF_endWriting_9 (fun H locs hP hD hS => ?_)
    have hP : va_P D classes (sf_w q cI cZ fl sl tb np nt cp cc cb ch cm mp mc mb mh mm us ta tp tl cu bl pf 1) H := hP
    have hD : va_D A (sf_w q cI cZ fl sl tb np nt cp cc cb ch cm mp mc mb mh mm us ta tp tl cu bl pf 1) := hD
    refine lv_aload_n hx hb d_SF_endWriting_12 rfl (lv_at hl 0 rfl) ?_
    refine va_get (D := D) (ci := 2) (v := .int pf) (C := R_SF) (T := F_SF) (N := 15) hx hb hts i_SF hown hK hP 0 rfl rfl 13 (by decide) (hts _ wd_123) (fun _ h9 => h9) rfl d_SF_endWriting_13 ?_
    refine lv_if_ne (tgt := 23) hx hb d_SF_endWriting_16 (by decide) (fun c_3 => ?_) (fun c_3 => absurd c_3 c_1)
    refine lv_iconst (v := 0) hx hb d_SF_endWriting_23 (by decide) ?_
    rw [hQ]
    exact sf_iret (0, 1) hx hb hr hlk hS sf_b0 rfl (by simp only [f_SF_endWriting, eq_false c_1, ↓reduceIte]) hP d_SF_endWriting_24
