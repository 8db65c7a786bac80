/-! chain: contracts, with the pure functions that they speak of (printed by wip/gen) -/
set_option maxRecDepth 20000 in
theorem wd_94 : Cond.fieldLink R_Ch 19 "ShadowFiles$Chain" "count" "I" ∈ sf_tb := sf_tb_in 94 rfl rfl
set_option maxRecDepth 20000 in
theorem wd_93 : Cond.fieldLink R_Ch 9 "ShadowFiles$Chain" "places" "[I" ∈ sf_tb := sf_tb_in 93 rfl rfl
set_option maxRecDepth 20000 in
theorem wd_98 : Cond.fieldLink R_Ch 32 "ShadowFiles$Chain" "month" "I" ∈ sf_tb := sf_tb_in 98 rfl rfl
set_option maxRecDepth 20000 in
theorem wd_96 : Cond.fieldLink R_Ch 15 "ShadowFiles$Chain" "broken" "Z" ∈ sf_tb := sf_tb_in 96 rfl rfl
set_option maxRecDepth 20000 in
theorem wd_97 : Cond.fieldLink R_Ch 23 "ShadowFiles$Chain" "held" "I" ∈ sf_tb := sf_tb_in 97 rfl rfl
set_option maxRecDepth 20000 in
theorem wd_364 : Cond.methodLink R_Ch 26 y_Bl_get ∈ sf_tb := sf_tb_in 364 rfl rfl
set_option maxRecDepth 20000 in
theorem wd_365 : Cond.methodLink R_Ch 35 y_Bl_hasBlock ∈ sf_tb := sf_tb_in 365 rfl rfl
set_option maxRecDepth 20000 in
theorem wd_368 : Cond.code y_Bl_hasBlock b_Bl_hasBlock 2 (some .boolean) ∈ sf_tb := sf_tb_in 368 rfl rfl
set_option maxRecDepth 20000 in
theorem wd_366 : Cond.instanceMethod y_Bl_hasBlock ∈ sf_tb := sf_tb_in 366 rfl rfl
set_option maxRecDepth 20000 in
theorem wd_367 : Cond.selects R_Bl y_Bl_hasBlock y_Bl_hasBlock ∈ sf_tb := sf_tb_in 367 rfl rfl
set_option maxRecDepth 20000 in
theorem wd_373 : Cond.methodLink R_Ch 39 y_Ch_wentThrough ∈ sf_tb := sf_tb_in 373 rfl rfl
set_option maxRecDepth 20000 in
theorem wd_376 : Cond.code y_Ch_wentThrough b_Ch_wentThrough 3 (some .boolean) ∈ sf_tb := sf_tb_in 376 rfl rfl
set_option maxRecDepth 20000 in
theorem wd_54 : Cond.initialized R_Ch ∈ sf_tb := sf_tb_in 54 rfl rfl
set_option maxRecDepth 20000 in
theorem wd_375 : Cond.instanceMethod y_Ch_wentThrough ∈ sf_tb := sf_tb_in 375 rfl rfl
set_option maxRecDepth 20000 in
theorem wd_11 : Cond.selects R_Ch y_Ch_wentThrough y_Ch_wentThrough ∈ sf_tb := sf_tb_in 11 rfl rfl
set_option maxRecDepth 20000 in
theorem wd_377 : Cond.methodLink R_Ch 42 y_Ch_isRight ∈ sf_tb := sf_tb_in 377 rfl rfl
set_option maxRecDepth 20000 in
theorem wd_380 : Cond.code y_Ch_isRight b_Ch_isRight 4 (some .boolean) ∈ sf_tb := sf_tb_in 380 rfl rfl
set_option maxRecDepth 20000 in
theorem wd_379 : Cond.instanceMethod y_Ch_isRight ∈ sf_tb := sf_tb_in 379 rfl rfl
set_option maxRecDepth 20000 in
theorem wd_12 : Cond.selects R_Ch y_Ch_isRight y_Ch_isRight ∈ sf_tb := sf_tb_in 12 rfl rfl
set_option maxRecDepth 20000 in
theorem wd_381 : Cond.methodLink R_Ch 46 y_Bl_sumIsRight ∈ sf_tb := sf_tb_in 381 rfl rfl
set_option maxRecDepth 20000 in
theorem wd_180 : Cond.code y_Bl_sumIsRight b_Bl_sumIsRight 4 (some .boolean) ∈ sf_tb := sf_tb_in 180 rfl rfl
set_option maxRecDepth 20000 in
theorem wd_178 : Cond.instanceMethod y_Bl_sumIsRight ∈ sf_tb := sf_tb_in 178 rfl rfl
set_option maxRecDepth 20000 in
theorem wd_179 : Cond.selects R_Bl y_Bl_sumIsRight y_Bl_sumIsRight ∈ sf_tb := sf_tb_in 179 rfl rfl
set_option maxRecDepth 20000 in
theorem wd_507 : Cond.methodLink R_Ch 49 y_Ch_placeAt ∈ sf_tb := sf_tb_in 507 rfl rfl
set_option maxRecDepth 20000 in
theorem wd_389 : Cond.code y_Ch_placeAt b_Ch_placeAt 2 (some .int) ∈ sf_tb := sf_tb_in 389 rfl rfl
set_option maxRecDepth 20000 in
theorem wd_387 : Cond.instanceMethod y_Ch_placeAt ∈ sf_tb := sf_tb_in 387 rfl rfl
set_option maxRecDepth 20000 in
theorem wd_388 : Cond.selects R_Ch y_Ch_placeAt y_Ch_placeAt ∈ sf_tb := sf_tb_in 388 rfl rfl
theorem lk_Ch_26 : sf_LV R_Ch 26 y_Bl_get b_Bl_get 4 (some .int) 2 := ⟨wd_176, wd_364, wd_174, wd_175, wd_53, by decide +kernel⟩
theorem lk_Ch_35 : sf_LV R_Ch 35 y_Bl_hasBlock b_Bl_hasBlock 2 (some .boolean) 1 := ⟨wd_368, wd_365, wd_366, wd_367, wd_53, by decide +kernel⟩
theorem lk_Ch_39 : sf_LV R_Ch 39 y_Ch_wentThrough b_Ch_wentThrough 3 (some .boolean) 1 := ⟨wd_376, wd_373, wd_375, wd_11, wd_54, by decide +kernel⟩
theorem lk_Ch_42 : sf_LV R_Ch 42 y_Ch_isRight b_Ch_isRight 4 (some .boolean) 2 := ⟨wd_380, wd_377, wd_379, wd_12, wd_54, by decide +kernel⟩
theorem lk_Ch_46 : sf_LV R_Ch 46 y_Bl_sumIsRight b_Bl_sumIsRight 4 (some .boolean) 1 := ⟨wd_180, wd_381, wd_178, wd_179, wd_53, by decide +kernel⟩
theorem lk_Ch_49 : sf_LV R_Ch 49 y_Ch_placeAt b_Ch_placeAt 2 (some .int) 1 := ⟨wd_389, wd_507, wd_387, wd_388, wd_54, by decide +kernel⟩
theorem d_Ch_wentThrough_0 : decode b_Ch_wentThrough 0 = .ok (.iconst 0, 1) := by decide +kernel
theorem d_Ch_wentThrough_1 : decode b_Ch_wentThrough 1 = .ok (.istore_n 2, 1) := by decide +kernel
theorem d_Ch_wentThrough_2 : decode b_Ch_wentThrough 2 = .ok (.iload_n 2, 1) := by decide +kernel
theorem d_Ch_wentThrough_3 : decode b_Ch_wentThrough 3 = .ok (.aload_n 0, 1) := by decide +kernel
theorem d_Ch_wentThrough_4 : decode b_Ch_wentThrough 4 = .ok (.getfield 19, 3) := by decide +kernel
theorem d_Ch_wentThrough_7 : decode b_Ch_wentThrough 7 = .ok (.if_icmp .ge 26, 3) := by decide +kernel
theorem d_Ch_wentThrough_10 : decode b_Ch_wentThrough 10 = .ok (.iload_n 2, 1) := by decide +kernel
theorem d_Ch_wentThrough_11 : decode b_Ch_wentThrough 11 = .ok (.iconst 3, 1) := by decide +kernel
theorem d_Ch_wentThrough_12 : decode b_Ch_wentThrough 12 = .ok (.if_icmp .ge 21, 3) := by decide +kernel
theorem d_Ch_wentThrough_15 : decode b_Ch_wentThrough 15 = .ok (.aload_n 0, 1) := by decide +kernel
theorem d_Ch_wentThrough_16 : decode b_Ch_wentThrough 16 = .ok (.getfield 9, 3) := by decide +kernel
theorem d_Ch_wentThrough_19 : decode b_Ch_wentThrough 19 = .ok (.iload_n 2, 1) := by decide +kernel
theorem d_Ch_wentThrough_20 : decode b_Ch_wentThrough 20 = .ok (.iaload, 1) := by decide +kernel
theorem d_Ch_wentThrough_21 : decode b_Ch_wentThrough 21 = .ok (.iload_n 1, 1) := by decide +kernel
theorem d_Ch_wentThrough_22 : decode b_Ch_wentThrough 22 = .ok (.if_icmp .ne 5, 3) := by decide +kernel
theorem d_Ch_wentThrough_25 : decode b_Ch_wentThrough 25 = .ok (.iconst 1, 1) := by decide +kernel
theorem d_Ch_wentThrough_26 : decode b_Ch_wentThrough 26 = .ok (.ireturn, 1) := by decide +kernel
theorem d_Ch_wentThrough_27 : decode b_Ch_wentThrough 27 = .ok (.iinc 2 1, 3) := by decide +kernel
theorem d_Ch_wentThrough_30 : decode b_Ch_wentThrough 30 = .ok (.goto (-28), 3) := by decide +kernel
theorem d_Ch_wentThrough_33 : decode b_Ch_wentThrough 33 = .ok (.iconst 0, 1) := by decide +kernel
theorem d_Ch_wentThrough_34 : decode b_Ch_wentThrough 34 = .ok (.ireturn, 1) := by decide +kernel
theorem d_Ch_isRight_0 : decode b_Ch_isRight 0 = .ok (.aload_n 1, 1) := by decide +kernel
theorem d_Ch_isRight_1 : decode b_Ch_isRight 1 = .ok (.iload_n 2, 1) := by decide +kernel
theorem d_Ch_isRight_2 : decode b_Ch_isRight 2 = .ok (.iconst 1, 1) := by decide +kernel
theorem d_Ch_isRight_3 : decode b_Ch_isRight 3 = .ok (.invokevirtual 26, 3) := by decide +kernel
theorem d_Ch_isRight_6 : decode b_Ch_isRight 6 = .ok (.istore_n 3, 1) := by decide +kernel
theorem d_Ch_isRight_7 : decode b_Ch_isRight 7 = .ok (.iload_n 3, 1) := by decide +kernel
theorem d_Ch_isRight_8 : decode b_Ch_isRight 8 = .ok (.iconst 1, 1) := by decide +kernel
theorem d_Ch_isRight_9 : decode b_Ch_isRight 9 = .ok (.if_icmp .lt 34, 3) := by decide +kernel
theorem d_Ch_isRight_12 : decode b_Ch_isRight 12 = .ok (.iload_n 3, 1) := by decide +kernel
theorem d_Ch_isRight_13 : decode b_Ch_isRight 13 = .ok (.bipush 25, 2) := by decide +kernel
theorem d_Ch_isRight_15 : decode b_Ch_isRight 15 = .ok (.if_icmp .gt 28, 3) := by decide +kernel
theorem d_Ch_isRight_18 : decode b_Ch_isRight 18 = .ok (.aload_n 1, 1) := by decide +kernel
theorem d_Ch_isRight_19 : decode b_Ch_isRight 19 = .ok (.iload_n 2, 1) := by decide +kernel
theorem d_Ch_isRight_20 : decode b_Ch_isRight 20 = .ok (.iconst 2, 1) := by decide +kernel
theorem d_Ch_isRight_21 : decode b_Ch_isRight 21 = .ok (.invokevirtual 26, 3) := by decide +kernel
theorem d_Ch_isRight_24 : decode b_Ch_isRight 24 = .ok (.aload_n 0, 1) := by decide +kernel
theorem d_Ch_isRight_25 : decode b_Ch_isRight 25 = .ok (.getfield 32, 3) := by decide +kernel
theorem d_Ch_isRight_28 : decode b_Ch_isRight 28 = .ok (.if_icmp .ne 15, 3) := by decide +kernel
theorem d_Ch_isRight_31 : decode b_Ch_isRight 31 = .ok (.aload_n 1, 1) := by decide +kernel
theorem d_Ch_isRight_32 : decode b_Ch_isRight 32 = .ok (.iload_n 2, 1) := by decide +kernel
theorem d_Ch_isRight_33 : decode b_Ch_isRight 33 = .ok (.invokevirtual 46, 3) := by decide +kernel
theorem d_Ch_isRight_36 : decode b_Ch_isRight 36 = .ok (.ifCond .eq 7, 3) := by decide +kernel
theorem d_Ch_isRight_39 : decode b_Ch_isRight 39 = .ok (.iconst 1, 1) := by decide +kernel
theorem d_Ch_isRight_40 : decode b_Ch_isRight 40 = .ok (.goto 4, 3) := by decide +kernel
theorem d_Ch_isRight_43 : decode b_Ch_isRight 43 = .ok (.iconst 0, 1) := by decide +kernel
theorem d_Ch_isRight_44 : decode b_Ch_isRight 44 = .ok (.ireturn, 1) := by decide +kernel
theorem d_Ch_placeAt_0 : decode b_Ch_placeAt 0 = .ok (.iload_n 1, 1) := by decide +kernel
theorem d_Ch_placeAt_1 : decode b_Ch_placeAt 1 = .ok (.ifCond .lt 25, 3) := by decide +kernel
theorem d_Ch_placeAt_4 : decode b_Ch_placeAt 4 = .ok (.iload_n 1, 1) := by decide +kernel
theorem d_Ch_placeAt_5 : decode b_Ch_placeAt 5 = .ok (.aload_n 0, 1) := by decide +kernel
theorem d_Ch_placeAt_6 : decode b_Ch_placeAt 6 = .ok (.getfield 19, 3) := by decide +kernel
theorem d_Ch_placeAt_9 : decode b_Ch_placeAt 9 = .ok (.if_icmp .ge 17, 3) := by decide +kernel
theorem d_Ch_placeAt_12 : decode b_Ch_placeAt 12 = .ok (.iload_n 1, 1) := by decide +kernel
theorem d_Ch_placeAt_13 : decode b_Ch_placeAt 13 = .ok (.iconst 3, 1) := by decide +kernel
theorem d_Ch_placeAt_14 : decode b_Ch_placeAt 14 = .ok (.if_icmp .ge 12, 3) := by decide +kernel
theorem d_Ch_placeAt_17 : decode b_Ch_placeAt 17 = .ok (.aload_n 0, 1) := by decide +kernel
theorem d_Ch_placeAt_18 : decode b_Ch_placeAt 18 = .ok (.getfield 9, 3) := by decide +kernel
theorem d_Ch_placeAt_21 : decode b_Ch_placeAt 21 = .ok (.iload_n 1, 1) := by decide +kernel
theorem d_Ch_placeAt_22 : decode b_Ch_placeAt 22 = .ok (.iaload, 1) := by decide +kernel
theorem d_Ch_placeAt_23 : decode b_Ch_placeAt 23 = .ok (.goto 4, 3) := by decide +kernel
theorem d_Ch_placeAt_26 : decode b_Ch_placeAt 26 = .ok (.iconst (-1), 1) := by decide +kernel
theorem d_Ch_placeAt_27 : decode b_Ch_placeAt 27 = .ok (.ireturn, 1) := by decide +kernel
theorem d_Ch_bytes_0 : decode b_Ch_bytes 0 = .ok (.aload_n 0, 1) := by decide +kernel
theorem d_Ch_bytes_1 : decode b_Ch_bytes 1 = .ok (.getfield 15, 3) := by decide +kernel
theorem d_Ch_bytes_4 : decode b_Ch_bytes 4 = .ok (.ifCond .eq 7, 3) := by decide +kernel
theorem d_Ch_bytes_7 : decode b_Ch_bytes 7 = .ok (.iconst 0, 1) := by decide +kernel
theorem d_Ch_bytes_8 : decode b_Ch_bytes 8 = .ok (.goto 7, 3) := by decide +kernel
theorem d_Ch_bytes_11 : decode b_Ch_bytes 11 = .ok (.aload_n 0, 1) := by decide +kernel
theorem d_Ch_bytes_12 : decode b_Ch_bytes 12 = .ok (.getfield 23, 3) := by decide +kernel
theorem d_Ch_bytes_15 : decode b_Ch_bytes 15 = .ok (.ireturn, 1) := by decide +kernel
theorem d_Ch_monthOrNone_0 : decode b_Ch_monthOrNone 0 = .ok (.aload_n 0, 1) := by decide +kernel
theorem d_Ch_monthOrNone_1 : decode b_Ch_monthOrNone 1 = .ok (.getfield 15, 3) := by decide +kernel
theorem d_Ch_monthOrNone_4 : decode b_Ch_monthOrNone 4 = .ok (.ifCond .eq 7, 3) := by decide +kernel
theorem d_Ch_monthOrNone_7 : decode b_Ch_monthOrNone 7 = .ok (.iconst (-1), 1) := by decide +kernel
theorem d_Ch_monthOrNone_8 : decode b_Ch_monthOrNone 8 = .ok (.goto 7, 3) := by decide +kernel
theorem d_Ch_monthOrNone_11 : decode b_Ch_monthOrNone 11 = .ok (.aload_n 0, 1) := by decide +kernel
theorem d_Ch_monthOrNone_12 : decode b_Ch_monthOrNone 12 = .ok (.getfield 32, 3) := by decide +kernel
theorem d_Ch_monthOrNone_15 : decode b_Ch_monthOrNone 15 = .ok (.ireturn, 1) := by decide +kernel
theorem d_Ch_dataAt_0 : decode b_Ch_dataAt 0 = .ok (.iload_n 2, 1) := by decide +kernel
theorem d_Ch_dataAt_1 : decode b_Ch_dataAt 1 = .ok (.istore_n 3, 1) := by decide +kernel
theorem d_Ch_dataAt_2 : decode b_Ch_dataAt 2 = .ok (.iconst 0, 1) := by decide +kernel
theorem d_Ch_dataAt_3 : decode b_Ch_dataAt 3 = .ok (.istore 4, 2) := by decide +kernel
theorem d_Ch_dataAt_5 : decode b_Ch_dataAt 5 = .ok (.iload 4, 2) := by decide +kernel
theorem d_Ch_dataAt_7 : decode b_Ch_dataAt 7 = .ok (.aload_n 0, 1) := by decide +kernel
theorem d_Ch_dataAt_8 : decode b_Ch_dataAt 8 = .ok (.getfield 19, 3) := by decide +kernel
theorem d_Ch_dataAt_11 : decode b_Ch_dataAt 11 = .ok (.if_icmp .ge 47, 3) := by decide +kernel
theorem d_Ch_dataAt_14 : decode b_Ch_dataAt 14 = .ok (.aload_n 0, 1) := by decide +kernel
theorem d_Ch_dataAt_15 : decode b_Ch_dataAt 15 = .ok (.iload 4, 2) := by decide +kernel
theorem d_Ch_dataAt_17 : decode b_Ch_dataAt 17 = .ok (.invokevirtual 49, 3) := by decide +kernel
theorem d_Ch_dataAt_20 : decode b_Ch_dataAt 20 = .ok (.istore 5, 2) := by decide +kernel
theorem d_Ch_dataAt_22 : decode b_Ch_dataAt 22 = .ok (.aload_n 1, 1) := by decide +kernel
theorem d_Ch_dataAt_23 : decode b_Ch_dataAt 23 = .ok (.iload 5, 2) := by decide +kernel
theorem d_Ch_dataAt_25 : decode b_Ch_dataAt 25 = .ok (.iconst 1, 1) := by decide +kernel
theorem d_Ch_dataAt_26 : decode b_Ch_dataAt 26 = .ok (.invokevirtual 26, 3) := by decide +kernel
theorem d_Ch_dataAt_29 : decode b_Ch_dataAt 29 = .ok (.istore 6, 2) := by decide +kernel
theorem d_Ch_dataAt_31 : decode b_Ch_dataAt 31 = .ok (.iload_n 3, 1) := by decide +kernel
theorem d_Ch_dataAt_32 : decode b_Ch_dataAt 32 = .ok (.iload 6, 2) := by decide +kernel
theorem d_Ch_dataAt_34 : decode b_Ch_dataAt 34 = .ok (.if_icmp .ge 13, 3) := by decide +kernel
theorem d_Ch_dataAt_37 : decode b_Ch_dataAt 37 = .ok (.aload_n 1, 1) := by decide +kernel
theorem d_Ch_dataAt_38 : decode b_Ch_dataAt 38 = .ok (.iload 5, 2) := by decide +kernel
theorem d_Ch_dataAt_40 : decode b_Ch_dataAt 40 = .ok (.iconst 3, 1) := by decide +kernel
theorem d_Ch_dataAt_41 : decode b_Ch_dataAt 41 = .ok (.iload_n 3, 1) := by decide +kernel
theorem d_Ch_dataAt_42 : decode b_Ch_dataAt 42 = .ok (.iadd, 1) := by decide +kernel
theorem d_Ch_dataAt_43 : decode b_Ch_dataAt 43 = .ok (.invokevirtual 26, 3) := by decide +kernel
theorem d_Ch_dataAt_46 : decode b_Ch_dataAt 46 = .ok (.ireturn, 1) := by decide +kernel
theorem d_Ch_dataAt_47 : decode b_Ch_dataAt 47 = .ok (.iload_n 3, 1) := by decide +kernel
theorem d_Ch_dataAt_48 : decode b_Ch_dataAt 48 = .ok (.iload 6, 2) := by decide +kernel
theorem d_Ch_dataAt_50 : decode b_Ch_dataAt 50 = .ok (.isub, 1) := by decide +kernel
theorem d_Ch_dataAt_51 : decode b_Ch_dataAt 51 = .ok (.istore_n 3, 1) := by decide +kernel
theorem d_Ch_dataAt_52 : decode b_Ch_dataAt 52 = .ok (.iinc 4 1, 3) := by decide +kernel
theorem d_Ch_dataAt_55 : decode b_Ch_dataAt 55 = .ok (.goto (-50), 3) := by decide +kernel
theorem d_Ch_dataAt_58 : decode b_Ch_dataAt 58 = .ok (.iconst 0, 1) := by decide +kernel
theorem d_Ch_dataAt_59 : decode b_Ch_dataAt 59 = .ok (.ireturn, 1) := by decide +kernel
theorem d_Ch_follow_0 : decode b_Ch_follow 0 = .ok (.aload_n 0, 1) := by decide +kernel
theorem d_Ch_follow_1 : decode b_Ch_follow 1 = .ok (.iconst 0, 1) := by decide +kernel
theorem d_Ch_follow_2 : decode b_Ch_follow 2 = .ok (.putfield 19, 3) := by decide +kernel
theorem d_Ch_follow_5 : decode b_Ch_follow 5 = .ok (.aload_n 0, 1) := by decide +kernel
theorem d_Ch_follow_6 : decode b_Ch_follow 6 = .ok (.iconst 1, 1) := by decide +kernel
theorem d_Ch_follow_7 : decode b_Ch_follow 7 = .ok (.putfield 15, 3) := by decide +kernel
theorem d_Ch_follow_10 : decode b_Ch_follow 10 = .ok (.aload_n 0, 1) := by decide +kernel
theorem d_Ch_follow_11 : decode b_Ch_follow 11 = .ok (.iconst 0, 1) := by decide +kernel
theorem d_Ch_follow_12 : decode b_Ch_follow 12 = .ok (.putfield 23, 3) := by decide +kernel
theorem d_Ch_follow_15 : decode b_Ch_follow 15 = .ok (.aload_n 0, 1) := by decide +kernel
theorem d_Ch_follow_16 : decode b_Ch_follow 16 = .ok (.aload_n 1, 1) := by decide +kernel
theorem d_Ch_follow_17 : decode b_Ch_follow 17 = .ok (.iload_n 2, 1) := by decide +kernel
theorem d_Ch_follow_18 : decode b_Ch_follow 18 = .ok (.iconst 2, 1) := by decide +kernel
theorem d_Ch_follow_19 : decode b_Ch_follow 19 = .ok (.invokevirtual 26, 3) := by decide +kernel
theorem d_Ch_follow_22 : decode b_Ch_follow 22 = .ok (.putfield 32, 3) := by decide +kernel
theorem d_Ch_follow_25 : decode b_Ch_follow 25 = .ok (.iload_n 2, 1) := by decide +kernel
theorem d_Ch_follow_26 : decode b_Ch_follow 26 = .ok (.istore_n 3, 1) := by decide +kernel
theorem d_Ch_follow_27 : decode b_Ch_follow 27 = .ok (.iconst 0, 1) := by decide +kernel
theorem d_Ch_follow_28 : decode b_Ch_follow 28 = .ok (.istore 4, 2) := by decide +kernel
theorem d_Ch_follow_30 : decode b_Ch_follow 30 = .ok (.iload 4, 2) := by decide +kernel
theorem d_Ch_follow_32 : decode b_Ch_follow 32 = .ok (.iconst 3, 1) := by decide +kernel
theorem d_Ch_follow_33 : decode b_Ch_follow 33 = .ok (.if_icmp .ge 91, 3) := by decide +kernel
theorem d_Ch_follow_36 : decode b_Ch_follow 36 = .ok (.aload_n 1, 1) := by decide +kernel
theorem d_Ch_follow_37 : decode b_Ch_follow 37 = .ok (.iload_n 3, 1) := by decide +kernel
theorem d_Ch_follow_38 : decode b_Ch_follow 38 = .ok (.invokevirtual 35, 3) := by decide +kernel
theorem d_Ch_follow_41 : decode b_Ch_follow 41 = .ok (.ifCond .eq 11, 3) := by decide +kernel
theorem d_Ch_follow_44 : decode b_Ch_follow 44 = .ok (.aload_n 0, 1) := by decide +kernel
theorem d_Ch_follow_45 : decode b_Ch_follow 45 = .ok (.iload_n 3, 1) := by decide +kernel
theorem d_Ch_follow_46 : decode b_Ch_follow 46 = .ok (.invokevirtual 39, 3) := by decide +kernel
theorem d_Ch_follow_49 : decode b_Ch_follow 49 = .ok (.ifCond .eq 4, 3) := by decide +kernel
theorem d_Ch_follow_52 : decode b_Ch_follow 52 = .ok (.return_, 1) := by decide +kernel
theorem d_Ch_follow_53 : decode b_Ch_follow 53 = .ok (.aload_n 0, 1) := by decide +kernel
theorem d_Ch_follow_54 : decode b_Ch_follow 54 = .ok (.getfield 9, 3) := by decide +kernel
theorem d_Ch_follow_57 : decode b_Ch_follow 57 = .ok (.iload 4, 2) := by decide +kernel
theorem d_Ch_follow_59 : decode b_Ch_follow 59 = .ok (.iload_n 3, 1) := by decide +kernel
theorem d_Ch_follow_60 : decode b_Ch_follow 60 = .ok (.iastore, 1) := by decide +kernel
theorem d_Ch_follow_61 : decode b_Ch_follow 61 = .ok (.aload_n 0, 1) := by decide +kernel
theorem d_Ch_follow_62 : decode b_Ch_follow 62 = .ok (.iload 4, 2) := by decide +kernel
theorem d_Ch_follow_64 : decode b_Ch_follow 64 = .ok (.iconst 1, 1) := by decide +kernel
theorem d_Ch_follow_65 : decode b_Ch_follow 65 = .ok (.iadd, 1) := by decide +kernel
theorem d_Ch_follow_66 : decode b_Ch_follow 66 = .ok (.putfield 19, 3) := by decide +kernel
theorem d_Ch_follow_69 : decode b_Ch_follow 69 = .ok (.aload_n 0, 1) := by decide +kernel
theorem d_Ch_follow_70 : decode b_Ch_follow 70 = .ok (.aload_n 1, 1) := by decide +kernel
theorem d_Ch_follow_71 : decode b_Ch_follow 71 = .ok (.iload_n 3, 1) := by decide +kernel
theorem d_Ch_follow_72 : decode b_Ch_follow 72 = .ok (.invokevirtual 42, 3) := by decide +kernel
theorem d_Ch_follow_75 : decode b_Ch_follow 75 = .ok (.ifCond .ne 4, 3) := by decide +kernel
theorem d_Ch_follow_78 : decode b_Ch_follow 78 = .ok (.return_, 1) := by decide +kernel
theorem d_Ch_follow_79 : decode b_Ch_follow 79 = .ok (.aload_n 0, 1) := by decide +kernel
theorem d_Ch_follow_80 : decode b_Ch_follow 80 = .ok (.dup, 1) := by decide +kernel
theorem d_Ch_follow_81 : decode b_Ch_follow 81 = .ok (.getfield 23, 3) := by decide +kernel
theorem d_Ch_follow_84 : decode b_Ch_follow 84 = .ok (.aload_n 1, 1) := by decide +kernel
theorem d_Ch_follow_85 : decode b_Ch_follow 85 = .ok (.iload_n 3, 1) := by decide +kernel
theorem d_Ch_follow_86 : decode b_Ch_follow 86 = .ok (.iconst 1, 1) := by decide +kernel
theorem d_Ch_follow_87 : decode b_Ch_follow 87 = .ok (.invokevirtual 26, 3) := by decide +kernel
theorem d_Ch_follow_90 : decode b_Ch_follow 90 = .ok (.iadd, 1) := by decide +kernel
theorem d_Ch_follow_91 : decode b_Ch_follow 91 = .ok (.putfield 23, 3) := by decide +kernel
theorem d_Ch_follow_94 : decode b_Ch_follow 94 = .ok (.aload_n 1, 1) := by decide +kernel
theorem d_Ch_follow_95 : decode b_Ch_follow 95 = .ok (.iload_n 3, 1) := by decide +kernel
theorem d_Ch_follow_96 : decode b_Ch_follow 96 = .ok (.iconst 0, 1) := by decide +kernel
theorem d_Ch_follow_97 : decode b_Ch_follow 97 = .ok (.invokevirtual 26, 3) := by decide +kernel
theorem d_Ch_follow_100 : decode b_Ch_follow 100 = .ok (.istore 5, 2) := by decide +kernel
theorem d_Ch_follow_102 : decode b_Ch_follow 102 = .ok (.iload 5, 2) := by decide +kernel
theorem d_Ch_follow_104 : decode b_Ch_follow 104 = .ok (.ifCond .ne 9, 3) := by decide +kernel
theorem d_Ch_follow_107 : decode b_Ch_follow 107 = .ok (.aload_n 0, 1) := by decide +kernel
theorem d_Ch_follow_108 : decode b_Ch_follow 108 = .ok (.iconst 0, 1) := by decide +kernel
theorem d_Ch_follow_109 : decode b_Ch_follow 109 = .ok (.putfield 15, 3) := by decide +kernel
theorem d_Ch_follow_112 : decode b_Ch_follow 112 = .ok (.return_, 1) := by decide +kernel
theorem d_Ch_follow_113 : decode b_Ch_follow 113 = .ok (.iload 5, 2) := by decide +kernel
theorem d_Ch_follow_115 : decode b_Ch_follow 115 = .ok (.iconst 1, 1) := by decide +kernel
theorem d_Ch_follow_116 : decode b_Ch_follow 116 = .ok (.isub, 1) := by decide +kernel
theorem d_Ch_follow_117 : decode b_Ch_follow 117 = .ok (.istore_n 3, 1) := by decide +kernel
theorem d_Ch_follow_118 : decode b_Ch_follow 118 = .ok (.iinc 4 1, 3) := by decide +kernel
theorem d_Ch_follow_121 : decode b_Ch_follow 121 = .ok (.goto (-91), 3) := by decide +kernel
theorem d_Ch_follow_124 : decode b_Ch_follow 124 = .ok (.return_, 1) := by decide +kernel
def f_Ch_wentThrough_l (pl : Nat → Int32) (cnt zp : Int32) : Nat → Nat → Int32
  | 0, _ => 0
  | fu + 1, k =>
    if cnt ≤ (nI k) then
      0
    else
      if 3 ≤ (nI k) then
        0
      else
        if (pl k) = zp then
          1
        else
          f_Ch_wentThrough_l pl cnt zp fu (k + 1)
def f_Ch_wentThrough (pl : Nat → Int32) (cnt zp : Int32) : Int32 :=
  f_Ch_wentThrough_l pl cnt zp (3 + 1) 0
set_option maxHeartbeats 1000000 in
set_option maxRecDepth 100000 in
/-- wentThrough -/
theorem c_Ch_wentThrough (l : Launch) (D : va_G) (cI cZ cJ : ClassId) (h0 a0 : Nat) (pl : Nat → Int32) (cnt brk hld mon : Int32) (zp : Int32) : sf_M (S := Int32) l D classes (sf_tys cI cZ cJ) y_Ch_wentThrough (sf_ws y_Ch_wentThrough b_Ch_wentThrough 3 (some .boolean)) 0 0 [.ref h0, .int zp] [(h0, .inr (1, [.ref a0, .int cnt, .int brk, .int hld, .int mon])), (a0, .inl (cI, 3, .inl pl))] (fun r => some (.int r)) (fun r => r = f_Ch_wentThrough pl cnt zp) (fun _ => [(h0, .inr (1, [.ref a0, .int cnt, .int brk, .int hld, .int mon])), (a0, .inl (cI, 3, .inl pl))]) := by
  refine sf_ofW (S := Int32) (by decide) (Nat.le_of_ble_eq_true rfl) ?_
  intro p e s m below meth c A ls R args Q hR hArgs hQ hC0 hr hK hP hD hl
  obtain ⟨hx, hb, hml, hown, hts, hA, hlk⟩ := hC0
  have hS : va_S A s.heap s.heap [] := va_S.rf
  have hl : lv_has ls 3 [(0, .ref h0), (1, .int zp)] := hl
  refine lv_iconst (v := 0) hx hb d_Ch_wentThrough_0 (by decide) ?_
  refine lv_istore_n (lv' := [(2, .int 0), (0, .ref h0), (1, .int zp)]) hx hb d_Ch_wentThrough_1 rfl hl (by decide) rfl (fun ls hl => ?_)
  have loop2 : ∀ (fu k : Nat), k ≤ 3 → k + fu = 3 + 1 → f_Ch_wentThrough_l pl cnt zp fu k = f_Ch_wentThrough pl cnt zp → ∀ (H : Heap) (locs : List Loc), va_P D classes [(h0, .inr (1, [.ref a0, .int cnt, .int brk, .int hld, .int mon])), (a0, .inl (cI, 3, .inl pl))] H → va_D A [(h0, .inr (1, [.ref a0, .int cnt, .int brk, .int hld, .int mon])), (a0, .inl (cI, 3, .inl pl))] → va_S A s.heap H locs → ∀ (ls : Array Slot), lv_has ls 3 [(0, .ref h0), (1, .int zp), (2, .int (nI k))] → W p l e R s m args below meth c H locs 0 0 Q (F0 m 2 ls []) := by
    intro fu
    induction fu with
    | zero =>
      intro k h1 h2
      exact absurd h2 (by omega)
    | succ fu ih2 =>
      intro k hk2 hkn2 heq2 H locs hP hD hS ls hl
      refine lv_iload_n hx hb d_Ch_wentThrough_2 rfl (lv_at hl 2 rfl) ?_
      refine lv_aload_n hx hb d_Ch_wentThrough_3 rfl (lv_at hl 0 rfl) ?_
      refine va_get (D := D) (ci := 1) (v := .int cnt) (C := R_Ch) (T := F_Ch) (N := 5) hx hb hts i_Ch hown hK hP 0 rfl rfl 1 (by decide) (hts _ wd_94) (fun _ h9 => h9) rfl d_Ch_wentThrough_4 ?_
      refine lv_icmp_ge (tgt := 33) hx hb d_Ch_wentThrough_7 (by decide) (fun c_1 => ?_) (fun c_1 => ?_)
      · refine lv_iconst (v := 0) hx hb d_Ch_wentThrough_33 (by decide) ?_
        rw [hQ]
        exact sf_iret 0 hx hb hr hlk hS sf_b0 rfl (by rw [← heq2]; simp only [f_Ch_wentThrough_l, eq_true c_1, ↓reduceIte]) hP d_Ch_wentThrough_34
      · refine lv_iload_n hx hb d_Ch_wentThrough_10 rfl (lv_at hl 2 rfl) ?_
        refine lv_iconst (v := 3) hx hb d_Ch_wentThrough_11 (by decide) ?_
        refine lv_icmp_ge (tgt := 33) hx hb d_Ch_wentThrough_12 (by decide) (fun c_2 => ?_) (fun c_2 => ?_)
        · refine lv_iconst (v := 0) hx hb d_Ch_wentThrough_33 (by decide) ?_
          rw [hQ]
          exact sf_iret 0 hx hb hr hlk hS sf_b0 rfl (by rw [← heq2]; simp only [f_Ch_wentThrough_l, eq_false c_1, eq_true c_2, ↓reduceIte]) hP d_Ch_wentThrough_34
        · have hlt : k < 3 := sf_lt_of (N := 3) (by omega) (by omega) c_2
          refine lv_aload_n hx hb d_Ch_wentThrough_15 rfl (lv_at hl 0 rfl) ?_
          refine va_get (D := D) (ci := 1) (v := .ref a0) (C := R_Ch) (T := F_Ch) (N := 5) hx hb hts i_Ch hown hK hP 0 rfl rfl 0 (by decide) (hts _ wd_93) (fun _ h9 => h9) rfl d_Ch_wentThrough_16 ?_
          refine lv_iload_n hx hb d_Ch_wentThrough_19 rfl (lv_at hl 2 rfl) ?_
          refine va_iald hx hb hK hP 1 0 rfl rfl (vp_in_nI hlt (by omega)) d_Ch_wentThrough_20 ?_
          rw [show ((nI k) : Int32).toNatClampNeg = k from nI_clamp (n := k) (by omega)]
          refine lv_iload_n hx hb d_Ch_wentThrough_21 rfl (lv_at hl 1 rfl) ?_
          refine lv_icmp_ne (tgt := 27) hx hb d_Ch_wentThrough_22 (by decide) (fun c_3 => ?_) (fun c_3 => ?_)
          · refine lv_iinc (v := (nI (k + 1))) (lv' := [(2, .int (nI (k + 1))), (0, .ref h0), (1, .int zp)]) hx hb d_Ch_wentThrough_27 hl (k := 2) rfl (nI_1 k) (by decide) rfl (fun ls hl => ?_)
            refine lv_goto (tgt := 2) hx hb d_Ch_wentThrough_30 (by decide) ?_
            exact ih2 (k + 1) (by omega) (by omega) (by rw [← heq2]; simp only [f_Ch_wentThrough_l, eq_false c_1, eq_false c_2, eq_false c_3, ↓reduceIte]) _ _ hP hD hS ls (lv_sub hl [1, 2, 0] rfl)
          · refine lv_iconst (v := 1) hx hb d_Ch_wentThrough_25 (by decide) ?_
            rw [hQ]
            exact sf_iret 1 hx hb hr hlk hS sf_b1 rfl (by rw [← heq2]; simp only [f_Ch_wentThrough_l, eq_false c_1, eq_false c_2, eq_true c_3, ↓reduceIte]) hP d_Ch_wentThrough_26
  exact loop2 (3 + 1) 0 (by omega) (by omega) (by simp only [f_Ch_wentThrough, ↓reduceIte]) _ _ hP hD hS ls (lv_sub hl [1, 2, 0] rfl)
def f_Ch_isRight (mon : Int32) (n : Nat) (F : Nat → Int32) (N : Nat) (zp : Int32) : Int32 :=
  if (f_Bl_get n F (nI (N + 4)) zp 1) < 1 then
    0
  else
    if 25 < (f_Bl_get n F (nI (N + 4)) zp 1) then
      0
    else
      if (f_Bl_get n F (nI (N + 4)) zp 2) = mon then
        if (f_Bl_sumIsRight n F zp N) = 0 then
          0
        else
          1
      else
        0
set_option maxHeartbeats 1000000 in
set_option maxRecDepth 100000 in
/-- isRight -/
theorem c_Ch_isRight (l : Launch) (D : va_G) (cI cZ cJ : ClassId) (h0 a0 : Nat) (pl : Nat → Int32) (cnt brk hld mon : Int32) (h1 a1 n : Nat) (F : Nat → Int32) (N : Nat) (zp : Int32) (hn : n < 2 ^ 31) (hN : N + 4 ≤ n) : sf_M (S := Int32) l D classes (sf_tys cI cZ cJ) y_Ch_isRight (sf_ws y_Ch_isRight b_Ch_isRight 4 (some .boolean)) 2 49 [.ref h0, .ref h1, .int zp] [(h0, .inr (1, [.ref a0, .int cnt, .int brk, .int hld, .int mon])), (a0, .inl (cI, 3, .inl pl)), (h1, .inr (0, [.ref a1, .int (nI (N + 4))])), (a1, .inl (cI, n, .inl F))] (fun r => some (.int r)) (fun r => r = f_Ch_isRight mon n F N zp) (fun _ => [(h0, .inr (1, [.ref a0, .int cnt, .int brk, .int hld, .int mon])), (a0, .inl (cI, 3, .inl pl)), (h1, .inr (0, [.ref a1, .int (nI (N + 4))])), (a1, .inl (cI, n, .inl F))]) := by
  refine sf_ofW (S := Int32) (by decide) (Nat.le_of_ble_eq_true rfl) ?_
  intro p e s m below meth c A ls R args Q hR hArgs hQ hC0 hr hK hP hD hl
  obtain ⟨hx, hb, hml, hown, hts, hA, hlk⟩ := hC0
  have hS : va_S A s.heap s.heap [] := va_S.rf
  have hl : lv_has ls 4 [(0, .ref h0), (1, .ref h1), (2, .int zp)] := hl
  refine lv_aload_n hx hb d_Ch_isRight_0 rfl (lv_at hl 1 rfl) ?_
  refine lv_iload_n hx hb d_Ch_isRight_1 rfl (lv_at hl 2 rfl) ?_
  refine lv_iconst (v := 1) hx hb d_Ch_isRight_2 (by decide) ?_
  refine sf_callVr (S := Int32) (rest := []) ⟨hx, hb, hml, hown, hts⟩ (c_Bl_get l D cI cZ cJ h1 a1 n F (nI (N + 4)) zp 1 hn) (sf_cwV lk_Ch_26 hts (fun _ h => h) (by rw [hR]; exact ⟨Nat.le_of_ble_eq_true rfl, Nat.le_of_ble_eq_true rfl⟩)) hK hP hD hS hA [2, 3] rfl rfl (fun _ => rfl) (ci := 0) (q0 := 0) rfl rfl rfl rfl rfl hl.1 (Nat.le_of_ble_eq_true rfl) d_Ch_isRight_3 ⟨Nat.zero_le _, Nat.zero_le _⟩ (fun u_1 H locs hu_1 hP hS => ?_)
  refine lv_istore_n (lv' := [(3, .int u_1), (0, .ref h0), (1, .ref h1), (2, .int zp)]) hx hb d_Ch_isRight_6 rfl hl (by decide) rfl (fun ls hl => ?_)
  refine lv_iload_n hx hb d_Ch_isRight_7 rfl (lv_at hl 0 rfl) ?_
  refine lv_iconst (v := 1) hx hb d_Ch_isRight_8 (by decide) ?_
  refine lv_icmp_lt (tgt := 43) hx hb d_Ch_isRight_9 (by decide) (fun c_2 => ?_) (fun c_2 => ?_)
  · refine lv_iconst (v := 0) hx hb d_Ch_isRight_43 (by decide) ?_
    rw [hQ]
    exact sf_iret 0 hx hb hr hlk hS sf_b0 rfl (by simp only [f_Ch_isRight, ← hu_1, eq_true c_2, ↓reduceIte]) hP d_Ch_isRight_44
  · refine lv_iload_n hx hb d_Ch_isRight_12 rfl (lv_at hl 0 rfl) ?_
    refine lv_bipush (v := 25) hx hb d_Ch_isRight_13 (by decide) ?_
    refine lv_icmp_gt (tgt := 43) hx hb d_Ch_isRight_15 (by decide) (fun c_3 => ?_) (fun c_3 => ?_)
    · refine lv_iconst (v := 0) hx hb d_Ch_isRight_43 (by decide) ?_
      rw [hQ]
      exact sf_iret 0 hx hb hr hlk hS sf_b0 rfl (by simp only [f_Ch_isRight, ← hu_1, eq_false c_2, eq_true c_3, ↓reduceIte]) hP d_Ch_isRight_44
    · refine lv_aload_n hx hb d_Ch_isRight_18 rfl (lv_at hl 2 rfl) ?_
      refine lv_iload_n hx hb d_Ch_isRight_19 rfl (lv_at hl 3 rfl) ?_
      refine lv_iconst (v := 2) hx hb d_Ch_isRight_20 (by decide) ?_
      refine sf_callVr (S := Int32) (rest := []) ⟨hx, hb, hml, hown, hts⟩ (c_Bl_get l D cI cZ cJ h1 a1 n F (nI (N + 4)) zp 2 hn) (sf_cwV lk_Ch_26 hts (fun _ h => h) (by rw [hR]; exact ⟨Nat.le_of_ble_eq_true rfl, Nat.le_of_ble_eq_true rfl⟩)) hK hP hD hS hA [2, 3] rfl rfl (fun _ => rfl) (ci := 0) (q0 := 0) rfl rfl rfl rfl rfl hl.1 (Nat.le_of_ble_eq_true rfl) d_Ch_isRight_21 ⟨Nat.zero_le _, Nat.zero_le _⟩ (fun u_4 H locs hu_4 hP hS => ?_)
      refine lv_aload_n hx hb d_Ch_isRight_24 rfl (lv_at hl 1 rfl) ?_
      refine va_get (D := D) (ci := 1) (v := .int mon) (C := R_Ch) (T := F_Ch) (N := 5) hx hb hts i_Ch hown hK hP 0 rfl rfl 4 (by decide) (hts _ wd_98) (fun _ h9 => h9) rfl d_Ch_isRight_25 ?_
      refine lv_icmp_ne (tgt := 43) hx hb d_Ch_isRight_28 (by decide) (fun c_5 => ?_) (fun c_5 => ?_)
      · refine lv_iconst (v := 0) hx hb d_Ch_isRight_43 (by decide) ?_
        rw [hQ]
        exact sf_iret 0 hx hb hr hlk hS sf_b0 rfl (by simp only [f_Ch_isRight, ← hu_1, ← hu_4, eq_false c_2, eq_false c_3, eq_false c_5, ↓reduceIte]) hP d_Ch_isRight_44
      · refine lv_aload_n hx hb d_Ch_isRight_31 rfl (lv_at hl 2 rfl) ?_
        refine lv_iload_n hx hb d_Ch_isRight_32 rfl (lv_at hl 3 rfl) ?_
        refine sf_callVr (S := Int32) (rest := []) ⟨hx, hb, hml, hown, hts⟩ (c_Bl_sumIsRight l D cI cZ cJ h1 a1 n F zp N hn hN) (sf_cwV lk_Ch_46 hts (fun _ h => h) (by rw [hR]; exact ⟨Nat.le_of_ble_eq_true rfl, Nat.le_of_ble_eq_true rfl⟩)) hK hP hD hS hA [2, 3] rfl rfl (fun _ => rfl) (ci := 0) (q0 := 0) rfl rfl rfl rfl rfl hl.1 (Nat.le_of_ble_eq_true rfl) d_Ch_isRight_33 ⟨Nat.zero_le _, Nat.zero_le _⟩ (fun u_6 H locs hu_6 hP hS => ?_)
        refine lv_if_eq (tgt := 43) hx hb d_Ch_isRight_36 (by decide) (fun c_7 => ?_) (fun c_7 => ?_)
        · refine lv_iconst (v := 0) hx hb d_Ch_isRight_43 (by decide) ?_
          rw [hQ]
          exact sf_iret 0 hx hb hr hlk hS sf_b0 rfl (by simp only [f_Ch_isRight, ← hu_1, ← hu_4, ← hu_6, eq_false c_2, eq_false c_3, eq_true c_5, eq_true c_7, ↓reduceIte]) hP d_Ch_isRight_44
        · refine lv_iconst (v := 1) hx hb d_Ch_isRight_39 (by decide) ?_
          refine lv_goto (tgt := 44) hx hb d_Ch_isRight_40 (by decide) ?_
          rw [hQ]
          exact sf_iret 1 hx hb hr hlk hS sf_b1 rfl (by simp only [f_Ch_isRight, ← hu_1, ← hu_4, ← hu_6, eq_false c_2, eq_false c_3, eq_true c_5, eq_false c_7, ↓reduceIte]) hP d_Ch_isRight_44
def f_Ch_placeAt (pl : Nat → Int32) (cnt i : Int32) : Int32 :=
  if i < 0 then
    (-1)
  else
    if cnt ≤ i then
      (-1)
    else
      if 3 ≤ i then
        (-1)
      else
        (pl i.toNatClampNeg)
set_option maxHeartbeats 1000000 in
set_option maxRecDepth 100000 in
/-- placeAt -/
theorem c_Ch_placeAt (l : Launch) (D : va_G) (cI cZ cJ : ClassId) (h0 a0 : Nat) (pl : Nat → Int32) (cnt brk hld mon : Int32) (i : Int32) : sf_M (S := Int32) l D classes (sf_tys cI cZ cJ) y_Ch_placeAt (sf_ws y_Ch_placeAt b_Ch_placeAt 2 (some .int)) 0 0 [.ref h0, .int i] [(h0, .inr (1, [.ref a0, .int cnt, .int brk, .int hld, .int mon])), (a0, .inl (cI, 3, .inl pl))] (fun r => some (.int r)) (fun r => r = f_Ch_placeAt pl cnt i) (fun _ => [(h0, .inr (1, [.ref a0, .int cnt, .int brk, .int hld, .int mon])), (a0, .inl (cI, 3, .inl pl))]) := by
  refine sf_ofW (S := Int32) (by decide) (Nat.le_of_ble_eq_true rfl) ?_
  intro p e s m below meth c A ls R args Q hR hArgs hQ hC0 hr hK hP hD hl
  obtain ⟨hx, hb, hml, hown, hts, hA, hlk⟩ := hC0
  have hS : va_S A s.heap s.heap [] := va_S.rf
  have hl : lv_has ls 2 [(0, .ref h0), (1, .int i)] := hl
  refine lv_iload_n hx hb d_Ch_placeAt_0 rfl (lv_at hl 1 rfl) ?_
  refine lv_if_lt (tgt := 26) hx hb d_Ch_placeAt_1 (by decide) (fun c_1 => ?_) (fun c_1 => ?_)
  · refine lv_iconst (v := (-1)) hx hb d_Ch_placeAt_26 (by decide) ?_
    rw [hQ]
    exact sf_iret (-1) hx hb hr hlk hS rfl rfl (by simp only [f_Ch_placeAt, eq_true c_1, ↓reduceIte]) hP d_Ch_placeAt_27
  · refine lv_iload_n hx hb d_Ch_placeAt_4 rfl (lv_at hl 1 rfl) ?_
    refine lv_aload_n hx hb d_Ch_placeAt_5 rfl (lv_at hl 0 rfl) ?_
    refine va_get (D := D) (ci := 1) (v := .int cnt) (C := R_Ch) (T := F_Ch) (N := 5) hx hb hts i_Ch hown hK hP 0 rfl rfl 1 (by decide) (hts _ wd_94) (fun _ h9 => h9) rfl d_Ch_placeAt_6 ?_
    refine lv_icmp_ge (tgt := 26) hx hb d_Ch_placeAt_9 (by decide) (fun c_2 => ?_) (fun c_2 => ?_)
    · refine lv_iconst (v := (-1)) hx hb d_Ch_placeAt_26 (by decide) ?_
      rw [hQ]
      exact sf_iret (-1) hx hb hr hlk hS rfl rfl (by simp only [f_Ch_placeAt, eq_false c_1, eq_true c_2, ↓reduceIte]) hP d_Ch_placeAt_27
    · refine lv_iload_n hx hb d_Ch_placeAt_12 rfl (lv_at hl 1 rfl) ?_
      refine lv_iconst (v := 3) hx hb d_Ch_placeAt_13 (by decide) ?_
      refine lv_icmp_ge (tgt := 26) hx hb d_Ch_placeAt_14 (by decide) (fun c_3 => ?_) (fun c_3 => ?_)
      · refine lv_iconst (v := (-1)) hx hb d_Ch_placeAt_26 (by decide) ?_
        rw [hQ]
        exact sf_iret (-1) hx hb hr hlk hS rfl rfl (by simp only [f_Ch_placeAt, eq_false c_1, eq_false c_2, eq_true c_3, ↓reduceIte]) hP d_Ch_placeAt_27
      · refine lv_aload_n hx hb d_Ch_placeAt_17 rfl (lv_at hl 0 rfl) ?_
        refine va_get (D := D) (ci := 1) (v := .ref a0) (C := R_Ch) (T := F_Ch) (N := 5) hx hb hts i_Ch hown hK hP 0 rfl rfl 0 (by decide) (hts _ wd_93) (fun _ h9 => h9) rfl d_Ch_placeAt_18 ?_
        refine lv_iload_n hx hb d_Ch_placeAt_21 rfl (lv_at hl 1 rfl) ?_
        refine va_iald hx hb hK hP 1 0 rfl rfl (sf_in (n := 3) c_1 c_3 (by omega)) d_Ch_placeAt_22 ?_
        refine lv_goto (tgt := 27) hx hb d_Ch_placeAt_23 (by decide) ?_
        rw [hQ]
        exact sf_iret (pl i.toNatClampNeg) hx hb hr hlk hS rfl rfl (by simp only [f_Ch_placeAt, eq_false c_1, eq_false c_2, eq_false c_3, ↓reduceIte]) hP d_Ch_placeAt_27
def f_Ch_bytes (brk hld : Int32) : Int32 :=
  if brk = 0 then
    hld
  else
    0
set_option maxHeartbeats 1000000 in
set_option maxRecDepth 100000 in
/-- bytes -/
theorem c_Ch_bytes (l : Launch) (D : va_G) (cI cZ cJ : ClassId) (h0 a0 : Nat) (pl : Nat → Int32) (cnt brk hld mon : Int32)  : sf_M (S := Int32) l D classes (sf_tys cI cZ cJ) y_Ch_bytes (sf_ws y_Ch_bytes b_Ch_bytes 1 (some .int)) 0 0 [.ref h0] [(h0, .inr (1, [.ref a0, .int cnt, .int brk, .int hld, .int mon])), (a0, .inl (cI, 3, .inl pl))] (fun r => some (.int r)) (fun r => r = f_Ch_bytes brk hld) (fun _ => [(h0, .inr (1, [.ref a0, .int cnt, .int brk, .int hld, .int mon])), (a0, .inl (cI, 3, .inl pl))]) := by
  refine sf_ofW (S := Int32) (by decide) (Nat.le_of_ble_eq_true rfl) ?_
  intro p e s m below meth c A ls R args Q hR hArgs hQ hC0 hr hK hP hD hl
  obtain ⟨hx, hb, hml, hown, hts, hA, hlk⟩ := hC0
  have hS : va_S A s.heap s.heap [] := va_S.rf
  have hl : lv_has ls 1 [(0, .ref h0)] := hl
  refine lv_aload_n hx hb d_Ch_bytes_0 rfl (lv_at hl 0 rfl) ?_
  refine va_get (D := D) (ci := 1) (v := .int brk) (C := R_Ch) (T := F_Ch) (N := 5) hx hb hts i_Ch hown hK hP 0 rfl rfl 2 (by decide) (hts _ wd_96) (fun _ h9 => h9) rfl d_Ch_bytes_1 ?_
  refine lv_if_eq (tgt := 11) hx hb d_Ch_bytes_4 (by decide) (fun c_1 => ?_) (fun c_1 => ?_)
  · refine lv_aload_n hx hb d_Ch_bytes_11 rfl (lv_at hl 0 rfl) ?_
    refine va_get (D := D) (ci := 1) (v := .int hld) (C := R_Ch) (T := F_Ch) (N := 5) hx hb hts i_Ch hown hK hP 0 rfl rfl 3 (by decide) (hts _ wd_97) (fun _ h9 => h9) rfl d_Ch_bytes_12 ?_
    rw [hQ]
    exact sf_iret hld hx hb hr hlk hS rfl rfl (by simp only [f_Ch_bytes, eq_true c_1, ↓reduceIte]) hP d_Ch_bytes_15
  · refine lv_iconst (v := 0) hx hb d_Ch_bytes_7 (by decide) ?_
    refine lv_goto (tgt := 15) hx hb d_Ch_bytes_8 (by decide) ?_
    rw [hQ]
    exact sf_iret 0 hx hb hr hlk hS rfl rfl (by simp only [f_Ch_bytes, eq_false c_1, ↓reduceIte]) hP d_Ch_bytes_15
def f_Ch_monthOrNone (brk mon : Int32) : Int32 :=
  if brk = 0 then
    mon
  else
    (-1)
set_option maxHeartbeats 1000000 in
set_option maxRecDepth 100000 in
/-- monthOrNone -/
theorem c_Ch_monthOrNone (l : Launch) (D : va_G) (cI cZ cJ : ClassId) (h0 a0 : Nat) (pl : Nat → Int32) (cnt brk hld mon : Int32)  : sf_M (S := Int32) l D classes (sf_tys cI cZ cJ) y_Ch_monthOrNone (sf_ws y_Ch_monthOrNone b_Ch_monthOrNone 1 (some .int)) 0 0 [.ref h0] [(h0, .inr (1, [.ref a0, .int cnt, .int brk, .int hld, .int mon])), (a0, .inl (cI, 3, .inl pl))] (fun r => some (.int r)) (fun r => r = f_Ch_monthOrNone brk mon) (fun _ => [(h0, .inr (1, [.ref a0, .int cnt, .int brk, .int hld, .int mon])), (a0, .inl (cI, 3, .inl pl))]) := by
  refine sf_ofW (S := Int32) (by decide) (Nat.le_of_ble_eq_true rfl) ?_
  intro p e s m below meth c A ls R args Q hR hArgs hQ hC0 hr hK hP hD hl
  obtain ⟨hx, hb, hml, hown, hts, hA, hlk⟩ := hC0
  have hS : va_S A s.heap s.heap [] := va_S.rf
  have hl : lv_has ls 1 [(0, .ref h0)] := hl
  refine lv_aload_n hx hb d_Ch_monthOrNone_0 rfl (lv_at hl 0 rfl) ?_
  refine va_get (D := D) (ci := 1) (v := .int brk) (C := R_Ch) (T := F_Ch) (N := 5) hx hb hts i_Ch hown hK hP 0 rfl rfl 2 (by decide) (hts _ wd_96) (fun _ h9 => h9) rfl d_Ch_monthOrNone_1 ?_
  refine lv_if_eq (tgt := 11) hx hb d_Ch_monthOrNone_4 (by decide) (fun c_1 => ?_) (fun c_1 => ?_)
  · refine lv_aload_n hx hb d_Ch_monthOrNone_11 rfl (lv_at hl 0 rfl) ?_
    refine va_get (D := D) (ci := 1) (v := .int mon) (C := R_Ch) (T := F_Ch) (N := 5) hx hb hts i_Ch hown hK hP 0 rfl rfl 4 (by decide) (hts _ wd_98) (fun _ h9 => h9) rfl d_Ch_monthOrNone_12 ?_
    rw [hQ]
    exact sf_iret mon hx hb hr hlk hS rfl rfl (by simp only [f_Ch_monthOrNone, eq_true c_1, ↓reduceIte]) hP d_Ch_monthOrNone_15
  · refine lv_iconst (v := (-1)) hx hb d_Ch_monthOrNone_7 (by decide) ?_
    refine lv_goto (tgt := 15) hx hb d_Ch_monthOrNone_8 (by decide) ?_
    rw [hQ]
    exact sf_iret (-1) hx hb hr hlk hS rfl rfl (by simp only [f_Ch_monthOrNone, eq_false c_1, ↓reduceIte]) hP d_Ch_monthOrNone_15
def f_Ch_dataAt_l (pl : Nat → Int32) (cnt : Int32) (n : Nat) (F : Nat → Int32) (N : Nat) : Nat → Nat → Int32 → Int32
  | 0, _, _ => 0
  | fu + 1, k, lf =>
    if cnt ≤ (nI k) then
      0
    else
      if (f_Bl_get n F (nI (N + 4)) (f_Ch_placeAt pl cnt (nI k)) 1) ≤ lf then
        f_Ch_dataAt_l pl cnt n F N fu (k + 1) (lf - (f_Bl_get n F (nI (N + 4)) (f_Ch_placeAt pl cnt (nI k)) 1))
      else
        (f_Bl_get n F (nI (N + 4)) (f_Ch_placeAt pl cnt (nI k)) (3 + lf))
def f_Ch_dataAt (pl : Nat → Int32) (cnt : Int32) (n : Nat) (F : Nat → Int32) (N : Nat) (i : Int32) : Int32 :=
  f_Ch_dataAt_l pl cnt n F N (cnt.toNatClampNeg + 1) 0 i
set_option maxHeartbeats 1000000 in
set_option maxRecDepth 100000 in
/-- dataAt -/
theorem c_Ch_dataAt (l : Launch) (D : va_G) (cI cZ cJ : ClassId) (h0 a0 : Nat) (pl : Nat → Int32) (cnt brk hld mon : Int32) (h1 a1 n : Nat) (F : Nat → Int32) (N : Nat) (i : Int32) (hn : n < 2 ^ 31) (hN : N + 4 ≤ n) : sf_M (S := Int32) l D classes (sf_tys cI cZ cJ) y_Ch_dataAt (sf_ws y_Ch_dataAt b_Ch_dataAt 7 (some .int)) 1 23 [.ref h0, .ref h1, .int i] [(h0, .inr (1, [.ref a0, .int cnt, .int brk, .int hld, .int mon])), (a0, .inl (cI, 3, .inl pl)), (h1, .inr (0, [.ref a1, .int (nI (N + 4))])), (a1, .inl (cI, n, .inl F))] (fun r => some (.int r)) (fun r => r = f_Ch_dataAt pl cnt n F N i) (fun _ => [(h0, .inr (1, [.ref a0, .int cnt, .int brk, .int hld, .int mon])), (a0, .inl (cI, 3, .inl pl)), (h1, .inr (0, [.ref a1, .int (nI (N + 4))])), (a1, .inl (cI, n, .inl F))]) := by
  refine sf_ofW (S := Int32) (by decide) (Nat.le_of_ble_eq_true rfl) ?_
  intro p e s m below meth c A ls R args Q hR hArgs hQ hC0 hr hK hP hD hl
  obtain ⟨hx, hb, hml, hown, hts, hA, hlk⟩ := hC0
  have hS : va_S A s.heap s.heap [] := va_S.rf
  have hl : lv_has ls 7 [(0, .ref h0), (1, .ref h1), (2, .int i)] := hl
  have hcl := sf_clt cnt
  refine lv_iload_n hx hb d_Ch_dataAt_0 rfl (lv_at hl 2 rfl) ?_
  refine lv_istore_n (lv' := [(3, .int i), (0, .ref h0), (1, .ref h1), (2, .int i)]) hx hb d_Ch_dataAt_1 rfl hl (by decide) rfl (fun ls hl => ?_)
  refine lv_iconst (v := 0) hx hb d_Ch_dataAt_2 (by decide) ?_
  refine lv_istore (lv' := [(4, .int 0), (3, .int i), (0, .ref h0), (1, .ref h1), (2, .int i)]) hx hb d_Ch_dataAt_3 hl (by decide) rfl (fun ls hl => ?_)
  have loop5 : ∀ (fu k : Nat) (lf : Int32), k ≤ cnt.toNatClampNeg → k + fu = cnt.toNatClampNeg + 1 → f_Ch_dataAt_l pl cnt n F N fu k lf = f_Ch_dataAt pl cnt n F N i → ∀ (H : Heap) (locs : List Loc), va_P D classes [(h0, .inr (1, [.ref a0, .int cnt, .int brk, .int hld, .int mon])), (a0, .inl (cI, 3, .inl pl)), (h1, .inr (0, [.ref a1, .int (nI (N + 4))])), (a1, .inl (cI, n, .inl F))] H → va_D A [(h0, .inr (1, [.ref a0, .int cnt, .int brk, .int hld, .int mon])), (a0, .inl (cI, 3, .inl pl)), (h1, .inr (0, [.ref a1, .int (nI (N + 4))])), (a1, .inl (cI, n, .inl F))] → va_S A s.heap H locs → ∀ (ls : Array Slot), lv_has ls 7 [(0, .ref h0), (1, .ref h1), (2, .int i), (3, .int lf), (4, .int (nI k))] → W p l e R s m args below meth c H locs 0 0 Q (F0 m 5 ls []) := by
    intro fu
    induction fu with
    | zero =>
      intro k lf h1 h2
      exact absurd h2 (by omega)
    | succ fu ih5 =>
      intro k lf hk5 hkn5 heq5 H locs hP hD hS ls hl
      have hcl := sf_clt cnt
      refine lv_iload hx hb d_Ch_dataAt_5 (lv_at hl 4 rfl) ?_
      refine lv_aload_n hx hb d_Ch_dataAt_7 rfl (lv_at hl 0 rfl) ?_
      refine va_get (D := D) (ci := 1) (v := .int cnt) (C := R_Ch) (T := F_Ch) (N := 5) hx hb hts i_Ch hown hK hP 0 rfl rfl 1 (by decide) (hts _ wd_94) (fun _ h9 => h9) rfl d_Ch_dataAt_8 ?_
      refine lv_icmp_ge (tgt := 58) hx hb d_Ch_dataAt_11 (by decide) (fun c_1 => ?_) (fun c_1 => ?_)
      · refine lv_iconst (v := 0) hx hb d_Ch_dataAt_58 (by decide) ?_
        rw [hQ]
        exact sf_iret 0 hx hb hr hlk hS rfl rfl (by rw [← heq5]; simp only [f_Ch_dataAt_l, eq_true c_1, ↓reduceIte]) hP d_Ch_dataAt_59
      · have hlt : k < cnt.toNatClampNeg := sf_ltc (by omega) c_1
        refine lv_aload_n hx hb d_Ch_dataAt_14 rfl (lv_at hl 0 rfl) ?_
        refine lv_iload hx hb d_Ch_dataAt_15 (lv_at hl 4 rfl) ?_
        refine sf_callVr (S := Int32) (rest := []) ⟨hx, hb, hml, hown, hts⟩ (c_Ch_placeAt l D cI cZ cJ h0 a0 pl cnt brk hld mon (nI k)) (sf_cwV lk_Ch_49 hts (fun _ h => h) (by rw [hR]; exact ⟨Nat.le_of_ble_eq_true rfl, Nat.le_of_ble_eq_true rfl⟩)) hK hP hD hS hA [0, 1] rfl rfl (fun _ => rfl) (ci := 1) (q0 := 0) rfl rfl rfl rfl rfl hl.1 (Nat.le_of_ble_eq_true rfl) d_Ch_dataAt_17 ⟨Nat.zero_le _, Nat.zero_le _⟩ (fun u_2 H locs hu_2 hP hS => ?_)
        refine lv_istore (lv' := [(5, .int u_2), (0, .ref h0), (1, .ref h1), (2, .int i), (3, .int lf), (4, .int (nI k))]) hx hb d_Ch_dataAt_20 hl (by decide) rfl (fun ls hl => ?_)
        refine lv_aload_n hx hb d_Ch_dataAt_22 rfl (lv_at hl 2 rfl) ?_
        refine lv_iload hx hb d_Ch_dataAt_23 (lv_at hl 0 rfl) ?_
        refine lv_iconst (v := 1) hx hb d_Ch_dataAt_25 (by decide) ?_
        refine sf_callVr (S := Int32) (rest := []) ⟨hx, hb, hml, hown, hts⟩ (c_Bl_get l D cI cZ cJ h1 a1 n F (nI (N + 4)) u_2 1 hn) (sf_cwV lk_Ch_26 hts (fun _ h => h) (by rw [hR]; exact ⟨Nat.le_of_ble_eq_true rfl, Nat.le_of_ble_eq_true rfl⟩)) hK hP hD hS hA [2, 3] rfl rfl (fun _ => rfl) (ci := 0) (q0 := 0) rfl rfl rfl rfl rfl hl.1 (Nat.le_of_ble_eq_true rfl) d_Ch_dataAt_26 ⟨Nat.zero_le _, Nat.zero_le _⟩ (fun u_3 H locs hu_3 hP hS => ?_)
        refine lv_istore (lv' := [(6, .int u_3), (5, .int u_2), (0, .ref h0), (1, .ref h1), (2, .int i), (3, .int lf), (4, .int (nI k))]) hx hb d_Ch_dataAt_29 hl (by decide) rfl (fun ls hl => ?_)
        refine lv_iload_n hx hb d_Ch_dataAt_31 rfl (lv_at hl 5 rfl) ?_
        refine lv_iload hx hb d_Ch_dataAt_32 (lv_at hl 0 rfl) ?_
        refine lv_icmp_ge (tgt := 47) hx hb d_Ch_dataAt_34 (by decide) (fun c_4 => ?_) (fun c_4 => ?_)
        · refine lv_iload_n hx hb d_Ch_dataAt_47 rfl (lv_at hl 5 rfl) ?_
          refine lv_iload hx hb d_Ch_dataAt_48 (lv_at hl 0 rfl) ?_
          refine lv_isub hx hb d_Ch_dataAt_50 ?_
          refine lv_istore_n (lv' := [(3, .int (lf - u_3)), (6, .int u_3), (5, .int u_2), (0, .ref h0), (1, .ref h1), (2, .int i), (4, .int (nI k))]) hx hb d_Ch_dataAt_51 rfl hl (by decide) rfl (fun ls hl => ?_)
          refine lv_iinc (v := (nI (k + 1))) (lv' := [(4, .int (nI (k + 1))), (3, .int (lf - u_3)), (6, .int u_3), (5, .int u_2), (0, .ref h0), (1, .ref h1), (2, .int i)]) hx hb d_Ch_dataAt_52 hl (k := 6) rfl (nI_1 k) (by decide) rfl (fun ls hl => ?_)
          refine lv_goto (tgt := 5) hx hb d_Ch_dataAt_55 (by decide) ?_
          exact ih5 (k + 1) (lf - u_3) (by omega) (by omega) (by rw [← heq5]; simp only [f_Ch_dataAt_l, ← hu_2, ← hu_3, eq_false c_1, eq_true c_4, ↓reduceIte]) _ _ hP hD hS ls (lv_sub hl [4, 5, 6, 1, 0] rfl)
        · refine lv_aload_n hx hb d_Ch_dataAt_37 rfl (lv_at hl 3 rfl) ?_
          refine lv_iload hx hb d_Ch_dataAt_38 (lv_at hl 1 rfl) ?_
          refine lv_iconst (v := 3) hx hb d_Ch_dataAt_40 (by decide) ?_
          refine lv_iload_n hx hb d_Ch_dataAt_41 rfl (lv_at hl 5 rfl) ?_
          refine lv_iadd hx hb d_Ch_dataAt_42 ?_
          refine sf_callVr (S := Int32) (rest := []) ⟨hx, hb, hml, hown, hts⟩ (c_Bl_get l D cI cZ cJ h1 a1 n F (nI (N + 4)) u_2 (3 + lf) hn) (sf_cwV lk_Ch_26 hts (fun _ h => h) (by rw [hR]; exact ⟨Nat.le_of_ble_eq_true rfl, Nat.le_of_ble_eq_true rfl⟩)) hK hP hD hS hA [2, 3] rfl rfl (fun _ => rfl) (ci := 0) (q0 := 0) rfl rfl rfl rfl rfl hl.1 (Nat.le_of_ble_eq_true rfl) d_Ch_dataAt_43 ⟨Nat.zero_le _, Nat.zero_le _⟩ (fun u_5 H locs hu_5 hP hS => ?_)
          rw [hQ]
          exact sf_iret u_5 hx hb hr hlk hS rfl rfl (by rw [← heq5]; simp only [f_Ch_dataAt_l, ← hu_2, ← hu_3, ← hu_5, eq_false c_1, eq_false c_4, ↓reduceIte]) hP d_Ch_dataAt_46
  exact loop5 (cnt.toNatClampNeg + 1) 0 i (by omega) (by omega) (by simp only [f_Ch_dataAt, ↓reduceIte]) _ _ hP hD hS ls (lv_sub hl [2, 3, 4, 1, 0] rfl)
def f_Ch_follow_l (n : Nat) (F : Nat → Int32) (N : Nat) (mo : Int32) : Nat → Nat → Int32 → (Nat → Int32) → Int32 → Int32 → ((Nat → Int32) × Int32 × Int32 × Int32 × Int32)
  | 0, _, _, _, _, _ => (fun _ => 0, 0, 0, 0, 0)
  | fu + 1, k, vpp, vpl, vcn, vhl =>
    if 3 ≤ (nI k) then
      (vpl, vcn, 1, vhl, mo)
    else
      if (f_Bl_hasBlock n (nI (N + 4)) vpp) = 0 then
        (vpl, vcn, 1, vhl, mo)
      else
        if (f_Ch_wentThrough vpl vcn vpp) = 0 then
          if (f_Ch_isRight mo n F N vpp) = 0 then
            ((upd vpl k vpp), ((nI k) + 1), 1, vhl, mo)
          else
            if (f_Bl_get n F (nI (N + 4)) vpp 0) = 0 then
              ((upd vpl k vpp), ((nI k) + 1), 0, (vhl + (f_Bl_get n F (nI (N + 4)) vpp 1)), mo)
            else
              f_Ch_follow_l n F N mo fu (k + 1) ((f_Bl_get n F (nI (N + 4)) vpp 0) - 1) (upd vpl k vpp) ((nI k) + 1) (vhl + (f_Bl_get n F (nI (N + 4)) vpp 1))
        else
          (vpl, vcn, 1, vhl, mo)
def f_Ch_follow (pl : Nat → Int32) (n : Nat) (F : Nat → Int32) (N : Nat) (fi : Int32) : ((Nat → Int32) × Int32 × Int32 × Int32 × Int32) :=
  f_Ch_follow_l n F N (f_Bl_get n F (nI (N + 4)) fi 2) (3 + 1) 0 fi pl 0 0
set_option maxHeartbeats 1000000 in
set_option maxRecDepth 100000 in
/-- follow -/
theorem c_Ch_follow (l : Launch) (D : va_G) (cI cZ cJ : ClassId) (h0 a0 : Nat) (pl : Nat → Int32) (cnt brk hld mon : Int32) (h1 a1 n : Nat) (F : Nat → Int32) (N : Nat) (fi : Int32) (hn : n < 2 ^ 31) (hN : N + 4 ≤ n) : sf_M (S := ((Nat → Int32) × Int32 × Int32 × Int32 × Int32)) l D classes (sf_tys cI cZ cJ) y_Ch_follow (sf_ws y_Ch_follow b_Ch_follow 6 none) 3 72 [.ref h0, .ref h1, .int fi] [(h0, .inr (1, [.ref a0, .int cnt, .int brk, .int hld, .int mon])), (a0, .inl (cI, 3, .inl pl)), (h1, .inr (0, [.ref a1, .int (nI (N + 4))])), (a1, .inl (cI, n, .inl F))] (fun _ => none) (fun r => r = f_Ch_follow pl n F N fi) (fun r => [(h0, .inr (1, [.ref a0, .int r.2.1, .int r.2.2.1, .int r.2.2.2.1, .int r.2.2.2.2])), (a0, .inl (cI, 3, .inl r.1)), (h1, .inr (0, [.ref a1, .int (nI (N + 4))])), (a1, .inl (cI, n, .inl F))]) := by
  refine sf_ofW (S := ((Nat → Int32) × Int32 × Int32 × Int32 × Int32)) (by decide) (Nat.le_of_ble_eq_true rfl) ?_
  intro p e s m below meth c A ls R args Q hR hArgs hQ hC0 hr hK hP hD hl
  obtain ⟨hx, hb, hml, hown, hts, hA, hlk⟩ := hC0
  have hS : va_S A s.heap s.heap [] := va_S.rf
  have hl : lv_has ls 6 [(0, .ref h0), (1, .ref h1), (2, .int fi)] := hl
  refine lv_aload_n hx hb d_Ch_follow_0 rfl (lv_at hl 0 rfl) ?_
  refine lv_iconst (v := 0) hx hb d_Ch_follow_1 (by decide) ?_
  refine va_put (D := D) (ci := 1) (v := .int 0) (ty := .int) (C := R_Ch) (T := F_Ch) (N := 5) hx hb hts i_Ch t_Ch t_Ch_ok n_Ch hown hK hP hD hS 0 rfl rfl 1 (by decide) (hts _ wd_94) (fun _ h9 => h9) rfl (by decide +kernel) rfl rfl (Nat.le_of_ble_eq_true rfl) d_Ch_follow_2 (fun H locs hP hD hS => ?_)
  have hP : va_P D classes [(h0, .inr (1, [.ref a0, .int 0, .int brk, .int hld, .int mon])), (a0, .inl (cI, 3, .inl pl)), (h1, .inr (0, [.ref a1, .int (nI (N + 4))])), (a1, .inl (cI, n, .inl F))] H := hP
  have hD : va_D A [(h0, .inr (1, [.ref a0, .int 0, .int brk, .int hld, .int mon])), (a0, .inl (cI, 3, .inl pl)), (h1, .inr (0, [.ref a1, .int (nI (N + 4))])), (a1, .inl (cI, n, .inl F))] := hD
  refine lv_aload_n hx hb d_Ch_follow_5 rfl (lv_at hl 0 rfl) ?_
  refine lv_iconst (v := 1) hx hb d_Ch_follow_6 (by decide) ?_
  refine va_put (D := D) (ci := 1) (v := .int 1) (ty := .boolean) (C := R_Ch) (T := F_Ch) (N := 5) hx hb hts i_Ch t_Ch t_Ch_ok n_Ch hown hK hP hD hS 0 rfl rfl 2 (by decide) (hts _ wd_96) (fun _ h9 => h9) rfl (by decide +kernel) (sf_bp1).1 (sf_bp1).2 (Nat.le_of_ble_eq_true rfl) d_Ch_follow_7 (fun H locs hP hD hS => ?_)
  have hP : va_P D classes [(h0, .inr (1, [.ref a0, .int 0, .int 1, .int hld, .int mon])), (a0, .inl (cI, 3, .inl pl)), (h1, .inr (0, [.ref a1, .int (nI (N + 4))])), (a1, .inl (cI, n, .inl F))] H := hP
  have hD : va_D A [(h0, .inr (1, [.ref a0, .int 0, .int 1, .int hld, .int mon])), (a0, .inl (cI, 3, .inl pl)), (h1, .inr (0, [.ref a1, .int (nI (N + 4))])), (a1, .inl (cI, n, .inl F))] := hD
  refine lv_aload_n hx hb d_Ch_follow_10 rfl (lv_at hl 0 rfl) ?_
  refine lv_iconst (v := 0) hx hb d_Ch_follow_11 (by decide) ?_
  refine va_put (D := D) (ci := 1) (v := .int 0) (ty := .int) (C := R_Ch) (T := F_Ch) (N := 5) hx hb hts i_Ch t_Ch t_Ch_ok n_Ch hown hK hP hD hS 0 rfl rfl 3 (by decide) (hts _ wd_97) (fun _ h9 => h9) rfl (by decide +kernel) rfl rfl (Nat.le_of_ble_eq_true rfl) d_Ch_follow_12 (fun H locs hP hD hS => ?_)
  have hP : va_P D classes [(h0, .inr (1, [.ref a0, .int 0, .int 1, .int 0, .int mon])), (a0, .inl (cI, 3, .inl pl)), (h1, .inr (0, [.ref a1, .int (nI (N + 4))])), (a1, .inl (cI, n, .inl F))] H := hP
  have hD : va_D A [(h0, .inr (1, [.ref a0, .int 0, .int 1, .int 0, .int mon])), (a0, .inl (cI, 3, .inl pl)), (h1, .inr (0, [.ref a1, .int (nI (N + 4))])), (a1, .inl (cI, n, .inl F))] := hD
  refine lv_aload_n hx hb d_Ch_follow_15 rfl (lv_at hl 0 rfl) ?_
  refine lv_aload_n hx hb d_Ch_follow_16 rfl (lv_at hl 1 rfl) ?_
  refine lv_iload_n hx hb d_Ch_follow_17 rfl (lv_at hl 2 rfl) ?_
  refine lv_iconst (v := 2) hx hb d_Ch_follow_18 (by decide) ?_
  refine sf_callVr (S := Int32) (rest := [.ref h0]) ⟨hx, hb, hml, hown, hts⟩ (c_Bl_get l D cI cZ cJ h1 a1 n F (nI (N + 4)) fi 2 hn) (sf_cwV lk_Ch_26 hts (fun _ h => h) (by rw [hR]; exact ⟨Nat.le_of_ble_eq_true rfl, Nat.le_of_ble_eq_true rfl⟩)) hK hP hD hS hA [2, 3] rfl rfl (fun _ => rfl) (ci := 0) (q0 := 0) rfl rfl rfl rfl rfl hl.1 (Nat.le_of_ble_eq_true rfl) d_Ch_follow_19 ⟨Nat.zero_le _, Nat.zero_le _⟩ (fun u_1 H locs hu_1 hP hS => ?_)
  refine va_put (D := D) (ci := 1) (v := .int u_1) (ty := .int) (C := R_Ch) (T := F_Ch) (N := 5) hx hb hts i_Ch t_Ch t_Ch_ok n_Ch hown hK hP hD hS 0 rfl rfl 4 (by decide) (hts _ wd_98) (fun _ h9 => h9) rfl (by decide +kernel) rfl rfl (Nat.le_of_ble_eq_true rfl) d_Ch_follow_22 (fun H locs hP hD hS => ?_)
  have hP : va_P D classes [(h0, .inr (1, [.ref a0, .int 0, .int 1, .int 0, .int u_1])), (a0, .inl (cI, 3, .inl pl)), (h1, .inr (0, [.ref a1, .int (nI (N + 4))])), (a1, .inl (cI, n, .inl F))] H := hP
  have hD : va_D A [(h0, .inr (1, [.ref a0, .int 0, .int 1, .int 0, .int u_1])), (a0, .inl (cI, 3, .inl pl)), (h1, .inr (0, [.ref a1, .int (nI (N + 4))])), (a1, .inl (cI, n, .inl F))] := hD
  refine lv_iload_n hx hb d_Ch_follow_25 rfl (lv_at hl 2 rfl) ?_
  refine lv_istore_n (lv' := [(3, .int fi), (0, .ref h0), (1, .ref h1), (2, .int fi)]) hx hb d_Ch_follow_26 rfl hl (by decide) rfl (fun ls hl => ?_)
  refine lv_iconst (v := 0) hx hb d_Ch_follow_27 (by decide) ?_
  refine lv_istore (lv' := [(4, .int 0), (3, .int fi), (0, .ref h0), (1, .ref h1), (2, .int fi)]) hx hb d_Ch_follow_28 hl (by decide) rfl (fun ls hl => ?_)
  have loop30 : ∀ (fu k : Nat) (vpp : Int32) (vpl : (Nat → Int32)) (vcn : Int32) (vhl : Int32), k ≤ 3 → k + fu = 3 + 1 → f_Ch_follow_l n F N (f_Bl_get n F (nI (N + 4)) fi 2) fu k vpp vpl vcn vhl = f_Ch_follow pl n F N fi → ∀ (H : Heap) (locs : List Loc), va_P D classes [(h0, .inr (1, [.ref a0, .int vcn, .int 1, .int vhl, .int u_1])), (a0, .inl (cI, 3, .inl vpl)), (h1, .inr (0, [.ref a1, .int (nI (N + 4))])), (a1, .inl (cI, n, .inl F))] H → va_D A [(h0, .inr (1, [.ref a0, .int vcn, .int 1, .int vhl, .int u_1])), (a0, .inl (cI, 3, .inl vpl)), (h1, .inr (0, [.ref a1, .int (nI (N + 4))])), (a1, .inl (cI, n, .inl F))] → va_S A s.heap H locs → ∀ (ls : Array Slot), lv_has ls 6 [(0, .ref h0), (1, .ref h1), (2, .int fi), (3, .int vpp), (4, .int (nI k))] → W p l e R s m args below meth c H locs 0 0 Q (F0 m 30 ls []) := by
    intro fu
    induction fu with
    | zero =>
      intro k vpp vpl vcn vhl h1 h2
      exact absurd h2 (by omega)
    | succ fu ih30 =>
      intro k vpp vpl vcn vhl hk30 hkn30 heq30 H locs hP hD hS ls hl
      refine lv_iload hx hb d_Ch_follow_30 (lv_at hl 4 rfl) ?_
      refine lv_iconst (v := 3) hx hb d_Ch_follow_32 (by decide) ?_
      refine lv_icmp_ge (tgt := 124) hx hb d_Ch_follow_33 (by decide) (fun c_2 => ?_) (fun c_2 => ?_)
      · rw [hQ]
        exact sf_vret (vpl, vcn, 1, vhl, u_1) hx hb hr hlk hS rfl (by rw [← heq30]; simp only [f_Ch_follow_l, ← hu_1, eq_true c_2, ↓reduceIte]) hP d_Ch_follow_124
      · have hlt : k < 3 := sf_lt_of (N := 3) (by omega) (by omega) c_2
        refine lv_aload_n hx hb d_Ch_follow_36 rfl (lv_at hl 1 rfl) ?_
        refine lv_iload_n hx hb d_Ch_follow_37 rfl (lv_at hl 3 rfl) ?_
        refine sf_callVr (S := Int32) (rest := []) ⟨hx, hb, hml, hown, hts⟩ (c_Bl_hasBlock l D cI cZ cJ h1 a1 n F (nI (N + 4)) vpp hn) (sf_cwV lk_Ch_35 hts (fun _ h => h) (by rw [hR]; exact ⟨Nat.le_of_ble_eq_true rfl, Nat.le_of_ble_eq_true rfl⟩)) hK hP hD hS hA [2, 3] rfl rfl (fun _ => rfl) (ci := 0) (q0 := 0) rfl rfl rfl rfl rfl hl.1 (Nat.le_of_ble_eq_true rfl) d_Ch_follow_38 ⟨Nat.zero_le _, Nat.zero_le _⟩ (fun u_3 H locs hu_3 hP hS => ?_)
        refine lv_if_eq (tgt := 52) hx hb d_Ch_follow_41 (by decide) (fun c_4 => ?_) (fun c_4 => ?_)
        · rw [hQ]
          exact sf_vret (vpl, vcn, 1, vhl, u_1) hx hb hr hlk hS rfl (by rw [← heq30]; simp only [f_Ch_follow_l, ← hu_1, ← hu_3, eq_false c_2, eq_true c_4, ↓reduceIte]) hP d_Ch_follow_52
        · refine lv_aload_n hx hb d_Ch_follow_44 rfl (lv_at hl 0 rfl) ?_
          refine lv_iload_n hx hb d_Ch_follow_45 rfl (lv_at hl 3 rfl) ?_
          refine sf_callVr (S := Int32) (rest := []) ⟨hx, hb, hml, hown, hts⟩ (c_Ch_wentThrough l D cI cZ cJ h0 a0 vpl vcn 1 vhl u_1 vpp) (sf_cwV lk_Ch_39 hts (fun _ h => h) (by rw [hR]; exact ⟨Nat.le_of_ble_eq_true rfl, Nat.le_of_ble_eq_true rfl⟩)) hK hP hD hS hA [0, 1] rfl rfl (fun _ => rfl) (ci := 1) (q0 := 0) rfl rfl rfl rfl rfl hl.1 (Nat.le_of_ble_eq_true rfl) d_Ch_follow_46 ⟨Nat.zero_le _, Nat.zero_le _⟩ (fun u_5 H locs hu_5 hP hS => ?_)
          refine lv_if_eq (tgt := 53) hx hb d_Ch_follow_49 (by decide) (fun c_6 => ?_) (fun c_6 => ?_)
          · refine lv_aload_n hx hb d_Ch_follow_53 rfl (lv_at hl 0 rfl) ?_
            refine va_get (D := D) (ci := 1) (v := .ref a0) (C := R_Ch) (T := F_Ch) (N := 5) hx hb hts i_Ch hown hK hP 0 rfl rfl 0 (by decide) (hts _ wd_93) (fun _ h9 => h9) rfl d_Ch_follow_54 ?_
            refine lv_iload hx hb d_Ch_follow_57 (lv_at hl 4 rfl) ?_
            refine lv_iload_n hx hb d_Ch_follow_59 rfl (lv_at hl 3 rfl) ?_
            refine va_iast hx hb hK hP hD hS 1 0 rfl rfl (vp_in_nI hlt (by omega)) d_Ch_follow_60 (fun H locs hP hD hS => ?_)
            rw [show ((nI k) : Int32).toNatClampNeg = k from nI_clamp (n := k) (by omega)] at hP hD
            have hP : va_P D classes [(h0, .inr (1, [.ref a0, .int vcn, .int 1, .int vhl, .int u_1])), (a0, .inl (cI, 3, .inl (upd vpl k vpp))), (h1, .inr (0, [.ref a1, .int (nI (N + 4))])), (a1, .inl (cI, n, .inl F))] H := hP
            have hD : va_D A [(h0, .inr (1, [.ref a0, .int vcn, .int 1, .int vhl, .int u_1])), (a0, .inl (cI, 3, .inl (upd vpl k vpp))), (h1, .inr (0, [.ref a1, .int (nI (N + 4))])), (a1, .inl (cI, n, .inl F))] := hD
            refine lv_aload_n hx hb d_Ch_follow_61 rfl (lv_at hl 0 rfl) ?_
            refine lv_iload hx hb d_Ch_follow_62 (lv_at hl 4 rfl) ?_
            refine lv_iconst (v := 1) hx hb d_Ch_follow_64 (by decide) ?_
            refine lv_iadd hx hb d_Ch_follow_65 ?_
            refine va_put (D := D) (ci := 1) (v := .int ((nI k) + 1)) (ty := .int) (C := R_Ch) (T := F_Ch) (N := 5) hx hb hts i_Ch t_Ch t_Ch_ok n_Ch hown hK hP hD hS 0 rfl rfl 1 (by decide) (hts _ wd_94) (fun _ h9 => h9) rfl (by decide +kernel) rfl rfl (Nat.le_of_ble_eq_true rfl) d_Ch_follow_66 (fun H locs hP hD hS => ?_)
            have hP : va_P D classes [(h0, .inr (1, [.ref a0, .int ((nI k) + 1), .int 1, .int vhl, .int u_1])), (a0, .inl (cI, 3, .inl (upd vpl k vpp))), (h1, .inr (0, [.ref a1, .int (nI (N + 4))])), (a1, .inl (cI, n, .inl F))] H := hP
            have hD : va_D A [(h0, .inr (1, [.ref a0, .int ((nI k) + 1), .int 1, .int vhl, .int u_1])), (a0, .inl (cI, 3, .inl (upd vpl k vpp))), (h1, .inr (0, [.ref a1, .int (nI (N + 4))])), (a1, .inl (cI, n, .inl F))] := hD
            refine lv_aload_n hx hb d_Ch_follow_69 rfl (lv_at hl 0 rfl) ?_
            refine lv_aload_n hx hb d_Ch_follow_70 rfl (lv_at hl 1 rfl) ?_
            refine lv_iload_n hx hb d_Ch_follow_71 rfl (lv_at hl 3 rfl) ?_
            refine sf_callVr (S := Int32) (rest := []) ⟨hx, hb, hml, hown, hts⟩ (c_Ch_isRight l D cI cZ cJ h0 a0 (upd vpl k vpp) ((nI k) + 1) 1 vhl u_1 h1 a1 n F N vpp hn hN) (sf_cwV lk_Ch_42 hts (fun _ h => h) (by rw [hR]; exact ⟨Nat.le_of_ble_eq_true rfl, Nat.le_of_ble_eq_true rfl⟩)) hK hP hD hS hA [0, 1, 2, 3] rfl rfl (fun _ => rfl) (ci := 1) (q0 := 0) rfl rfl rfl rfl rfl hl.1 (Nat.le_of_ble_eq_true rfl) d_Ch_follow_72 ⟨Nat.zero_le _, Nat.zero_le _⟩ (fun u_7 H locs hu_7 hP hS => ?_)
            refine lv_if_ne (tgt := 79) hx hb d_Ch_follow_75 (by decide) (fun c_8 => ?_) (fun c_8 => ?_)
            · refine lv_aload_n hx hb d_Ch_follow_79 rfl (lv_at hl 0 rfl) ?_
              refine lv_dup hx hb d_Ch_follow_80 rfl ?_
              refine va_get (D := D) (ci := 1) (v := .int vhl) (C := R_Ch) (T := F_Ch) (N := 5) hx hb hts i_Ch hown hK hP 0 rfl rfl 3 (by decide) (hts _ wd_97) (fun _ h9 => h9) rfl d_Ch_follow_81 ?_
              refine lv_aload_n hx hb d_Ch_follow_84 rfl (lv_at hl 1 rfl) ?_
              refine lv_iload_n hx hb d_Ch_follow_85 rfl (lv_at hl 3 rfl) ?_
              refine lv_iconst (v := 1) hx hb d_Ch_follow_86 (by decide) ?_
              refine sf_callVr (S := Int32) (rest := [.int vhl, .ref h0]) ⟨hx, hb, hml, hown, hts⟩ (c_Bl_get l D cI cZ cJ h1 a1 n F (nI (N + 4)) vpp 1 hn) (sf_cwV lk_Ch_26 hts (fun _ h => h) (by rw [hR]; exact ⟨Nat.le_of_ble_eq_true rfl, Nat.le_of_ble_eq_true rfl⟩)) hK hP hD hS hA [2, 3] rfl rfl (fun _ => rfl) (ci := 0) (q0 := 0) rfl rfl rfl rfl rfl hl.1 (Nat.le_of_ble_eq_true rfl) d_Ch_follow_87 ⟨Nat.zero_le _, Nat.zero_le _⟩ (fun u_9 H locs hu_9 hP hS => ?_)
              refine lv_iadd hx hb d_Ch_follow_90 ?_
              refine va_put (D := D) (ci := 1) (v := .int (vhl + u_9)) (ty := .int) (C := R_Ch) (T := F_Ch) (N := 5) hx hb hts i_Ch t_Ch t_Ch_ok n_Ch hown hK hP hD hS 0 rfl rfl 3 (by decide) (hts _ wd_97) (fun _ h9 => h9) rfl (by decide +kernel) rfl rfl (Nat.le_of_ble_eq_true rfl) d_Ch_follow_91 (fun H locs hP hD hS => ?_)
              have hP : va_P D classes [(h0, .inr (1, [.ref a0, .int ((nI k) + 1), .int 1, .int (vhl + u_9), .int u_1])), (a0, .inl (cI, 3, .inl (upd vpl k vpp))), (h1, .inr (0, [.ref a1, .int (nI (N + 4))])), (a1, .inl (cI, n, .inl F))] H := hP
              have hD : va_D A [(h0, .inr (1, [.ref a0, .int ((nI k) + 1), .int 1, .int (vhl + u_9), .int u_1])), (a0, .inl (cI, 3, .inl (upd vpl k vpp))), (h1, .inr (0, [.ref a1, .int (nI (N + 4))])), (a1, .inl (cI, n, .inl F))] := hD
              refine lv_aload_n hx hb d_Ch_follow_94 rfl (lv_at hl 1 rfl) ?_
              refine lv_iload_n hx hb d_Ch_follow_95 rfl (lv_at hl 3 rfl) ?_
              refine lv_iconst (v := 0) hx hb d_Ch_follow_96 (by decide) ?_
              refine sf_callVr (S := Int32) (rest := []) ⟨hx, hb, hml, hown, hts⟩ (c_Bl_get l D cI cZ cJ h1 a1 n F (nI (N + 4)) vpp 0 hn) (sf_cwV lk_Ch_26 hts (fun _ h => h) (by rw [hR]; exact ⟨Nat.le_of_ble_eq_true rfl, Nat.le_of_ble_eq_true rfl⟩)) hK hP hD hS hA [2, 3] rfl rfl (fun _ => rfl) (ci := 0) (q0 := 0) rfl rfl rfl rfl rfl hl.1 (Nat.le_of_ble_eq_true rfl) d_Ch_follow_97 ⟨Nat.zero_le _, Nat.zero_le _⟩ (fun u_10 H locs hu_10 hP hS => ?_)
              refine lv_istore (lv' := [(5, .int u_10), (0, .ref h0), (1, .ref h1), (2, .int fi), (3, .int vpp), (4, .int (nI k))]) hx hb d_Ch_follow_100 hl (by decide) rfl (fun ls hl => ?_)
              refine lv_iload hx hb d_Ch_follow_102 (lv_at hl 0 rfl) ?_
              refine lv_if_ne (tgt := 113) hx hb d_Ch_follow_104 (by decide) (fun c_11 => ?_) (fun c_11 => ?_)
              · refine lv_iload hx hb d_Ch_follow_113 (lv_at hl 0 rfl) ?_
                refine lv_iconst (v := 1) hx hb d_Ch_follow_115 (by decide) ?_
                refine lv_isub hx hb d_Ch_follow_116 ?_
                refine lv_istore_n (lv' := [(3, .int (u_10 - 1)), (5, .int u_10), (0, .ref h0), (1, .ref h1), (2, .int fi), (4, .int (nI k))]) hx hb d_Ch_follow_117 rfl hl (by decide) rfl (fun ls hl => ?_)
                refine lv_iinc (v := (nI (k + 1))) (lv' := [(4, .int (nI (k + 1))), (3, .int (u_10 - 1)), (5, .int u_10), (0, .ref h0), (1, .ref h1), (2, .int fi)]) hx hb d_Ch_follow_118 hl (k := 5) rfl (nI_1 k) (by decide) rfl (fun ls hl => ?_)
                refine lv_goto (tgt := 30) hx hb d_Ch_follow_121 (by decide) ?_
                exact ih30 (k + 1) (u_10 - 1) (upd vpl k vpp) ((nI k) + 1) (vhl + u_9) (by omega) (by omega) (by rw [← heq30]; simp only [f_Ch_follow_l, ← hu_1, ← hu_3, ← hu_5, ← hu_7, ← hu_9, ← hu_10, eq_false c_2, eq_false c_4, eq_true c_6, eq_false c_8, eq_false c_11, ↓reduceIte]) _ _ hP hD hS ls (lv_sub hl [3, 4, 5, 1, 0] rfl)
              · refine lv_aload_n hx hb d_Ch_follow_107 rfl (lv_at hl 1 rfl) ?_
                refine lv_iconst (v := 0) hx hb d_Ch_follow_108 (by decide) ?_
                refine va_put (D := D) (ci := 1) (v := .int 0) (ty := .boolean) (C := R_Ch) (T := F_Ch) (N := 5) hx hb hts i_Ch t_Ch t_Ch_ok n_Ch hown hK hP hD hS 0 rfl rfl 2 (by decide) (hts _ wd_96) (fun _ h9 => h9) rfl (by decide +kernel) (sf_bp0).1 (sf_bp0).2 (Nat.le_of_ble_eq_true rfl) d_Ch_follow_109 (fun H locs hP hD hS => ?_)
                have hP : va_P D classes [(h0, .inr (1, [.ref a0, .int ((nI k) + 1), .int 0, .int (vhl + u_9), .int u_1])), (a0, .inl (cI, 3, .inl (upd vpl k vpp))), (h1, .inr (0, [.ref a1, .int (nI (N + 4))])), (a1, .inl (cI, n, .inl F))] H := hP
                have hD : va_D A [(h0, .inr (1, [.ref a0, .int ((nI k) + 1), .int 0, .int (vhl + u_9), .int u_1])), (a0, .inl (cI, 3, .inl (upd vpl k vpp))), (h1, .inr (0, [.ref a1, .int (nI (N + 4))])), (a1, .inl (cI, n, .inl F))] := hD
                rw [hQ]
                exact sf_vret ((upd vpl k vpp), ((nI k) + 1), 0, (vhl + u_9), u_1) hx hb hr hlk hS rfl (by rw [← heq30]; simp only [f_Ch_follow_l, ← hu_1, ← hu_3, ← hu_5, ← hu_7, ← hu_9, ← hu_10, eq_false c_2, eq_false c_4, eq_true c_6, eq_false c_8, eq_true c_11, ↓reduceIte]) hP d_Ch_follow_112
            · rw [hQ]
              exact sf_vret ((upd vpl k vpp), ((nI k) + 1), 1, vhl, u_1) hx hb hr hlk hS rfl (by rw [← heq30]; simp only [f_Ch_follow_l, ← hu_1, ← hu_3, ← hu_5, ← hu_7, eq_false c_2, eq_false c_4, eq_true c_6, eq_true c_8, ↓reduceIte]) hP d_Ch_follow_78
          · rw [hQ]
            exact sf_vret (vpl, vcn, 1, vhl, u_1) hx hb hr hlk hS rfl (by rw [← heq30]; simp only [f_Ch_follow_l, ← hu_1, ← hu_3, ← hu_5, eq_false c_2, eq_false c_4, eq_false c_6, ↓reduceIte]) hP d_Ch_follow_52
  exact loop30 (3 + 1) 0 fi pl 0 0 (by omega) (by omega) (by simp only [f_Ch_follow, ← hu_1, ↓reduceIte]) _ _ hP hD hS ls (lv_sub hl [2, 3, 4, 1, 0] rfl)
