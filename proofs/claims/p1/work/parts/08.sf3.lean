/-! sf3: contracts, with the pure functions that they speak of (printed by wip/gen) -/
set_option maxRecDepth 20000 in
theorem wd_116 : Cond.fieldLink R_SF 37 "ShadowFiles" "markChain" "LShadowFiles$Chain;" ∈ sf_tb := sf_tb_in 116 rfl rfl
set_option maxRecDepth 20000 in
theorem wd_117 : Cond.fieldLink R_SF 40 "ShadowFiles" "used" "[Z" ∈ sf_tb := sf_tb_in 117 rfl rfl
set_option maxRecDepth 20000 in
theorem wd_352 : Cond.methodLink R_SF 231 y_SF_chainStart ∈ sf_tb := sf_tb_in 352 rfl rfl
set_option maxRecDepth 20000 in
theorem wd_355 : Cond.code y_SF_chainStart b_SF_chainStart 4 (some .int) ∈ sf_tb := sf_tb_in 355 rfl rfl
set_option maxRecDepth 20000 in
theorem wd_354 : Cond.instanceMethod y_SF_chainStart ∈ sf_tb := sf_tb_in 354 rfl rfl
set_option maxRecDepth 20000 in
theorem wd_9 : Cond.selects R_SF y_SF_chainStart y_SF_chainStart ∈ sf_tb := sf_tb_in 9 rfl rfl
set_option maxRecDepth 20000 in
theorem wd_382 : Cond.methodLink R_SF 234 y_SF_markFollowed ∈ sf_tb := sf_tb_in 382 rfl rfl
set_option maxRecDepth 20000 in
theorem wd_385 : Cond.code y_SF_markFollowed b_SF_markFollowed 3 none ∈ sf_tb := sf_tb_in 385 rfl rfl
set_option maxRecDepth 20000 in
theorem wd_384 : Cond.instanceMethod y_SF_markFollowed ∈ sf_tb := sf_tb_in 384 rfl rfl
set_option maxRecDepth 20000 in
theorem wd_13 : Cond.selects R_SF y_SF_markFollowed y_SF_markFollowed ∈ sf_tb := sf_tb_in 13 rfl rfl
set_option maxRecDepth 20000 in
theorem wd_348 : Cond.methodLink R_SF 240 y_SF_markUsed ∈ sf_tb := sf_tb_in 348 rfl rfl
set_option maxRecDepth 20000 in
theorem wd_351 : Cond.code y_SF_markUsed b_SF_markUsed 5 none ∈ sf_tb := sf_tb_in 351 rfl rfl
set_option maxRecDepth 20000 in
theorem wd_350 : Cond.instanceMethod y_SF_markUsed ∈ sf_tb := sf_tb_in 350 rfl rfl
set_option maxRecDepth 20000 in
theorem wd_8 : Cond.selects R_SF y_SF_markUsed y_SF_markUsed ∈ sf_tb := sf_tb_in 8 rfl rfl
set_option maxRecDepth 20000 in
theorem wd_390 : Cond.methodLink R_SF 244 y_SF_countPlaces ∈ sf_tb := sf_tb_in 390 rfl rfl
set_option maxRecDepth 20000 in
theorem wd_392 : Cond.code y_SF_countPlaces b_SF_countPlaces 1 (some .int) ∈ sf_tb := sf_tb_in 392 rfl rfl
set_option maxRecDepth 20000 in
theorem wd_391 : Cond.static y_SF_countPlaces ∈ sf_tb := sf_tb_in 391 rfl rfl
theorem lk_SF_231 : sf_LV R_SF 231 y_SF_chainStart b_SF_chainStart 4 (some .int) 3 := ⟨wd_355, wd_352, wd_354, wd_9, wd_52, by decide +kernel⟩
theorem lk_SF_234 : sf_LV R_SF 234 y_SF_markFollowed b_SF_markFollowed 3 none 0 := ⟨wd_385, wd_382, wd_384, wd_13, wd_52, by decide +kernel⟩
theorem lk_SF_240 : sf_LV R_SF 240 y_SF_markUsed b_SF_markUsed 5 none 1 := ⟨wd_351, wd_348, wd_350, wd_8, wd_52, by decide +kernel⟩
theorem lk_SF_244 : sf_LS R_SF 244 y_SF_countPlaces b_SF_countPlaces 1 (some .int) 1 := ⟨wd_392, wd_390, wd_391, wd_52, by decide +kernel⟩
theorem d_SF_markFollowed_0 : decode b_SF_markFollowed 0 = .ok (.iconst 0, 1) := by decide +kernel
theorem d_SF_markFollowed_1 : decode b_SF_markFollowed 1 = .ok (.istore_n 1, 1) := by decide +kernel
theorem d_SF_markFollowed_2 : decode b_SF_markFollowed 2 = .ok (.iload_n 1, 1) := by decide +kernel
theorem d_SF_markFollowed_3 : decode b_SF_markFollowed 3 = .ok (.aload_n 0, 1) := by decide +kernel
theorem d_SF_markFollowed_4 : decode b_SF_markFollowed 4 = .ok (.getfield 37, 3) := by decide +kernel
theorem d_SF_markFollowed_7 : decode b_SF_markFollowed 7 = .ok (.getfield 136, 3) := by decide +kernel
theorem d_SF_markFollowed_10 : decode b_SF_markFollowed 10 = .ok (.if_icmp .ge 35, 3) := by decide +kernel
theorem d_SF_markFollowed_13 : decode b_SF_markFollowed 13 = .ok (.aload_n 0, 1) := by decide +kernel
theorem d_SF_markFollowed_14 : decode b_SF_markFollowed 14 = .ok (.getfield 37, 3) := by decide +kernel
theorem d_SF_markFollowed_17 : decode b_SF_markFollowed 17 = .ok (.iload_n 1, 1) := by decide +kernel
theorem d_SF_markFollowed_18 : decode b_SF_markFollowed 18 = .ok (.invokevirtual 237, 3) := by decide +kernel
theorem d_SF_markFollowed_21 : decode b_SF_markFollowed 21 = .ok (.istore_n 2, 1) := by decide +kernel
theorem d_SF_markFollowed_22 : decode b_SF_markFollowed 22 = .ok (.iload_n 2, 1) := by decide +kernel
theorem d_SF_markFollowed_23 : decode b_SF_markFollowed 23 = .ok (.ifCond .lt 16, 3) := by decide +kernel
theorem d_SF_markFollowed_26 : decode b_SF_markFollowed 26 = .ok (.iload_n 2, 1) := by decide +kernel
theorem d_SF_markFollowed_27 : decode b_SF_markFollowed 27 = .ok (.bipush 24, 2) := by decide +kernel
theorem d_SF_markFollowed_29 : decode b_SF_markFollowed 29 = .ok (.if_icmp .ge 10, 3) := by decide +kernel
theorem d_SF_markFollowed_32 : decode b_SF_markFollowed 32 = .ok (.aload_n 0, 1) := by decide +kernel
theorem d_SF_markFollowed_33 : decode b_SF_markFollowed 33 = .ok (.getfield 40, 3) := by decide +kernel
theorem d_SF_markFollowed_36 : decode b_SF_markFollowed 36 = .ok (.iload_n 2, 1) := by decide +kernel
theorem d_SF_markFollowed_37 : decode b_SF_markFollowed 37 = .ok (.iconst 1, 1) := by decide +kernel
theorem d_SF_markFollowed_38 : decode b_SF_markFollowed 38 = .ok (.bastore, 1) := by decide +kernel
theorem d_SF_markFollowed_39 : decode b_SF_markFollowed 39 = .ok (.iinc 1 1, 3) := by decide +kernel
theorem d_SF_markFollowed_42 : decode b_SF_markFollowed 42 = .ok (.goto (-40), 3) := by decide +kernel
theorem d_SF_markFollowed_45 : decode b_SF_markFollowed 45 = .ok (.return_, 1) := by decide +kernel
theorem d_SF_markUsed_0 : decode b_SF_markUsed 0 = .ok (.iconst 0, 1) := by decide +kernel
theorem d_SF_markUsed_1 : decode b_SF_markUsed 1 = .ok (.istore_n 2, 1) := by decide +kernel
theorem d_SF_markUsed_2 : decode b_SF_markUsed 2 = .ok (.iload_n 2, 1) := by decide +kernel
theorem d_SF_markUsed_3 : decode b_SF_markUsed 3 = .ok (.bipush 24, 2) := by decide +kernel
theorem d_SF_markUsed_5 : decode b_SF_markUsed 5 = .ok (.if_icmp .ge 16, 3) := by decide +kernel
theorem d_SF_markUsed_8 : decode b_SF_markUsed 8 = .ok (.aload_n 0, 1) := by decide +kernel
theorem d_SF_markUsed_9 : decode b_SF_markUsed 9 = .ok (.getfield 40, 3) := by decide +kernel
theorem d_SF_markUsed_12 : decode b_SF_markUsed 12 = .ok (.iload_n 2, 1) := by decide +kernel
theorem d_SF_markUsed_13 : decode b_SF_markUsed 13 = .ok (.iconst 0, 1) := by decide +kernel
theorem d_SF_markUsed_14 : decode b_SF_markUsed 14 = .ok (.bastore, 1) := by decide +kernel
theorem d_SF_markUsed_15 : decode b_SF_markUsed 15 = .ok (.iinc 2 1, 3) := by decide +kernel
theorem d_SF_markUsed_18 : decode b_SF_markUsed 18 = .ok (.goto (-16), 3) := by decide +kernel
theorem d_SF_markUsed_21 : decode b_SF_markUsed 21 = .ok (.aload_n 0, 1) := by decide +kernel
theorem d_SF_markUsed_22 : decode b_SF_markUsed 22 = .ok (.invokevirtual 179, 3) := by decide +kernel
theorem d_SF_markUsed_25 : decode b_SF_markUsed 25 = .ok (.istore_n 2, 1) := by decide +kernel
theorem d_SF_markUsed_26 : decode b_SF_markUsed 26 = .ok (.iconst 0, 1) := by decide +kernel
theorem d_SF_markUsed_27 : decode b_SF_markUsed 27 = .ok (.istore_n 3, 1) := by decide +kernel
theorem d_SF_markUsed_28 : decode b_SF_markUsed 28 = .ok (.iload_n 3, 1) := by decide +kernel
theorem d_SF_markUsed_29 : decode b_SF_markUsed 29 = .ok (.bipush 12, 2) := by decide +kernel
theorem d_SF_markUsed_31 : decode b_SF_markUsed 31 = .ok (.if_icmp .ge 43, 3) := by decide +kernel
theorem d_SF_markUsed_34 : decode b_SF_markUsed 34 = .ok (.aload_n 0, 1) := by decide +kernel
theorem d_SF_markUsed_35 : decode b_SF_markUsed 35 = .ok (.iload_n 2, 1) := by decide +kernel
theorem d_SF_markUsed_36 : decode b_SF_markUsed 36 = .ok (.iload_n 3, 1) := by decide +kernel
theorem d_SF_markUsed_37 : decode b_SF_markUsed 37 = .ok (.iload_n 1, 1) := by decide +kernel
theorem d_SF_markUsed_38 : decode b_SF_markUsed 38 = .ok (.invokevirtual 231, 3) := by decide +kernel
theorem d_SF_markUsed_41 : decode b_SF_markUsed 41 = .ok (.istore 4, 2) := by decide +kernel
theorem d_SF_markUsed_43 : decode b_SF_markUsed 43 = .ok (.iload 4, 2) := by decide +kernel
theorem d_SF_markUsed_45 : decode b_SF_markUsed 45 = .ok (.ifCond .eq 23, 3) := by decide +kernel
theorem d_SF_markUsed_48 : decode b_SF_markUsed 48 = .ok (.aload_n 0, 1) := by decide +kernel
theorem d_SF_markUsed_49 : decode b_SF_markUsed 49 = .ok (.getfield 37, 3) := by decide +kernel
theorem d_SF_markUsed_52 : decode b_SF_markUsed 52 = .ok (.aload_n 0, 1) := by decide +kernel
theorem d_SF_markUsed_53 : decode b_SF_markUsed 53 = .ok (.iload_n 1, 1) := by decide +kernel
theorem d_SF_markUsed_54 : decode b_SF_markUsed 54 = .ok (.invokevirtual 160, 3) := by decide +kernel
theorem d_SF_markUsed_57 : decode b_SF_markUsed 57 = .ok (.iload 4, 2) := by decide +kernel
theorem d_SF_markUsed_59 : decode b_SF_markUsed 59 = .ok (.iconst 1, 1) := by decide +kernel
theorem d_SF_markUsed_60 : decode b_SF_markUsed 60 = .ok (.isub, 1) := by decide +kernel
theorem d_SF_markUsed_61 : decode b_SF_markUsed 61 = .ok (.invokevirtual 228, 3) := by decide +kernel
theorem d_SF_markUsed_64 : decode b_SF_markUsed 64 = .ok (.aload_n 0, 1) := by decide +kernel
theorem d_SF_markUsed_65 : decode b_SF_markUsed 65 = .ok (.invokevirtual 234, 3) := by decide +kernel
theorem d_SF_markUsed_68 : decode b_SF_markUsed 68 = .ok (.iinc 3 1, 3) := by decide +kernel
theorem d_SF_markUsed_71 : decode b_SF_markUsed 71 = .ok (.goto (-43), 3) := by decide +kernel
theorem d_SF_markUsed_74 : decode b_SF_markUsed 74 = .ok (.return_, 1) := by decide +kernel
theorem d_SF_countFree_0 : decode b_SF_countFree 0 = .ok (.aload_n 0, 1) := by decide +kernel
theorem d_SF_countFree_1 : decode b_SF_countFree 1 = .ok (.iload_n 1, 1) := by decide +kernel
theorem d_SF_countFree_2 : decode b_SF_countFree 2 = .ok (.invokevirtual 240, 3) := by decide +kernel
theorem d_SF_countFree_5 : decode b_SF_countFree 5 = .ok (.iconst 0, 1) := by decide +kernel
theorem d_SF_countFree_6 : decode b_SF_countFree 6 = .ok (.istore_n 2, 1) := by decide +kernel
theorem d_SF_countFree_7 : decode b_SF_countFree 7 = .ok (.iconst 0, 1) := by decide +kernel
theorem d_SF_countFree_8 : decode b_SF_countFree 8 = .ok (.istore_n 3, 1) := by decide +kernel
theorem d_SF_countFree_9 : decode b_SF_countFree 9 = .ok (.iload_n 3, 1) := by decide +kernel
theorem d_SF_countFree_10 : decode b_SF_countFree 10 = .ok (.iload_n 1, 1) := by decide +kernel
theorem d_SF_countFree_11 : decode b_SF_countFree 11 = .ok (.invokestatic 244, 3) := by decide +kernel
theorem d_SF_countFree_14 : decode b_SF_countFree 14 = .ok (.if_icmp .ge 27, 3) := by decide +kernel
theorem d_SF_countFree_17 : decode b_SF_countFree 17 = .ok (.iload_n 3, 1) := by decide +kernel
theorem d_SF_countFree_18 : decode b_SF_countFree 18 = .ok (.bipush 24, 2) := by decide +kernel
theorem d_SF_countFree_20 : decode b_SF_countFree 20 = .ok (.if_icmp .ge 21, 3) := by decide +kernel
theorem d_SF_countFree_23 : decode b_SF_countFree 23 = .ok (.aload_n 0, 1) := by decide +kernel
theorem d_SF_countFree_24 : decode b_SF_countFree 24 = .ok (.getfield 40, 3) := by decide +kernel
theorem d_SF_countFree_27 : decode b_SF_countFree 27 = .ok (.iload_n 3, 1) := by decide +kernel
theorem d_SF_countFree_28 : decode b_SF_countFree 28 = .ok (.baload, 1) := by decide +kernel
theorem d_SF_countFree_29 : decode b_SF_countFree 29 = .ok (.ifCond .ne 6, 3) := by decide +kernel
theorem d_SF_countFree_32 : decode b_SF_countFree 32 = .ok (.iinc 2 1, 3) := by decide +kernel
theorem d_SF_countFree_35 : decode b_SF_countFree 35 = .ok (.iinc 3 1, 3) := by decide +kernel
theorem d_SF_countFree_38 : decode b_SF_countFree 38 = .ok (.goto (-29), 3) := by decide +kernel
theorem d_SF_countFree_41 : decode b_SF_countFree 41 = .ok (.iload_n 2, 1) := by decide +kernel
theorem d_SF_countFree_42 : decode b_SF_countFree 42 = .ok (.ireturn, 1) := by decide +kernel
theorem d_SF_takePlaces_0 : decode b_SF_takePlaces 0 = .ok (.aload_n 0, 1) := by decide +kernel
theorem d_SF_takePlaces_1 : decode b_SF_takePlaces 1 = .ok (.iload_n 1, 1) := by decide +kernel
theorem d_SF_takePlaces_2 : decode b_SF_takePlaces 2 = .ok (.invokevirtual 240, 3) := by decide +kernel
theorem d_SF_takePlaces_5 : decode b_SF_takePlaces 5 = .ok (.iconst 0, 1) := by decide +kernel
theorem d_SF_takePlaces_6 : decode b_SF_takePlaces 6 = .ok (.istore_n 3, 1) := by decide +kernel
theorem d_SF_takePlaces_7 : decode b_SF_takePlaces 7 = .ok (.iconst 0, 1) := by decide +kernel
theorem d_SF_takePlaces_8 : decode b_SF_takePlaces 8 = .ok (.istore 4, 2) := by decide +kernel
theorem d_SF_takePlaces_10 : decode b_SF_takePlaces 10 = .ok (.iload 4, 2) := by decide +kernel
theorem d_SF_takePlaces_12 : decode b_SF_takePlaces 12 = .ok (.iload_n 1, 1) := by decide +kernel
theorem d_SF_takePlaces_13 : decode b_SF_takePlaces 13 = .ok (.invokestatic 244, 3) := by decide +kernel
theorem d_SF_takePlaces_16 : decode b_SF_takePlaces 16 = .ok (.if_icmp .ge 47, 3) := by decide +kernel
theorem d_SF_takePlaces_19 : decode b_SF_takePlaces 19 = .ok (.iload 4, 2) := by decide +kernel
theorem d_SF_takePlaces_21 : decode b_SF_takePlaces 21 = .ok (.bipush 24, 2) := by decide +kernel
theorem d_SF_takePlaces_23 : decode b_SF_takePlaces 23 = .ok (.if_icmp .ge 40, 3) := by decide +kernel
theorem d_SF_takePlaces_26 : decode b_SF_takePlaces 26 = .ok (.aload_n 0, 1) := by decide +kernel
theorem d_SF_takePlaces_27 : decode b_SF_takePlaces 27 = .ok (.getfield 40, 3) := by decide +kernel
theorem d_SF_takePlaces_30 : decode b_SF_takePlaces 30 = .ok (.iload 4, 2) := by decide +kernel
theorem d_SF_takePlaces_32 : decode b_SF_takePlaces 32 = .ok (.baload, 1) := by decide +kernel
theorem d_SF_takePlaces_33 : decode b_SF_takePlaces 33 = .ok (.ifCond .ne 24, 3) := by decide +kernel
theorem d_SF_takePlaces_36 : decode b_SF_takePlaces 36 = .ok (.iload_n 3, 1) := by decide +kernel
theorem d_SF_takePlaces_37 : decode b_SF_takePlaces 37 = .ok (.iload_n 2, 1) := by decide +kernel
theorem d_SF_takePlaces_38 : decode b_SF_takePlaces 38 = .ok (.if_icmp .ge 19, 3) := by decide +kernel
theorem d_SF_takePlaces_41 : decode b_SF_takePlaces 41 = .ok (.iload_n 3, 1) := by decide +kernel
theorem d_SF_takePlaces_42 : decode b_SF_takePlaces 42 = .ok (.iconst 3, 1) := by decide +kernel
theorem d_SF_takePlaces_43 : decode b_SF_takePlaces 43 = .ok (.if_icmp .ge 14, 3) := by decide +kernel
theorem d_SF_takePlaces_46 : decode b_SF_takePlaces 46 = .ok (.aload_n 0, 1) := by decide +kernel
theorem d_SF_takePlaces_47 : decode b_SF_takePlaces 47 = .ok (.getfield 44, 3) := by decide +kernel
theorem d_SF_takePlaces_50 : decode b_SF_takePlaces 50 = .ok (.iload_n 3, 1) := by decide +kernel
theorem d_SF_takePlaces_51 : decode b_SF_takePlaces 51 = .ok (.iload 4, 2) := by decide +kernel
theorem d_SF_takePlaces_53 : decode b_SF_takePlaces 53 = .ok (.iastore, 1) := by decide +kernel
theorem d_SF_takePlaces_54 : decode b_SF_takePlaces 54 = .ok (.iinc 3 1, 3) := by decide +kernel
theorem d_SF_takePlaces_57 : decode b_SF_takePlaces 57 = .ok (.iinc 4 1, 3) := by decide +kernel
theorem d_SF_takePlaces_60 : decode b_SF_takePlaces 60 = .ok (.goto (-50), 3) := by decide +kernel
theorem d_SF_takePlaces_63 : decode b_SF_takePlaces 63 = .ok (.iload_n 3, 1) := by decide +kernel
theorem d_SF_takePlaces_64 : decode b_SF_takePlaces 64 = .ok (.iload_n 2, 1) := by decide +kernel
theorem d_SF_takePlaces_65 : decode b_SF_takePlaces 65 = .ok (.if_icmp .ne 7, 3) := by decide +kernel
theorem d_SF_takePlaces_68 : decode b_SF_takePlaces 68 = .ok (.iconst 1, 1) := by decide +kernel
theorem d_SF_takePlaces_69 : decode b_SF_takePlaces 69 = .ok (.goto 4, 3) := by decide +kernel
theorem d_SF_takePlaces_72 : decode b_SF_takePlaces 72 = .ok (.iconst 0, 1) := by decide +kernel
theorem d_SF_takePlaces_73 : decode b_SF_takePlaces 73 = .ok (.ireturn, 1) := by decide +kernel
theorem d_SF_wrongPlace_0 : decode b_SF_wrongPlace 0 = .ok (.aload_n 0, 1) := by decide +kernel
theorem d_SF_wrongPlace_1 : decode b_SF_wrongPlace 1 = .ok (.iload_n 1, 1) := by decide +kernel
theorem d_SF_wrongPlace_2 : decode b_SF_wrongPlace 2 = .ok (.invokevirtual 240, 3) := by decide +kernel
theorem d_SF_wrongPlace_5 : decode b_SF_wrongPlace 5 = .ok (.aload_n 0, 1) := by decide +kernel
theorem d_SF_wrongPlace_6 : decode b_SF_wrongPlace 6 = .ok (.iload_n 1, 1) := by decide +kernel
theorem d_SF_wrongPlace_7 : decode b_SF_wrongPlace 7 = .ok (.invokevirtual 160, 3) := by decide +kernel
theorem d_SF_wrongPlace_10 : decode b_SF_wrongPlace 10 = .ok (.astore_n 3, 1) := by decide +kernel
theorem d_SF_wrongPlace_11 : decode b_SF_wrongPlace 11 = .ok (.iconst 0, 1) := by decide +kernel
theorem d_SF_wrongPlace_12 : decode b_SF_wrongPlace 12 = .ok (.istore 4, 2) := by decide +kernel
theorem d_SF_wrongPlace_14 : decode b_SF_wrongPlace 14 = .ok (.iconst 0, 1) := by decide +kernel
theorem d_SF_wrongPlace_15 : decode b_SF_wrongPlace 15 = .ok (.istore 5, 2) := by decide +kernel
theorem d_SF_wrongPlace_17 : decode b_SF_wrongPlace 17 = .ok (.iload 5, 2) := by decide +kernel
theorem d_SF_wrongPlace_19 : decode b_SF_wrongPlace 19 = .ok (.iload_n 1, 1) := by decide +kernel
theorem d_SF_wrongPlace_20 : decode b_SF_wrongPlace 20 = .ok (.invokestatic 244, 3) := by decide +kernel
theorem d_SF_wrongPlace_23 : decode b_SF_wrongPlace 23 = .ok (.if_icmp .ge 47, 3) := by decide +kernel
theorem d_SF_wrongPlace_26 : decode b_SF_wrongPlace 26 = .ok (.iload 5, 2) := by decide +kernel
theorem d_SF_wrongPlace_28 : decode b_SF_wrongPlace 28 = .ok (.bipush 24, 2) := by decide +kernel
theorem d_SF_wrongPlace_30 : decode b_SF_wrongPlace 30 = .ok (.if_icmp .ge 40, 3) := by decide +kernel
theorem d_SF_wrongPlace_33 : decode b_SF_wrongPlace 33 = .ok (.aload_n 0, 1) := by decide +kernel
theorem d_SF_wrongPlace_34 : decode b_SF_wrongPlace 34 = .ok (.getfield 40, 3) := by decide +kernel
theorem d_SF_wrongPlace_37 : decode b_SF_wrongPlace 37 = .ok (.iload 5, 2) := by decide +kernel
theorem d_SF_wrongPlace_39 : decode b_SF_wrongPlace 39 = .ok (.baload, 1) := by decide +kernel
theorem d_SF_wrongPlace_40 : decode b_SF_wrongPlace 40 = .ok (.ifCond .eq 24, 3) := by decide +kernel
theorem d_SF_wrongPlace_43 : decode b_SF_wrongPlace 43 = .ok (.aload_n 3, 1) := by decide +kernel
theorem d_SF_wrongPlace_44 : decode b_SF_wrongPlace 44 = .ok (.iload 5, 2) := by decide +kernel
theorem d_SF_wrongPlace_46 : decode b_SF_wrongPlace 46 = .ok (.invokevirtual 215, 3) := by decide +kernel
theorem d_SF_wrongPlace_49 : decode b_SF_wrongPlace 49 = .ok (.ifCond .ne 15, 3) := by decide +kernel
theorem d_SF_wrongPlace_52 : decode b_SF_wrongPlace 52 = .ok (.iload 4, 2) := by decide +kernel
theorem d_SF_wrongPlace_54 : decode b_SF_wrongPlace 54 = .ok (.iload_n 2, 1) := by decide +kernel
theorem d_SF_wrongPlace_55 : decode b_SF_wrongPlace 55 = .ok (.if_icmp .ne 6, 3) := by decide +kernel
theorem d_SF_wrongPlace_58 : decode b_SF_wrongPlace 58 = .ok (.iload 5, 2) := by decide +kernel
theorem d_SF_wrongPlace_60 : decode b_SF_wrongPlace 60 = .ok (.ireturn, 1) := by decide +kernel
theorem d_SF_wrongPlace_61 : decode b_SF_wrongPlace 61 = .ok (.iinc 4 1, 3) := by decide +kernel
theorem d_SF_wrongPlace_64 : decode b_SF_wrongPlace 64 = .ok (.iinc 5 1, 3) := by decide +kernel
theorem d_SF_wrongPlace_67 : decode b_SF_wrongPlace 67 = .ok (.goto (-50), 3) := by decide +kernel
theorem d_SF_wrongPlace_70 : decode b_SF_wrongPlace 70 = .ok (.iconst (-1), 1) := by decide +kernel
theorem d_SF_wrongPlace_71 : decode b_SF_wrongPlace 71 = .ok (.ireturn, 1) := by decide +kernel
theorem d_SF_wrongTable_0 : decode b_SF_wrongTable 0 = .ok (.iconst 0, 1) := by decide +kernel
theorem d_SF_wrongTable_1 : decode b_SF_wrongTable 1 = .ok (.istore_n 2, 1) := by decide +kernel
theorem d_SF_wrongTable_2 : decode b_SF_wrongTable 2 = .ok (.iconst 0, 1) := by decide +kernel
theorem d_SF_wrongTable_3 : decode b_SF_wrongTable 3 = .ok (.istore_n 3, 1) := by decide +kernel
theorem d_SF_wrongTable_4 : decode b_SF_wrongTable 4 = .ok (.iload_n 3, 1) := by decide +kernel
theorem d_SF_wrongTable_5 : decode b_SF_wrongTable 5 = .ok (.iconst 2, 1) := by decide +kernel
theorem d_SF_wrongTable_6 : decode b_SF_wrongTable 6 = .ok (.if_icmp .ge 30, 3) := by decide +kernel
theorem d_SF_wrongTable_9 : decode b_SF_wrongTable 9 = .ok (.aload_n 0, 1) := by decide +kernel
theorem d_SF_wrongTable_10 : decode b_SF_wrongTable 10 = .ok (.getfield 21, 3) := by decide +kernel
theorem d_SF_wrongTable_13 : decode b_SF_wrongTable 13 = .ok (.iload_n 3, 1) := by decide +kernel
theorem d_SF_wrongTable_14 : decode b_SF_wrongTable 14 = .ok (.invokevirtual 215, 3) := by decide +kernel
theorem d_SF_wrongTable_17 : decode b_SF_wrongTable 17 = .ok (.ifCond .ne 13, 3) := by decide +kernel
theorem d_SF_wrongTable_20 : decode b_SF_wrongTable 20 = .ok (.iload_n 2, 1) := by decide +kernel
theorem d_SF_wrongTable_21 : decode b_SF_wrongTable 21 = .ok (.iload_n 1, 1) := by decide +kernel
theorem d_SF_wrongTable_22 : decode b_SF_wrongTable 22 = .ok (.if_icmp .ne 5, 3) := by decide +kernel
theorem d_SF_wrongTable_25 : decode b_SF_wrongTable 25 = .ok (.iload_n 3, 1) := by decide +kernel
theorem d_SF_wrongTable_26 : decode b_SF_wrongTable 26 = .ok (.ireturn, 1) := by decide +kernel
theorem d_SF_wrongTable_27 : decode b_SF_wrongTable 27 = .ok (.iinc 2 1, 3) := by decide +kernel
theorem d_SF_wrongTable_30 : decode b_SF_wrongTable 30 = .ok (.iinc 3 1, 3) := by decide +kernel
theorem d_SF_wrongTable_33 : decode b_SF_wrongTable 33 = .ok (.goto (-29), 3) := by decide +kernel
theorem d_SF_wrongTable_36 : decode b_SF_wrongTable 36 = .ok (.iconst (-1), 1) := by decide +kernel
theorem d_SF_wrongTable_37 : decode b_SF_wrongTable 37 = .ok (.ireturn, 1) := by decide +kernel
def f_SF_markFollowed_l2 (mp : Nat → Int32) (mc : Int32) : Nat → Nat → (Nat → Int32) → (Nat → Int32)
  | 0, _, _ => (fun _ => 0)
  | fu + 1, k, vu =>
    if mc ≤ (nI k) then
      vu
    else
      if (f_Ch_placeAt mp mc (nI k)) < 0 then
        f_SF_markFollowed_l2 mp mc fu (k + 1) vu
      else
        if 24 ≤ (f_Ch_placeAt mp mc (nI k)) then
          f_SF_markFollowed_l2 mp mc fu (k + 1) vu
        else
          f_SF_markFollowed_l2 mp mc fu (k + 1) (upd vu (f_Ch_placeAt mp mc (nI k)).toNatClampNeg 1)
def f_SF_markFollowed (mp : Nat → Int32) (mc : Int32) (us : Nat → Int32) : (Nat → Int32) :=
  f_SF_markFollowed_l2 mp mc (mc.toNatClampNeg + 1) 0 us
set_option maxHeartbeats 1000000 in
set_option maxRecDepth 100000 in
/-- markFollowed -/
theorem c_SF_markFollowed (l : Launch) (D : va_G) (cI cZ cJ : ClassId) (q : Nat → Nat) (fl : Nat → Int32) (sl : Nat → Int32) (tb : Nat → Int32) (np : Nat → Int32) (nt : Nat → Int32) (cp : Nat → Int32) (cc : Int32) (cb : Int32) (ch : Int32) (cm : Int32) (mp : Nat → Int32) (mc : Int32) (mb : Int32) (mh : Int32) (mm : Int32) (us : Nat → Int32) (ta : Nat → Int32) (tp : Nat → Int32) (tl : Int32) (cu : Int32) (bl : Int32) (pf : Int32) (sh : Int32) : sf_M (S := (Nat → Int32)) l D classes (sf_tys cI cZ cJ) y_SF_markFollowed (sf_ws y_SF_markFollowed b_SF_markFollowed 3 none) 1 21 [.ref (q 0)] (sf_w q cI cZ fl sl tb np nt cp cc cb ch cm mp mc mb mh mm us ta tp tl cu bl pf sh) (fun _ => none) (fun r => r = f_SF_markFollowed mp mc us) (fun r => (sf_w q cI cZ fl sl tb np nt cp cc cb ch cm mp mc mb mh mm r ta tp tl cu bl pf sh)) := by
  refine sf_ofW (S := (Nat → Int32)) (by decide) (Nat.le_of_ble_eq_true rfl) ?_
  intro p e s m below meth c A ls R args Q hR hArgs hQ hC0 hr hK hP hD hl
  obtain ⟨hx, hb, hml, hown, hts, hA, hlk⟩ := hC0
  have hS : va_S A s.heap s.heap [] := va_S.rf
  have hl : lv_has ls 3 [(0, .ref (q 0))] := hl
  have hcl := sf_clt mc
  refine lv_iconst (v := 0) hx hb d_SF_markFollowed_0 (by decide) ?_
  refine lv_istore_n (lv' := [(1, .int 0), (0, .ref (q 0))]) hx hb d_SF_markFollowed_1 rfl hl (by decide) rfl (fun ls hl => ?_)
  have loop2 : ∀ (fu k : Nat) (vu : (Nat → Int32)), k ≤ mc.toNatClampNeg → k + fu = mc.toNatClampNeg + 1 → f_SF_markFollowed_l2 mp mc fu k vu = f_SF_markFollowed mp mc us → ∀ (H : Heap) (locs : List Loc), va_P D classes (sf_w q cI cZ fl sl tb np nt cp cc cb ch cm mp mc mb mh mm vu ta tp tl cu bl pf sh) H → va_D A (sf_w q cI cZ fl sl tb np nt cp cc cb ch cm mp mc mb mh mm vu ta tp tl cu bl pf sh) → va_S A s.heap H locs → ∀ (ls : Array Slot), lv_has ls 3 [(0, .ref (q 0)), (1, .int (nI k))] → W p l e R s m args below meth c H locs 0 0 Q (F0 m 2 ls []) := by
    intro fu
    induction fu with
    | zero =>
      intro k vu h1 h2
      exact absurd h2 (by omega)
    | succ fu ih2 =>
      intro k vu hk2 hkn2 heq2 H locs hP hD hS ls hl
      have hcl := sf_clt mc
      refine lv_iload_n hx hb d_SF_markFollowed_2 rfl (lv_at hl 1 rfl) ?_
      refine lv_aload_n hx hb d_SF_markFollowed_3 rfl (lv_at hl 0 rfl) ?_
      refine va_get (D := D) (ci := 2) (v := .ref (q 13)) (C := R_SF) (T := F_SF) (N := 15) hx hb hts i_SF hown hK hP 0 rfl rfl 6 (by decide) (hts _ wd_116) (fun _ h9 => h9) rfl d_SF_markFollowed_4 ?_
      refine va_get (D := D) (ci := 1) (v := .int mc) (C := R_Ch) (T := F_Ch) (N := 5) hx hb hts i_Ch hown hK hP 13 rfl rfl 1 (by decide) (hts _ wd_95) (fun _ h9 => h9) rfl d_SF_markFollowed_7 ?_
      refine lv_icmp_ge (tgt := 45) hx hb d_SF_markFollowed_10 (by decide) (fun c_1 => ?_) (fun c_1 => ?_)
      · rw [hQ]
        exact sf_vret vu hx hb hr hlk hS rfl (by rw [← heq2]; simp only [f_SF_markFollowed_l2, eq_true c_1, ↓reduceIte]) hP d_SF_markFollowed_45
      · have hlt : k < mc.toNatClampNeg := sf_ltc (by omega) c_1
        refine lv_aload_n hx hb d_SF_markFollowed_13 rfl (lv_at hl 0 rfl) ?_
        refine va_get (D := D) (ci := 2) (v := .ref (q 13)) (C := R_SF) (T := F_SF) (N := 15) hx hb hts i_SF hown hK hP 0 rfl rfl 6 (by decide) (hts _ wd_116) (fun _ h9 => h9) rfl d_SF_markFollowed_14 ?_
        refine lv_iload_n hx hb d_SF_markFollowed_17 rfl (lv_at hl 1 rfl) ?_
        refine sf_callVr (S := Int32) (rest := []) ⟨hx, hb, hml, hown, hts⟩ (c_Ch_placeAt l D cI cZ cJ (q 13) (q 14) mp mc mb mh mm (nI k)) (sf_cwV lk_SF_237 hts (fun _ h => h) (by rw [hR]; exact ⟨Nat.le_of_ble_eq_true rfl, Nat.le_of_ble_eq_true rfl⟩)) hK hP hD hS hA [13, 14] rfl rfl (fun _ => rfl) (ci := 1) (q0 := 0) rfl rfl rfl rfl rfl hl.1 (Nat.le_of_ble_eq_true rfl) d_SF_markFollowed_18 ⟨Nat.zero_le _, Nat.zero_le _⟩ (fun u_2 H locs hu_2 hP hS => ?_)
        refine lv_istore_n (lv' := [(2, .int u_2), (0, .ref (q 0)), (1, .int (nI k))]) hx hb d_SF_markFollowed_21 rfl hl (by decide) rfl (fun ls hl => ?_)
        refine lv_iload_n hx hb d_SF_markFollowed_22 rfl (lv_at hl 0 rfl) ?_
        refine lv_if_lt (tgt := 39) hx hb d_SF_markFollowed_23 (by decide) (fun c_3 => ?_) (fun c_3 => ?_)
        · refine lv_iinc (v := (nI (k + 1))) (lv' := [(1, .int (nI (k + 1))), (2, .int u_2), (0, .ref (q 0))]) hx hb d_SF_markFollowed_39 hl (k := 2) rfl (nI_1 k) (by decide) rfl (fun ls hl => ?_)
          refine lv_goto (tgt := 2) hx hb d_SF_markFollowed_42 (by decide) ?_
          exact ih2 (k + 1) vu (by omega) (by omega) (by rw [← heq2]; simp only [f_SF_markFollowed_l2, ← hu_2, eq_false c_1, eq_true c_3, ↓reduceIte]) _ _ hP hD hS ls (lv_sub hl [2, 0] rfl)
        · refine lv_iload_n hx hb d_SF_markFollowed_26 rfl (lv_at hl 0 rfl) ?_
          refine lv_bipush (v := 24) hx hb d_SF_markFollowed_27 (by decide) ?_
          refine lv_icmp_ge (tgt := 39) hx hb d_SF_markFollowed_29 (by decide) (fun c_4 => ?_) (fun c_4 => ?_)
          · refine lv_iinc (v := (nI (k + 1))) (lv' := [(1, .int (nI (k + 1))), (2, .int u_2), (0, .ref (q 0))]) hx hb d_SF_markFollowed_39 hl (k := 2) rfl (nI_1 k) (by decide) rfl (fun ls hl => ?_)
            refine lv_goto (tgt := 2) hx hb d_SF_markFollowed_42 (by decide) ?_
            exact ih2 (k + 1) vu (by omega) (by omega) (by rw [← heq2]; simp only [f_SF_markFollowed_l2, ← hu_2, eq_false c_1, eq_false c_3, eq_true c_4, ↓reduceIte]) _ _ hP hD hS ls (lv_sub hl [2, 0] rfl)
          · refine lv_aload_n hx hb d_SF_markFollowed_32 rfl (lv_at hl 1 rfl) ?_
            refine va_get (D := D) (ci := 2) (v := .ref (q 15)) (C := R_SF) (T := F_SF) (N := 15) hx hb hts i_SF hown hK hP 0 rfl rfl 7 (by decide) (hts _ wd_117) (fun _ h9 => h9) rfl d_SF_markFollowed_33 ?_
            refine lv_iload_n hx hb d_SF_markFollowed_36 rfl (lv_at hl 0 rfl) ?_
            refine lv_iconst (v := 1) hx hb d_SF_markFollowed_37 (by decide) ?_
            refine va_zast hx hb hK hP hD hS 15 1 rfl rfl (sf_in (n := 24) c_3 c_4 (by omega)) d_SF_markFollowed_38 (fun H locs hP hD hS => ?_)
            rw [sf_nz1] at hP hD
            have hP : va_P D classes (sf_w q cI cZ fl sl tb np nt cp cc cb ch cm mp mc mb mh mm (upd vu u_2.toNatClampNeg 1) ta tp tl cu bl pf sh) H := hP
            have hD : va_D A (sf_w q cI cZ fl sl tb np nt cp cc cb ch cm mp mc mb mh mm (upd vu u_2.toNatClampNeg 1) ta tp tl cu bl pf sh) := hD
            refine lv_iinc (v := (nI (k + 1))) (lv' := [(1, .int (nI (k + 1))), (2, .int u_2), (0, .ref (q 0))]) hx hb d_SF_markFollowed_39 hl (k := 2) rfl (nI_1 k) (by decide) rfl (fun ls hl => ?_)
            refine lv_goto (tgt := 2) hx hb d_SF_markFollowed_42 (by decide) ?_
            exact ih2 (k + 1) (upd vu u_2.toNatClampNeg 1) (by omega) (by omega) (by rw [← heq2]; simp only [f_SF_markFollowed_l2, ← hu_2, eq_false c_1, eq_false c_3, eq_false c_4, ↓reduceIte]) _ _ hP hD hS ls (lv_sub hl [2, 0] rfl)
  exact loop2 (mc.toNatClampNeg + 1) 0 us (by omega) (by omega) (by simp only [f_SF_markFollowed, ↓reduceIte]) _ _ hP hD hS ls (lv_sub hl [1, 0] rfl)
def f_SF_markUsed_0_l28 (fl : Nat → Int32) (tb : Nat → Int32) : Nat → Nat → (Nat → Int32) → (Nat → Int32) → Int32 → Int32 → Int32 → Int32 → ((Nat → Int32) × (Nat → Int32) × Int32 × Int32 × Int32 × Int32)
  | 0, _, _, _, _, _, _, _ => ((fun _ => 0), (fun _ => 0), 0, 0, 0, 0)
  | fu + 1, k, xu, xp, xc, xb, xh, xm =>
    if 12 ≤ (nI k) then
      (xu, xp, xc, xb, xh, xm)
    else
      if (f_SF_chainStart tb (f_SF_countingTable tb) (nI k) 0) = 0 then
        f_SF_markUsed_0_l28 fl tb fu (k + 1) xu xp xc xb xh xm
      else
        f_SF_markUsed_0_l28 fl tb fu (k + 1) (f_SF_markFollowed (f_Ch_follow xp 768 fl 28 ((f_SF_chainStart tb (f_SF_countingTable tb) (nI k) 0) - 1)).1 (f_Ch_follow xp 768 fl 28 ((f_SF_chainStart tb (f_SF_countingTable tb) (nI k) 0) - 1)).2.1 xu) (f_Ch_follow xp 768 fl 28 ((f_SF_chainStart tb (f_SF_countingTable tb) (nI k) 0) - 1)).1 (f_Ch_follow xp 768 fl 28 ((f_SF_chainStart tb (f_SF_countingTable tb) (nI k) 0) - 1)).2.1 (f_Ch_follow xp 768 fl 28 ((f_SF_chainStart tb (f_SF_countingTable tb) (nI k) 0) - 1)).2.2.1 (f_Ch_follow xp 768 fl 28 ((f_SF_chainStart tb (f_SF_countingTable tb) (nI k) 0) - 1)).2.2.2.1 (f_Ch_follow xp 768 fl 28 ((f_SF_chainStart tb (f_SF_countingTable tb) (nI k) 0) - 1)).2.2.2.2
def f_SF_markUsed_0_l2 (fl : Nat → Int32) (tb : Nat → Int32) (mp : Nat → Int32) (mc : Int32) (mb : Int32) (mh : Int32) (mm : Int32) : Nat → Nat → (Nat → Int32) → ((Nat → Int32) × (Nat → Int32) × Int32 × Int32 × Int32 × Int32)
  | 0, _, _ => ((fun _ => 0), (fun _ => 0), 0, 0, 0, 0)
  | fu + 1, k, vu =>
    if 24 ≤ (nI k) then
      f_SF_markUsed_0_l28 fl tb (12 + 1) 0 vu mp mc mb mh mm
    else
      f_SF_markUsed_0_l2 fl tb mp mc mb mh mm fu (k + 1) (upd vu k 0)
def f_SF_markUsed_0 (fl : Nat → Int32) (tb : Nat → Int32) (mp : Nat → Int32) (mc : Int32) (mb : Int32) (mh : Int32) (mm : Int32) (us : Nat → Int32) : ((Nat → Int32) × (Nat → Int32) × Int32 × Int32 × Int32 × Int32) :=
  f_SF_markUsed_0_l2 fl tb mp mc mb mh mm (24 + 1) 0 us
set_option maxHeartbeats 1000000 in
set_option maxRecDepth 100000 in
/-- markUsed -/
theorem c_SF_markUsed_0 (l : Launch) (D : va_G) (cI cZ cJ : ClassId) (q : Nat → Nat) (fl : Nat → Int32) (sl : Nat → Int32) (tb : Nat → Int32) (np : Nat → Int32) (nt : Nat → Int32) (cp : Nat → Int32) (cc : Int32) (cb : Int32) (ch : Int32) (cm : Int32) (mp : Nat → Int32) (mc : Int32) (mb : Int32) (mh : Int32) (mm : Int32) (us : Nat → Int32) (ta : Nat → Int32) (tp : Nat → Int32) (tl : Int32) (cu : Int32) (bl : Int32) (pf : Int32) (sh : Int32) : sf_M (S := ((Nat → Int32) × (Nat → Int32) × Int32 × Int32 × Int32 × Int32)) l D classes (sf_tys cI cZ cJ) y_SF_markUsed (sf_ws y_SF_markUsed b_SF_markUsed 5 none) 4 97 [.ref (q 0), .int 0] (sf_w q cI cZ fl sl tb np nt cp cc cb ch cm mp mc mb mh mm us ta tp tl cu bl pf sh) (fun _ => none) (fun r => r = f_SF_markUsed_0 fl tb mp mc mb mh mm us) (fun r => (sf_w q cI cZ fl sl tb np nt cp cc cb ch cm r.2.1 r.2.2.1 r.2.2.2.1 r.2.2.2.2.1 r.2.2.2.2.2 r.1 ta tp tl cu bl pf sh)) := by
  refine sf_ofW (S := ((Nat → Int32) × (Nat → Int32) × Int32 × Int32 × Int32 × Int32)) (by decide) (Nat.le_of_ble_eq_true rfl) ?_
  intro p e s m below meth c A ls R args Q hR hArgs hQ hC0 hr hK hP hD hl
  obtain ⟨hx, hb, hml, hown, hts, hA, hlk⟩ := hC0
  have hS : va_S A s.heap s.heap [] := va_S.rf
  have hl : lv_has ls 5 [(0, .ref (q 0)), (1, .int 0)] := hl
  refine lv_iconst (v := 0) hx hb d_SF_markUsed_0 (by decide) ?_
  refine lv_istore_n (lv' := [(2, .int 0), (0, .ref (q 0)), (1, .int 0)]) hx hb d_SF_markUsed_1 rfl hl (by decide) rfl (fun ls hl => ?_)
  have loop2 : ∀ (fu k : Nat) (vu : (Nat → Int32)), k ≤ 24 → k + fu = 24 + 1 → f_SF_markUsed_0_l2 fl tb mp mc mb mh mm fu k vu = f_SF_markUsed_0 fl tb mp mc mb mh mm us → ∀ (H : Heap) (locs : List Loc), va_P D classes (sf_w q cI cZ fl sl tb np nt cp cc cb ch cm mp mc mb mh mm vu ta tp tl cu bl pf sh) H → va_D A (sf_w q cI cZ fl sl tb np nt cp cc cb ch cm mp mc mb mh mm vu ta tp tl cu bl pf sh) → va_S A s.heap H locs → ∀ (ls : Array Slot), lv_has ls 5 [(0, .ref (q 0)), (1, .int 0), (2, .int (nI k))] → W p l e R s m args below meth c H locs 0 0 Q (F0 m 2 ls []) := by
    intro fu
    induction fu with
    | zero =>
      intro k vu h1 h2
      exact absurd h2 (by omega)
    | succ fu ih2 =>
      intro k vu hk2 hkn2 heq2 H locs hP hD hS ls hl
      refine lv_iload_n hx hb d_SF_markUsed_2 rfl (lv_at hl 2 rfl) ?_
      refine lv_bipush (v := 24) hx hb d_SF_markUsed_3 (by decide) ?_
      refine lv_icmp_ge (tgt := 21) hx hb d_SF_markUsed_5 (by decide) (fun c_1 => ?_) (fun c_1 => ?_)
      · refine lv_aload_n hx hb d_SF_markUsed_21 rfl (lv_at hl 0 rfl) ?_
        refine sf_callVw (S := Int32) (rest := []) ⟨hx, hb, hml, hown, hts⟩ (c_SF_countingTable l D cI cZ cJ q fl sl tb np nt cp cc cb ch cm mp mc mb mh mm vu ta tp tl cu bl pf sh) (sf_cwV lk_SF_179 hts (fun _ h => h) (by rw [hR]; exact ⟨Nat.le_of_ble_eq_true rfl, Nat.le_of_ble_eq_true rfl⟩)) hK hP hD hS hA (fun _ => by simp only [sf_w_fst]) (ci := 2) (q0 := 0) rfl rfl rfl rfl rfl hl.1 (Nat.le_of_ble_eq_true rfl) d_SF_markUsed_22 ⟨Nat.zero_le _, Nat.zero_le _⟩ (fun u_2 H locs hu_2 hP hD hS => ?_)
        have hP : va_P D classes (sf_w q cI cZ fl sl tb np nt cp cc cb ch cm mp mc mb mh mm vu ta tp tl cu bl pf sh) H := hP
        have hD : va_D A (sf_w q cI cZ fl sl tb np nt cp cc cb ch cm mp mc mb mh mm vu ta tp tl cu bl pf sh) := hD
        refine lv_istore_n (lv' := [(2, .int u_2), (0, .ref (q 0)), (1, .int 0)]) hx hb d_SF_markUsed_25 rfl hl (by decide) rfl (fun ls hl => ?_)
        refine lv_iconst (v := 0) hx hb d_SF_markUsed_26 (by decide) ?_
        refine lv_istore_n (lv' := [(3, .int 0), (2, .int u_2), (0, .ref (q 0)), (1, .int 0)]) hx hb d_SF_markUsed_27 rfl hl (by decide) rfl (fun ls hl => ?_)
        have loop28 : ∀ (fu k : Nat) (xu : (Nat → Int32)) (xp : (Nat → Int32)) (xc : Int32) (xb : Int32) (xh : Int32) (xm : Int32), k ≤ 12 → k + fu = 12 + 1 → f_SF_markUsed_0_l28 fl tb fu k xu xp xc xb xh xm = f_SF_markUsed_0 fl tb mp mc mb mh mm us → ∀ (H : Heap) (locs : List Loc), va_P D classes (sf_w q cI cZ fl sl tb np nt cp cc cb ch cm xp xc xb xh xm xu ta tp tl cu bl pf sh) H → va_D A (sf_w q cI cZ fl sl tb np nt cp cc cb ch cm xp xc xb xh xm xu ta tp tl cu bl pf sh) → va_S A s.heap H locs → ∀ (ls : Array Slot), lv_has ls 5 [(0, .ref (q 0)), (1, .int 0), (2, .int u_2), (3, .int (nI k))] → W p l e R s m args below meth c H locs 0 0 Q (F0 m 28 ls []) := by
          intro fu
          induction fu with
          | zero =>
            intro k xu xp xc xb xh xm h1 h2
            exact absurd h2 (by omega)
          | succ fu ih28 =>
            intro k xu xp xc xb xh xm hk28 hkn28 heq28 H locs hP hD hS ls hl
            refine lv_iload_n hx hb d_SF_markUsed_28 rfl (lv_at hl 3 rfl) ?_
            refine lv_bipush (v := 12) hx hb d_SF_markUsed_29 (by decide) ?_
            refine lv_icmp_ge (tgt := 74) hx hb d_SF_markUsed_31 (by decide) (fun c_3 => ?_) (fun c_3 => ?_)
            · rw [hQ]
              exact sf_vret (xu, xp, xc, xb, xh, xm) hx hb hr hlk hS rfl (by rw [← heq28]; simp only [f_SF_markUsed_0_l28, ← hu_2, eq_true c_3, ↓reduceIte]) hP d_SF_markUsed_74
            · have hlt : k < 12 := sf_lt_of (N := 12) (by omega) (by omega) c_3
              refine lv_aload_n hx hb d_SF_markUsed_34 rfl (lv_at hl 0 rfl) ?_
              refine lv_iload_n hx hb d_SF_markUsed_35 rfl (lv_at hl 2 rfl) ?_
              refine lv_iload_n hx hb d_SF_markUsed_36 rfl (lv_at hl 3 rfl) ?_
              refine lv_iload_n hx hb d_SF_markUsed_37 rfl (lv_at hl 1 rfl) ?_
              refine sf_callVw (S := Int32) (rest := []) ⟨hx, hb, hml, hown, hts⟩ (c_SF_chainStart l D cI cZ cJ q fl sl tb np nt cp cc cb ch cm xp xc xb xh xm xu ta tp tl cu bl pf sh u_2 (nI k) 0) (sf_cwV lk_SF_231 hts (fun _ h => h) (by rw [hR]; exact ⟨Nat.le_of_ble_eq_true rfl, Nat.le_of_ble_eq_true rfl⟩)) hK hP hD hS hA (fun _ => by simp only [sf_w_fst]) (ci := 2) (q0 := 0) rfl rfl rfl rfl rfl hl.1 (Nat.le_of_ble_eq_true rfl) d_SF_markUsed_38 ⟨Nat.zero_le _, Nat.zero_le _⟩ (fun u_4 H locs hu_4 hP hD hS => ?_)
              have hP : va_P D classes (sf_w q cI cZ fl sl tb np nt cp cc cb ch cm xp xc xb xh xm xu ta tp tl cu bl pf sh) H := hP
              have hD : va_D A (sf_w q cI cZ fl sl tb np nt cp cc cb ch cm xp xc xb xh xm xu ta tp tl cu bl pf sh) := hD
              refine lv_istore (lv' := [(4, .int u_4), (0, .ref (q 0)), (1, .int 0), (2, .int u_2), (3, .int (nI k))]) hx hb d_SF_markUsed_41 hl (by decide) rfl (fun ls hl => ?_)
              refine lv_iload hx hb d_SF_markUsed_43 (lv_at hl 0 rfl) ?_
              refine lv_if_eq (tgt := 68) hx hb d_SF_markUsed_45 (by decide) (fun c_5 => ?_) (fun c_5 => ?_)
              · refine lv_iinc (v := (nI (k + 1))) (lv' := [(3, .int (nI (k + 1))), (4, .int u_4), (0, .ref (q 0)), (1, .int 0), (2, .int u_2)]) hx hb d_SF_markUsed_68 hl (k := 4) rfl (nI_1 k) (by decide) rfl (fun ls hl => ?_)
                refine lv_goto (tgt := 28) hx hb d_SF_markUsed_71 (by decide) ?_
                exact ih28 (k + 1) xu xp xc xb xh xm (by omega) (by omega) (by rw [← heq28]; simp only [f_SF_markUsed_0_l28, ← hu_2, ← hu_4, eq_false c_3, eq_true c_5, ↓reduceIte]) _ _ hP hD hS ls (lv_sub hl [2, 3, 4, 0] rfl)
              · refine lv_aload_n hx hb d_SF_markUsed_48 rfl (lv_at hl 1 rfl) ?_
                refine va_get (D := D) (ci := 2) (v := .ref (q 13)) (C := R_SF) (T := F_SF) (N := 15) hx hb hts i_SF hown hK hP 0 rfl rfl 6 (by decide) (hts _ wd_116) (fun _ h9 => h9) rfl d_SF_markUsed_49 ?_
                refine lv_aload_n hx hb d_SF_markUsed_52 rfl (lv_at hl 1 rfl) ?_
                refine lv_iload_n hx hb d_SF_markUsed_53 rfl (lv_at hl 2 rfl) ?_
                refine sf_callVw (S := Unit) (rest := [.ref (q 13)]) ⟨hx, hb, hml, hown, hts⟩ (c_SF_placesOf_0 l D cI cZ cJ q fl sl tb np nt cp cc cb ch cm xp xc xb xh xm xu ta tp tl cu bl pf sh) (sf_cwV lk_SF_160 hts (fun _ h => h) (by rw [hR]; exact ⟨Nat.le_of_ble_eq_true rfl, Nat.le_of_ble_eq_true rfl⟩)) hK hP hD hS hA (fun _ => by simp only [sf_w_fst]) (ci := 2) (q0 := 0) rfl rfl rfl rfl rfl hl.1 (Nat.le_of_ble_eq_true rfl) d_SF_markUsed_54 ⟨Nat.zero_le _, Nat.zero_le _⟩ (fun u H locs hu hP hD hS => ?_)
                have hP : va_P D classes (sf_w q cI cZ fl sl tb np nt cp cc cb ch cm xp xc xb xh xm xu ta tp tl cu bl pf sh) H := hP
                have hD : va_D A (sf_w q cI cZ fl sl tb np nt cp cc cb ch cm xp xc xb xh xm xu ta tp tl cu bl pf sh) := hD
                refine lv_iload hx hb d_SF_markUsed_57 (lv_at hl 0 rfl) ?_
                refine lv_iconst (v := 1) hx hb d_SF_markUsed_59 (by decide) ?_
                refine lv_isub hx hb d_SF_markUsed_60 ?_
                refine sf_callV (S := ((Nat → Int32) × Int32 × Int32 × Int32 × Int32)) (rest := []) ⟨hx, hb, hml, hown, hts⟩ (c_Ch_follow l D cI cZ cJ (q 13) (q 14) xp xc xb xh xm (q 1) (q 2) 768 fl 28 (u_4 - 1) (by omega) (by omega)) (sf_cwV lk_SF_228 hts (fun _ h => h) (by rw [hR]; exact ⟨Nat.le_of_ble_eq_true rfl, Nat.le_of_ble_eq_true rfl⟩)) hK hP hD hS hA [13, 14, 1, 2] rfl rfl (fun _ => rfl) (ci := 1) (q0 := 0) rfl rfl rfl rfl rfl hl.1 (Nat.le_of_ble_eq_true rfl) d_SF_markUsed_61 ⟨Nat.zero_le _, Nat.zero_le _⟩ (fun u_6 H locs hu_6 hP hD hS => ?_)
                have hP : va_P D classes (sf_w q cI cZ fl sl tb np nt cp cc cb ch cm u_6.1 u_6.2.1 u_6.2.2.1 u_6.2.2.2.1 u_6.2.2.2.2 xu ta tp tl cu bl pf sh) H := hP
                have hD : va_D A (sf_w q cI cZ fl sl tb np nt cp cc cb ch cm u_6.1 u_6.2.1 u_6.2.2.1 u_6.2.2.2.1 u_6.2.2.2.2 xu ta tp tl cu bl pf sh) := hD
                refine lv_aload_n hx hb d_SF_markUsed_64 rfl (lv_at hl 1 rfl) ?_
                refine sf_callVw (S := (Nat → Int32)) (rest := []) ⟨hx, hb, hml, hown, hts⟩ (c_SF_markFollowed l D cI cZ cJ q fl sl tb np nt cp cc cb ch cm u_6.1 u_6.2.1 u_6.2.2.1 u_6.2.2.2.1 u_6.2.2.2.2 xu ta tp tl cu bl pf sh) (sf_cwV lk_SF_234 hts (fun _ h => h) (by rw [hR]; exact ⟨Nat.le_of_ble_eq_true rfl, Nat.le_of_ble_eq_true rfl⟩)) hK hP hD hS hA (fun _ => by simp only [sf_w_fst]) (ci := 2) (q0 := 0) rfl rfl rfl rfl rfl hl.1 (Nat.le_of_ble_eq_true rfl) d_SF_markUsed_65 ⟨Nat.zero_le _, Nat.zero_le _⟩ (fun u_7 H locs hu_7 hP hD hS => ?_)
                have hP : va_P D classes (sf_w q cI cZ fl sl tb np nt cp cc cb ch cm u_6.1 u_6.2.1 u_6.2.2.1 u_6.2.2.2.1 u_6.2.2.2.2 u_7 ta tp tl cu bl pf sh) H := hP
                have hD : va_D A (sf_w q cI cZ fl sl tb np nt cp cc cb ch cm u_6.1 u_6.2.1 u_6.2.2.1 u_6.2.2.2.1 u_6.2.2.2.2 u_7 ta tp tl cu bl pf sh) := hD
                refine lv_iinc (v := (nI (k + 1))) (lv' := [(3, .int (nI (k + 1))), (4, .int u_4), (0, .ref (q 0)), (1, .int 0), (2, .int u_2)]) hx hb d_SF_markUsed_68 hl (k := 4) rfl (nI_1 k) (by decide) rfl (fun ls hl => ?_)
                refine lv_goto (tgt := 28) hx hb d_SF_markUsed_71 (by decide) ?_
                exact ih28 (k + 1) u_7 u_6.1 u_6.2.1 u_6.2.2.1 u_6.2.2.2.1 u_6.2.2.2.2 (by omega) (by omega) (by rw [← heq28]; simp only [f_SF_markUsed_0_l28, ← hu_2, ← hu_4, ← hu_6, ← hu_7, eq_false c_3, eq_false c_5, ↓reduceIte]) _ _ hP hD hS ls (lv_sub hl [2, 3, 4, 0] rfl)
        exact loop28 (12 + 1) 0 vu mp mc mb mh mm (by omega) (by omega) (by rw [← heq2]; simp only [f_SF_markUsed_0_l2, ← hu_2, eq_true c_1, ↓reduceIte]) _ _ hP hD hS ls (lv_sub hl [2, 3, 1, 0] rfl)
      · have hlt : k < 24 := sf_lt_of (N := 24) (by omega) (by omega) c_1
        refine lv_aload_n hx hb d_SF_markUsed_8 rfl (lv_at hl 0 rfl) ?_
        refine va_get (D := D) (ci := 2) (v := .ref (q 15)) (C := R_SF) (T := F_SF) (N := 15) hx hb hts i_SF hown hK hP 0 rfl rfl 7 (by decide) (hts _ wd_117) (fun _ h9 => h9) rfl d_SF_markUsed_9 ?_
        refine lv_iload_n hx hb d_SF_markUsed_12 rfl (lv_at hl 2 rfl) ?_
        refine lv_iconst (v := 0) hx hb d_SF_markUsed_13 (by decide) ?_
        refine va_zast hx hb hK hP hD hS 15 1 rfl rfl (vp_in_nI hlt (by omega)) d_SF_markUsed_14 (fun H locs hP hD hS => ?_)
        rw [show ((nI k) : Int32).toNatClampNeg = k from nI_clamp (n := k) (by omega)] at hP hD
        rw [sf_nz0] at hP hD
        have hP : va_P D classes (sf_w q cI cZ fl sl tb np nt cp cc cb ch cm mp mc mb mh mm (upd vu k 0) ta tp tl cu bl pf sh) H := hP
        have hD : va_D A (sf_w q cI cZ fl sl tb np nt cp cc cb ch cm mp mc mb mh mm (upd vu k 0) ta tp tl cu bl pf sh) := hD
        refine lv_iinc (v := (nI (k + 1))) (lv' := [(2, .int (nI (k + 1))), (0, .ref (q 0)), (1, .int 0)]) hx hb d_SF_markUsed_15 hl (k := 2) rfl (nI_1 k) (by decide) rfl (fun ls hl => ?_)
        refine lv_goto (tgt := 2) hx hb d_SF_markUsed_18 (by decide) ?_
        exact ih2 (k + 1) (upd vu k 0) (by omega) (by omega) (by rw [← heq2]; simp only [f_SF_markUsed_0_l2, eq_false c_1, ↓reduceIte]) _ _ hP hD hS ls (lv_sub hl [1, 2, 0] rfl)
  exact loop2 (24 + 1) 0 us (by omega) (by omega) (by simp only [f_SF_markUsed_0, ↓reduceIte]) _ _ hP hD hS ls (lv_sub hl [1, 2, 0] rfl)
def f_SF_markUsed_1_l28 (sl : Nat → Int32) (tb : Nat → Int32) : Nat → Nat → (Nat → Int32) → (Nat → Int32) → Int32 → Int32 → Int32 → Int32 → ((Nat → Int32) × (Nat → Int32) × Int32 × Int32 × Int32 × Int32)
  | 0, _, _, _, _, _, _, _ => ((fun _ => 0), (fun _ => 0), 0, 0, 0, 0)
  | fu + 1, k, xu, xp, xc, xb, xh, xm =>
    if 12 ≤ (nI k) then
      (xu, xp, xc, xb, xh, xm)
    else
      if (f_SF_chainStart tb (f_SF_countingTable tb) (nI k) 1) = 0 then
        f_SF_markUsed_1_l28 sl tb fu (k + 1) xu xp xc xb xh xm
      else
        f_SF_markUsed_1_l28 sl tb fu (k + 1) (f_SF_markFollowed (f_Ch_follow xp 512 sl 28 ((f_SF_chainStart tb (f_SF_countingTable tb) (nI k) 1) - 1)).1 (f_Ch_follow xp 512 sl 28 ((f_SF_chainStart tb (f_SF_countingTable tb) (nI k) 1) - 1)).2.1 xu) (f_Ch_follow xp 512 sl 28 ((f_SF_chainStart tb (f_SF_countingTable tb) (nI k) 1) - 1)).1 (f_Ch_follow xp 512 sl 28 ((f_SF_chainStart tb (f_SF_countingTable tb) (nI k) 1) - 1)).2.1 (f_Ch_follow xp 512 sl 28 ((f_SF_chainStart tb (f_SF_countingTable tb) (nI k) 1) - 1)).2.2.1 (f_Ch_follow xp 512 sl 28 ((f_SF_chainStart tb (f_SF_countingTable tb) (nI k) 1) - 1)).2.2.2.1 (f_Ch_follow xp 512 sl 28 ((f_SF_chainStart tb (f_SF_countingTable tb) (nI k) 1) - 1)).2.2.2.2
def f_SF_markUsed_1_l2 (sl : Nat → Int32) (tb : Nat → Int32) (mp : Nat → Int32) (mc : Int32) (mb : Int32) (mh : Int32) (mm : Int32) : Nat → Nat → (Nat → Int32) → ((Nat → Int32) × (Nat → Int32) × Int32 × Int32 × Int32 × Int32)
  | 0, _, _ => ((fun _ => 0), (fun _ => 0), 0, 0, 0, 0)
  | fu + 1, k, vu =>
    if 24 ≤ (nI k) then
      f_SF_markUsed_1_l28 sl tb (12 + 1) 0 vu mp mc mb mh mm
    else
      f_SF_markUsed_1_l2 sl tb mp mc mb mh mm fu (k + 1) (upd vu k 0)
def f_SF_markUsed_1 (sl : Nat → Int32) (tb : Nat → Int32) (mp : Nat → Int32) (mc : Int32) (mb : Int32) (mh : Int32) (mm : Int32) (us : Nat → Int32) : ((Nat → Int32) × (Nat → Int32) × Int32 × Int32 × Int32 × Int32) :=
  f_SF_markUsed_1_l2 sl tb mp mc mb mh mm (24 + 1) 0 us
set_option maxHeartbeats 1000000 in
set_option maxRecDepth 100000 in
/-- markUsed -/
theorem c_SF_markUsed_1 (l : Launch) (D : va_G) (cI cZ cJ : ClassId) (q : Nat → Nat) (fl : Nat → Int32) (sl : Nat → Int32) (tb : Nat → Int32) (np : Nat → Int32) (nt : Nat → Int32) (cp : Nat → Int32) (cc : Int32) (cb : Int32) (ch : Int32) (cm : Int32) (mp : Nat → Int32) (mc : Int32) (mb : Int32) (mh : Int32) (mm : Int32) (us : Nat → Int32) (ta : Nat → Int32) (tp : Nat → Int32) (tl : Int32) (cu : Int32) (bl : Int32) (pf : Int32) (sh : Int32) : sf_M (S := ((Nat → Int32) × (Nat → Int32) × Int32 × Int32 × Int32 × Int32)) l D classes (sf_tys cI cZ cJ) y_SF_markUsed (sf_ws y_SF_markUsed b_SF_markUsed 5 none) 4 97 [.ref (q 0), .int 1] (sf_w q cI cZ fl sl tb np nt cp cc cb ch cm mp mc mb mh mm us ta tp tl cu bl pf sh) (fun _ => none) (fun r => r = f_SF_markUsed_1 sl tb mp mc mb mh mm us) (fun r => (sf_w q cI cZ fl sl tb np nt cp cc cb ch cm r.2.1 r.2.2.1 r.2.2.2.1 r.2.2.2.2.1 r.2.2.2.2.2 r.1 ta tp tl cu bl pf sh)) := by
  refine sf_ofW (S := ((Nat → Int32) × (Nat → Int32) × Int32 × Int32 × Int32 × Int32)) (by decide) (Nat.le_of_ble_eq_true rfl) ?_
  intro p e s m below meth c A ls R args Q hR hArgs hQ hC0 hr hK hP hD hl
  obtain ⟨hx, hb, hml, hown, hts, hA, hlk⟩ := hC0
  have hS : va_S A s.heap s.heap [] := va_S.rf
  have hl : lv_has ls 5 [(0, .ref (q 0)), (1, .int 1)] := hl
  refine lv_iconst (v := 0) hx hb d_SF_markUsed_0 (by decide) ?_
  refine lv_istore_n (lv' := [(2, .int 0), (0, .ref (q 0)), (1, .int 1)]) hx hb d_SF_markUsed_1 rfl hl (by decide) rfl (fun ls hl => ?_)
  have loop2 : ∀ (fu k : Nat) (vu : (Nat → Int32)), k ≤ 24 → k + fu = 24 + 1 → f_SF_markUsed_1_l2 sl tb mp mc mb mh mm fu k vu = f_SF_markUsed_1 sl tb mp mc mb mh mm us → ∀ (H : Heap) (locs : List Loc), va_P D classes (sf_w q cI cZ fl sl tb np nt cp cc cb ch cm mp mc mb mh mm vu ta tp tl cu bl pf sh) H → va_D A (sf_w q cI cZ fl sl tb np nt cp cc cb ch cm mp mc mb mh mm vu ta tp tl cu bl pf sh) → va_S A s.heap H locs → ∀ (ls : Array Slot), lv_has ls 5 [(0, .ref (q 0)), (1, .int 1), (2, .int (nI k))] → W p l e R s m args below meth c H locs 0 0 Q (F0 m 2 ls []) := by
    intro fu
    induction fu with
    | zero =>
      intro k vu h1 h2
      exact absurd h2 (by omega)
    | succ fu ih2 =>
      intro k vu hk2 hkn2 heq2 H locs hP hD hS ls hl
      refine lv_iload_n hx hb d_SF_markUsed_2 rfl (lv_at hl 2 rfl) ?_
      refine lv_bipush (v := 24) hx hb d_SF_markUsed_3 (by decide) ?_
      refine lv_icmp_ge (tgt := 21) hx hb d_SF_markUsed_5 (by decide) (fun c_1 => ?_) (fun c_1 => ?_)
      · refine lv_aload_n hx hb d_SF_markUsed_21 rfl (lv_at hl 0 rfl) ?_
        refine sf_callVw (S := Int32) (rest := []) ⟨hx, hb, hml, hown, hts⟩ (c_SF_countingTable l D cI cZ cJ q fl sl tb np nt cp cc cb ch cm mp mc mb mh mm vu ta tp tl cu bl pf sh) (sf_cwV lk_SF_179 hts (fun _ h => h) (by rw [hR]; exact ⟨Nat.le_of_ble_eq_true rfl, Nat.le_of_ble_eq_true rfl⟩)) hK hP hD hS hA (fun _ => by simp only [sf_w_fst]) (ci := 2) (q0 := 0) rfl rfl rfl rfl rfl hl.1 (Nat.le_of_ble_eq_true rfl) d_SF_markUsed_22 ⟨Nat.zero_le _, Nat.zero_le _⟩ (fun u_2 H locs hu_2 hP hD hS => ?_)
        have hP : va_P D classes (sf_w q cI cZ fl sl tb np nt cp cc cb ch cm mp mc mb mh mm vu ta tp tl cu bl pf sh) H := hP
        have hD : va_D A (sf_w q cI cZ fl sl tb np nt cp cc cb ch cm mp mc mb mh mm vu ta tp tl cu bl pf sh) := hD
        refine lv_istore_n (lv' := [(2, .int u_2), (0, .ref (q 0)), (1, .int 1)]) hx hb d_SF_markUsed_25 rfl hl (by decide) rfl (fun ls hl => ?_)
        refine lv_iconst (v := 0) hx hb d_SF_markUsed_26 (by decide) ?_
        refine lv_istore_n (lv' := [(3, .int 0), (2, .int u_2), (0, .ref (q 0)), (1, .int 1)]) hx hb d_SF_markUsed_27 rfl hl (by decide) rfl (fun ls hl => ?_)
        have loop28 : ∀ (fu k : Nat) (xu : (Nat → Int32)) (xp : (Nat → Int32)) (xc : Int32) (xb : Int32) (xh : Int32) (xm : Int32), k ≤ 12 → k + fu = 12 + 1 → f_SF_markUsed_1_l28 sl tb fu k xu xp xc xb xh xm = f_SF_markUsed_1 sl tb mp mc mb mh mm us → ∀ (H : Heap) (locs : List Loc), va_P D classes (sf_w q cI cZ fl sl tb np nt cp cc cb ch cm xp xc xb xh xm xu ta tp tl cu bl pf sh) H → va_D A (sf_w q cI cZ fl sl tb np nt cp cc cb ch cm xp xc xb xh xm xu ta tp tl cu bl pf sh) → va_S A s.heap H locs → ∀ (ls : Array Slot), lv_has ls 5 [(0, .ref (q 0)), (1, .int 1), (2, .int u_2), (3, .int (nI k))] → W p l e R s m args below meth c H locs 0 0 Q (F0 m 28 ls []) := by
          intro fu
          induction fu with
          | zero =>
            intro k xu xp xc xb xh xm h1 h2
            exact absurd h2 (by omega)
          | succ fu ih28 =>
            intro k xu xp xc xb xh xm hk28 hkn28 heq28 H locs hP hD hS ls hl
            refine lv_iload_n hx hb d_SF_markUsed_28 rfl (lv_at hl 3 rfl) ?_
            refine lv_bipush (v := 12) hx hb d_SF_markUsed_29 (by decide) ?_
            refine lv_icmp_ge (tgt := 74) hx hb d_SF_markUsed_31 (by decide) (fun c_3 => ?_) (fun c_3 => ?_)
            · rw [hQ]
              exact sf_vret (xu, xp, xc, xb, xh, xm) hx hb hr hlk hS rfl (by rw [← heq28]; simp only [f_SF_markUsed_1_l28, ← hu_2, eq_true c_3, ↓reduceIte]) hP d_SF_markUsed_74
            · have hlt : k < 12 := sf_lt_of (N := 12) (by omega) (by omega) c_3
              refine lv_aload_n hx hb d_SF_markUsed_34 rfl (lv_at hl 0 rfl) ?_
              refine lv_iload_n hx hb d_SF_markUsed_35 rfl (lv_at hl 2 rfl) ?_
              refine lv_iload_n hx hb d_SF_markUsed_36 rfl (lv_at hl 3 rfl) ?_
              refine lv_iload_n hx hb d_SF_markUsed_37 rfl (lv_at hl 1 rfl) ?_
              refine sf_callVw (S := Int32) (rest := []) ⟨hx, hb, hml, hown, hts⟩ (c_SF_chainStart l D cI cZ cJ q fl sl tb np nt cp cc cb ch cm xp xc xb xh xm xu ta tp tl cu bl pf sh u_2 (nI k) 1) (sf_cwV lk_SF_231 hts (fun _ h => h) (by rw [hR]; exact ⟨Nat.le_of_ble_eq_true rfl, Nat.le_of_ble_eq_true rfl⟩)) hK hP hD hS hA (fun _ => by simp only [sf_w_fst]) (ci := 2) (q0 := 0) rfl rfl rfl rfl rfl hl.1 (Nat.le_of_ble_eq_true rfl) d_SF_markUsed_38 ⟨Nat.zero_le _, Nat.zero_le _⟩ (fun u_4 H locs hu_4 hP hD hS => ?_)
              have hP : va_P D classes (sf_w q cI cZ fl sl tb np nt cp cc cb ch cm xp xc xb xh xm xu ta tp tl cu bl pf sh) H := hP
              have hD : va_D A (sf_w q cI cZ fl sl tb np nt cp cc cb ch cm xp xc xb xh xm xu ta tp tl cu bl pf sh) := hD
              refine lv_istore (lv' := [(4, .int u_4), (0, .ref (q 0)), (1, .int 1), (2, .int u_2), (3, .int (nI k))]) hx hb d_SF_markUsed_41 hl (by decide) rfl (fun ls hl => ?_)
              refine lv_iload hx hb d_SF_markUsed_43 (lv_at hl 0 rfl) ?_
              refine lv_if_eq (tgt := 68) hx hb d_SF_markUsed_45 (by decide) (fun c_5 => ?_) (fun c_5 => ?_)
              · refine lv_iinc (v := (nI (k + 1))) (lv' := [(3, .int (nI (k + 1))), (4, .int u_4), (0, .ref (q 0)), (1, .int 1), (2, .int u_2)]) hx hb d_SF_markUsed_68 hl (k := 4) rfl (nI_1 k) (by decide) rfl (fun ls hl => ?_)
                refine lv_goto (tgt := 28) hx hb d_SF_markUsed_71 (by decide) ?_
                exact ih28 (k + 1) xu xp xc xb xh xm (by omega) (by omega) (by rw [← heq28]; simp only [f_SF_markUsed_1_l28, ← hu_2, ← hu_4, eq_false c_3, eq_true c_5, ↓reduceIte]) _ _ hP hD hS ls (lv_sub hl [2, 3, 4, 0] rfl)
              · refine lv_aload_n hx hb d_SF_markUsed_48 rfl (lv_at hl 1 rfl) ?_
                refine va_get (D := D) (ci := 2) (v := .ref (q 13)) (C := R_SF) (T := F_SF) (N := 15) hx hb hts i_SF hown hK hP 0 rfl rfl 6 (by decide) (hts _ wd_116) (fun _ h9 => h9) rfl d_SF_markUsed_49 ?_
                refine lv_aload_n hx hb d_SF_markUsed_52 rfl (lv_at hl 1 rfl) ?_
                refine lv_iload_n hx hb d_SF_markUsed_53 rfl (lv_at hl 2 rfl) ?_
                refine sf_callVw (S := Unit) (rest := [.ref (q 13)]) ⟨hx, hb, hml, hown, hts⟩ (c_SF_placesOf_1 l D cI cZ cJ q fl sl tb np nt cp cc cb ch cm xp xc xb xh xm xu ta tp tl cu bl pf sh) (sf_cwV lk_SF_160 hts (fun _ h => h) (by rw [hR]; exact ⟨Nat.le_of_ble_eq_true rfl, Nat.le_of_ble_eq_true rfl⟩)) hK hP hD hS hA (fun _ => by simp only [sf_w_fst]) (ci := 2) (q0 := 0) rfl rfl rfl rfl rfl hl.1 (Nat.le_of_ble_eq_true rfl) d_SF_markUsed_54 ⟨Nat.zero_le _, Nat.zero_le _⟩ (fun u H locs hu hP hD hS => ?_)
                have hP : va_P D classes (sf_w q cI cZ fl sl tb np nt cp cc cb ch cm xp xc xb xh xm xu ta tp tl cu bl pf sh) H := hP
                have hD : va_D A (sf_w q cI cZ fl sl tb np nt cp cc cb ch cm xp xc xb xh xm xu ta tp tl cu bl pf sh) := hD
                refine lv_iload hx hb d_SF_markUsed_57 (lv_at hl 0 rfl) ?_
                refine lv_iconst (v := 1) hx hb d_SF_markUsed_59 (by decide) ?_
                refine lv_isub hx hb d_SF_markUsed_60 ?_
                refine sf_callV (S := ((Nat → Int32) × Int32 × Int32 × Int32 × Int32)) (rest := []) ⟨hx, hb, hml, hown, hts⟩ (c_Ch_follow l D cI cZ cJ (q 13) (q 14) xp xc xb xh xm (q 3) (q 4) 512 sl 28 (u_4 - 1) (by omega) (by omega)) (sf_cwV lk_SF_228 hts (fun _ h => h) (by rw [hR]; exact ⟨Nat.le_of_ble_eq_true rfl, Nat.le_of_ble_eq_true rfl⟩)) hK hP hD hS hA [13, 14, 3, 4] rfl rfl (fun _ => rfl) (ci := 1) (q0 := 0) rfl rfl rfl rfl rfl hl.1 (Nat.le_of_ble_eq_true rfl) d_SF_markUsed_61 ⟨Nat.zero_le _, Nat.zero_le _⟩ (fun u_6 H locs hu_6 hP hD hS => ?_)
                have hP : va_P D classes (sf_w q cI cZ fl sl tb np nt cp cc cb ch cm u_6.1 u_6.2.1 u_6.2.2.1 u_6.2.2.2.1 u_6.2.2.2.2 xu ta tp tl cu bl pf sh) H := hP
                have hD : va_D A (sf_w q cI cZ fl sl tb np nt cp cc cb ch cm u_6.1 u_6.2.1 u_6.2.2.1 u_6.2.2.2.1 u_6.2.2.2.2 xu ta tp tl cu bl pf sh) := hD
                refine lv_aload_n hx hb d_SF_markUsed_64 rfl (lv_at hl 1 rfl) ?_
                refine sf_callVw (S := (Nat → Int32)) (rest := []) ⟨hx, hb, hml, hown, hts⟩ (c_SF_markFollowed l D cI cZ cJ q fl sl tb np nt cp cc cb ch cm u_6.1 u_6.2.1 u_6.2.2.1 u_6.2.2.2.1 u_6.2.2.2.2 xu ta tp tl cu bl pf sh) (sf_cwV lk_SF_234 hts (fun _ h => h) (by rw [hR]; exact ⟨Nat.le_of_ble_eq_true rfl, Nat.le_of_ble_eq_true rfl⟩)) hK hP hD hS hA (fun _ => by simp only [sf_w_fst]) (ci := 2) (q0 := 0) rfl rfl rfl rfl rfl hl.1 (Nat.le_of_ble_eq_true rfl) d_SF_markUsed_65 ⟨Nat.zero_le _, Nat.zero_le _⟩ (fun u_7 H locs hu_7 hP hD hS => ?_)
                have hP : va_P D classes (sf_w q cI cZ fl sl tb np nt cp cc cb ch cm u_6.1 u_6.2.1 u_6.2.2.1 u_6.2.2.2.1 u_6.2.2.2.2 u_7 ta tp tl cu bl pf sh) H := hP
                have hD : va_D A (sf_w q cI cZ fl sl tb np nt cp cc cb ch cm u_6.1 u_6.2.1 u_6.2.2.1 u_6.2.2.2.1 u_6.2.2.2.2 u_7 ta tp tl cu bl pf sh) := hD
                refine lv_iinc (v := (nI (k + 1))) (lv' := [(3, .int (nI (k + 1))), (4, .int u_4), (0, .ref (q 0)), (1, .int 1), (2, .int u_2)]) hx hb d_SF_markUsed_68 hl (k := 4) rfl (nI_1 k) (by decide) rfl (fun ls hl => ?_)
                refine lv_goto (tgt := 28) hx hb d_SF_markUsed_71 (by decide) ?_
                exact ih28 (k + 1) u_7 u_6.1 u_6.2.1 u_6.2.2.1 u_6.2.2.2.1 u_6.2.2.2.2 (by omega) (by omega) (by rw [← heq28]; simp only [f_SF_markUsed_1_l28, ← hu_2, ← hu_4, ← hu_6, ← hu_7, eq_false c_3, eq_false c_5, ↓reduceIte]) _ _ hP hD hS ls (lv_sub hl [2, 3, 4, 0] rfl)
        exact loop28 (12 + 1) 0 vu mp mc mb mh mm (by omega) (by omega) (by rw [← heq2]; simp only [f_SF_markUsed_1_l2, ← hu_2, eq_true c_1, ↓reduceIte]) _ _ hP hD hS ls (lv_sub hl [2, 3, 1, 0] rfl)
      · have hlt : k < 24 := sf_lt_of (N := 24) (by omega) (by omega) c_1
        refine lv_aload_n hx hb d_SF_markUsed_8 rfl (lv_at hl 0 rfl) ?_
        refine va_get (D := D) (ci := 2) (v := .ref (q 15)) (C := R_SF) (T := F_SF) (N := 15) hx hb hts i_SF hown hK hP 0 rfl rfl 7 (by decide) (hts _ wd_117) (fun _ h9 => h9) rfl d_SF_markUsed_9 ?_
        refine lv_iload_n hx hb d_SF_markUsed_12 rfl (lv_at hl 2 rfl) ?_
        refine lv_iconst (v := 0) hx hb d_SF_markUsed_13 (by decide) ?_
        refine va_zast hx hb hK hP hD hS 15 1 rfl rfl (vp_in_nI hlt (by omega)) d_SF_markUsed_14 (fun H locs hP hD hS => ?_)
        rw [show ((nI k) : Int32).toNatClampNeg = k from nI_clamp (n := k) (by omega)] at hP hD
        rw [sf_nz0] at hP hD
        have hP : va_P D classes (sf_w q cI cZ fl sl tb np nt cp cc cb ch cm mp mc mb mh mm (upd vu k 0) ta tp tl cu bl pf sh) H := hP
        have hD : va_D A (sf_w q cI cZ fl sl tb np nt cp cc cb ch cm mp mc mb mh mm (upd vu k 0) ta tp tl cu bl pf sh) := hD
        refine lv_iinc (v := (nI (k + 1))) (lv' := [(2, .int (nI (k + 1))), (0, .ref (q 0)), (1, .int 1)]) hx hb d_SF_markUsed_15 hl (k := 2) rfl (nI_1 k) (by decide) rfl (fun ls hl => ?_)
        refine lv_goto (tgt := 2) hx hb d_SF_markUsed_18 (by decide) ?_
        exact ih2 (k + 1) (upd vu k 0) (by omega) (by omega) (by rw [← heq2]; simp only [f_SF_markUsed_1_l2, eq_false c_1, ↓reduceIte]) _ _ hP hD hS ls (lv_sub hl [1, 2, 0] rfl)
  exact loop2 (24 + 1) 0 us (by omega) (by omega) (by simp only [f_SF_markUsed_1, ↓reduceIte]) _ _ hP hD hS ls (lv_sub hl [1, 2, 0] rfl)
def f_SF_countFree_0_l9 (fl : Nat → Int32) (tb : Nat → Int32) (mp : Nat → Int32) (mc : Int32) (mb : Int32) (mh : Int32) (mm : Int32) (us : Nat → Int32) : Nat → Nat → Int32 → (Int32 × (Nat → Int32) × (Nat → Int32) × Int32 × Int32 × Int32 × Int32)
  | 0, _, _ => (0, (fun _ => 0), (fun _ => 0), 0, 0, 0, 0)
  | fu + 1, k, vr =>
    if (f_SF_countPlaces 0) ≤ (nI k) then
      (vr, (f_SF_markUsed_0 fl tb mp mc mb mh mm us).1, (f_SF_markUsed_0 fl tb mp mc mb mh mm us).2.1, (f_SF_markUsed_0 fl tb mp mc mb mh mm us).2.2.1, (f_SF_markUsed_0 fl tb mp mc mb mh mm us).2.2.2.1, (f_SF_markUsed_0 fl tb mp mc mb mh mm us).2.2.2.2.1, (f_SF_markUsed_0 fl tb mp mc mb mh mm us).2.2.2.2.2)
    else
      if 24 ≤ (nI k) then
        (vr, (f_SF_markUsed_0 fl tb mp mc mb mh mm us).1, (f_SF_markUsed_0 fl tb mp mc mb mh mm us).2.1, (f_SF_markUsed_0 fl tb mp mc mb mh mm us).2.2.1, (f_SF_markUsed_0 fl tb mp mc mb mh mm us).2.2.2.1, (f_SF_markUsed_0 fl tb mp mc mb mh mm us).2.2.2.2.1, (f_SF_markUsed_0 fl tb mp mc mb mh mm us).2.2.2.2.2)
      else
        if ((f_SF_markUsed_0 fl tb mp mc mb mh mm us).1 k) = 0 then
          f_SF_countFree_0_l9 fl tb mp mc mb mh mm us fu (k + 1) (vr + 1)
        else
          f_SF_countFree_0_l9 fl tb mp mc mb mh mm us fu (k + 1) vr
def f_SF_countFree_0 (fl : Nat → Int32) (tb : Nat → Int32) (mp : Nat → Int32) (mc : Int32) (mb : Int32) (mh : Int32) (mm : Int32) (us : Nat → Int32) : (Int32 × (Nat → Int32) × (Nat → Int32) × Int32 × Int32 × Int32 × Int32) :=
  f_SF_countFree_0_l9 fl tb mp mc mb mh mm us (24 + 1) 0 0
set_option maxHeartbeats 1000000 in
set_option maxRecDepth 100000 in
/-- countFree -/
theorem c_SF_countFree_0 (l : Launch) (D : va_G) (cI cZ cJ : ClassId) (q : Nat → Nat) (fl : Nat → Int32) (sl : Nat → Int32) (tb : Nat → Int32) (np : Nat → Int32) (nt : Nat → Int32) (cp : Nat → Int32) (cc : Int32) (cb : Int32) (ch : Int32) (cm : Int32) (mp : Nat → Int32) (mc : Int32) (mb : Int32) (mh : Int32) (mm : Int32) (us : Nat → Int32) (ta : Nat → Int32) (tp : Nat → Int32) (tl : Int32) (cu : Int32) (bl : Int32) (pf : Int32) (sh : Int32) : sf_M (S := (Int32 × (Nat → Int32) × (Nat → Int32) × Int32 × Int32 × Int32 × Int32)) l D classes (sf_tys cI cZ cJ) y_SF_countFree (sf_ws y_SF_countFree b_SF_countFree 4 (some .int)) 5 121 [.ref (q 0), .int 0] (sf_w q cI cZ fl sl tb np nt cp cc cb ch cm mp mc mb mh mm us ta tp tl cu bl pf sh) (fun r => some (.int r.1)) (fun r => r = f_SF_countFree_0 fl tb mp mc mb mh mm us) (fun r => (sf_w q cI cZ fl sl tb np nt cp cc cb ch cm r.2.2.1 r.2.2.2.1 r.2.2.2.2.1 r.2.2.2.2.2.1 r.2.2.2.2.2.2 r.2.1 ta tp tl cu bl pf sh)) := by
  refine sf_ofW (S := (Int32 × (Nat → Int32) × (Nat → Int32) × Int32 × Int32 × Int32 × Int32)) (by decide) (Nat.le_of_ble_eq_true rfl) ?_
  intro p e s m below meth c A ls R args Q hR hArgs hQ hC0 hr hK hP hD hl
  obtain ⟨hx, hb, hml, hown, hts, hA, hlk⟩ := hC0
  have hS : va_S A s.heap s.heap [] := va_S.rf
  have hl : lv_has ls 4 [(0, .ref (q 0)), (1, .int 0)] := hl
  refine lv_aload_n hx hb d_SF_countFree_0 rfl (lv_at hl 0 rfl) ?_
  refine lv_iload_n hx hb d_SF_countFree_1 rfl (lv_at hl 1 rfl) ?_
  refine sf_callVw (S := ((Nat → Int32) × (Nat → Int32) × Int32 × Int32 × Int32 × Int32)) (rest := []) ⟨hx, hb, hml, hown, hts⟩ (c_SF_markUsed_0 l D cI cZ cJ q fl sl tb np nt cp cc cb ch cm mp mc mb mh mm us ta tp tl cu bl pf sh) (sf_cwV lk_SF_240 hts (fun _ h => h) (by rw [hR]; exact ⟨Nat.le_of_ble_eq_true rfl, Nat.le_of_ble_eq_true rfl⟩)) hK hP hD hS hA (fun _ => by simp only [sf_w_fst]) (ci := 2) (q0 := 0) rfl rfl rfl rfl rfl hl.1 (Nat.le_of_ble_eq_true rfl) d_SF_countFree_2 ⟨Nat.zero_le _, Nat.zero_le _⟩ (fun u_1 H locs hu_1 hP hD hS => ?_)
  have hP : va_P D classes (sf_w q cI cZ fl sl tb np nt cp cc cb ch cm u_1.2.1 u_1.2.2.1 u_1.2.2.2.1 u_1.2.2.2.2.1 u_1.2.2.2.2.2 u_1.1 ta tp tl cu bl pf sh) H := hP
  have hD : va_D A (sf_w q cI cZ fl sl tb np nt cp cc cb ch cm u_1.2.1 u_1.2.2.1 u_1.2.2.2.1 u_1.2.2.2.2.1 u_1.2.2.2.2.2 u_1.1 ta tp tl cu bl pf sh) := hD
  refine lv_iconst (v := 0) hx hb d_SF_countFree_5 (by decide) ?_
  refine lv_istore_n (lv' := [(2, .int 0), (0, .ref (q 0)), (1, .int 0)]) hx hb d_SF_countFree_6 rfl hl (by decide) rfl (fun ls hl => ?_)
  refine lv_iconst (v := 0) hx hb d_SF_countFree_7 (by decide) ?_
  refine lv_istore_n (lv' := [(3, .int 0), (2, .int 0), (0, .ref (q 0)), (1, .int 0)]) hx hb d_SF_countFree_8 rfl hl (by decide) rfl (fun ls hl => ?_)
  have loop9 : ∀ (fu k : Nat) (vr : Int32), k ≤ 24 → k + fu = 24 + 1 → f_SF_countFree_0_l9 fl tb mp mc mb mh mm us fu k vr = f_SF_countFree_0 fl tb mp mc mb mh mm us → ∀ (H : Heap) (locs : List Loc), va_P D classes (sf_w q cI cZ fl sl tb np nt cp cc cb ch cm u_1.2.1 u_1.2.2.1 u_1.2.2.2.1 u_1.2.2.2.2.1 u_1.2.2.2.2.2 u_1.1 ta tp tl cu bl pf sh) H → va_D A (sf_w q cI cZ fl sl tb np nt cp cc cb ch cm u_1.2.1 u_1.2.2.1 u_1.2.2.2.1 u_1.2.2.2.2.1 u_1.2.2.2.2.2 u_1.1 ta tp tl cu bl pf sh) → va_S A s.heap H locs → ∀ (ls : Array Slot), lv_has ls 4 [(0, .ref (q 0)), (1, .int 0), (2, .int vr), (3, .int (nI k))] → W p l e R s m args below meth c H locs 0 0 Q (F0 m 9 ls []) := by
    intro fu
    induction fu with
    | zero =>
      intro k vr h1 h2
      exact absurd h2 (by omega)
    | succ fu ih9 =>
      intro k vr hk9 hkn9 heq9 H locs hP hD hS ls hl
      refine lv_iload_n hx hb d_SF_countFree_9 rfl (lv_at hl 3 rfl) ?_
      refine lv_iload_n hx hb d_SF_countFree_10 rfl (lv_at hl 1 rfl) ?_
      refine sf_callSr (S := Int32) (rest := [.int (nI k)]) ⟨hx, hb, hml, hown, hts⟩ (c_SF_countPlaces l D cI cZ cJ 0) (sf_cwS lk_SF_244 hts (fun _ h => h) (by rw [hR]; exact ⟨Nat.le_of_ble_eq_true rfl, Nat.le_of_ble_eq_true rfl⟩)) hK hP hD hS hA [] rfl rfl (fun _ => rfl) rfl rfl hl.1 (Nat.le_of_ble_eq_true rfl) d_SF_countFree_11 ⟨Nat.zero_le _, Nat.zero_le _⟩ (fun u_2 H locs hu_2 hP hS => ?_)
      refine lv_icmp_ge (tgt := 41) hx hb d_SF_countFree_14 (by decide) (fun c_3 => ?_) (fun c_3 => ?_)
      · refine lv_iload_n hx hb d_SF_countFree_41 rfl (lv_at hl 2 rfl) ?_
        rw [hQ]
        exact sf_iret (vr, u_1.1, u_1.2.1, u_1.2.2.1, u_1.2.2.2.1, u_1.2.2.2.2.1, u_1.2.2.2.2.2) hx hb hr hlk hS rfl rfl (by rw [← heq9]; simp only [f_SF_countFree_0_l9, ← hu_1, ← hu_2, eq_true c_3, ↓reduceIte]) hP d_SF_countFree_42
      · refine lv_iload_n hx hb d_SF_countFree_17 rfl (lv_at hl 3 rfl) ?_
        refine lv_bipush (v := 24) hx hb d_SF_countFree_18 (by decide) ?_
        refine lv_icmp_ge (tgt := 41) hx hb d_SF_countFree_20 (by decide) (fun c_4 => ?_) (fun c_4 => ?_)
        · refine lv_iload_n hx hb d_SF_countFree_41 rfl (lv_at hl 2 rfl) ?_
          rw [hQ]
          exact sf_iret (vr, u_1.1, u_1.2.1, u_1.2.2.1, u_1.2.2.2.1, u_1.2.2.2.2.1, u_1.2.2.2.2.2) hx hb hr hlk hS rfl rfl (by rw [← heq9]; simp only [f_SF_countFree_0_l9, ← hu_1, ← hu_2, eq_false c_3, eq_true c_4, ↓reduceIte]) hP d_SF_countFree_42
        · have hlt : k < 24 := sf_lt_of (N := 24) (by omega) (by omega) c_4
          refine lv_aload_n hx hb d_SF_countFree_23 rfl (lv_at hl 0 rfl) ?_
          refine va_get (D := D) (ci := 2) (v := .ref (q 15)) (C := R_SF) (T := F_SF) (N := 15) hx hb hts i_SF hown hK hP 0 rfl rfl 7 (by decide) (hts _ wd_117) (fun _ h9 => h9) rfl d_SF_countFree_24 ?_
          refine lv_iload_n hx hb d_SF_countFree_27 rfl (lv_at hl 3 rfl) ?_
          refine va_zald hx hb hK hP 15 1 rfl rfl (vp_in_nI hlt (by omega)) d_SF_countFree_28 ?_
          rw [show ((nI k) : Int32).toNatClampNeg = k from nI_clamp (n := k) (by omega)]
          refine lv_if_ne (tgt := 35) hx hb d_SF_countFree_29 (by decide) (fun c_5 => ?_) (fun c_5 => ?_)
          · refine lv_iinc (v := (nI (k + 1))) (lv' := [(3, .int (nI (k + 1))), (0, .ref (q 0)), (1, .int 0), (2, .int vr)]) hx hb d_SF_countFree_35 hl (k := 3) rfl (nI_1 k) (by decide) rfl (fun ls hl => ?_)
            refine lv_goto (tgt := 9) hx hb d_SF_countFree_38 (by decide) ?_
            exact ih9 (k + 1) vr (by omega) (by omega) (by rw [← heq9]; simp only [f_SF_countFree_0_l9, ← hu_1, ← hu_2, eq_false c_3, eq_false c_4, eq_false c_5, ↓reduceIte]) _ _ hP hD hS ls (lv_sub hl [1, 2, 3, 0] rfl)
          · refine lv_iinc (v := (vr + 1)) (lv' := [(2, .int (vr + 1)), (0, .ref (q 0)), (1, .int 0), (3, .int (nI k))]) hx hb d_SF_countFree_32 hl (k := 2) rfl rfl (by decide) rfl (fun ls hl => ?_)
            refine lv_iinc (v := (nI (k + 1))) (lv' := [(3, .int (nI (k + 1))), (2, .int (vr + 1)), (0, .ref (q 0)), (1, .int 0)]) hx hb d_SF_countFree_35 hl (k := 3) rfl (nI_1 k) (by decide) rfl (fun ls hl => ?_)
            refine lv_goto (tgt := 9) hx hb d_SF_countFree_38 (by decide) ?_
            exact ih9 (k + 1) (vr + 1) (by omega) (by omega) (by rw [← heq9]; simp only [f_SF_countFree_0_l9, ← hu_1, ← hu_2, eq_false c_3, eq_false c_4, eq_true c_5, ↓reduceIte]) _ _ hP hD hS ls (lv_sub hl [2, 3, 1, 0] rfl)
  exact loop9 (24 + 1) 0 0 (by omega) (by omega) (by simp only [f_SF_countFree_0, ← hu_1, ↓reduceIte]) _ _ hP hD hS ls (lv_sub hl [2, 3, 1, 0] rfl)
def f_SF_countFree_1_l9 (sl : Nat → Int32) (tb : Nat → Int32) (mp : Nat → Int32) (mc : Int32) (mb : Int32) (mh : Int32) (mm : Int32) (us : Nat → Int32) : Nat → Nat → Int32 → (Int32 × (Nat → Int32) × (Nat → Int32) × Int32 × Int32 × Int32 × Int32)
  | 0, _, _ => (0, (fun _ => 0), (fun _ => 0), 0, 0, 0, 0)
  | fu + 1, k, vr =>
    if (f_SF_countPlaces 1) ≤ (nI k) then
      (vr, (f_SF_markUsed_1 sl tb mp mc mb mh mm us).1, (f_SF_markUsed_1 sl tb mp mc mb mh mm us).2.1, (f_SF_markUsed_1 sl tb mp mc mb mh mm us).2.2.1, (f_SF_markUsed_1 sl tb mp mc mb mh mm us).2.2.2.1, (f_SF_markUsed_1 sl tb mp mc mb mh mm us).2.2.2.2.1, (f_SF_markUsed_1 sl tb mp mc mb mh mm us).2.2.2.2.2)
    else
      if 24 ≤ (nI k) then
        (vr, (f_SF_markUsed_1 sl tb mp mc mb mh mm us).1, (f_SF_markUsed_1 sl tb mp mc mb mh mm us).2.1, (f_SF_markUsed_1 sl tb mp mc mb mh mm us).2.2.1, (f_SF_markUsed_1 sl tb mp mc mb mh mm us).2.2.2.1, (f_SF_markUsed_1 sl tb mp mc mb mh mm us).2.2.2.2.1, (f_SF_markUsed_1 sl tb mp mc mb mh mm us).2.2.2.2.2)
      else
        if ((f_SF_markUsed_1 sl tb mp mc mb mh mm us).1 k) = 0 then
          f_SF_countFree_1_l9 sl tb mp mc mb mh mm us fu (k + 1) (vr + 1)
        else
          f_SF_countFree_1_l9 sl tb mp mc mb mh mm us fu (k + 1) vr
def f_SF_countFree_1 (sl : Nat → Int32) (tb : Nat → Int32) (mp : Nat → Int32) (mc : Int32) (mb : Int32) (mh : Int32) (mm : Int32) (us : Nat → Int32) : (Int32 × (Nat → Int32) × (Nat → Int32) × Int32 × Int32 × Int32 × Int32) :=
  f_SF_countFree_1_l9 sl tb mp mc mb mh mm us (24 + 1) 0 0
set_option maxHeartbeats 1000000 in
set_option maxRecDepth 100000 in
/-- countFree -/
theorem c_SF_countFree_1 (l : Launch) (D : va_G) (cI cZ cJ : ClassId) (q : Nat → Nat) (fl : Nat → Int32) (sl : Nat → Int32) (tb : Nat → Int32) (np : Nat → Int32) (nt : Nat → Int32) (cp : Nat → Int32) (cc : Int32) (cb : Int32) (ch : Int32) (cm : Int32) (mp : Nat → Int32) (mc : Int32) (mb : Int32) (mh : Int32) (mm : Int32) (us : Nat → Int32) (ta : Nat → Int32) (tp : Nat → Int32) (tl : Int32) (cu : Int32) (bl : Int32) (pf : Int32) (sh : Int32) : sf_M (S := (Int32 × (Nat → Int32) × (Nat → Int32) × Int32 × Int32 × Int32 × Int32)) l D classes (sf_tys cI cZ cJ) y_SF_countFree (sf_ws y_SF_countFree b_SF_countFree 4 (some .int)) 5 121 [.ref (q 0), .int 1] (sf_w q cI cZ fl sl tb np nt cp cc cb ch cm mp mc mb mh mm us ta tp tl cu bl pf sh) (fun r => some (.int r.1)) (fun r => r = f_SF_countFree_1 sl tb mp mc mb mh mm us) (fun r => (sf_w q cI cZ fl sl tb np nt cp cc cb ch cm r.2.2.1 r.2.2.2.1 r.2.2.2.2.1 r.2.2.2.2.2.1 r.2.2.2.2.2.2 r.2.1 ta tp tl cu bl pf sh)) := by
  refine sf_ofW (S := (Int32 × (Nat → Int32) × (Nat → Int32) × Int32 × Int32 × Int32 × Int32)) (by decide) (Nat.le_of_ble_eq_true rfl) ?_
  intro p e s m below meth c A ls R args Q hR hArgs hQ hC0 hr hK hP hD hl
  obtain ⟨hx, hb, hml, hown, hts, hA, hlk⟩ := hC0
  have hS : va_S A s.heap s.heap [] := va_S.rf
  have hl : lv_has ls 4 [(0, .ref (q 0)), (1, .int 1)] := hl
  refine lv_aload_n hx hb d_SF_countFree_0 rfl (lv_at hl 0 rfl) ?_
  refine lv_iload_n hx hb d_SF_countFree_1 rfl (lv_at hl 1 rfl) ?_
  refine sf_callVw (S := ((Nat → Int32) × (Nat → Int32) × Int32 × Int32 × Int32 × Int32)) (rest := []) ⟨hx, hb, hml, hown, hts⟩ (c_SF_markUsed_1 l D cI cZ cJ q fl sl tb np nt cp cc cb ch cm mp mc mb mh mm us ta tp tl cu bl pf sh) (sf_cwV lk_SF_240 hts (fun _ h => h) (by rw [hR]; exact ⟨Nat.le_of_ble_eq_true rfl, Nat.le_of_ble_eq_true rfl⟩)) hK hP hD hS hA (fun _ => by simp only [sf_w_fst]) (ci := 2) (q0 := 0) rfl rfl rfl rfl rfl hl.1 (Nat.le_of_ble_eq_true rfl) d_SF_countFree_2 ⟨Nat.zero_le _, Nat.zero_le _⟩ (fun u_1 H locs hu_1 hP hD hS => ?_)
  have hP : va_P D classes (sf_w q cI cZ fl sl tb np nt cp cc cb ch cm u_1.2.1 u_1.2.2.1 u_1.2.2.2.1 u_1.2.2.2.2.1 u_1.2.2.2.2.2 u_1.1 ta tp tl cu bl pf sh) H := hP
  have hD : va_D A (sf_w q cI cZ fl sl tb np nt cp cc cb ch cm u_1.2.1 u_1.2.2.1 u_1.2.2.2.1 u_1.2.2.2.2.1 u_1.2.2.2.2.2 u_1.1 ta tp tl cu bl pf sh) := hD
  refine lv_iconst (v := 0) hx hb d_SF_countFree_5 (by decide) ?_
  refine lv_istore_n (lv' := [(2, .int 0), (0, .ref (q 0)), (1, .int 1)]) hx hb d_SF_countFree_6 rfl hl (by decide) rfl (fun ls hl => ?_)
  refine lv_iconst (v := 0) hx hb d_SF_countFree_7 (by decide) ?_
  refine lv_istore_n (lv' := [(3, .int 0), (2, .int 0), (0, .ref (q 0)), (1, .int 1)]) hx hb d_SF_countFree_8 rfl hl (by decide) rfl (fun ls hl => ?_)
  have loop9 : ∀ (fu k : Nat) (vr : Int32), k ≤ 24 → k + fu = 24 + 1 → f_SF_countFree_1_l9 sl tb mp mc mb mh mm us fu k vr = f_SF_countFree_1 sl tb mp mc mb mh mm us → ∀ (H : Heap) (locs : List Loc), va_P D classes (sf_w q cI cZ fl sl tb np nt cp cc cb ch cm u_1.2.1 u_1.2.2.1 u_1.2.2.2.1 u_1.2.2.2.2.1 u_1.2.2.2.2.2 u_1.1 ta tp tl cu bl pf sh) H → va_D A (sf_w q cI cZ fl sl tb np nt cp cc cb ch cm u_1.2.1 u_1.2.2.1 u_1.2.2.2.1 u_1.2.2.2.2.1 u_1.2.2.2.2.2 u_1.1 ta tp tl cu bl pf sh) → va_S A s.heap H locs → ∀ (ls : Array Slot), lv_has ls 4 [(0, .ref (q 0)), (1, .int 1), (2, .int vr), (3, .int (nI k))] → W p l e R s m args below meth c H locs 0 0 Q (F0 m 9 ls []) := by
    intro fu
    induction fu with
    | zero =>
      intro k vr h1 h2
      exact absurd h2 (by omega)
    | succ fu ih9 =>
      intro k vr hk9 hkn9 heq9 H locs hP hD hS ls hl
      refine lv_iload_n hx hb d_SF_countFree_9 rfl (lv_at hl 3 rfl) ?_
      refine lv_iload_n hx hb d_SF_countFree_10 rfl (lv_at hl 1 rfl) ?_
      refine sf_callSr (S := Int32) (rest := [.int (nI k)]) ⟨hx, hb, hml, hown, hts⟩ (c_SF_countPlaces l D cI cZ cJ 1) (sf_cwS lk_SF_244 hts (fun _ h => h) (by rw [hR]; exact ⟨Nat.le_of_ble_eq_true rfl, Nat.le_of_ble_eq_true rfl⟩)) hK hP hD hS hA [] rfl rfl (fun _ => rfl) rfl rfl hl.1 (Nat.le_of_ble_eq_true rfl) d_SF_countFree_11 ⟨Nat.zero_le _, Nat.zero_le _⟩ (fun u_2 H locs hu_2 hP hS => ?_)
      refine lv_icmp_ge (tgt := 41) hx hb d_SF_countFree_14 (by decide) (fun c_3 => ?_) (fun c_3 => ?_)
      · refine lv_iload_n hx hb d_SF_countFree_41 rfl (lv_at hl 2 rfl) ?_
        rw [hQ]
        exact sf_iret (vr, u_1.1, u_1.2.1, u_1.2.2.1, u_1.2.2.2.1, u_1.2.2.2.2.1, u_1.2.2.2.2.2) hx hb hr hlk hS rfl rfl (by rw [← heq9]; simp only [f_SF_countFree_1_l9, ← hu_1, ← hu_2, eq_true c_3, ↓reduceIte]) hP d_SF_countFree_42
      · refine lv_iload_n hx hb d_SF_countFree_17 rfl (lv_at hl 3 rfl) ?_
        refine lv_bipush (v := 24) hx hb d_SF_countFree_18 (by decide) ?_
        refine lv_icmp_ge (tgt := 41) hx hb d_SF_countFree_20 (by decide) (fun c_4 => ?_) (fun c_4 => ?_)
        · refine lv_iload_n hx hb d_SF_countFree_41 rfl (lv_at hl 2 rfl) ?_
          rw [hQ]
          exact sf_iret (vr, u_1.1, u_1.2.1, u_1.2.2.1, u_1.2.2.2.1, u_1.2.2.2.2.1, u_1.2.2.2.2.2) hx hb hr hlk hS rfl rfl (by rw [← heq9]; simp only [f_SF_countFree_1_l9, ← hu_1, ← hu_2, eq_false c_3, eq_true c_4, ↓reduceIte]) hP d_SF_countFree_42
        · have hlt : k < 24 := sf_lt_of (N := 24) (by omega) (by omega) c_4
          refine lv_aload_n hx hb d_SF_countFree_23 rfl (lv_at hl 0 rfl) ?_
          refine va_get (D := D) (ci := 2) (v := .ref (q 15)) (C := R_SF) (T := F_SF) (N := 15) hx hb hts i_SF hown hK hP 0 rfl rfl 7 (by decide) (hts _ wd_117) (fun _ h9 => h9) rfl d_SF_countFree_24 ?_
          refine lv_iload_n hx hb d_SF_countFree_27 rfl (lv_at hl 3 rfl) ?_
          refine va_zald hx hb hK hP 15 1 rfl rfl (vp_in_nI hlt (by omega)) d_SF_countFree_28 ?_
          rw [show ((nI k) : Int32).toNatClampNeg = k from nI_clamp (n := k) (by omega)]
          refine lv_if_ne (tgt := 35) hx hb d_SF_countFree_29 (by decide) (fun c_5 => ?_) (fun c_5 => ?_)
          · refine lv_iinc (v := (nI (k + 1))) (lv' := [(3, .int (nI (k + 1))), (0, .ref (q 0)), (1, .int 1), (2, .int vr)]) hx hb d_SF_countFree_35 hl (k := 3) rfl (nI_1 k) (by decide) rfl (fun ls hl => ?_)
            refine lv_goto (tgt := 9) hx hb d_SF_countFree_38 (by decide) ?_
            exact ih9 (k + 1) vr (by omega) (by omega) (by rw [← heq9]; simp only [f_SF_countFree_1_l9, ← hu_1, ← hu_2, eq_false c_3, eq_false c_4, eq_false c_5, ↓reduceIte]) _ _ hP hD hS ls (lv_sub hl [1, 2, 3, 0] rfl)
          · refine lv_iinc (v := (vr + 1)) (lv' := [(2, .int (vr + 1)), (0, .ref (q 0)), (1, .int 1), (3, .int (nI k))]) hx hb d_SF_countFree_32 hl (k := 2) rfl rfl (by decide) rfl (fun ls hl => ?_)
            refine lv_iinc (v := (nI (k + 1))) (lv' := [(3, .int (nI (k + 1))), (2, .int (vr + 1)), (0, .ref (q 0)), (1, .int 1)]) hx hb d_SF_countFree_35 hl (k := 3) rfl (nI_1 k) (by decide) rfl (fun ls hl => ?_)
            refine lv_goto (tgt := 9) hx hb d_SF_countFree_38 (by decide) ?_
            exact ih9 (k + 1) (vr + 1) (by omega) (by omega) (by rw [← heq9]; simp only [f_SF_countFree_1_l9, ← hu_1, ← hu_2, eq_false c_3, eq_false c_4, eq_true c_5, ↓reduceIte]) _ _ hP hD hS ls (lv_sub hl [2, 3, 1, 0] rfl)
  exact loop9 (24 + 1) 0 0 (by omega) (by omega) (by simp only [f_SF_countFree_1, ← hu_1, ↓reduceIte]) _ _ hP hD hS ls (lv_sub hl [2, 3, 1, 0] rfl)
def f_SF_takePlaces_0_l10 (fl : Nat → Int32) (tb : Nat → Int32) (mp : Nat → Int32) (mc : Int32) (mb : Int32) (mh : Int32) (mm : Int32) (us : Nat → Int32) (pn : Int32) : Nat → Nat → Nat → (Nat → Int32) → (Int32 × (Nat → Int32) × (Nat → Int32) × Int32 × Int32 × Int32 × Int32 × (Nat → Int32))
  | 0, _, _, _ => (0, (fun _ => 0), (fun _ => 0), 0, 0, 0, 0, (fun _ => 0))
  | fu + 1, k, vo, vt =>
    if (f_SF_countPlaces 0) ≤ (nI k) then
      if (nI vo) = pn then
        (1, (f_SF_markUsed_0 fl tb mp mc mb mh mm us).1, (f_SF_markUsed_0 fl tb mp mc mb mh mm us).2.1, (f_SF_markUsed_0 fl tb mp mc mb mh mm us).2.2.1, (f_SF_markUsed_0 fl tb mp mc mb mh mm us).2.2.2.1, (f_SF_markUsed_0 fl tb mp mc mb mh mm us).2.2.2.2.1, (f_SF_markUsed_0 fl tb mp mc mb mh mm us).2.2.2.2.2, vt)
      else
        (0, (f_SF_markUsed_0 fl tb mp mc mb mh mm us).1, (f_SF_markUsed_0 fl tb mp mc mb mh mm us).2.1, (f_SF_markUsed_0 fl tb mp mc mb mh mm us).2.2.1, (f_SF_markUsed_0 fl tb mp mc mb mh mm us).2.2.2.1, (f_SF_markUsed_0 fl tb mp mc mb mh mm us).2.2.2.2.1, (f_SF_markUsed_0 fl tb mp mc mb mh mm us).2.2.2.2.2, vt)
    else
      if 24 ≤ (nI k) then
        if (nI vo) = pn then
          (1, (f_SF_markUsed_0 fl tb mp mc mb mh mm us).1, (f_SF_markUsed_0 fl tb mp mc mb mh mm us).2.1, (f_SF_markUsed_0 fl tb mp mc mb mh mm us).2.2.1, (f_SF_markUsed_0 fl tb mp mc mb mh mm us).2.2.2.1, (f_SF_markUsed_0 fl tb mp mc mb mh mm us).2.2.2.2.1, (f_SF_markUsed_0 fl tb mp mc mb mh mm us).2.2.2.2.2, vt)
        else
          (0, (f_SF_markUsed_0 fl tb mp mc mb mh mm us).1, (f_SF_markUsed_0 fl tb mp mc mb mh mm us).2.1, (f_SF_markUsed_0 fl tb mp mc mb mh mm us).2.2.1, (f_SF_markUsed_0 fl tb mp mc mb mh mm us).2.2.2.1, (f_SF_markUsed_0 fl tb mp mc mb mh mm us).2.2.2.2.1, (f_SF_markUsed_0 fl tb mp mc mb mh mm us).2.2.2.2.2, vt)
      else
        if ((f_SF_markUsed_0 fl tb mp mc mb mh mm us).1 k) = 0 then
          if pn ≤ (nI vo) then
            f_SF_takePlaces_0_l10 fl tb mp mc mb mh mm us pn fu (k + 1) vo vt
          else
            if 3 ≤ (nI vo) then
              f_SF_takePlaces_0_l10 fl tb mp mc mb mh mm us pn fu (k + 1) vo vt
            else
              f_SF_takePlaces_0_l10 fl tb mp mc mb mh mm us pn fu (k + 1) (vo + 1) (upd vt vo (nI k))
        else
          f_SF_takePlaces_0_l10 fl tb mp mc mb mh mm us pn fu (k + 1) vo vt
def f_SF_takePlaces_0 (fl : Nat → Int32) (tb : Nat → Int32) (mp : Nat → Int32) (mc : Int32) (mb : Int32) (mh : Int32) (mm : Int32) (us : Nat → Int32) (ta : Nat → Int32) (pn : Int32) : (Int32 × (Nat → Int32) × (Nat → Int32) × Int32 × Int32 × Int32 × Int32 × (Nat → Int32)) :=
  f_SF_takePlaces_0_l10 fl tb mp mc mb mh mm us pn (24 + 1) 0 0 ta
set_option maxHeartbeats 1000000 in
set_option maxRecDepth 100000 in
/-- takePlaces -/
theorem c_SF_takePlaces_0 (l : Launch) (D : va_G) (cI cZ cJ : ClassId) (q : Nat → Nat) (fl : Nat → Int32) (sl : Nat → Int32) (tb : Nat → Int32) (np : Nat → Int32) (nt : Nat → Int32) (cp : Nat → Int32) (cc : Int32) (cb : Int32) (ch : Int32) (cm : Int32) (mp : Nat → Int32) (mc : Int32) (mb : Int32) (mh : Int32) (mm : Int32) (us : Nat → Int32) (ta : Nat → Int32) (tp : Nat → Int32) (tl : Int32) (cu : Int32) (bl : Int32) (pf : Int32) (sh : Int32) (pn : Int32) : sf_M (S := (Int32 × (Nat → Int32) × (Nat → Int32) × Int32 × Int32 × Int32 × Int32 × (Nat → Int32))) l D classes (sf_tys cI cZ cJ) y_SF_takePlaces (sf_ws y_SF_takePlaces b_SF_takePlaces 5 (some .boolean)) 5 121 [.ref (q 0), .int 0, .int pn] (sf_w q cI cZ fl sl tb np nt cp cc cb ch cm mp mc mb mh mm us ta tp tl cu bl pf sh) (fun r => some (.int r.1)) (fun r => r = f_SF_takePlaces_0 fl tb mp mc mb mh mm us ta pn) (fun r => (sf_w q cI cZ fl sl tb np nt cp cc cb ch cm r.2.2.1 r.2.2.2.1 r.2.2.2.2.1 r.2.2.2.2.2.1 r.2.2.2.2.2.2.1 r.2.1 r.2.2.2.2.2.2.2 tp tl cu bl pf sh)) := by
  refine sf_ofW (S := (Int32 × (Nat → Int32) × (Nat → Int32) × Int32 × Int32 × Int32 × Int32 × (Nat → Int32))) (by decide) (Nat.le_of_ble_eq_true rfl) ?_
  intro p e s m below meth c A ls R args Q hR hArgs hQ hC0 hr hK hP hD hl
  obtain ⟨hx, hb, hml, hown, hts, hA, hlk⟩ := hC0
  have hS : va_S A s.heap s.heap [] := va_S.rf
  have hl : lv_has ls 5 [(0, .ref (q 0)), (1, .int 0), (2, .int pn)] := hl
  refine lv_aload_n hx hb d_SF_takePlaces_0 rfl (lv_at hl 0 rfl) ?_
  refine lv_iload_n hx hb d_SF_takePlaces_1 rfl (lv_at hl 1 rfl) ?_
  refine sf_callVw (S := ((Nat → Int32) × (Nat → Int32) × Int32 × Int32 × Int32 × Int32)) (rest := []) ⟨hx, hb, hml, hown, hts⟩ (c_SF_markUsed_0 l D cI cZ cJ q fl sl tb np nt cp cc cb ch cm mp mc mb mh mm us ta tp tl cu bl pf sh) (sf_cwV lk_SF_240 hts (fun _ h => h) (by rw [hR]; exact ⟨Nat.le_of_ble_eq_true rfl, Nat.le_of_ble_eq_true rfl⟩)) hK hP hD hS hA (fun _ => by simp only [sf_w_fst]) (ci := 2) (q0 := 0) rfl rfl rfl rfl rfl hl.1 (Nat.le_of_ble_eq_true rfl) d_SF_takePlaces_2 ⟨Nat.zero_le _, Nat.zero_le _⟩ (fun u_1 H locs hu_1 hP hD hS => ?_)
  have hP : va_P D classes (sf_w q cI cZ fl sl tb np nt cp cc cb ch cm u_1.2.1 u_1.2.2.1 u_1.2.2.2.1 u_1.2.2.2.2.1 u_1.2.2.2.2.2 u_1.1 ta tp tl cu bl pf sh) H := hP
  have hD : va_D A (sf_w q cI cZ fl sl tb np nt cp cc cb ch cm u_1.2.1 u_1.2.2.1 u_1.2.2.2.1 u_1.2.2.2.2.1 u_1.2.2.2.2.2 u_1.1 ta tp tl cu bl pf sh) := hD
  refine lv_iconst (v := 0) hx hb d_SF_takePlaces_5 (by decide) ?_
  refine lv_istore_n (lv' := [(3, .int 0), (0, .ref (q 0)), (1, .int 0), (2, .int pn)]) hx hb d_SF_takePlaces_6 rfl hl (by decide) rfl (fun ls hl => ?_)
  refine lv_iconst (v := 0) hx hb d_SF_takePlaces_7 (by decide) ?_
  refine lv_istore (lv' := [(4, .int 0), (3, .int 0), (0, .ref (q 0)), (1, .int 0), (2, .int pn)]) hx hb d_SF_takePlaces_8 hl (by decide) rfl (fun ls hl => ?_)
  have loop10 : ∀ (fu k : Nat) (vo : Nat) (vt : (Nat → Int32)), k ≤ 24 → k + fu = 24 + 1 → vo ≤ 3 → f_SF_takePlaces_0_l10 fl tb mp mc mb mh mm us pn fu k vo vt = f_SF_takePlaces_0 fl tb mp mc mb mh mm us ta pn → ∀ (H : Heap) (locs : List Loc), va_P D classes (sf_w q cI cZ fl sl tb np nt cp cc cb ch cm u_1.2.1 u_1.2.2.1 u_1.2.2.2.1 u_1.2.2.2.2.1 u_1.2.2.2.2.2 u_1.1 vt tp tl cu bl pf sh) H → va_D A (sf_w q cI cZ fl sl tb np nt cp cc cb ch cm u_1.2.1 u_1.2.2.1 u_1.2.2.2.1 u_1.2.2.2.2.1 u_1.2.2.2.2.2 u_1.1 vt tp tl cu bl pf sh) → va_S A s.heap H locs → ∀ (ls : Array Slot), lv_has ls 5 [(0, .ref (q 0)), (1, .int 0), (2, .int pn), (3, .int (nI vo)), (4, .int (nI k))] → W p l e R s m args below meth c H locs 0 0 Q (F0 m 10 ls []) := by
    intro fu
    induction fu with
    | zero =>
      intro k vo vt h1 h2
      exact absurd h2 (by omega)
    | succ fu ih10 =>
      intro k vo vt hk10 hkn10 hi100 heq10 H locs hP hD hS ls hl
      refine lv_iload hx hb d_SF_takePlaces_10 (lv_at hl 4 rfl) ?_
      refine lv_iload_n hx hb d_SF_takePlaces_12 rfl (lv_at hl 1 rfl) ?_
      refine sf_callSr (S := Int32) (rest := [.int (nI k)]) ⟨hx, hb, hml, hown, hts⟩ (c_SF_countPlaces l D cI cZ cJ 0) (sf_cwS lk_SF_244 hts (fun _ h => h) (by rw [hR]; exact ⟨Nat.le_of_ble_eq_true rfl, Nat.le_of_ble_eq_true rfl⟩)) hK hP hD hS hA [] rfl rfl (fun _ => rfl) rfl rfl hl.1 (Nat.le_of_ble_eq_true rfl) d_SF_takePlaces_13 ⟨Nat.zero_le _, Nat.zero_le _⟩ (fun u_2 H locs hu_2 hP hS => ?_)
      refine lv_icmp_ge (tgt := 63) hx hb d_SF_takePlaces_16 (by decide) (fun c_3 => ?_) (fun c_3 => ?_)
      · refine lv_iload_n hx hb d_SF_takePlaces_63 rfl (lv_at hl 3 rfl) ?_
        refine lv_iload_n hx hb d_SF_takePlaces_64 rfl (lv_at hl 2 rfl) ?_
        refine lv_icmp_ne (tgt := 72) hx hb d_SF_takePlaces_65 (by decide) (fun c_4 => ?_) (fun c_4 => ?_)
        · refine lv_iconst (v := 0) hx hb d_SF_takePlaces_72 (by decide) ?_
          rw [hQ]
          exact sf_iret (0, u_1.1, u_1.2.1, u_1.2.2.1, u_1.2.2.2.1, u_1.2.2.2.2.1, u_1.2.2.2.2.2, vt) hx hb hr hlk hS sf_b0 rfl (by rw [← heq10]; simp only [f_SF_takePlaces_0_l10, ← hu_1, ← hu_2, eq_true c_3, eq_false c_4, ↓reduceIte]) hP d_SF_takePlaces_73
        · refine lv_iconst (v := 1) hx hb d_SF_takePlaces_68 (by decide) ?_
          refine lv_goto (tgt := 73) hx hb d_SF_takePlaces_69 (by decide) ?_
          rw [hQ]
          exact sf_iret (1, u_1.1, u_1.2.1, u_1.2.2.1, u_1.2.2.2.1, u_1.2.2.2.2.1, u_1.2.2.2.2.2, vt) hx hb hr hlk hS sf_b1 rfl (by rw [← heq10]; simp only [f_SF_takePlaces_0_l10, ← hu_1, ← hu_2, eq_true c_3, eq_true c_4, ↓reduceIte]) hP d_SF_takePlaces_73
      · refine lv_iload hx hb d_SF_takePlaces_19 (lv_at hl 4 rfl) ?_
        refine lv_bipush (v := 24) hx hb d_SF_takePlaces_21 (by decide) ?_
        refine lv_icmp_ge (tgt := 63) hx hb d_SF_takePlaces_23 (by decide) (fun c_5 => ?_) (fun c_5 => ?_)
        · refine lv_iload_n hx hb d_SF_takePlaces_63 rfl (lv_at hl 3 rfl) ?_
          refine lv_iload_n hx hb d_SF_takePlaces_64 rfl (lv_at hl 2 rfl) ?_
          refine lv_icmp_ne (tgt := 72) hx hb d_SF_takePlaces_65 (by decide) (fun c_6 => ?_) (fun c_6 => ?_)
          · refine lv_iconst (v := 0) hx hb d_SF_takePlaces_72 (by decide) ?_
            rw [hQ]
            exact sf_iret (0, u_1.1, u_1.2.1, u_1.2.2.1, u_1.2.2.2.1, u_1.2.2.2.2.1, u_1.2.2.2.2.2, vt) hx hb hr hlk hS sf_b0 rfl (by rw [← heq10]; simp only [f_SF_takePlaces_0_l10, ← hu_1, ← hu_2, eq_false c_3, eq_true c_5, eq_false c_6, ↓reduceIte]) hP d_SF_takePlaces_73
          · refine lv_iconst (v := 1) hx hb d_SF_takePlaces_68 (by decide) ?_
            refine lv_goto (tgt := 73) hx hb d_SF_takePlaces_69 (by decide) ?_
            rw [hQ]
            exact sf_iret (1, u_1.1, u_1.2.1, u_1.2.2.1, u_1.2.2.2.1, u_1.2.2.2.2.1, u_1.2.2.2.2.2, vt) hx hb hr hlk hS sf_b1 rfl (by rw [← heq10]; simp only [f_SF_takePlaces_0_l10, ← hu_1, ← hu_2, eq_false c_3, eq_true c_5, eq_true c_6, ↓reduceIte]) hP d_SF_takePlaces_73
        · have hlt : k < 24 := sf_lt_of (N := 24) (by omega) (by omega) c_5
          refine lv_aload_n hx hb d_SF_takePlaces_26 rfl (lv_at hl 0 rfl) ?_
          refine va_get (D := D) (ci := 2) (v := .ref (q 15)) (C := R_SF) (T := F_SF) (N := 15) hx hb hts i_SF hown hK hP 0 rfl rfl 7 (by decide) (hts _ wd_117) (fun _ h9 => h9) rfl d_SF_takePlaces_27 ?_
          refine lv_iload hx hb d_SF_takePlaces_30 (lv_at hl 4 rfl) ?_
          refine va_zald hx hb hK hP 15 1 rfl rfl (vp_in_nI hlt (by omega)) d_SF_takePlaces_32 ?_
          rw [show ((nI k) : Int32).toNatClampNeg = k from nI_clamp (n := k) (by omega)]
          refine lv_if_ne (tgt := 57) hx hb d_SF_takePlaces_33 (by decide) (fun c_7 => ?_) (fun c_7 => ?_)
          · refine lv_iinc (v := (nI (k + 1))) (lv' := [(4, .int (nI (k + 1))), (0, .ref (q 0)), (1, .int 0), (2, .int pn), (3, .int (nI vo))]) hx hb d_SF_takePlaces_57 hl (k := 4) rfl (nI_1 k) (by decide) rfl (fun ls hl => ?_)
            refine lv_goto (tgt := 10) hx hb d_SF_takePlaces_60 (by decide) ?_
            exact ih10 (k + 1) vo vt (by omega) (by omega) (by omega) (by rw [← heq10]; simp only [f_SF_takePlaces_0_l10, ← hu_1, ← hu_2, eq_false c_3, eq_false c_5, eq_false c_7, ↓reduceIte]) _ _ hP hD hS ls (lv_sub hl [1, 2, 3, 4, 0] rfl)
          · refine lv_iload_n hx hb d_SF_takePlaces_36 rfl (lv_at hl 3 rfl) ?_
            refine lv_iload_n hx hb d_SF_takePlaces_37 rfl (lv_at hl 2 rfl) ?_
            refine lv_icmp_ge (tgt := 57) hx hb d_SF_takePlaces_38 (by decide) (fun c_8 => ?_) (fun c_8 => ?_)
            · refine lv_iinc (v := (nI (k + 1))) (lv' := [(4, .int (nI (k + 1))), (0, .ref (q 0)), (1, .int 0), (2, .int pn), (3, .int (nI vo))]) hx hb d_SF_takePlaces_57 hl (k := 4) rfl (nI_1 k) (by decide) rfl (fun ls hl => ?_)
              refine lv_goto (tgt := 10) hx hb d_SF_takePlaces_60 (by decide) ?_
              exact ih10 (k + 1) vo vt (by omega) (by omega) (by omega) (by rw [← heq10]; simp only [f_SF_takePlaces_0_l10, ← hu_1, ← hu_2, eq_false c_3, eq_false c_5, eq_true c_7, eq_true c_8, ↓reduceIte]) _ _ hP hD hS ls (lv_sub hl [1, 2, 3, 4, 0] rfl)
            · refine lv_iload_n hx hb d_SF_takePlaces_41 rfl (lv_at hl 3 rfl) ?_
              refine lv_iconst (v := 3) hx hb d_SF_takePlaces_42 (by decide) ?_
              refine lv_icmp_ge (tgt := 57) hx hb d_SF_takePlaces_43 (by decide) (fun c_9 => ?_) (fun c_9 => ?_)
              · refine lv_iinc (v := (nI (k + 1))) (lv' := [(4, .int (nI (k + 1))), (0, .ref (q 0)), (1, .int 0), (2, .int pn), (3, .int (nI vo))]) hx hb d_SF_takePlaces_57 hl (k := 4) rfl (nI_1 k) (by decide) rfl (fun ls hl => ?_)
                refine lv_goto (tgt := 10) hx hb d_SF_takePlaces_60 (by decide) ?_
                exact ih10 (k + 1) vo vt (by omega) (by omega) (by omega) (by rw [← heq10]; simp only [f_SF_takePlaces_0_l10, ← hu_1, ← hu_2, eq_false c_3, eq_false c_5, eq_true c_7, eq_false c_8, eq_true c_9, ↓reduceIte]) _ _ hP hD hS ls (lv_sub hl [1, 2, 3, 4, 0] rfl)
              · have hv3 : vo < 3 := sf_lt_of (N := 3) (by omega) (by omega) c_9
                refine lv_aload_n hx hb d_SF_takePlaces_46 rfl (lv_at hl 0 rfl) ?_
                refine va_get (D := D) (ci := 2) (v := .ref (q 16)) (C := R_SF) (T := F_SF) (N := 15) hx hb hts i_SF hown hK hP 0 rfl rfl 8 (by decide) (hts _ wd_118) (fun _ h9 => h9) rfl d_SF_takePlaces_47 ?_
                refine lv_iload_n hx hb d_SF_takePlaces_50 rfl (lv_at hl 3 rfl) ?_
                refine lv_iload hx hb d_SF_takePlaces_51 (lv_at hl 4 rfl) ?_
                refine va_iast hx hb hK hP hD hS 16 0 rfl rfl (vp_in_nI hv3 (by omega)) d_SF_takePlaces_53 (fun H locs hP hD hS => ?_)
                rw [show ((nI vo) : Int32).toNatClampNeg = vo from nI_clamp (n := vo) (by omega)] at hP hD
                have hP : va_P D classes (sf_w q cI cZ fl sl tb np nt cp cc cb ch cm u_1.2.1 u_1.2.2.1 u_1.2.2.2.1 u_1.2.2.2.2.1 u_1.2.2.2.2.2 u_1.1 (upd vt vo (nI k)) tp tl cu bl pf sh) H := hP
                have hD : va_D A (sf_w q cI cZ fl sl tb np nt cp cc cb ch cm u_1.2.1 u_1.2.2.1 u_1.2.2.2.1 u_1.2.2.2.2.1 u_1.2.2.2.2.2 u_1.1 (upd vt vo (nI k)) tp tl cu bl pf sh) := hD
                refine lv_iinc (v := (nI (vo + 1))) (lv' := [(3, .int (nI (vo + 1))), (0, .ref (q 0)), (1, .int 0), (2, .int pn), (4, .int (nI k))]) hx hb d_SF_takePlaces_54 hl (k := 3) rfl (nI_1 vo) (by decide) rfl (fun ls hl => ?_)
                refine lv_iinc (v := (nI (k + 1))) (lv' := [(4, .int (nI (k + 1))), (3, .int (nI (vo + 1))), (0, .ref (q 0)), (1, .int 0), (2, .int pn)]) hx hb d_SF_takePlaces_57 hl (k := 4) rfl (nI_1 k) (by decide) rfl (fun ls hl => ?_)
                refine lv_goto (tgt := 10) hx hb d_SF_takePlaces_60 (by decide) ?_
                exact ih10 (k + 1) (vo + 1) (upd vt vo (nI k)) (by omega) (by omega) (by omega) (by rw [← heq10]; simp only [f_SF_takePlaces_0_l10, ← hu_1, ← hu_2, eq_false c_3, eq_false c_5, eq_true c_7, eq_false c_8, eq_false c_9, ↓reduceIte]) _ _ hP hD hS ls (lv_sub hl [2, 3, 4, 1, 0] rfl)
  exact loop10 (24 + 1) 0 0 ta (by omega) (by omega) (by omega) (by simp only [f_SF_takePlaces_0, ← hu_1, ↓reduceIte]) _ _ hP hD hS ls (lv_sub hl [2, 3, 4, 1, 0] rfl)
def f_SF_takePlaces_1_l10 (sl : Nat → Int32) (tb : Nat → Int32) (mp : Nat → Int32) (mc : Int32) (mb : Int32) (mh : Int32) (mm : Int32) (us : Nat → Int32) (pn : Int32) : Nat → Nat → Nat → (Nat → Int32) → (Int32 × (Nat → Int32) × (Nat → Int32) × Int32 × Int32 × Int32 × Int32 × (Nat → Int32))
  | 0, _, _, _ => (0, (fun _ => 0), (fun _ => 0), 0, 0, 0, 0, (fun _ => 0))
  | fu + 1, k, vo, vt =>
    if (f_SF_countPlaces 1) ≤ (nI k) then
      if (nI vo) = pn then
        (1, (f_SF_markUsed_1 sl tb mp mc mb mh mm us).1, (f_SF_markUsed_1 sl tb mp mc mb mh mm us).2.1, (f_SF_markUsed_1 sl tb mp mc mb mh mm us).2.2.1, (f_SF_markUsed_1 sl tb mp mc mb mh mm us).2.2.2.1, (f_SF_markUsed_1 sl tb mp mc mb mh mm us).2.2.2.2.1, (f_SF_markUsed_1 sl tb mp mc mb mh mm us).2.2.2.2.2, vt)
      else
        (0, (f_SF_markUsed_1 sl tb mp mc mb mh mm us).1, (f_SF_markUsed_1 sl tb mp mc mb mh mm us).2.1, (f_SF_markUsed_1 sl tb mp mc mb mh mm us).2.2.1, (f_SF_markUsed_1 sl tb mp mc mb mh mm us).2.2.2.1, (f_SF_markUsed_1 sl tb mp mc mb mh mm us).2.2.2.2.1, (f_SF_markUsed_1 sl tb mp mc mb mh mm us).2.2.2.2.2, vt)
    else
      if 24 ≤ (nI k) then
        if (nI vo) = pn then
          (1, (f_SF_markUsed_1 sl tb mp mc mb mh mm us).1, (f_SF_markUsed_1 sl tb mp mc mb mh mm us).2.1, (f_SF_markUsed_1 sl tb mp mc mb mh mm us).2.2.1, (f_SF_markUsed_1 sl tb mp mc mb mh mm us).2.2.2.1, (f_SF_markUsed_1 sl tb mp mc mb mh mm us).2.2.2.2.1, (f_SF_markUsed_1 sl tb mp mc mb mh mm us).2.2.2.2.2, vt)
        else
          (0, (f_SF_markUsed_1 sl tb mp mc mb mh mm us).1, (f_SF_markUsed_1 sl tb mp mc mb mh mm us).2.1, (f_SF_markUsed_1 sl tb mp mc mb mh mm us).2.2.1, (f_SF_markUsed_1 sl tb mp mc mb mh mm us).2.2.2.1, (f_SF_markUsed_1 sl tb mp mc mb mh mm us).2.2.2.2.1, (f_SF_markUsed_1 sl tb mp mc mb mh mm us).2.2.2.2.2, vt)
      else
        if ((f_SF_markUsed_1 sl tb mp mc mb mh mm us).1 k) = 0 then
          if pn ≤ (nI vo) then
            f_SF_takePlaces_1_l10 sl tb mp mc mb mh mm us pn fu (k + 1) vo vt
          else
            if 3 ≤ (nI vo) then
              f_SF_takePlaces_1_l10 sl tb mp mc mb mh mm us pn fu (k + 1) vo vt
            else
              f_SF_takePlaces_1_l10 sl tb mp mc mb mh mm us pn fu (k + 1) (vo + 1) (upd vt vo (nI k))
        else
          f_SF_takePlaces_1_l10 sl tb mp mc mb mh mm us pn fu (k + 1) vo vt
def f_SF_takePlaces_1 (sl : Nat → Int32) (tb : Nat → Int32) (mp : Nat → Int32) (mc : Int32) (mb : Int32) (mh : Int32) (mm : Int32) (us : Nat → Int32) (ta : Nat → Int32) (pn : Int32) : (Int32 × (Nat → Int32) × (Nat → Int32) × Int32 × Int32 × Int32 × Int32 × (Nat → Int32)) :=
  f_SF_takePlaces_1_l10 sl tb mp mc mb mh mm us pn (24 + 1) 0 0 ta
set_option maxHeartbeats 1000000 in
set_option maxRecDepth 100000 in
/-- takePlaces -/
theorem c_SF_takePlaces_1 (l : Launch) (D : va_G) (cI cZ cJ : ClassId) (q : Nat → Nat) (fl : Nat → Int32) (sl : Nat → Int32) (tb : Nat → Int32) (np : Nat → Int32) (nt : Nat → Int32) (cp : Nat → Int32) (cc : Int32) (cb : Int32) (ch : Int32) (cm : Int32) (mp : Nat → Int32) (mc : Int32) (mb : Int32) (mh : Int32) (mm : Int32) (us : Nat → Int32) (ta : Nat → Int32) (tp : Nat → Int32) (tl : Int32) (cu : Int32) (bl : Int32) (pf : Int32) (sh : Int32) (pn : Int32) : sf_M (S := (Int32 × (Nat → Int32) × (Nat → Int32) × Int32 × Int32 × Int32 × Int32 × (Nat → Int32))) l D classes (sf_tys cI cZ cJ) y_SF_takePlaces (sf_ws y_SF_takePlaces b_SF_takePlaces 5 (some .boolean)) 5 121 [.ref (q 0), .int 1, .int pn] (sf_w q cI cZ fl sl tb np nt cp cc cb ch cm mp mc mb mh mm us ta tp tl cu bl pf sh) (fun r => some (.int r.1)) (fun r => r = f_SF_takePlaces_1 sl tb mp mc mb mh mm us ta pn) (fun r => (sf_w q cI cZ fl sl tb np nt cp cc cb ch cm r.2.2.1 r.2.2.2.1 r.2.2.2.2.1 r.2.2.2.2.2.1 r.2.2.2.2.2.2.1 r.2.1 r.2.2.2.2.2.2.2 tp tl cu bl pf sh)) := by
  refine sf_ofW (S := (Int32 × (Nat → Int32) × (Nat → Int32) × Int32 × Int32 × Int32 × Int32 × (Nat → Int32))) (by decide) (Nat.le_of_ble_eq_true rfl) ?_
  intro p e s m below meth c A ls R args Q hR hArgs hQ hC0 hr hK hP hD hl
  obtain ⟨hx, hb, hml, hown, hts, hA, hlk⟩ := hC0
  have hS : va_S A s.heap s.heap [] := va_S.rf
  have hl : lv_has ls 5 [(0, .ref (q 0)), (1, .int 1), (2, .int pn)] := hl
  refine lv_aload_n hx hb d_SF_takePlaces_0 rfl (lv_at hl 0 rfl) ?_
  refine lv_iload_n hx hb d_SF_takePlaces_1 rfl (lv_at hl 1 rfl) ?_
  refine sf_callVw (S := ((Nat → Int32) × (Nat → Int32) × Int32 × Int32 × Int32 × Int32)) (rest := []) ⟨hx, hb, hml, hown, hts⟩ (c_SF_markUsed_1 l D cI cZ cJ q fl sl tb np nt cp cc cb ch cm mp mc mb mh mm us ta tp tl cu bl pf sh) (sf_cwV lk_SF_240 hts (fun _ h => h) (by rw [hR]; exact ⟨Nat.le_of_ble_eq_true rfl, Nat.le_of_ble_eq_true rfl⟩)) hK hP hD hS hA (fun _ => by simp only [sf_w_fst]) (ci := 2) (q0 := 0) rfl rfl rfl rfl rfl hl.1 (Nat.le_of_ble_eq_true rfl) d_SF_takePlaces_2 ⟨Nat.zero_le _, Nat.zero_le _⟩ (fun u_1 H locs hu_1 hP hD hS => ?_)
  have hP : va_P D classes (sf_w q cI cZ fl sl tb np nt cp cc cb ch cm u_1.2.1 u_1.2.2.1 u_1.2.2.2.1 u_1.2.2.2.2.1 u_1.2.2.2.2.2 u_1.1 ta tp tl cu bl pf sh) H := hP
  have hD : va_D A (sf_w q cI cZ fl sl tb np nt cp cc cb ch cm u_1.2.1 u_1.2.2.1 u_1.2.2.2.1 u_1.2.2.2.2.1 u_1.2.2.2.2.2 u_1.1 ta tp tl cu bl pf sh) := hD
  refine lv_iconst (v := 0) hx hb d_SF_takePlaces_5 (by decide) ?_
  refine lv_istore_n (lv' := [(3, .int 0), (0, .ref (q 0)), (1, .int 1), (2, .int pn)]) hx hb d_SF_takePlaces_6 rfl hl (by decide) rfl (fun ls hl => ?_)
  refine lv_iconst (v := 0) hx hb d_SF_takePlaces_7 (by decide) ?_
  refine lv_istore (lv' := [(4, .int 0), (3, .int 0), (0, .ref (q 0)), (1, .int 1), (2, .int pn)]) hx hb d_SF_takePlaces_8 hl (by decide) rfl (fun ls hl => ?_)
  have loop10 : ∀ (fu k : Nat) (vo : Nat) (vt : (Nat → Int32)), k ≤ 24 → k + fu = 24 + 1 → vo ≤ 3 → f_SF_takePlaces_1_l10 sl tb mp mc mb mh mm us pn fu k vo vt = f_SF_takePlaces_1 sl tb mp mc mb mh mm us ta pn → ∀ (H : Heap) (locs : List Loc), va_P D classes (sf_w q cI cZ fl sl tb np nt cp cc cb ch cm u_1.2.1 u_1.2.2.1 u_1.2.2.2.1 u_1.2.2.2.2.1 u_1.2.2.2.2.2 u_1.1 vt tp tl cu bl pf sh) H → va_D A (sf_w q cI cZ fl sl tb np nt cp cc cb ch cm u_1.2.1 u_1.2.2.1 u_1.2.2.2.1 u_1.2.2.2.2.1 u_1.2.2.2.2.2 u_1.1 vt tp tl cu bl pf sh) → va_S A s.heap H locs → ∀ (ls : Array Slot), lv_has ls 5 [(0, .ref (q 0)), (1, .int 1), (2, .int pn), (3, .int (nI vo)), (4, .int (nI k))] → W p l e R s m args below meth c H locs 0 0 Q (F0 m 10 ls []) := by
    intro fu
    induction fu with
    | zero =>
      intro k vo vt h1 h2
      exact absurd h2 (by omega)
    | succ fu ih10 =>
      intro k vo vt hk10 hkn10 hi100 heq10 H locs hP hD hS ls hl
      refine lv_iload hx hb d_SF_takePlaces_10 (lv_at hl 4 rfl) ?_
      refine lv_iload_n hx hb d_SF_takePlaces_12 rfl (lv_at hl 1 rfl) ?_
      refine sf_callSr (S := Int32) (rest := [.int (nI k)]) ⟨hx, hb, hml, hown, hts⟩ (c_SF_countPlaces l D cI cZ cJ 1) (sf_cwS lk_SF_244 hts (fun _ h => h) (by rw [hR]; exact ⟨Nat.le_of_ble_eq_true rfl, Nat.le_of_ble_eq_true rfl⟩)) hK hP hD hS hA [] rfl rfl (fun _ => rfl) rfl rfl hl.1 (Nat.le_of_ble_eq_true rfl) d_SF_takePlaces_13 ⟨Nat.zero_le _, Nat.zero_le _⟩ (fun u_2 H locs hu_2 hP hS => ?_)
      refine lv_icmp_ge (tgt := 63) hx hb d_SF_takePlaces_16 (by decide) (fun c_3 => ?_) (fun c_3 => ?_)
      · refine lv_iload_n hx hb d_SF_takePlaces_63 rfl (lv_at hl 3 rfl) ?_
        refine lv_iload_n hx hb d_SF_takePlaces_64 rfl (lv_at hl 2 rfl) ?_
        refine lv_icmp_ne (tgt := 72) hx hb d_SF_takePlaces_65 (by decide) (fun c_4 => ?_) (fun c_4 => ?_)
        · refine lv_iconst (v := 0) hx hb d_SF_takePlaces_72 (by decide) ?_
          rw [hQ]
          exact sf_iret (0, u_1.1, u_1.2.1, u_1.2.2.1, u_1.2.2.2.1, u_1.2.2.2.2.1, u_1.2.2.2.2.2, vt) hx hb hr hlk hS sf_b0 rfl (by rw [← heq10]; simp only [f_SF_takePlaces_1_l10, ← hu_1, ← hu_2, eq_true c_3, eq_false c_4, ↓reduceIte]) hP d_SF_takePlaces_73
        · refine lv_iconst (v := 1) hx hb d_SF_takePlaces_68 (by decide) ?_
          refine lv_goto (tgt := 73) hx hb d_SF_takePlaces_69 (by decide) ?_
          rw [hQ]
          exact sf_iret (1, u_1.1, u_1.2.1, u_1.2.2.1, u_1.2.2.2.1, u_1.2.2.2.2.1, u_1.2.2.2.2.2, vt) hx hb hr hlk hS sf_b1 rfl (by rw [← heq10]; simp only [f_SF_takePlaces_1_l10, ← hu_1, ← hu_2, eq_true c_3, eq_true c_4, ↓reduceIte]) hP d_SF_takePlaces_73
      · refine lv_iload hx hb d_SF_takePlaces_19 (lv_at hl 4 rfl) ?_
        refine lv_bipush (v := 24) hx hb d_SF_takePlaces_21 (by decide) ?_
        refine lv_icmp_ge (tgt := 63) hx hb d_SF_takePlaces_23 (by decide) (fun c_5 => ?_) (fun c_5 => ?_)
        · refine lv_iload_n hx hb d_SF_takePlaces_63 rfl (lv_at hl 3 rfl) ?_
          refine lv_iload_n hx hb d_SF_takePlaces_64 rfl (lv_at hl 2 rfl) ?_
          refine lv_icmp_ne (tgt := 72) hx hb d_SF_takePlaces_65 (by decide) (fun c_6 => ?_) (fun c_6 => ?_)
          · refine lv_iconst (v := 0) hx hb d_SF_takePlaces_72 (by decide) ?_
            rw [hQ]
            exact sf_iret (0, u_1.1, u_1.2.1, u_1.2.2.1, u_1.2.2.2.1, u_1.2.2.2.2.1, u_1.2.2.2.2.2, vt) hx hb hr hlk hS sf_b0 rfl (by rw [← heq10]; simp only [f_SF_takePlaces_1_l10, ← hu_1, ← hu_2, eq_false c_3, eq_true c_5, eq_false c_6, ↓reduceIte]) hP d_SF_takePlaces_73
          · refine lv_iconst (v := 1) hx hb d_SF_takePlaces_68 (by decide) ?_
            refine lv_goto (tgt := 73) hx hb d_SF_takePlaces_69 (by decide) ?_
            rw [hQ]
            exact sf_iret (1, u_1.1, u_1.2.1, u_1.2.2.1, u_1.2.2.2.1, u_1.2.2.2.2.1, u_1.2.2.2.2.2, vt) hx hb hr hlk hS sf_b1 rfl (by rw [← heq10]; simp only [f_SF_takePlaces_1_l10, ← hu_1, ← hu_2, eq_false c_3, eq_true c_5, eq_true c_6, ↓reduceIte]) hP d_SF_takePlaces_73
        · have hlt : k < 24 := sf_lt_of (N := 24) (by omega) (by omega) c_5
          refine lv_aload_n hx hb d_SF_takePlaces_26 rfl (lv_at hl 0 rfl) ?_
          refine va_get (D := D) (ci := 2) (v := .ref (q 15)) (C := R_SF) (T := F_SF) (N := 15) hx hb hts i_SF hown hK hP 0 rfl rfl 7 (by decide) (hts _ wd_117) (fun _ h9 => h9) rfl d_SF_takePlaces_27 ?_
          refine lv_iload hx hb d_SF_takePlaces_30 (lv_at hl 4 rfl) ?_
          refine va_zald hx hb hK hP 15 1 rfl rfl (vp_in_nI hlt (by omega)) d_SF_takePlaces_32 ?_
          rw [show ((nI k) : Int32).toNatClampNeg = k from nI_clamp (n := k) (by omega)]
          refine lv_if_ne (tgt := 57) hx hb d_SF_takePlaces_33 (by decide) (fun c_7 => ?_) (fun c_7 => ?_)
          · refine lv_iinc (v := (nI (k + 1))) (lv' := [(4, .int (nI (k + 1))), (0, .ref (q 0)), (1, .int 1), (2, .int pn), (3, .int (nI vo))]) hx hb d_SF_takePlaces_57 hl (k := 4) rfl (nI_1 k) (by decide) rfl (fun ls hl => ?_)
            refine lv_goto (tgt := 10) hx hb d_SF_takePlaces_60 (by decide) ?_
            exact ih10 (k + 1) vo vt (by omega) (by omega) (by omega) (by rw [← heq10]; simp only [f_SF_takePlaces_1_l10, ← hu_1, ← hu_2, eq_false c_3, eq_false c_5, eq_false c_7, ↓reduceIte]) _ _ hP hD hS ls (lv_sub hl [1, 2, 3, 4, 0] rfl)
          · refine lv_iload_n hx hb d_SF_takePlaces_36 rfl (lv_at hl 3 rfl) ?_
            refine lv_iload_n hx hb d_SF_takePlaces_37 rfl (lv_at hl 2 rfl) ?_
            refine lv_icmp_ge (tgt := 57) hx hb d_SF_takePlaces_38 (by decide) (fun c_8 => ?_) (fun c_8 => ?_)
            · refine lv_iinc (v := (nI (k + 1))) (lv' := [(4, .int (nI (k + 1))), (0, .ref (q 0)), (1, .int 1), (2, .int pn), (3, .int (nI vo))]) hx hb d_SF_takePlaces_57 hl (k := 4) rfl (nI_1 k) (by decide) rfl (fun ls hl => ?_)
              refine lv_goto (tgt := 10) hx hb d_SF_takePlaces_60 (by decide) ?_
              exact ih10 (k + 1) vo vt (by omega) (by omega) (by omega) (by rw [← heq10]; simp only [f_SF_takePlaces_1_l10, ← hu_1, ← hu_2, eq_false c_3, eq_false c_5, eq_true c_7, eq_true c_8, ↓reduceIte]) _ _ hP hD hS ls (lv_sub hl [1, 2, 3, 4, 0] rfl)
            · refine lv_iload_n hx hb d_SF_takePlaces_41 rfl (lv_at hl 3 rfl) ?_
              refine lv_iconst (v := 3) hx hb d_SF_takePlaces_42 (by decide) ?_
              refine lv_icmp_ge (tgt := 57) hx hb d_SF_takePlaces_43 (by decide) (fun c_9 => ?_) (fun c_9 => ?_)
              · refine lv_iinc (v := (nI (k + 1))) (lv' := [(4, .int (nI (k + 1))), (0, .ref (q 0)), (1, .int 1), (2, .int pn), (3, .int (nI vo))]) hx hb d_SF_takePlaces_57 hl (k := 4) rfl (nI_1 k) (by decide) rfl (fun ls hl => ?_)
                refine lv_goto (tgt := 10) hx hb d_SF_takePlaces_60 (by decide) ?_
                exact ih10 (k + 1) vo vt (by omega) (by omega) (by omega) (by rw [← heq10]; simp only [f_SF_takePlaces_1_l10, ← hu_1, ← hu_2, eq_false c_3, eq_false c_5, eq_true c_7, eq_false c_8, eq_true c_9, ↓reduceIte]) _ _ hP hD hS ls (lv_sub hl [1, 2, 3, 4, 0] rfl)
              · have hv3 : vo < 3 := sf_lt_of (N := 3) (by omega) (by omega) c_9
                refine lv_aload_n hx hb d_SF_takePlaces_46 rfl (lv_at hl 0 rfl) ?_
                refine va_get (D := D) (ci := 2) (v := .ref (q 16)) (C := R_SF) (T := F_SF) (N := 15) hx hb hts i_SF hown hK hP 0 rfl rfl 8 (by decide) (hts _ wd_118) (fun _ h9 => h9) rfl d_SF_takePlaces_47 ?_
                refine lv_iload_n hx hb d_SF_takePlaces_50 rfl (lv_at hl 3 rfl) ?_
                refine lv_iload hx hb d_SF_takePlaces_51 (lv_at hl 4 rfl) ?_
                refine va_iast hx hb hK hP hD hS 16 0 rfl rfl (vp_in_nI hv3 (by omega)) d_SF_takePlaces_53 (fun H locs hP hD hS => ?_)
                rw [show ((nI vo) : Int32).toNatClampNeg = vo from nI_clamp (n := vo) (by omega)] at hP hD
                have hP : va_P D classes (sf_w q cI cZ fl sl tb np nt cp cc cb ch cm u_1.2.1 u_1.2.2.1 u_1.2.2.2.1 u_1.2.2.2.2.1 u_1.2.2.2.2.2 u_1.1 (upd vt vo (nI k)) tp tl cu bl pf sh) H := hP
                have hD : va_D A (sf_w q cI cZ fl sl tb np nt cp cc cb ch cm u_1.2.1 u_1.2.2.1 u_1.2.2.2.1 u_1.2.2.2.2.1 u_1.2.2.2.2.2 u_1.1 (upd vt vo (nI k)) tp tl cu bl pf sh) := hD
                refine lv_iinc (v := (nI (vo + 1))) (lv' := [(3, .int (nI (vo + 1))), (0, .ref (q 0)), (1, .int 1), (2, .int pn), (4, .int (nI k))]) hx hb d_SF_takePlaces_54 hl (k := 3) rfl (nI_1 vo) (by decide) rfl (fun ls hl => ?_)
                refine lv_iinc (v := (nI (k + 1))) (lv' := [(4, .int (nI (k + 1))), (3, .int (nI (vo + 1))), (0, .ref (q 0)), (1, .int 1), (2, .int pn)]) hx hb d_SF_takePlaces_57 hl (k := 4) rfl (nI_1 k) (by decide) rfl (fun ls hl => ?_)
                refine lv_goto (tgt := 10) hx hb d_SF_takePlaces_60 (by decide) ?_
                exact ih10 (k + 1) (vo + 1) (upd vt vo (nI k)) (by omega) (by omega) (by omega) (by rw [← heq10]; simp only [f_SF_takePlaces_1_l10, ← hu_1, ← hu_2, eq_false c_3, eq_false c_5, eq_true c_7, eq_false c_8, eq_false c_9, ↓reduceIte]) _ _ hP hD hS ls (lv_sub hl [2, 3, 4, 1, 0] rfl)
  exact loop10 (24 + 1) 0 0 ta (by omega) (by omega) (by omega) (by simp only [f_SF_takePlaces_1, ← hu_1, ↓reduceIte]) _ _ hP hD hS ls (lv_sub hl [2, 3, 4, 1, 0] rfl)
def f_SF_wrongPlace_0_l17 (fl : Nat → Int32) (tb : Nat → Int32) (mp : Nat → Int32) (mc : Int32) (mb : Int32) (mh : Int32) (mm : Int32) (us : Nat → Int32) (wk : Int32) : Nat → Nat → Int32 → (Int32 × (Nat → Int32) × (Nat → Int32) × Int32 × Int32 × Int32 × Int32)
  | 0, _, _ => (0, (fun _ => 0), (fun _ => 0), 0, 0, 0, 0)
  | fu + 1, k, vs =>
    if (f_SF_countPlaces 0) ≤ (nI k) then
      ((-1), (f_SF_markUsed_0 fl tb mp mc mb mh mm us).1, (f_SF_markUsed_0 fl tb mp mc mb mh mm us).2.1, (f_SF_markUsed_0 fl tb mp mc mb mh mm us).2.2.1, (f_SF_markUsed_0 fl tb mp mc mb mh mm us).2.2.2.1, (f_SF_markUsed_0 fl tb mp mc mb mh mm us).2.2.2.2.1, (f_SF_markUsed_0 fl tb mp mc mb mh mm us).2.2.2.2.2)
    else
      if 24 ≤ (nI k) then
        ((-1), (f_SF_markUsed_0 fl tb mp mc mb mh mm us).1, (f_SF_markUsed_0 fl tb mp mc mb mh mm us).2.1, (f_SF_markUsed_0 fl tb mp mc mb mh mm us).2.2.1, (f_SF_markUsed_0 fl tb mp mc mb mh mm us).2.2.2.1, (f_SF_markUsed_0 fl tb mp mc mb mh mm us).2.2.2.2.1, (f_SF_markUsed_0 fl tb mp mc mb mh mm us).2.2.2.2.2)
      else
        if ((f_SF_markUsed_0 fl tb mp mc mb mh mm us).1 k) = 0 then
          f_SF_wrongPlace_0_l17 fl tb mp mc mb mh mm us wk fu (k + 1) vs
        else
          if (f_Bl_sumIsRight 768 fl (nI k) 28) = 0 then
            if vs = wk then
              ((nI k), (f_SF_markUsed_0 fl tb mp mc mb mh mm us).1, (f_SF_markUsed_0 fl tb mp mc mb mh mm us).2.1, (f_SF_markUsed_0 fl tb mp mc mb mh mm us).2.2.1, (f_SF_markUsed_0 fl tb mp mc mb mh mm us).2.2.2.1, (f_SF_markUsed_0 fl tb mp mc mb mh mm us).2.2.2.2.1, (f_SF_markUsed_0 fl tb mp mc mb mh mm us).2.2.2.2.2)
            else
              f_SF_wrongPlace_0_l17 fl tb mp mc mb mh mm us wk fu (k + 1) (vs + 1)
          else
            f_SF_wrongPlace_0_l17 fl tb mp mc mb mh mm us wk fu (k + 1) vs
def f_SF_wrongPlace_0 (fl : Nat → Int32) (tb : Nat → Int32) (mp : Nat → Int32) (mc : Int32) (mb : Int32) (mh : Int32) (mm : Int32) (us : Nat → Int32) (wk : Int32) : (Int32 × (Nat → Int32) × (Nat → Int32) × Int32 × Int32 × Int32 × Int32) :=
  f_SF_wrongPlace_0_l17 fl tb mp mc mb mh mm us wk (24 + 1) 0 0
set_option maxHeartbeats 1000000 in
set_option maxRecDepth 100000 in
/-- wrongPlace -/
theorem c_SF_wrongPlace_0 (l : Launch) (D : va_G) (cI cZ cJ : ClassId) (q : Nat → Nat) (fl : Nat → Int32) (sl : Nat → Int32) (tb : Nat → Int32) (np : Nat → Int32) (nt : Nat → Int32) (cp : Nat → Int32) (cc : Int32) (cb : Int32) (ch : Int32) (cm : Int32) (mp : Nat → Int32) (mc : Int32) (mb : Int32) (mh : Int32) (mm : Int32) (us : Nat → Int32) (ta : Nat → Int32) (tp : Nat → Int32) (tl : Int32) (cu : Int32) (bl : Int32) (pf : Int32) (sh : Int32) (wk : Int32) : sf_M (S := (Int32 × (Nat → Int32) × (Nat → Int32) × Int32 × Int32 × Int32 × Int32)) l D classes (sf_tys cI cZ cJ) y_SF_wrongPlace (sf_ws y_SF_wrongPlace b_SF_wrongPlace 6 (some .int)) 5 121 [.ref (q 0), .int 0, .int wk] (sf_w q cI cZ fl sl tb np nt cp cc cb ch cm mp mc mb mh mm us ta tp tl cu bl pf sh) (fun r => some (.int r.1)) (fun r => r = f_SF_wrongPlace_0 fl tb mp mc mb mh mm us wk) (fun r => (sf_w q cI cZ fl sl tb np nt cp cc cb ch cm r.2.2.1 r.2.2.2.1 r.2.2.2.2.1 r.2.2.2.2.2.1 r.2.2.2.2.2.2 r.2.1 ta tp tl cu bl pf sh)) := by
  refine sf_ofW (S := (Int32 × (Nat → Int32) × (Nat → Int32) × Int32 × Int32 × Int32 × Int32)) (by decide) (Nat.le_of_ble_eq_true rfl) ?_
  intro p e s m below meth c A ls R args Q hR hArgs hQ hC0 hr hK hP hD hl
  obtain ⟨hx, hb, hml, hown, hts, hA, hlk⟩ := hC0
  have hS : va_S A s.heap s.heap [] := va_S.rf
  have hl : lv_has ls 6 [(0, .ref (q 0)), (1, .int 0), (2, .int wk)] := hl
  refine lv_aload_n hx hb d_SF_wrongPlace_0 rfl (lv_at hl 0 rfl) ?_
  refine lv_iload_n hx hb d_SF_wrongPlace_1 rfl (lv_at hl 1 rfl) ?_
  refine sf_callVw (S := ((Nat → Int32) × (Nat → Int32) × Int32 × Int32 × Int32 × Int32)) (rest := []) ⟨hx, hb, hml, hown, hts⟩ (c_SF_markUsed_0 l D cI cZ cJ q fl sl tb np nt cp cc cb ch cm mp mc mb mh mm us ta tp tl cu bl pf sh) (sf_cwV lk_SF_240 hts (fun _ h => h) (by rw [hR]; exact ⟨Nat.le_of_ble_eq_true rfl, Nat.le_of_ble_eq_true rfl⟩)) hK hP hD hS hA (fun _ => by simp only [sf_w_fst]) (ci := 2) (q0 := 0) rfl rfl rfl rfl rfl hl.1 (Nat.le_of_ble_eq_true rfl) d_SF_wrongPlace_2 ⟨Nat.zero_le _, Nat.zero_le _⟩ (fun u_1 H locs hu_1 hP hD hS => ?_)
  have hP : va_P D classes (sf_w q cI cZ fl sl tb np nt cp cc cb ch cm u_1.2.1 u_1.2.2.1 u_1.2.2.2.1 u_1.2.2.2.2.1 u_1.2.2.2.2.2 u_1.1 ta tp tl cu bl pf sh) H := hP
  have hD : va_D A (sf_w q cI cZ fl sl tb np nt cp cc cb ch cm u_1.2.1 u_1.2.2.1 u_1.2.2.2.1 u_1.2.2.2.2.1 u_1.2.2.2.2.2 u_1.1 ta tp tl cu bl pf sh) := hD
  refine lv_aload_n hx hb d_SF_wrongPlace_5 rfl (lv_at hl 0 rfl) ?_
  refine lv_iload_n hx hb d_SF_wrongPlace_6 rfl (lv_at hl 1 rfl) ?_
  refine sf_callVw (S := Unit) (rest := []) ⟨hx, hb, hml, hown, hts⟩ (c_SF_placesOf_0 l D cI cZ cJ q fl sl tb np nt cp cc cb ch cm u_1.2.1 u_1.2.2.1 u_1.2.2.2.1 u_1.2.2.2.2.1 u_1.2.2.2.2.2 u_1.1 ta tp tl cu bl pf sh) (sf_cwV lk_SF_160 hts (fun _ h => h) (by rw [hR]; exact ⟨Nat.le_of_ble_eq_true rfl, Nat.le_of_ble_eq_true rfl⟩)) hK hP hD hS hA (fun _ => by simp only [sf_w_fst]) (ci := 2) (q0 := 0) rfl rfl rfl rfl rfl hl.1 (Nat.le_of_ble_eq_true rfl) d_SF_wrongPlace_7 ⟨Nat.zero_le _, Nat.zero_le _⟩ (fun u H locs hu hP hD hS => ?_)
  have hP : va_P D classes (sf_w q cI cZ fl sl tb np nt cp cc cb ch cm u_1.2.1 u_1.2.2.1 u_1.2.2.2.1 u_1.2.2.2.2.1 u_1.2.2.2.2.2 u_1.1 ta tp tl cu bl pf sh) H := hP
  have hD : va_D A (sf_w q cI cZ fl sl tb np nt cp cc cb ch cm u_1.2.1 u_1.2.2.1 u_1.2.2.2.1 u_1.2.2.2.2.1 u_1.2.2.2.2.2 u_1.1 ta tp tl cu bl pf sh) := hD
  refine lv_astore_n (lv' := [(3, .ref (q 1)), (0, .ref (q 0)), (1, .int 0), (2, .int wk)]) hx hb d_SF_wrongPlace_10 rfl hl (by decide) rfl (fun ls hl => ?_)
  refine lv_iconst (v := 0) hx hb d_SF_wrongPlace_11 (by decide) ?_
  refine lv_istore (lv' := [(4, .int 0), (3, .ref (q 1)), (0, .ref (q 0)), (1, .int 0), (2, .int wk)]) hx hb d_SF_wrongPlace_12 hl (by decide) rfl (fun ls hl => ?_)
  refine lv_iconst (v := 0) hx hb d_SF_wrongPlace_14 (by decide) ?_
  refine lv_istore (lv' := [(5, .int 0), (4, .int 0), (3, .ref (q 1)), (0, .ref (q 0)), (1, .int 0), (2, .int wk)]) hx hb d_SF_wrongPlace_15 hl (by decide) rfl (fun ls hl => ?_)
  have loop17 : ∀ (fu k : Nat) (vs : Int32), k ≤ 24 → k + fu = 24 + 1 → f_SF_wrongPlace_0_l17 fl tb mp mc mb mh mm us wk fu k vs = f_SF_wrongPlace_0 fl tb mp mc mb mh mm us wk → ∀ (H : Heap) (locs : List Loc), va_P D classes (sf_w q cI cZ fl sl tb np nt cp cc cb ch cm u_1.2.1 u_1.2.2.1 u_1.2.2.2.1 u_1.2.2.2.2.1 u_1.2.2.2.2.2 u_1.1 ta tp tl cu bl pf sh) H → va_D A (sf_w q cI cZ fl sl tb np nt cp cc cb ch cm u_1.2.1 u_1.2.2.1 u_1.2.2.2.1 u_1.2.2.2.2.1 u_1.2.2.2.2.2 u_1.1 ta tp tl cu bl pf sh) → va_S A s.heap H locs → ∀ (ls : Array Slot), lv_has ls 6 [(0, .ref (q 0)), (1, .int 0), (2, .int wk), (3, .ref (q 1)), (4, .int vs), (5, .int (nI k))] → W p l e R s m args below meth c H locs 0 0 Q (F0 m 17 ls []) := by
    intro fu
    induction fu with
    | zero =>
      intro k vs h1 h2
      exact absurd h2 (by omega)
    | succ fu ih17 =>
      intro k vs hk17 hkn17 heq17 H locs hP hD hS ls hl
      refine lv_iload hx hb d_SF_wrongPlace_17 (lv_at hl 5 rfl) ?_
      refine lv_iload_n hx hb d_SF_wrongPlace_19 rfl (lv_at hl 1 rfl) ?_
      refine sf_callSr (S := Int32) (rest := [.int (nI k)]) ⟨hx, hb, hml, hown, hts⟩ (c_SF_countPlaces l D cI cZ cJ 0) (sf_cwS lk_SF_244 hts (fun _ h => h) (by rw [hR]; exact ⟨Nat.le_of_ble_eq_true rfl, Nat.le_of_ble_eq_true rfl⟩)) hK hP hD hS hA [] rfl rfl (fun _ => rfl) rfl rfl hl.1 (Nat.le_of_ble_eq_true rfl) d_SF_wrongPlace_20 ⟨Nat.zero_le _, Nat.zero_le _⟩ (fun u_2 H locs hu_2 hP hS => ?_)
      refine lv_icmp_ge (tgt := 70) hx hb d_SF_wrongPlace_23 (by decide) (fun c_3 => ?_) (fun c_3 => ?_)
      · refine lv_iconst (v := (-1)) hx hb d_SF_wrongPlace_70 (by decide) ?_
        rw [hQ]
        exact sf_iret ((-1), u_1.1, u_1.2.1, u_1.2.2.1, u_1.2.2.2.1, u_1.2.2.2.2.1, u_1.2.2.2.2.2) hx hb hr hlk hS rfl rfl (by rw [← heq17]; simp only [f_SF_wrongPlace_0_l17, ← hu_1, ← hu_2, eq_true c_3, ↓reduceIte]) hP d_SF_wrongPlace_71
      · refine lv_iload hx hb d_SF_wrongPlace_26 (lv_at hl 5 rfl) ?_
        refine lv_bipush (v := 24) hx hb d_SF_wrongPlace_28 (by decide) ?_
        refine lv_icmp_ge (tgt := 70) hx hb d_SF_wrongPlace_30 (by decide) (fun c_4 => ?_) (fun c_4 => ?_)
        · refine lv_iconst (v := (-1)) hx hb d_SF_wrongPlace_70 (by decide) ?_
          rw [hQ]
          exact sf_iret ((-1), u_1.1, u_1.2.1, u_1.2.2.1, u_1.2.2.2.1, u_1.2.2.2.2.1, u_1.2.2.2.2.2) hx hb hr hlk hS rfl rfl (by rw [← heq17]; simp only [f_SF_wrongPlace_0_l17, ← hu_1, ← hu_2, eq_false c_3, eq_true c_4, ↓reduceIte]) hP d_SF_wrongPlace_71
        · have hlt : k < 24 := sf_lt_of (N := 24) (by omega) (by omega) c_4
          refine lv_aload_n hx hb d_SF_wrongPlace_33 rfl (lv_at hl 0 rfl) ?_
          refine va_get (D := D) (ci := 2) (v := .ref (q 15)) (C := R_SF) (T := F_SF) (N := 15) hx hb hts i_SF hown hK hP 0 rfl rfl 7 (by decide) (hts _ wd_117) (fun _ h9 => h9) rfl d_SF_wrongPlace_34 ?_
          refine lv_iload hx hb d_SF_wrongPlace_37 (lv_at hl 5 rfl) ?_
          refine va_zald hx hb hK hP 15 1 rfl rfl (vp_in_nI hlt (by omega)) d_SF_wrongPlace_39 ?_
          rw [show ((nI k) : Int32).toNatClampNeg = k from nI_clamp (n := k) (by omega)]
          refine lv_if_eq (tgt := 64) hx hb d_SF_wrongPlace_40 (by decide) (fun c_5 => ?_) (fun c_5 => ?_)
          · refine lv_iinc (v := (nI (k + 1))) (lv' := [(5, .int (nI (k + 1))), (0, .ref (q 0)), (1, .int 0), (2, .int wk), (3, .ref (q 1)), (4, .int vs)]) hx hb d_SF_wrongPlace_64 hl (k := 5) rfl (nI_1 k) (by decide) rfl (fun ls hl => ?_)
            refine lv_goto (tgt := 17) hx hb d_SF_wrongPlace_67 (by decide) ?_
            exact ih17 (k + 1) vs (by omega) (by omega) (by rw [← heq17]; simp only [f_SF_wrongPlace_0_l17, ← hu_1, ← hu_2, eq_false c_3, eq_false c_4, eq_true c_5, ↓reduceIte]) _ _ hP hD hS ls (lv_sub hl [1, 2, 3, 4, 5, 0] rfl)
          · refine lv_aload_n hx hb d_SF_wrongPlace_43 rfl (lv_at hl 3 rfl) ?_
            refine lv_iload hx hb d_SF_wrongPlace_44 (lv_at hl 5 rfl) ?_
            refine sf_callVr (S := Int32) (rest := []) ⟨hx, hb, hml, hown, hts⟩ (c_Bl_sumIsRight l D cI cZ cJ (q 1) (q 2) 768 fl (nI k) 28 (by omega) (by omega)) (sf_cwV lk_SF_215 hts (fun _ h => h) (by rw [hR]; exact ⟨Nat.le_of_ble_eq_true rfl, Nat.le_of_ble_eq_true rfl⟩)) hK hP hD hS hA [1, 2] rfl rfl (fun _ => rfl) (ci := 0) (q0 := 0) rfl rfl rfl rfl rfl hl.1 (Nat.le_of_ble_eq_true rfl) d_SF_wrongPlace_46 ⟨Nat.zero_le _, Nat.zero_le _⟩ (fun u_6 H locs hu_6 hP hS => ?_)
            refine lv_if_ne (tgt := 64) hx hb d_SF_wrongPlace_49 (by decide) (fun c_7 => ?_) (fun c_7 => ?_)
            · refine lv_iinc (v := (nI (k + 1))) (lv' := [(5, .int (nI (k + 1))), (0, .ref (q 0)), (1, .int 0), (2, .int wk), (3, .ref (q 1)), (4, .int vs)]) hx hb d_SF_wrongPlace_64 hl (k := 5) rfl (nI_1 k) (by decide) rfl (fun ls hl => ?_)
              refine lv_goto (tgt := 17) hx hb d_SF_wrongPlace_67 (by decide) ?_
              exact ih17 (k + 1) vs (by omega) (by omega) (by rw [← heq17]; simp only [f_SF_wrongPlace_0_l17, ← hu_1, ← hu_2, ← hu_6, eq_false c_3, eq_false c_4, eq_false c_5, eq_false c_7, ↓reduceIte]) _ _ hP hD hS ls (lv_sub hl [1, 2, 3, 4, 5, 0] rfl)
            · refine lv_iload hx hb d_SF_wrongPlace_52 (lv_at hl 4 rfl) ?_
              refine lv_iload_n hx hb d_SF_wrongPlace_54 rfl (lv_at hl 2 rfl) ?_
              refine lv_icmp_ne (tgt := 61) hx hb d_SF_wrongPlace_55 (by decide) (fun c_8 => ?_) (fun c_8 => ?_)
              · refine lv_iinc (v := (vs + 1)) (lv' := [(4, .int (vs + 1)), (0, .ref (q 0)), (1, .int 0), (2, .int wk), (3, .ref (q 1)), (5, .int (nI k))]) hx hb d_SF_wrongPlace_61 hl (k := 4) rfl rfl (by decide) rfl (fun ls hl => ?_)
                refine lv_iinc (v := (nI (k + 1))) (lv' := [(5, .int (nI (k + 1))), (4, .int (vs + 1)), (0, .ref (q 0)), (1, .int 0), (2, .int wk), (3, .ref (q 1))]) hx hb d_SF_wrongPlace_64 hl (k := 5) rfl (nI_1 k) (by decide) rfl (fun ls hl => ?_)
                refine lv_goto (tgt := 17) hx hb d_SF_wrongPlace_67 (by decide) ?_
                exact ih17 (k + 1) (vs + 1) (by omega) (by omega) (by rw [← heq17]; simp only [f_SF_wrongPlace_0_l17, ← hu_1, ← hu_2, ← hu_6, eq_false c_3, eq_false c_4, eq_false c_5, eq_true c_7, eq_false c_8, ↓reduceIte]) _ _ hP hD hS ls (lv_sub hl [2, 3, 4, 5, 1, 0] rfl)
              · refine lv_iload hx hb d_SF_wrongPlace_58 (lv_at hl 5 rfl) ?_
                rw [hQ]
                exact sf_iret ((nI k), u_1.1, u_1.2.1, u_1.2.2.1, u_1.2.2.2.1, u_1.2.2.2.2.1, u_1.2.2.2.2.2) hx hb hr hlk hS rfl rfl (by rw [← heq17]; simp only [f_SF_wrongPlace_0_l17, ← hu_1, ← hu_2, ← hu_6, eq_false c_3, eq_false c_4, eq_false c_5, eq_true c_7, eq_true c_8, ↓reduceIte]) hP d_SF_wrongPlace_60
  exact loop17 (24 + 1) 0 0 (by omega) (by omega) (by simp only [f_SF_wrongPlace_0, ← hu_1, ↓reduceIte]) _ _ hP hD hS ls (lv_sub hl [3, 4, 5, 2, 1, 0] rfl)
def f_SF_wrongPlace_1_l17 (sl : Nat → Int32) (tb : Nat → Int32) (mp : Nat → Int32) (mc : Int32) (mb : Int32) (mh : Int32) (mm : Int32) (us : Nat → Int32) (wk : Int32) : Nat → Nat → Int32 → (Int32 × (Nat → Int32) × (Nat → Int32) × Int32 × Int32 × Int32 × Int32)
  | 0, _, _ => (0, (fun _ => 0), (fun _ => 0), 0, 0, 0, 0)
  | fu + 1, k, vs =>
    if (f_SF_countPlaces 1) ≤ (nI k) then
      ((-1), (f_SF_markUsed_1 sl tb mp mc mb mh mm us).1, (f_SF_markUsed_1 sl tb mp mc mb mh mm us).2.1, (f_SF_markUsed_1 sl tb mp mc mb mh mm us).2.2.1, (f_SF_markUsed_1 sl tb mp mc mb mh mm us).2.2.2.1, (f_SF_markUsed_1 sl tb mp mc mb mh mm us).2.2.2.2.1, (f_SF_markUsed_1 sl tb mp mc mb mh mm us).2.2.2.2.2)
    else
      if 24 ≤ (nI k) then
        ((-1), (f_SF_markUsed_1 sl tb mp mc mb mh mm us).1, (f_SF_markUsed_1 sl tb mp mc mb mh mm us).2.1, (f_SF_markUsed_1 sl tb mp mc mb mh mm us).2.2.1, (f_SF_markUsed_1 sl tb mp mc mb mh mm us).2.2.2.1, (f_SF_markUsed_1 sl tb mp mc mb mh mm us).2.2.2.2.1, (f_SF_markUsed_1 sl tb mp mc mb mh mm us).2.2.2.2.2)
      else
        if ((f_SF_markUsed_1 sl tb mp mc mb mh mm us).1 k) = 0 then
          f_SF_wrongPlace_1_l17 sl tb mp mc mb mh mm us wk fu (k + 1) vs
        else
          if (f_Bl_sumIsRight 512 sl (nI k) 28) = 0 then
            if vs = wk then
              ((nI k), (f_SF_markUsed_1 sl tb mp mc mb mh mm us).1, (f_SF_markUsed_1 sl tb mp mc mb mh mm us).2.1, (f_SF_markUsed_1 sl tb mp mc mb mh mm us).2.2.1, (f_SF_markUsed_1 sl tb mp mc mb mh mm us).2.2.2.1, (f_SF_markUsed_1 sl tb mp mc mb mh mm us).2.2.2.2.1, (f_SF_markUsed_1 sl tb mp mc mb mh mm us).2.2.2.2.2)
            else
              f_SF_wrongPlace_1_l17 sl tb mp mc mb mh mm us wk fu (k + 1) (vs + 1)
          else
            f_SF_wrongPlace_1_l17 sl tb mp mc mb mh mm us wk fu (k + 1) vs
def f_SF_wrongPlace_1 (sl : Nat → Int32) (tb : Nat → Int32) (mp : Nat → Int32) (mc : Int32) (mb : Int32) (mh : Int32) (mm : Int32) (us : Nat → Int32) (wk : Int32) : (Int32 × (Nat → Int32) × (Nat → Int32) × Int32 × Int32 × Int32 × Int32) :=
  f_SF_wrongPlace_1_l17 sl tb mp mc mb mh mm us wk (24 + 1) 0 0
set_option maxHeartbeats 1000000 in
set_option maxRecDepth 100000 in
/-- wrongPlace -/
theorem c_SF_wrongPlace_1 (l : Launch) (D : va_G) (cI cZ cJ : ClassId) (q : Nat → Nat) (fl : Nat → Int32) (sl : Nat → Int32) (tb : Nat → Int32) (np : Nat → Int32) (nt : Nat → Int32) (cp : Nat → Int32) (cc : Int32) (cb : Int32) (ch : Int32) (cm : Int32) (mp : Nat → Int32) (mc : Int32) (mb : Int32) (mh : Int32) (mm : Int32) (us : Nat → Int32) (ta : Nat → Int32) (tp : Nat → Int32) (tl : Int32) (cu : Int32) (bl : Int32) (pf : Int32) (sh : Int32) (wk : Int32) : sf_M (S := (Int32 × (Nat → Int32) × (Nat → Int32) × Int32 × Int32 × Int32 × Int32)) l D classes (sf_tys cI cZ cJ) y_SF_wrongPlace (sf_ws y_SF_wrongPlace b_SF_wrongPlace 6 (some .int)) 5 121 [.ref (q 0), .int 1, .int wk] (sf_w q cI cZ fl sl tb np nt cp cc cb ch cm mp mc mb mh mm us ta tp tl cu bl pf sh) (fun r => some (.int r.1)) (fun r => r = f_SF_wrongPlace_1 sl tb mp mc mb mh mm us wk) (fun r => (sf_w q cI cZ fl sl tb np nt cp cc cb ch cm r.2.2.1 r.2.2.2.1 r.2.2.2.2.1 r.2.2.2.2.2.1 r.2.2.2.2.2.2 r.2.1 ta tp tl cu bl pf sh)) := by
  refine sf_ofW (S := (Int32 × (Nat → Int32) × (Nat → Int32) × Int32 × Int32 × Int32 × Int32)) (by decide) (Nat.le_of_ble_eq_true rfl) ?_
  intro p e s m below meth c A ls R args Q hR hArgs hQ hC0 hr hK hP hD hl
  obtain ⟨hx, hb, hml, hown, hts, hA, hlk⟩ := hC0
  have hS : va_S A s.heap s.heap [] := va_S.rf
  have hl : lv_has ls 6 [(0, .ref (q 0)), (1, .int 1), (2, .int wk)] := hl
  refine lv_aload_n hx hb d_SF_wrongPlace_0 rfl (lv_at hl 0 rfl) ?_
  refine lv_iload_n hx hb d_SF_wrongPlace_1 rfl (lv_at hl 1 rfl) ?_
  refine sf_callVw (S := ((Nat → Int32) × (Nat → Int32) × Int32 × Int32 × Int32 × Int32)) (rest := []) ⟨hx, hb, hml, hown, hts⟩ (c_SF_markUsed_1 l D cI cZ cJ q fl sl tb np nt cp cc cb ch cm mp mc mb mh mm us ta tp tl cu bl pf sh) (sf_cwV lk_SF_240 hts (fun _ h => h) (by rw [hR]; exact ⟨Nat.le_of_ble_eq_true rfl, Nat.le_of_ble_eq_true rfl⟩)) hK hP hD hS hA (fun _ => by simp only [sf_w_fst]) (ci := 2) (q0 := 0) rfl rfl rfl rfl rfl hl.1 (Nat.le_of_ble_eq_true rfl) d_SF_wrongPlace_2 ⟨Nat.zero_le _, Nat.zero_le _⟩ (fun u_1 H locs hu_1 hP hD hS => ?_)
  have hP : va_P D classes (sf_w q cI cZ fl sl tb np nt cp cc cb ch cm u_1.2.1 u_1.2.2.1 u_1.2.2.2.1 u_1.2.2.2.2.1 u_1.2.2.2.2.2 u_1.1 ta tp tl cu bl pf sh) H := hP
  have hD : va_D A (sf_w q cI cZ fl sl tb np nt cp cc cb ch cm u_1.2.1 u_1.2.2.1 u_1.2.2.2.1 u_1.2.2.2.2.1 u_1.2.2.2.2.2 u_1.1 ta tp tl cu bl pf sh) := hD
  refine lv_aload_n hx hb d_SF_wrongPlace_5 rfl (lv_at hl 0 rfl) ?_
  refine lv_iload_n hx hb d_SF_wrongPlace_6 rfl (lv_at hl 1 rfl) ?_
  refine sf_callVw (S := Unit) (rest := []) ⟨hx, hb, hml, hown, hts⟩ (c_SF_placesOf_1 l D cI cZ cJ q fl sl tb np nt cp cc cb ch cm u_1.2.1 u_1.2.2.1 u_1.2.2.2.1 u_1.2.2.2.2.1 u_1.2.2.2.2.2 u_1.1 ta tp tl cu bl pf sh) (sf_cwV lk_SF_160 hts (fun _ h => h) (by rw [hR]; exact ⟨Nat.le_of_ble_eq_true rfl, Nat.le_of_ble_eq_true rfl⟩)) hK hP hD hS hA (fun _ => by simp only [sf_w_fst]) (ci := 2) (q0 := 0) rfl rfl rfl rfl rfl hl.1 (Nat.le_of_ble_eq_true rfl) d_SF_wrongPlace_7 ⟨Nat.zero_le _, Nat.zero_le _⟩ (fun u H locs hu hP hD hS => ?_)
  have hP : va_P D classes (sf_w q cI cZ fl sl tb np nt cp cc cb ch cm u_1.2.1 u_1.2.2.1 u_1.2.2.2.1 u_1.2.2.2.2.1 u_1.2.2.2.2.2 u_1.1 ta tp tl cu bl pf sh) H := hP
  have hD : va_D A (sf_w q cI cZ fl sl tb np nt cp cc cb ch cm u_1.2.1 u_1.2.2.1 u_1.2.2.2.1 u_1.2.2.2.2.1 u_1.2.2.2.2.2 u_1.1 ta tp tl cu bl pf sh) := hD
  refine lv_astore_n (lv' := [(3, .ref (q 3)), (0, .ref (q 0)), (1, .int 1), (2, .int wk)]) hx hb d_SF_wrongPlace_10 rfl hl (by decide) rfl (fun ls hl => ?_)
  refine lv_iconst (v := 0) hx hb d_SF_wrongPlace_11 (by decide) ?_
  refine lv_istore (lv' := [(4, .int 0), (3, .ref (q 3)), (0, .ref (q 0)), (1, .int 1), (2, .int wk)]) hx hb d_SF_wrongPlace_12 hl (by decide) rfl (fun ls hl => ?_)
  refine lv_iconst (v := 0) hx hb d_SF_wrongPlace_14 (by decide) ?_
  refine lv_istore (lv' := [(5, .int 0), (4, .int 0), (3, .ref (q 3)), (0, .ref (q 0)), (1, .int 1), (2, .int wk)]) hx hb d_SF_wrongPlace_15 hl (by decide) rfl (fun ls hl => ?_)
  have loop17 : ∀ (fu k : Nat) (vs : Int32), k ≤ 24 → k + fu = 24 + 1 → f_SF_wrongPlace_1_l17 sl tb mp mc mb mh mm us wk fu k vs = f_SF_wrongPlace_1 sl tb mp mc mb mh mm us wk → ∀ (H : Heap) (locs : List Loc), va_P D classes (sf_w q cI cZ fl sl tb np nt cp cc cb ch cm u_1.2.1 u_1.2.2.1 u_1.2.2.2.1 u_1.2.2.2.2.1 u_1.2.2.2.2.2 u_1.1 ta tp tl cu bl pf sh) H → va_D A (sf_w q cI cZ fl sl tb np nt cp cc cb ch cm u_1.2.1 u_1.2.2.1 u_1.2.2.2.1 u_1.2.2.2.2.1 u_1.2.2.2.2.2 u_1.1 ta tp tl cu bl pf sh) → va_S A s.heap H locs → ∀ (ls : Array Slot), lv_has ls 6 [(0, .ref (q 0)), (1, .int 1), (2, .int wk), (3, .ref (q 3)), (4, .int vs), (5, .int (nI k))] → W p l e R s m args below meth c H locs 0 0 Q (F0 m 17 ls []) := by
    intro fu
    induction fu with
    | zero =>
      intro k vs h1 h2
      exact absurd h2 (by omega)
    | succ fu ih17 =>
      intro k vs hk17 hkn17 heq17 H locs hP hD hS ls hl
      refine lv_iload hx hb d_SF_wrongPlace_17 (lv_at hl 5 rfl) ?_
      refine lv_iload_n hx hb d_SF_wrongPlace_19 rfl (lv_at hl 1 rfl) ?_
      refine sf_callSr (S := Int32) (rest := [.int (nI k)]) ⟨hx, hb, hml, hown, hts⟩ (c_SF_countPlaces l D cI cZ cJ 1) (sf_cwS lk_SF_244 hts (fun _ h => h) (by rw [hR]; exact ⟨Nat.le_of_ble_eq_true rfl, Nat.le_of_ble_eq_true rfl⟩)) hK hP hD hS hA [] rfl rfl (fun _ => rfl) rfl rfl hl.1 (Nat.le_of_ble_eq_true rfl) d_SF_wrongPlace_20 ⟨Nat.zero_le _, Nat.zero_le _⟩ (fun u_2 H locs hu_2 hP hS => ?_)
      refine lv_icmp_ge (tgt := 70) hx hb d_SF_wrongPlace_23 (by decide) (fun c_3 => ?_) (fun c_3 => ?_)
      · refine lv_iconst (v := (-1)) hx hb d_SF_wrongPlace_70 (by decide) ?_
        rw [hQ]
        exact sf_iret ((-1), u_1.1, u_1.2.1, u_1.2.2.1, u_1.2.2.2.1, u_1.2.2.2.2.1, u_1.2.2.2.2.2) hx hb hr hlk hS rfl rfl (by rw [← heq17]; simp only [f_SF_wrongPlace_1_l17, ← hu_1, ← hu_2, eq_true c_3, ↓reduceIte]) hP d_SF_wrongPlace_71
      · refine lv_iload hx hb d_SF_wrongPlace_26 (lv_at hl 5 rfl) ?_
        refine lv_bipush (v := 24) hx hb d_SF_wrongPlace_28 (by decide) ?_
        refine lv_icmp_ge (tgt := 70) hx hb d_SF_wrongPlace_30 (by decide) (fun c_4 => ?_) (fun c_4 => ?_)
        · refine lv_iconst (v := (-1)) hx hb d_SF_wrongPlace_70 (by decide) ?_
          rw [hQ]
          exact sf_iret ((-1), u_1.1, u_1.2.1, u_1.2.2.1, u_1.2.2.2.1, u_1.2.2.2.2.1, u_1.2.2.2.2.2) hx hb hr hlk hS rfl rfl (by rw [← heq17]; simp only [f_SF_wrongPlace_1_l17, ← hu_1, ← hu_2, eq_false c_3, eq_true c_4, ↓reduceIte]) hP d_SF_wrongPlace_71
        · have hlt : k < 24 := sf_lt_of (N := 24) (by omega) (by omega) c_4
          refine lv_aload_n hx hb d_SF_wrongPlace_33 rfl (lv_at hl 0 rfl) ?_
          refine va_get (D := D) (ci := 2) (v := .ref (q 15)) (C := R_SF) (T := F_SF) (N := 15) hx hb hts i_SF hown hK hP 0 rfl rfl 7 (by decide) (hts _ wd_117) (fun _ h9 => h9) rfl d_SF_wrongPlace_34 ?_
          refine lv_iload hx hb d_SF_wrongPlace_37 (lv_at hl 5 rfl) ?_
          refine va_zald hx hb hK hP 15 1 rfl rfl (vp_in_nI hlt (by omega)) d_SF_wrongPlace_39 ?_
          rw [show ((nI k) : Int32).toNatClampNeg = k from nI_clamp (n := k) (by omega)]
          refine lv_if_eq (tgt := 64) hx hb d_SF_wrongPlace_40 (by decide) (fun c_5 => ?_) (fun c_5 => ?_)
          · refine lv_iinc (v := (nI (k + 1))) (lv' := [(5, .int (nI (k + 1))), (0, .ref (q 0)), (1, .int 1), (2, .int wk), (3, .ref (q 3)), (4, .int vs)]) hx hb d_SF_wrongPlace_64 hl (k := 5) rfl (nI_1 k) (by decide) rfl (fun ls hl => ?_)
            refine lv_goto (tgt := 17) hx hb d_SF_wrongPlace_67 (by decide) ?_
            exact ih17 (k + 1) vs (by omega) (by omega) (by rw [← heq17]; simp only [f_SF_wrongPlace_1_l17, ← hu_1, ← hu_2, eq_false c_3, eq_false c_4, eq_true c_5, ↓reduceIte]) _ _ hP hD hS ls (lv_sub hl [1, 2, 3, 4, 5, 0] rfl)
          · refine lv_aload_n hx hb d_SF_wrongPlace_43 rfl (lv_at hl 3 rfl) ?_
            refine lv_iload hx hb d_SF_wrongPlace_44 (lv_at hl 5 rfl) ?_
            refine sf_callVr (S := Int32) (rest := []) ⟨hx, hb, hml, hown, hts⟩ (c_Bl_sumIsRight l D cI cZ cJ (q 3) (q 4) 512 sl (nI k) 28 (by omega) (by omega)) (sf_cwV lk_SF_215 hts (fun _ h => h) (by rw [hR]; exact ⟨Nat.le_of_ble_eq_true rfl, Nat.le_of_ble_eq_true rfl⟩)) hK hP hD hS hA [3, 4] rfl rfl (fun _ => rfl) (ci := 0) (q0 := 0) rfl rfl rfl rfl rfl hl.1 (Nat.le_of_ble_eq_true rfl) d_SF_wrongPlace_46 ⟨Nat.zero_le _, Nat.zero_le _⟩ (fun u_6 H locs hu_6 hP hS => ?_)
            refine lv_if_ne (tgt := 64) hx hb d_SF_wrongPlace_49 (by decide) (fun c_7 => ?_) (fun c_7 => ?_)
            · refine lv_iinc (v := (nI (k + 1))) (lv' := [(5, .int (nI (k + 1))), (0, .ref (q 0)), (1, .int 1), (2, .int wk), (3, .ref (q 3)), (4, .int vs)]) hx hb d_SF_wrongPlace_64 hl (k := 5) rfl (nI_1 k) (by decide) rfl (fun ls hl => ?_)
              refine lv_goto (tgt := 17) hx hb d_SF_wrongPlace_67 (by decide) ?_
              exact ih17 (k + 1) vs (by omega) (by omega) (by rw [← heq17]; simp only [f_SF_wrongPlace_1_l17, ← hu_1, ← hu_2, ← hu_6, eq_false c_3, eq_false c_4, eq_false c_5, eq_false c_7, ↓reduceIte]) _ _ hP hD hS ls (lv_sub hl [1, 2, 3, 4, 5, 0] rfl)
            · refine lv_iload hx hb d_SF_wrongPlace_52 (lv_at hl 4 rfl) ?_
              refine lv_iload_n hx hb d_SF_wrongPlace_54 rfl (lv_at hl 2 rfl) ?_
              refine lv_icmp_ne (tgt := 61) hx hb d_SF_wrongPlace_55 (by decide) (fun c_8 => ?_) (fun c_8 => ?_)
              · refine lv_iinc (v := (vs + 1)) (lv' := [(4, .int (vs + 1)), (0, .ref (q 0)), (1, .int 1), (2, .int wk), (3, .ref (q 3)), (5, .int (nI k))]) hx hb d_SF_wrongPlace_61 hl (k := 4) rfl rfl (by decide) rfl (fun ls hl => ?_)
                refine lv_iinc (v := (nI (k + 1))) (lv' := [(5, .int (nI (k + 1))), (4, .int (vs + 1)), (0, .ref (q 0)), (1, .int 1), (2, .int wk), (3, .ref (q 3))]) hx hb d_SF_wrongPlace_64 hl (k := 5) rfl (nI_1 k) (by decide) rfl (fun ls hl => ?_)
                refine lv_goto (tgt := 17) hx hb d_SF_wrongPlace_67 (by decide) ?_
                exact ih17 (k + 1) (vs + 1) (by omega) (by omega) (by rw [← heq17]; simp only [f_SF_wrongPlace_1_l17, ← hu_1, ← hu_2, ← hu_6, eq_false c_3, eq_false c_4, eq_false c_5, eq_true c_7, eq_false c_8, ↓reduceIte]) _ _ hP hD hS ls (lv_sub hl [2, 3, 4, 5, 1, 0] rfl)
              · refine lv_iload hx hb d_SF_wrongPlace_58 (lv_at hl 5 rfl) ?_
                rw [hQ]
                exact sf_iret ((nI k), u_1.1, u_1.2.1, u_1.2.2.1, u_1.2.2.2.1, u_1.2.2.2.2.1, u_1.2.2.2.2.2) hx hb hr hlk hS rfl rfl (by rw [← heq17]; simp only [f_SF_wrongPlace_1_l17, ← hu_1, ← hu_2, ← hu_6, eq_false c_3, eq_false c_4, eq_false c_5, eq_true c_7, eq_true c_8, ↓reduceIte]) hP d_SF_wrongPlace_60
  exact loop17 (24 + 1) 0 0 (by omega) (by omega) (by simp only [f_SF_wrongPlace_1, ← hu_1, ↓reduceIte]) _ _ hP hD hS ls (lv_sub hl [3, 4, 5, 2, 1, 0] rfl)
def f_SF_wrongTable_l4 (tb : Nat → Int32) (wk : Int32) : Nat → Nat → Int32 → Int32
  | 0, _, _ => 0
  | fu + 1, k, vs =>
    if 2 ≤ (nI k) then
      (-1)
    else
      if (f_Bl_sumIsRight 80 tb (nI k) 36) = 0 then
        if vs = wk then
          (nI k)
        else
          f_SF_wrongTable_l4 tb wk fu (k + 1) (vs + 1)
      else
        f_SF_wrongTable_l4 tb wk fu (k + 1) vs
def f_SF_wrongTable (tb : Nat → Int32) (wk : Int32) : Int32 :=
  f_SF_wrongTable_l4 tb wk (2 + 1) 0 0
set_option maxHeartbeats 1000000 in
set_option maxRecDepth 100000 in
/-- wrongTable -/
theorem c_SF_wrongTable (l : Launch) (D : va_G) (cI cZ cJ : ClassId) (q : Nat → Nat) (fl : Nat → Int32) (sl : Nat → Int32) (tb : Nat → Int32) (np : Nat → Int32) (nt : Nat → Int32) (cp : Nat → Int32) (cc : Int32) (cb : Int32) (ch : Int32) (cm : Int32) (mp : Nat → Int32) (mc : Int32) (mb : Int32) (mh : Int32) (mm : Int32) (us : Nat → Int32) (ta : Nat → Int32) (tp : Nat → Int32) (tl : Int32) (cu : Int32) (bl : Int32) (pf : Int32) (sh : Int32) (wk : Int32) : sf_M (S := Int32) l D classes (sf_tys cI cZ cJ) y_SF_wrongTable (sf_ws y_SF_wrongTable b_SF_wrongTable 4 (some .int)) 2 49 [.ref (q 0), .int wk] (sf_w q cI cZ fl sl tb np nt cp cc cb ch cm mp mc mb mh mm us ta tp tl cu bl pf sh) (fun r => some (.int r)) (fun r => r = f_SF_wrongTable tb wk) (fun r => (sf_w q cI cZ fl sl tb np nt cp cc cb ch cm mp mc mb mh mm us ta tp tl cu bl pf sh)) := by
  refine sf_ofW (S := Int32) (by decide) (Nat.le_of_ble_eq_true rfl) ?_
  intro p e s m below meth c A ls R args Q hR hArgs hQ hC0 hr hK hP hD hl
  obtain ⟨hx, hb, hml, hown, hts, hA, hlk⟩ := hC0
  have hS : va_S A s.heap s.heap [] := va_S.rf
  have hl : lv_has ls 4 [(0, .ref (q 0)), (1, .int wk)] := hl
  refine lv_iconst (v := 0) hx hb d_SF_wrongTable_0 (by decide) ?_
  refine lv_istore_n (lv' := [(2, .int 0), (0, .ref (q 0)), (1, .int wk)]) hx hb d_SF_wrongTable_1 rfl hl (by decide) rfl (fun ls hl => ?_)
  refine lv_iconst (v := 0) hx hb d_SF_wrongTable_2 (by decide) ?_
  refine lv_istore_n (lv' := [(3, .int 0), (2, .int 0), (0, .ref (q 0)), (1, .int wk)]) hx hb d_SF_wrongTable_3 rfl hl (by decide) rfl (fun ls hl => ?_)
  have loop4 : ∀ (fu k : Nat) (vs : Int32), k ≤ 2 → k + fu = 2 + 1 → f_SF_wrongTable_l4 tb wk fu k vs = f_SF_wrongTable tb wk → ∀ (H : Heap) (locs : List Loc), va_P D classes (sf_w q cI cZ fl sl tb np nt cp cc cb ch cm mp mc mb mh mm us ta tp tl cu bl pf sh) H → va_D A (sf_w q cI cZ fl sl tb np nt cp cc cb ch cm mp mc mb mh mm us ta tp tl cu bl pf sh) → va_S A s.heap H locs → ∀ (ls : Array Slot), lv_has ls 4 [(0, .ref (q 0)), (1, .int wk), (2, .int vs), (3, .int (nI k))] → W p l e R s m args below meth c H locs 0 0 Q (F0 m 4 ls []) := by
    intro fu
    induction fu with
    | zero =>
      intro k vs h1 h2
      exact absurd h2 (by omega)
    | succ fu ih4 =>
      intro k vs hk4 hkn4 heq4 H locs hP hD hS ls hl
      refine lv_iload_n hx hb d_SF_wrongTable_4 rfl (lv_at hl 3 rfl) ?_
      refine lv_iconst (v := 2) hx hb d_SF_wrongTable_5 (by decide) ?_
      refine lv_icmp_ge (tgt := 36) hx hb d_SF_wrongTable_6 (by decide) (fun c_1 => ?_) (fun c_1 => ?_)
      · refine lv_iconst (v := (-1)) hx hb d_SF_wrongTable_36 (by decide) ?_
        rw [hQ]
        exact sf_iret (-1) hx hb hr hlk hS rfl rfl (by rw [← heq4]; simp only [f_SF_wrongTable_l4, eq_true c_1, ↓reduceIte]) hP d_SF_wrongTable_37
      · have hlt : k < 2 := sf_lt_of (N := 2) (by omega) (by omega) c_1
        refine lv_aload_n hx hb d_SF_wrongTable_9 rfl (lv_at hl 0 rfl) ?_
        refine va_get (D := D) (ci := 2) (v := .ref (q 5)) (C := R_SF) (T := F_SF) (N := 15) hx hb hts i_SF hown hK hP 0 rfl rfl 2 (by decide) (hts _ wd_112) (fun _ h9 => h9) rfl d_SF_wrongTable_10 ?_
        refine lv_iload_n hx hb d_SF_wrongTable_13 rfl (lv_at hl 3 rfl) ?_
        refine sf_callVr (S := Int32) (rest := []) ⟨hx, hb, hml, hown, hts⟩ (c_Bl_sumIsRight l D cI cZ cJ (q 5) (q 6) 80 tb (nI k) 36 (by omega) (by omega)) (sf_cwV lk_SF_215 hts (fun _ h => h) (by rw [hR]; exact ⟨Nat.le_of_ble_eq_true rfl, Nat.le_of_ble_eq_true rfl⟩)) hK hP hD hS hA [5, 6] rfl rfl (fun _ => rfl) (ci := 0) (q0 := 0) rfl rfl rfl rfl rfl hl.1 (Nat.le_of_ble_eq_true rfl) d_SF_wrongTable_14 ⟨Nat.zero_le _, Nat.zero_le _⟩ (fun u_2 H locs hu_2 hP hS => ?_)
        refine lv_if_ne (tgt := 30) hx hb d_SF_wrongTable_17 (by decide) (fun c_3 => ?_) (fun c_3 => ?_)
        · refine lv_iinc (v := (nI (k + 1))) (lv' := [(3, .int (nI (k + 1))), (0, .ref (q 0)), (1, .int wk), (2, .int vs)]) hx hb d_SF_wrongTable_30 hl (k := 3) rfl (nI_1 k) (by decide) rfl (fun ls hl => ?_)
          refine lv_goto (tgt := 4) hx hb d_SF_wrongTable_33 (by decide) ?_
          exact ih4 (k + 1) vs (by omega) (by omega) (by rw [← heq4]; simp only [f_SF_wrongTable_l4, ← hu_2, eq_false c_1, eq_false c_3, ↓reduceIte]) _ _ hP hD hS ls (lv_sub hl [1, 2, 3, 0] rfl)
        · refine lv_iload_n hx hb d_SF_wrongTable_20 rfl (lv_at hl 2 rfl) ?_
          refine lv_iload_n hx hb d_SF_wrongTable_21 rfl (lv_at hl 1 rfl) ?_
          refine lv_icmp_ne (tgt := 27) hx hb d_SF_wrongTable_22 (by decide) (fun c_4 => ?_) (fun c_4 => ?_)
          · refine lv_iinc (v := (vs + 1)) (lv' := [(2, .int (vs + 1)), (0, .ref (q 0)), (1, .int wk), (3, .int (nI k))]) hx hb d_SF_wrongTable_27 hl (k := 2) rfl rfl (by decide) rfl (fun ls hl => ?_)
            refine lv_iinc (v := (nI (k + 1))) (lv' := [(3, .int (nI (k + 1))), (2, .int (vs + 1)), (0, .ref (q 0)), (1, .int wk)]) hx hb d_SF_wrongTable_30 hl (k := 3) rfl (nI_1 k) (by decide) rfl (fun ls hl => ?_)
            refine lv_goto (tgt := 4) hx hb d_SF_wrongTable_33 (by decide) ?_
            exact ih4 (k + 1) (vs + 1) (by omega) (by omega) (by rw [← heq4]; simp only [f_SF_wrongTable_l4, ← hu_2, eq_false c_1, eq_true c_3, eq_false c_4, ↓reduceIte]) _ _ hP hD hS ls (lv_sub hl [2, 3, 1, 0] rfl)
          · refine lv_iload_n hx hb d_SF_wrongTable_25 rfl (lv_at hl 3 rfl) ?_
            rw [hQ]
            exact sf_iret (nI k) hx hb hr hlk hS rfl rfl (by rw [← heq4]; simp only [f_SF_wrongTable_l4, ← hu_2, eq_false c_1, eq_true c_3, eq_true c_4, ↓reduceIte]) hP d_SF_wrongTable_26
  exact loop4 (2 + 1) 0 0 (by omega) (by omega) (by simp only [f_SF_wrongTable, ↓reduceIte]) _ _ hP hD hS ls (lv_sub hl [2, 3, 1, 0] rfl)
