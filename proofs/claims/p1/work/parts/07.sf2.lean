/-! sf2: contracts, with the pure functions that they speak of (printed by wip/gen) -/
set_option maxRecDepth 20000 in
theorem wd_80 : Cond.fieldLink R_SF 253 "ShadowFiles$Blocks" "size" "I" ∈ sf_tb := sf_tb_in 80 rfl rfl
set_option maxRecDepth 20000 in
theorem wd_113 : Cond.fieldLink R_SF 24 "ShadowFiles" "nextPlace" "LShadowFiles$Blocks;" ∈ sf_tb := sf_tb_in 113 rfl rfl
set_option maxRecDepth 20000 in
theorem wd_402 : Cond.methodLink R_SF 259 Lib.Math.min.name ∈ sf_tb := sf_tb_in 402 rfl rfl
set_option maxRecDepth 20000 in
theorem wd_403 : Cond.static Lib.Math.min.name ∈ sf_tb := sf_tb_in 403 rfl rfl
set_option maxRecDepth 20000 in
theorem wd_63 : Cond.initialized "java/lang/Math" ∈ sf_tb := sf_tb_in 63 rfl rfl
set_option maxRecDepth 20000 in
theorem wd_404 : Cond.code Lib.Math.min.name Lib.Math.min.code 2 (some .int) ∈ sf_tb := sf_tb_in 404 rfl rfl
set_option maxRecDepth 20000 in
theorem wd_95 : Cond.fieldLink R_SF 136 "ShadowFiles$Chain" "count" "I" ∈ sf_tb := sf_tb_in 95 rfl rfl
set_option maxRecDepth 20000 in
theorem wd_114 : Cond.fieldLink R_SF 27 "ShadowFiles" "nextTable" "LShadowFiles$Blocks;" ∈ sf_tb := sf_tb_in 114 rfl rfl
set_option maxRecDepth 20000 in
theorem wd_413 : Cond.methodLink R_SF 209 y_Bl_set ∈ sf_tb := sf_tb_in 413 rfl rfl
set_option maxRecDepth 20000 in
theorem wd_416 : Cond.code y_Bl_set b_Bl_set 5 none ∈ sf_tb := sf_tb_in 416 rfl rfl
set_option maxRecDepth 20000 in
theorem wd_414 : Cond.instanceMethod y_Bl_set ∈ sf_tb := sf_tb_in 414 rfl rfl
set_option maxRecDepth 20000 in
theorem wd_415 : Cond.selects R_Bl y_Bl_set y_Bl_set ∈ sf_tb := sf_tb_in 415 rfl rfl
set_option maxRecDepth 20000 in
theorem wd_386 : Cond.methodLink R_SF 237 y_Ch_placeAt ∈ sf_tb := sf_tb_in 386 rfl rfl
set_option maxRecDepth 20000 in
theorem wd_428 : Cond.methodLink R_SF 256 y_Bl_sumOf ∈ sf_tb := sf_tb_in 428 rfl rfl
set_option maxRecDepth 20000 in
theorem wd_405 : Cond.methodLink R_SF 264 y_SF_linkBehind ∈ sf_tb := sf_tb_in 405 rfl rfl
set_option maxRecDepth 20000 in
theorem wd_408 : Cond.code y_SF_linkBehind b_SF_linkBehind 3 (some .int) ∈ sf_tb := sf_tb_in 408 rfl rfl
set_option maxRecDepth 20000 in
theorem wd_407 : Cond.instanceMethod y_SF_linkBehind ∈ sf_tb := sf_tb_in 407 rfl rfl
set_option maxRecDepth 20000 in
theorem wd_16 : Cond.selects R_SF y_SF_linkBehind y_SF_linkBehind ∈ sf_tb := sf_tb_in 16 rfl rfl
set_option maxRecDepth 20000 in
theorem wd_417 : Cond.methodLink R_SF 267 y_SF_tapeAt ∈ sf_tb := sf_tb_in 417 rfl rfl
set_option maxRecDepth 20000 in
theorem wd_420 : Cond.code y_SF_tapeAt b_SF_tapeAt 2 (some .int) ∈ sf_tb := sf_tb_in 420 rfl rfl
set_option maxRecDepth 20000 in
theorem wd_419 : Cond.instanceMethod y_SF_tapeAt ∈ sf_tb := sf_tb_in 419 rfl rfl
set_option maxRecDepth 20000 in
theorem wd_18 : Cond.selects R_SF y_SF_tapeAt y_SF_tapeAt ∈ sf_tb := sf_tb_in 18 rfl rfl
set_option maxRecDepth 20000 in
theorem wd_425 : Cond.methodLink R_SF 270 y_SF_setSum ∈ sf_tb := sf_tb_in 425 rfl rfl
set_option maxRecDepth 20000 in
theorem wd_427 : Cond.code y_SF_setSum b_SF_setSum 4 none ∈ sf_tb := sf_tb_in 427 rfl rfl
set_option maxRecDepth 20000 in
theorem wd_426 : Cond.static y_SF_setSum ∈ sf_tb := sf_tb_in 426 rfl rfl
set_option maxRecDepth 20000 in
theorem wd_429 : Cond.methodLink R_SF 274 y_SF_putBlock ∈ sf_tb := sf_tb_in 429 rfl rfl
set_option maxRecDepth 20000 in
theorem wd_432 : Cond.code y_SF_putBlock b_SF_putBlock 5 none ∈ sf_tb := sf_tb_in 432 rfl rfl
set_option maxRecDepth 20000 in
theorem wd_431 : Cond.instanceMethod y_SF_putBlock ∈ sf_tb := sf_tb_in 431 rfl rfl
set_option maxRecDepth 20000 in
theorem wd_20 : Cond.selects R_SF y_SF_putBlock y_SF_putBlock ∈ sf_tb := sf_tb_in 20 rfl rfl
theorem lk_SF_209 : sf_LV R_SF 209 y_Bl_set b_Bl_set 5 none 3 := ⟨wd_416, wd_413, wd_414, wd_415, wd_53, by decide +kernel⟩
theorem lk_SF_237 : sf_LV R_SF 237 y_Ch_placeAt b_Ch_placeAt 2 (some .int) 1 := ⟨wd_389, wd_386, wd_387, wd_388, wd_54, by decide +kernel⟩
theorem lk_SF_256 : sf_LV R_SF 256 y_Bl_sumOf b_Bl_sumOf 7 (some .int) 2 := ⟨wd_185, wd_428, wd_183, wd_184, wd_53, by decide +kernel⟩
theorem lk_SF_264 : sf_LV R_SF 264 y_SF_linkBehind b_SF_linkBehind 3 (some .int) 2 := ⟨wd_408, wd_405, wd_407, wd_16, wd_52, by decide +kernel⟩
theorem lk_SF_267 : sf_LV R_SF 267 y_SF_tapeAt b_SF_tapeAt 2 (some .int) 1 := ⟨wd_420, wd_417, wd_419, wd_18, wd_52, by decide +kernel⟩
theorem lk_SF_270 : sf_LS R_SF 270 y_SF_setSum b_SF_setSum 4 none 1 := ⟨wd_427, wd_425, wd_426, wd_52, by decide +kernel⟩
theorem lk_SF_274 : sf_LV R_SF 274 y_SF_putBlock b_SF_putBlock 5 none 3 := ⟨wd_432, wd_429, wd_431, wd_20, wd_52, by decide +kernel⟩
theorem d_SF_setSum_0 : decode b_SF_setSum 0 = .ok (.aload_n 0, 1) := by decide +kernel
theorem d_SF_setSum_1 : decode b_SF_setSum 1 = .ok (.getfield 253, 3) := by decide +kernel
theorem d_SF_setSum_4 : decode b_SF_setSum 4 = .ok (.iconst 4, 1) := by decide +kernel
theorem d_SF_setSum_5 : decode b_SF_setSum 5 = .ok (.isub, 1) := by decide +kernel
theorem d_SF_setSum_6 : decode b_SF_setSum 6 = .ok (.istore_n 1, 1) := by decide +kernel
theorem d_SF_setSum_7 : decode b_SF_setSum 7 = .ok (.aload_n 0, 1) := by decide +kernel
theorem d_SF_setSum_8 : decode b_SF_setSum 8 = .ok (.iconst 0, 1) := by decide +kernel
theorem d_SF_setSum_9 : decode b_SF_setSum 9 = .ok (.iload_n 1, 1) := by decide +kernel
theorem d_SF_setSum_10 : decode b_SF_setSum 10 = .ok (.invokevirtual 256, 3) := by decide +kernel
theorem d_SF_setSum_13 : decode b_SF_setSum 13 = .ok (.istore_n 2, 1) := by decide +kernel
theorem d_SF_setSum_14 : decode b_SF_setSum 14 = .ok (.iconst 0, 1) := by decide +kernel
theorem d_SF_setSum_15 : decode b_SF_setSum 15 = .ok (.istore_n 3, 1) := by decide +kernel
theorem d_SF_setSum_16 : decode b_SF_setSum 16 = .ok (.iload_n 3, 1) := by decide +kernel
theorem d_SF_setSum_17 : decode b_SF_setSum 17 = .ok (.iconst 4, 1) := by decide +kernel
theorem d_SF_setSum_18 : decode b_SF_setSum 18 = .ok (.if_icmp .ge 25, 3) := by decide +kernel
theorem d_SF_setSum_21 : decode b_SF_setSum 21 = .ok (.aload_n 0, 1) := by decide +kernel
theorem d_SF_setSum_22 : decode b_SF_setSum 22 = .ok (.iconst 0, 1) := by decide +kernel
theorem d_SF_setSum_23 : decode b_SF_setSum 23 = .ok (.iload_n 1, 1) := by decide +kernel
theorem d_SF_setSum_24 : decode b_SF_setSum 24 = .ok (.iload_n 3, 1) := by decide +kernel
theorem d_SF_setSum_25 : decode b_SF_setSum 25 = .ok (.iadd, 1) := by decide +kernel
theorem d_SF_setSum_26 : decode b_SF_setSum 26 = .ok (.iload_n 2, 1) := by decide +kernel
theorem d_SF_setSum_27 : decode b_SF_setSum 27 = .ok (.bipush 8, 2) := by decide +kernel
theorem d_SF_setSum_29 : decode b_SF_setSum 29 = .ok (.iconst 3, 1) := by decide +kernel
theorem d_SF_setSum_30 : decode b_SF_setSum 30 = .ok (.iload_n 3, 1) := by decide +kernel
theorem d_SF_setSum_31 : decode b_SF_setSum 31 = .ok (.isub, 1) := by decide +kernel
theorem d_SF_setSum_32 : decode b_SF_setSum 32 = .ok (.imul, 1) := by decide +kernel
theorem d_SF_setSum_33 : decode b_SF_setSum 33 = .ok (.iushr, 1) := by decide +kernel
theorem d_SF_setSum_34 : decode b_SF_setSum 34 = .ok (.invokevirtual 209, 3) := by decide +kernel
theorem d_SF_setSum_37 : decode b_SF_setSum 37 = .ok (.iinc 3 1, 3) := by decide +kernel
theorem d_SF_setSum_40 : decode b_SF_setSum 40 = .ok (.goto (-24), 3) := by decide +kernel
theorem d_SF_setSum_43 : decode b_SF_setSum 43 = .ok (.return_, 1) := by decide +kernel
theorem d_SF_putBlock_0 : decode b_SF_putBlock 0 = .ok (.iconst 0, 1) := by decide +kernel
theorem d_SF_putBlock_1 : decode b_SF_putBlock 1 = .ok (.istore 4, 2) := by decide +kernel
theorem d_SF_putBlock_3 : decode b_SF_putBlock 3 = .ok (.iload 4, 2) := by decide +kernel
theorem d_SF_putBlock_5 : decode b_SF_putBlock 5 = .ok (.aload_n 1, 1) := by decide +kernel
theorem d_SF_putBlock_6 : decode b_SF_putBlock 6 = .ok (.getfield 253, 3) := by decide +kernel
theorem d_SF_putBlock_9 : decode b_SF_putBlock 9 = .ok (.if_icmp .ge 40, 3) := by decide +kernel
theorem d_SF_putBlock_12 : decode b_SF_putBlock 12 = .ok (.aload_n 0, 1) := by decide +kernel
theorem d_SF_putBlock_13 : decode b_SF_putBlock 13 = .ok (.getfield 250, 3) := by decide +kernel
theorem d_SF_putBlock_16 : decode b_SF_putBlock 16 = .ok (.ifCond .le 33, 3) := by decide +kernel
theorem d_SF_putBlock_19 : decode b_SF_putBlock 19 = .ok (.aload_n 2, 1) := by decide +kernel
theorem d_SF_putBlock_20 : decode b_SF_putBlock 20 = .ok (.iload_n 3, 1) := by decide +kernel
theorem d_SF_putBlock_21 : decode b_SF_putBlock 21 = .ok (.iload 4, 2) := by decide +kernel
theorem d_SF_putBlock_23 : decode b_SF_putBlock 23 = .ok (.aload_n 1, 1) := by decide +kernel
theorem d_SF_putBlock_24 : decode b_SF_putBlock 24 = .ok (.iconst 0, 1) := by decide +kernel
theorem d_SF_putBlock_25 : decode b_SF_putBlock 25 = .ok (.iload 4, 2) := by decide +kernel
theorem d_SF_putBlock_27 : decode b_SF_putBlock 27 = .ok (.invokevirtual 203, 3) := by decide +kernel
theorem d_SF_putBlock_30 : decode b_SF_putBlock 30 = .ok (.invokevirtual 209, 3) := by decide +kernel
theorem d_SF_putBlock_33 : decode b_SF_putBlock 33 = .ok (.aload_n 0, 1) := by decide +kernel
theorem d_SF_putBlock_34 : decode b_SF_putBlock 34 = .ok (.dup, 1) := by decide +kernel
theorem d_SF_putBlock_35 : decode b_SF_putBlock 35 = .ok (.getfield 250, 3) := by decide +kernel
theorem d_SF_putBlock_38 : decode b_SF_putBlock 38 = .ok (.iconst 1, 1) := by decide +kernel
theorem d_SF_putBlock_39 : decode b_SF_putBlock 39 = .ok (.isub, 1) := by decide +kernel
theorem d_SF_putBlock_40 : decode b_SF_putBlock 40 = .ok (.putfield 250, 3) := by decide +kernel
theorem d_SF_putBlock_43 : decode b_SF_putBlock 43 = .ok (.iinc 4 1, 3) := by decide +kernel
theorem d_SF_putBlock_46 : decode b_SF_putBlock 46 = .ok (.goto (-43), 3) := by decide +kernel
theorem d_SF_putBlock_49 : decode b_SF_putBlock 49 = .ok (.return_, 1) := by decide +kernel
theorem d_SF_putPlace_0 : decode b_SF_putPlace 0 = .ok (.aload_n 0, 1) := by decide +kernel
theorem d_SF_putPlace_1 : decode b_SF_putPlace 1 = .ok (.getfield 24, 3) := by decide +kernel
theorem d_SF_putPlace_4 : decode b_SF_putPlace 4 = .ok (.invokestatic 270, 3) := by decide +kernel
theorem d_SF_putPlace_7 : decode b_SF_putPlace 7 = .ok (.aload_n 0, 1) := by decide +kernel
theorem d_SF_putPlace_8 : decode b_SF_putPlace 8 = .ok (.aload_n 0, 1) := by decide +kernel
theorem d_SF_putPlace_9 : decode b_SF_putPlace 9 = .ok (.getfield 24, 3) := by decide +kernel
theorem d_SF_putPlace_12 : decode b_SF_putPlace 12 = .ok (.aload_n 1, 1) := by decide +kernel
theorem d_SF_putPlace_13 : decode b_SF_putPlace 13 = .ok (.iload_n 2, 1) := by decide +kernel
theorem d_SF_putPlace_14 : decode b_SF_putPlace 14 = .ok (.invokevirtual 274, 3) := by decide +kernel
theorem d_SF_putPlace_17 : decode b_SF_putPlace 17 = .ok (.return_, 1) := by decide +kernel
theorem d_SF_preparePlaceFromTape_0 : decode b_SF_preparePlaceFromTape 0 = .ok (.iload_n 1, 1) := by decide +kernel
theorem d_SF_preparePlaceFromTape_1 : decode b_SF_preparePlaceFromTape 1 = .ok (.bipush 25, 2) := by decide +kernel
theorem d_SF_preparePlaceFromTape_3 : decode b_SF_preparePlaceFromTape 3 = .ok (.imul, 1) := by decide +kernel
theorem d_SF_preparePlaceFromTape_4 : decode b_SF_preparePlaceFromTape 4 = .ok (.istore 4, 2) := by decide +kernel
theorem d_SF_preparePlaceFromTape_6 : decode b_SF_preparePlaceFromTape 6 = .ok (.bipush 25, 2) := by decide +kernel
theorem d_SF_preparePlaceFromTape_8 : decode b_SF_preparePlaceFromTape 8 = .ok (.aload_n 0, 1) := by decide +kernel
theorem d_SF_preparePlaceFromTape_9 : decode b_SF_preparePlaceFromTape 9 = .ok (.getfield 62, 3) := by decide +kernel
theorem d_SF_preparePlaceFromTape_12 : decode b_SF_preparePlaceFromTape 12 = .ok (.iload 4, 2) := by decide +kernel
theorem d_SF_preparePlaceFromTape_14 : decode b_SF_preparePlaceFromTape 14 = .ok (.isub, 1) := by decide +kernel
theorem d_SF_preparePlaceFromTape_15 : decode b_SF_preparePlaceFromTape 15 = .ok (.invokestatic 259, 3) := by decide +kernel
theorem d_SF_preparePlaceFromTape_18 : decode b_SF_preparePlaceFromTape 18 = .ok (.istore 5, 2) := by decide +kernel
theorem d_SF_preparePlaceFromTape_20 : decode b_SF_preparePlaceFromTape 20 = .ok (.aload_n 0, 1) := by decide +kernel
theorem d_SF_preparePlaceFromTape_21 : decode b_SF_preparePlaceFromTape 21 = .ok (.getfield 24, 3) := by decide +kernel
theorem d_SF_preparePlaceFromTape_24 : decode b_SF_preparePlaceFromTape 24 = .ok (.iconst 0, 1) := by decide +kernel
theorem d_SF_preparePlaceFromTape_25 : decode b_SF_preparePlaceFromTape 25 = .ok (.iconst 0, 1) := by decide +kernel
theorem d_SF_preparePlaceFromTape_26 : decode b_SF_preparePlaceFromTape 26 = .ok (.aload_n 0, 1) := by decide +kernel
theorem d_SF_preparePlaceFromTape_27 : decode b_SF_preparePlaceFromTape 27 = .ok (.iload_n 1, 1) := by decide +kernel
theorem d_SF_preparePlaceFromTape_28 : decode b_SF_preparePlaceFromTape 28 = .ok (.iload_n 2, 1) := by decide +kernel
theorem d_SF_preparePlaceFromTape_29 : decode b_SF_preparePlaceFromTape 29 = .ok (.invokevirtual 264, 3) := by decide +kernel
theorem d_SF_preparePlaceFromTape_32 : decode b_SF_preparePlaceFromTape 32 = .ok (.invokevirtual 209, 3) := by decide +kernel
theorem d_SF_preparePlaceFromTape_35 : decode b_SF_preparePlaceFromTape 35 = .ok (.aload_n 0, 1) := by decide +kernel
theorem d_SF_preparePlaceFromTape_36 : decode b_SF_preparePlaceFromTape 36 = .ok (.getfield 24, 3) := by decide +kernel
theorem d_SF_preparePlaceFromTape_39 : decode b_SF_preparePlaceFromTape 39 = .ok (.iconst 0, 1) := by decide +kernel
theorem d_SF_preparePlaceFromTape_40 : decode b_SF_preparePlaceFromTape 40 = .ok (.iconst 1, 1) := by decide +kernel
theorem d_SF_preparePlaceFromTape_41 : decode b_SF_preparePlaceFromTape 41 = .ok (.iload 5, 2) := by decide +kernel
theorem d_SF_preparePlaceFromTape_43 : decode b_SF_preparePlaceFromTape 43 = .ok (.invokevirtual 209, 3) := by decide +kernel
theorem d_SF_preparePlaceFromTape_46 : decode b_SF_preparePlaceFromTape 46 = .ok (.aload_n 0, 1) := by decide +kernel
theorem d_SF_preparePlaceFromTape_47 : decode b_SF_preparePlaceFromTape 47 = .ok (.getfield 24, 3) := by decide +kernel
theorem d_SF_preparePlaceFromTape_50 : decode b_SF_preparePlaceFromTape 50 = .ok (.iconst 0, 1) := by decide +kernel
theorem d_SF_preparePlaceFromTape_51 : decode b_SF_preparePlaceFromTape 51 = .ok (.iconst 2, 1) := by decide +kernel
theorem d_SF_preparePlaceFromTape_52 : decode b_SF_preparePlaceFromTape 52 = .ok (.iload_n 3, 1) := by decide +kernel
theorem d_SF_preparePlaceFromTape_53 : decode b_SF_preparePlaceFromTape 53 = .ok (.invokevirtual 209, 3) := by decide +kernel
theorem d_SF_preparePlaceFromTape_56 : decode b_SF_preparePlaceFromTape 56 = .ok (.iconst 0, 1) := by decide +kernel
theorem d_SF_preparePlaceFromTape_57 : decode b_SF_preparePlaceFromTape 57 = .ok (.istore 6, 2) := by decide +kernel
theorem d_SF_preparePlaceFromTape_59 : decode b_SF_preparePlaceFromTape 59 = .ok (.iload 6, 2) := by decide +kernel
theorem d_SF_preparePlaceFromTape_61 : decode b_SF_preparePlaceFromTape 61 = .ok (.bipush 25, 2) := by decide +kernel
theorem d_SF_preparePlaceFromTape_63 : decode b_SF_preparePlaceFromTape 63 = .ok (.if_icmp .ge 41, 3) := by decide +kernel
theorem d_SF_preparePlaceFromTape_66 : decode b_SF_preparePlaceFromTape 66 = .ok (.aload_n 0, 1) := by decide +kernel
theorem d_SF_preparePlaceFromTape_67 : decode b_SF_preparePlaceFromTape 67 = .ok (.getfield 24, 3) := by decide +kernel
theorem d_SF_preparePlaceFromTape_70 : decode b_SF_preparePlaceFromTape 70 = .ok (.iconst 0, 1) := by decide +kernel
theorem d_SF_preparePlaceFromTape_71 : decode b_SF_preparePlaceFromTape 71 = .ok (.iconst 3, 1) := by decide +kernel
theorem d_SF_preparePlaceFromTape_72 : decode b_SF_preparePlaceFromTape 72 = .ok (.iload 6, 2) := by decide +kernel
theorem d_SF_preparePlaceFromTape_74 : decode b_SF_preparePlaceFromTape 74 = .ok (.iadd, 1) := by decide +kernel
theorem d_SF_preparePlaceFromTape_75 : decode b_SF_preparePlaceFromTape 75 = .ok (.iload 6, 2) := by decide +kernel
theorem d_SF_preparePlaceFromTape_77 : decode b_SF_preparePlaceFromTape 77 = .ok (.iload 5, 2) := by decide +kernel
theorem d_SF_preparePlaceFromTape_79 : decode b_SF_preparePlaceFromTape 79 = .ok (.if_icmp .ge 15, 3) := by decide +kernel
theorem d_SF_preparePlaceFromTape_82 : decode b_SF_preparePlaceFromTape 82 = .ok (.aload_n 0, 1) := by decide +kernel
theorem d_SF_preparePlaceFromTape_83 : decode b_SF_preparePlaceFromTape 83 = .ok (.iload 4, 2) := by decide +kernel
theorem d_SF_preparePlaceFromTape_85 : decode b_SF_preparePlaceFromTape 85 = .ok (.iload 6, 2) := by decide +kernel
theorem d_SF_preparePlaceFromTape_87 : decode b_SF_preparePlaceFromTape 87 = .ok (.iadd, 1) := by decide +kernel
theorem d_SF_preparePlaceFromTape_88 : decode b_SF_preparePlaceFromTape 88 = .ok (.invokevirtual 267, 3) := by decide +kernel
theorem d_SF_preparePlaceFromTape_91 : decode b_SF_preparePlaceFromTape 91 = .ok (.goto 4, 3) := by decide +kernel
theorem d_SF_preparePlaceFromTape_94 : decode b_SF_preparePlaceFromTape 94 = .ok (.iconst 0, 1) := by decide +kernel
theorem d_SF_preparePlaceFromTape_95 : decode b_SF_preparePlaceFromTape 95 = .ok (.invokevirtual 209, 3) := by decide +kernel
theorem d_SF_preparePlaceFromTape_98 : decode b_SF_preparePlaceFromTape 98 = .ok (.iinc 6 1, 3) := by decide +kernel
theorem d_SF_preparePlaceFromTape_101 : decode b_SF_preparePlaceFromTape 101 = .ok (.goto (-42), 3) := by decide +kernel
theorem d_SF_preparePlaceFromTape_104 : decode b_SF_preparePlaceFromTape 104 = .ok (.return_, 1) := by decide +kernel
theorem d_SF_preparePlaceFromChain_0 : decode b_SF_preparePlaceFromChain 0 = .ok (.aload_n 0, 1) := by decide +kernel
theorem d_SF_preparePlaceFromChain_1 : decode b_SF_preparePlaceFromChain 1 = .ok (.getfield 24, 3) := by decide +kernel
theorem d_SF_preparePlaceFromChain_4 : decode b_SF_preparePlaceFromChain 4 = .ok (.iconst 0, 1) := by decide +kernel
theorem d_SF_preparePlaceFromChain_5 : decode b_SF_preparePlaceFromChain 5 = .ok (.iconst 0, 1) := by decide +kernel
theorem d_SF_preparePlaceFromChain_6 : decode b_SF_preparePlaceFromChain 6 = .ok (.aload_n 0, 1) := by decide +kernel
theorem d_SF_preparePlaceFromChain_7 : decode b_SF_preparePlaceFromChain 7 = .ok (.iload_n 1, 1) := by decide +kernel
theorem d_SF_preparePlaceFromChain_8 : decode b_SF_preparePlaceFromChain 8 = .ok (.aload_n 0, 1) := by decide +kernel
theorem d_SF_preparePlaceFromChain_9 : decode b_SF_preparePlaceFromChain 9 = .ok (.getfield 33, 3) := by decide +kernel
theorem d_SF_preparePlaceFromChain_12 : decode b_SF_preparePlaceFromChain 12 = .ok (.getfield 136, 3) := by decide +kernel
theorem d_SF_preparePlaceFromChain_15 : decode b_SF_preparePlaceFromChain 15 = .ok (.invokevirtual 264, 3) := by decide +kernel
theorem d_SF_preparePlaceFromChain_18 : decode b_SF_preparePlaceFromChain 18 = .ok (.invokevirtual 209, 3) := by decide +kernel
theorem d_SF_preparePlaceFromChain_21 : decode b_SF_preparePlaceFromChain 21 = .ok (.iconst 1, 1) := by decide +kernel
theorem d_SF_preparePlaceFromChain_22 : decode b_SF_preparePlaceFromChain 22 = .ok (.istore_n 2, 1) := by decide +kernel
theorem d_SF_preparePlaceFromChain_23 : decode b_SF_preparePlaceFromChain 23 = .ok (.iload_n 2, 1) := by decide +kernel
theorem d_SF_preparePlaceFromChain_24 : decode b_SF_preparePlaceFromChain 24 = .ok (.bipush 28, 2) := by decide +kernel
theorem d_SF_preparePlaceFromChain_26 : decode b_SF_preparePlaceFromChain 26 = .ok (.if_icmp .ge 34, 3) := by decide +kernel
theorem d_SF_preparePlaceFromChain_29 : decode b_SF_preparePlaceFromChain 29 = .ok (.aload_n 0, 1) := by decide +kernel
theorem d_SF_preparePlaceFromChain_30 : decode b_SF_preparePlaceFromChain 30 = .ok (.getfield 24, 3) := by decide +kernel
theorem d_SF_preparePlaceFromChain_33 : decode b_SF_preparePlaceFromChain 33 = .ok (.iconst 0, 1) := by decide +kernel
theorem d_SF_preparePlaceFromChain_34 : decode b_SF_preparePlaceFromChain 34 = .ok (.iload_n 2, 1) := by decide +kernel
theorem d_SF_preparePlaceFromChain_35 : decode b_SF_preparePlaceFromChain 35 = .ok (.aload_n 0, 1) := by decide +kernel
theorem d_SF_preparePlaceFromChain_36 : decode b_SF_preparePlaceFromChain 36 = .ok (.getfield 14, 3) := by decide +kernel
theorem d_SF_preparePlaceFromChain_39 : decode b_SF_preparePlaceFromChain 39 = .ok (.aload_n 0, 1) := by decide +kernel
theorem d_SF_preparePlaceFromChain_40 : decode b_SF_preparePlaceFromChain 40 = .ok (.getfield 33, 3) := by decide +kernel
theorem d_SF_preparePlaceFromChain_43 : decode b_SF_preparePlaceFromChain 43 = .ok (.iload_n 1, 1) := by decide +kernel
theorem d_SF_preparePlaceFromChain_44 : decode b_SF_preparePlaceFromChain 44 = .ok (.invokevirtual 237, 3) := by decide +kernel
theorem d_SF_preparePlaceFromChain_47 : decode b_SF_preparePlaceFromChain 47 = .ok (.iload_n 2, 1) := by decide +kernel
theorem d_SF_preparePlaceFromChain_48 : decode b_SF_preparePlaceFromChain 48 = .ok (.invokevirtual 203, 3) := by decide +kernel
theorem d_SF_preparePlaceFromChain_51 : decode b_SF_preparePlaceFromChain 51 = .ok (.invokevirtual 209, 3) := by decide +kernel
theorem d_SF_preparePlaceFromChain_54 : decode b_SF_preparePlaceFromChain 54 = .ok (.iinc 2 1, 3) := by decide +kernel
theorem d_SF_preparePlaceFromChain_57 : decode b_SF_preparePlaceFromChain 57 = .ok (.goto (-34), 3) := by decide +kernel
theorem d_SF_preparePlaceFromChain_60 : decode b_SF_preparePlaceFromChain 60 = .ok (.return_, 1) := by decide +kernel
theorem d_SF_putTable_0 : decode b_SF_putTable 0 = .ok (.aload_n 0, 1) := by decide +kernel
theorem d_SF_putTable_1 : decode b_SF_putTable 1 = .ok (.invokevirtual 179, 3) := by decide +kernel
theorem d_SF_putTable_4 : decode b_SF_putTable 4 = .ok (.istore 4, 2) := by decide +kernel
theorem d_SF_putTable_6 : decode b_SF_putTable 6 = .ok (.aload_n 0, 1) := by decide +kernel
theorem d_SF_putTable_7 : decode b_SF_putTable 7 = .ok (.getfield 27, 3) := by decide +kernel
theorem d_SF_putTable_10 : decode b_SF_putTable 10 = .ok (.iconst 0, 1) := by decide +kernel
theorem d_SF_putTable_11 : decode b_SF_putTable 11 = .ok (.iconst 0, 1) := by decide +kernel
theorem d_SF_putTable_12 : decode b_SF_putTable 12 = .ok (.aload_n 0, 1) := by decide +kernel
theorem d_SF_putTable_13 : decode b_SF_putTable 13 = .ok (.iload 4, 2) := by decide +kernel
theorem d_SF_putTable_15 : decode b_SF_putTable 15 = .ok (.invokevirtual 182, 3) := by decide +kernel
theorem d_SF_putTable_18 : decode b_SF_putTable 18 = .ok (.invokestatic 221, 3) := by decide +kernel
theorem d_SF_putTable_21 : decode b_SF_putTable 21 = .ok (.invokevirtual 209, 3) := by decide +kernel
theorem d_SF_putTable_24 : decode b_SF_putTable 24 = .ok (.iconst 0, 1) := by decide +kernel
theorem d_SF_putTable_25 : decode b_SF_putTable 25 = .ok (.istore 5, 2) := by decide +kernel
theorem d_SF_putTable_27 : decode b_SF_putTable 27 = .ok (.iload 5, 2) := by decide +kernel
theorem d_SF_putTable_29 : decode b_SF_putTable 29 = .ok (.bipush 12, 2) := by decide +kernel
theorem d_SF_putTable_31 : decode b_SF_putTable 31 = .ok (.if_icmp .ge 72, 3) := by decide +kernel
theorem d_SF_putTable_34 : decode b_SF_putTable 34 = .ok (.aload_n 0, 1) := by decide +kernel
theorem d_SF_putTable_35 : decode b_SF_putTable 35 = .ok (.getfield 27, 3) := by decide +kernel
theorem d_SF_putTable_38 : decode b_SF_putTable 38 = .ok (.iconst 0, 1) := by decide +kernel
theorem d_SF_putTable_39 : decode b_SF_putTable 39 = .ok (.iconst 1, 1) := by decide +kernel
theorem d_SF_putTable_40 : decode b_SF_putTable 40 = .ok (.iload 5, 2) := by decide +kernel
theorem d_SF_putTable_42 : decode b_SF_putTable 42 = .ok (.iadd, 1) := by decide +kernel
theorem d_SF_putTable_43 : decode b_SF_putTable 43 = .ok (.iload 5, 2) := by decide +kernel
theorem d_SF_putTable_45 : decode b_SF_putTable 45 = .ok (.iload_n 1, 1) := by decide +kernel
theorem d_SF_putTable_46 : decode b_SF_putTable 46 = .ok (.if_icmp .ne 7, 3) := by decide +kernel
theorem d_SF_putTable_49 : decode b_SF_putTable 49 = .ok (.iload_n 2, 1) := by decide +kernel
theorem d_SF_putTable_50 : decode b_SF_putTable 50 = .ok (.goto 12, 3) := by decide +kernel
theorem d_SF_putTable_53 : decode b_SF_putTable 53 = .ok (.aload_n 0, 1) := by decide +kernel
theorem d_SF_putTable_54 : decode b_SF_putTable 54 = .ok (.iload 4, 2) := by decide +kernel
theorem d_SF_putTable_56 : decode b_SF_putTable 56 = .ok (.iload 5, 2) := by decide +kernel
theorem d_SF_putTable_58 : decode b_SF_putTable 58 = .ok (.iconst 0, 1) := by decide +kernel
theorem d_SF_putTable_59 : decode b_SF_putTable 59 = .ok (.invokevirtual 224, 3) := by decide +kernel
theorem d_SF_putTable_62 : decode b_SF_putTable 62 = .ok (.invokevirtual 209, 3) := by decide +kernel
theorem d_SF_putTable_65 : decode b_SF_putTable 65 = .ok (.aload_n 0, 1) := by decide +kernel
theorem d_SF_putTable_66 : decode b_SF_putTable 66 = .ok (.getfield 27, 3) := by decide +kernel
theorem d_SF_putTable_69 : decode b_SF_putTable 69 = .ok (.iconst 0, 1) := by decide +kernel
theorem d_SF_putTable_70 : decode b_SF_putTable 70 = .ok (.bipush 13, 2) := by decide +kernel
theorem d_SF_putTable_72 : decode b_SF_putTable 72 = .ok (.iload 5, 2) := by decide +kernel
theorem d_SF_putTable_74 : decode b_SF_putTable 74 = .ok (.iadd, 1) := by decide +kernel
theorem d_SF_putTable_75 : decode b_SF_putTable 75 = .ok (.iload 5, 2) := by decide +kernel
theorem d_SF_putTable_77 : decode b_SF_putTable 77 = .ok (.iload_n 1, 1) := by decide +kernel
theorem d_SF_putTable_78 : decode b_SF_putTable 78 = .ok (.if_icmp .ne 7, 3) := by decide +kernel
theorem d_SF_putTable_81 : decode b_SF_putTable 81 = .ok (.iload_n 3, 1) := by decide +kernel
theorem d_SF_putTable_82 : decode b_SF_putTable 82 = .ok (.goto 12, 3) := by decide +kernel
theorem d_SF_putTable_85 : decode b_SF_putTable 85 = .ok (.aload_n 0, 1) := by decide +kernel
theorem d_SF_putTable_86 : decode b_SF_putTable 86 = .ok (.iload 4, 2) := by decide +kernel
theorem d_SF_putTable_88 : decode b_SF_putTable 88 = .ok (.iload 5, 2) := by decide +kernel
theorem d_SF_putTable_90 : decode b_SF_putTable 90 = .ok (.iconst 1, 1) := by decide +kernel
theorem d_SF_putTable_91 : decode b_SF_putTable 91 = .ok (.invokevirtual 224, 3) := by decide +kernel
theorem d_SF_putTable_94 : decode b_SF_putTable 94 = .ok (.invokevirtual 209, 3) := by decide +kernel
theorem d_SF_putTable_97 : decode b_SF_putTable 97 = .ok (.iinc 5 1, 3) := by decide +kernel
theorem d_SF_putTable_100 : decode b_SF_putTable 100 = .ok (.goto (-73), 3) := by decide +kernel
theorem d_SF_putTable_103 : decode b_SF_putTable 103 = .ok (.aload_n 0, 1) := by decide +kernel
theorem d_SF_putTable_104 : decode b_SF_putTable 104 = .ok (.getfield 27, 3) := by decide +kernel
theorem d_SF_putTable_107 : decode b_SF_putTable 107 = .ok (.invokestatic 270, 3) := by decide +kernel
theorem d_SF_putTable_110 : decode b_SF_putTable 110 = .ok (.aload_n 0, 1) := by decide +kernel
theorem d_SF_putTable_111 : decode b_SF_putTable 111 = .ok (.aload_n 0, 1) := by decide +kernel
theorem d_SF_putTable_112 : decode b_SF_putTable 112 = .ok (.getfield 27, 3) := by decide +kernel
theorem d_SF_putTable_115 : decode b_SF_putTable 115 = .ok (.aload_n 0, 1) := by decide +kernel
theorem d_SF_putTable_116 : decode b_SF_putTable 116 = .ok (.getfield 21, 3) := by decide +kernel
theorem d_SF_putTable_119 : decode b_SF_putTable 119 = .ok (.iload 4, 2) := by decide +kernel
theorem d_SF_putTable_121 : decode b_SF_putTable 121 = .ok (.ifCond .ne 7, 3) := by decide +kernel
theorem d_SF_putTable_124 : decode b_SF_putTable 124 = .ok (.iconst 1, 1) := by decide +kernel
theorem d_SF_putTable_125 : decode b_SF_putTable 125 = .ok (.goto 4, 3) := by decide +kernel
theorem d_SF_putTable_128 : decode b_SF_putTable 128 = .ok (.iconst 0, 1) := by decide +kernel
theorem d_SF_putTable_129 : decode b_SF_putTable 129 = .ok (.invokevirtual 274, 3) := by decide +kernel
theorem d_SF_putTable_132 : decode b_SF_putTable 132 = .ok (.return_, 1) := by decide +kernel
def f_SF_setSum_l (n : Nat) (F : Nat → Int32) (N : Nat) : Nat → Nat → (Nat → Int32) → (Nat → Int32)
  | 0, _, _ => (fun _ => 0)
  | fu + 1, k, vF =>
    if 4 ≤ (nI k) then
      vF
    else
      f_SF_setSum_l n F N fu (k + 1) (f_Bl_set n vF (nI (N + 4)) 0 ((nI N) + (nI k)) (sf_ushr (f_Bl_sumOf n F (nI (N + 4)) 0 N) (8 * (3 - (nI k)))))
def f_SF_setSum (n : Nat) (F : Nat → Int32) (N : Nat) : (Nat → Int32) :=
  f_SF_setSum_l n F N (4 + 1) 0 F
set_option maxHeartbeats 1000000 in
set_option maxRecDepth 100000 in
/-- setSum -/
theorem c_SF_setSum (l : Launch) (D : va_G) (cI cZ cJ : ClassId) (h0 a0 n : Nat) (F : Nat → Int32) (N : Nat) (hn : n < 2 ^ 31) (hN : N + 4 ≤ n) : sf_M (S := (Nat → Int32)) l D classes (sf_tys cI cZ cJ) y_SF_setSum (sf_ws y_SF_setSum b_SF_setSum 4 none) 1 26 [.ref h0] [(h0, .inr (0, [.ref a0, .int (nI (N + 4))])), (a0, .inl (cI, n, .inl F))] (fun _ => none) (fun r => r = f_SF_setSum n F N) (fun r => [(h0, .inr (0, [.ref a0, .int (nI (N + 4))])), (a0, .inl (cI, n, .inl r))]) := by
  refine sf_ofW (S := (Nat → Int32)) (by decide) (Nat.le_of_ble_eq_true rfl) ?_
  intro p e s m below meth c A ls R args Q hR hArgs hQ hC0 hr hK hP hD hl
  obtain ⟨hx, hb, hml, hown, hts, hA, hlk⟩ := hC0
  have hS : va_S A s.heap s.heap [] := va_S.rf
  have hl : lv_has ls 4 [(0, .ref h0)] := hl
  refine lv_aload_n hx hb d_SF_setSum_0 rfl (lv_at hl 0 rfl) ?_
  refine va_get (D := D) (ci := 0) (v := .int (nI (N + 4))) (C := R_Bl) (T := F_Bl) (N := 2) hx hb hts i_Bl hown hK hP 0 rfl rfl 1 (by decide) (hts _ wd_80) (fun _ h9 => h9) rfl d_SF_setSum_1 ?_
  refine lv_iconst (v := 4) hx hb d_SF_setSum_4 (by decide) ?_
  refine lv_isub hx hb d_SF_setSum_5 ?_
  rw [sf_m4]
  refine lv_istore_n (lv' := [(1, .int (nI N)), (0, .ref h0)]) hx hb d_SF_setSum_6 rfl hl (by decide) rfl (fun ls hl => ?_)
  refine lv_aload_n hx hb d_SF_setSum_7 rfl (lv_at hl 1 rfl) ?_
  refine lv_iconst (v := 0) hx hb d_SF_setSum_8 (by decide) ?_
  refine lv_iload_n hx hb d_SF_setSum_9 rfl (lv_at hl 0 rfl) ?_
  refine sf_callVr (S := Int32) (rest := []) ⟨hx, hb, hml, hown, hts⟩ (c_Bl_sumOf l D cI cZ cJ h0 a0 n F (nI (N + 4)) 0 N hn (by omega)) (sf_cwV lk_SF_256 hts (fun _ h => h) (by rw [hR]; exact ⟨Nat.le_of_ble_eq_true rfl, Nat.le_of_ble_eq_true rfl⟩)) hK hP hD hS hA [0, 1] rfl rfl (fun _ => rfl) (ci := 0) (q0 := 0) rfl rfl rfl rfl rfl hl.1 (Nat.le_of_ble_eq_true rfl) d_SF_setSum_10 ⟨Nat.zero_le _, Nat.zero_le _⟩ (fun u_1 H locs hu_1 hP hS => ?_)
  refine lv_istore_n (lv' := [(2, .int u_1), (1, .int (nI N)), (0, .ref h0)]) hx hb d_SF_setSum_13 rfl hl (by decide) rfl (fun ls hl => ?_)
  refine lv_iconst (v := 0) hx hb d_SF_setSum_14 (by decide) ?_
  refine lv_istore_n (lv' := [(3, .int 0), (2, .int u_1), (1, .int (nI N)), (0, .ref h0)]) hx hb d_SF_setSum_15 rfl hl (by decide) rfl (fun ls hl => ?_)
  have loop16 : ∀ (fu k : Nat) (vF : (Nat → Int32)), k ≤ 4 → k + fu = 4 + 1 → f_SF_setSum_l n F N fu k vF = f_SF_setSum n F N → ∀ (H : Heap) (locs : List Loc), va_P D classes [(h0, .inr (0, [.ref a0, .int (nI (N + 4))])), (a0, .inl (cI, n, .inl vF))] H → va_D A [(h0, .inr (0, [.ref a0, .int (nI (N + 4))])), (a0, .inl (cI, n, .inl vF))] → va_S A s.heap H locs → ∀ (ls : Array Slot), lv_has ls 4 [(0, .ref h0), (1, .int (nI N)), (2, .int u_1), (3, .int (nI k))] → W p l e R s m args below meth c H locs 0 0 Q (F0 m 16 ls []) := by
    intro fu
    induction fu with
    | zero =>
      intro k vF h1 h2
      exact absurd h2 (by omega)
    | succ fu ih16 =>
      intro k vF hk16 hkn16 heq16 H locs hP hD hS ls hl
      refine lv_iload_n hx hb d_SF_setSum_16 rfl (lv_at hl 3 rfl) ?_
      refine lv_iconst (v := 4) hx hb d_SF_setSum_17 (by decide) ?_
      refine lv_icmp_ge (tgt := 43) hx hb d_SF_setSum_18 (by decide) (fun c_2 => ?_) (fun c_2 => ?_)
      · rw [hQ]
        exact sf_vret vF hx hb hr hlk hS rfl (by rw [← heq16]; simp only [f_SF_setSum_l, ← hu_1, eq_true c_2, ↓reduceIte]) hP d_SF_setSum_43
      · have hlt : k < 4 := sf_lt_of (N := 4) (by omega) (by omega) c_2
        refine lv_aload_n hx hb d_SF_setSum_21 rfl (lv_at hl 0 rfl) ?_
        refine lv_iconst (v := 0) hx hb d_SF_setSum_22 (by decide) ?_
        refine lv_iload_n hx hb d_SF_setSum_23 rfl (lv_at hl 1 rfl) ?_
        refine lv_iload_n hx hb d_SF_setSum_24 rfl (lv_at hl 3 rfl) ?_
        refine lv_iadd hx hb d_SF_setSum_25 ?_
        refine lv_iload_n hx hb d_SF_setSum_26 rfl (lv_at hl 2 rfl) ?_
        refine lv_bipush (v := 8) hx hb d_SF_setSum_27 (by decide) ?_
        refine lv_iconst (v := 3) hx hb d_SF_setSum_29 (by decide) ?_
        refine lv_iload_n hx hb d_SF_setSum_30 rfl (lv_at hl 3 rfl) ?_
        refine lv_isub hx hb d_SF_setSum_31 ?_
        refine lv_imul hx hb d_SF_setSum_32 ?_
        refine lv_iushr (v := (sf_ushr u_1 (8 * (3 - (nI k))))) hx hb d_SF_setSum_33 rfl ?_
        refine sf_callV (S := (Nat → Int32)) (rest := []) ⟨hx, hb, hml, hown, hts⟩ (c_Bl_set l D cI cZ cJ h0 a0 n vF (nI (N + 4)) 0 ((nI N) + (nI k)) (sf_ushr u_1 (8 * (3 - (nI k)))) hn) (sf_cwV lk_SF_209 hts (fun _ h => h) (by rw [hR]; exact ⟨Nat.le_of_ble_eq_true rfl, Nat.le_of_ble_eq_true rfl⟩)) hK hP hD hS hA [0, 1] rfl rfl (fun _ => rfl) (ci := 0) (q0 := 0) rfl rfl rfl rfl rfl hl.1 (Nat.le_of_ble_eq_true rfl) d_SF_setSum_34 ⟨Nat.zero_le _, Nat.zero_le _⟩ (fun u_3 H locs hu_3 hP hD hS => ?_)
        have hP : va_P D classes [(h0, .inr (0, [.ref a0, .int (nI (N + 4))])), (a0, .inl (cI, n, .inl u_3))] H := hP
        have hD : va_D A [(h0, .inr (0, [.ref a0, .int (nI (N + 4))])), (a0, .inl (cI, n, .inl u_3))] := hD
        refine lv_iinc (v := (nI (k + 1))) (lv' := [(3, .int (nI (k + 1))), (0, .ref h0), (1, .int (nI N)), (2, .int u_1)]) hx hb d_SF_setSum_37 hl (k := 3) rfl (nI_1 k) (by decide) rfl (fun ls hl => ?_)
        refine lv_goto (tgt := 16) hx hb d_SF_setSum_40 (by decide) ?_
        exact ih16 (k + 1) u_3 (by omega) (by omega) (by rw [← heq16]; simp only [f_SF_setSum_l, ← hu_1, ← hu_3, eq_false c_2, ↓reduceIte]) _ _ hP hD hS ls (lv_sub hl [1, 2, 3, 0] rfl)
  exact loop16 (4 + 1) 0 F (by omega) (by omega) (by simp only [f_SF_setSum, ← hu_1, ↓reduceIte]) _ _ hP hD hS ls (lv_sub hl [3, 2, 1, 0] rfl)
def f_SF_putBlock_nf_l3 (np : Nat → Int32) (bk : Int32) : Nat → Nat → (Nat → Int32) → Int32 → ((Nat → Int32) × Int32)
  | 0, _, _, _ => ((fun _ => 0), 0)
  | fu + 1, k, vf, vb =>
    if (nI 32) ≤ (nI k) then
      (vf, vb)
    else
      if vb ≤ 0 then
        (vf, vb)
      else
        f_SF_putBlock_nf_l3 np bk fu (k + 1) (f_Bl_set 768 vf (nI 32) bk (nI k) (f_Bl_get 32 np (nI 32) 0 (nI k))) (vb - 1)
def f_SF_putBlock_nf (fl : Nat → Int32) (np : Nat → Int32) (bl : Int32) (bk : Int32) : ((Nat → Int32) × Int32) :=
  f_SF_putBlock_nf_l3 np bk (32 + 1) 0 fl bl
set_option maxHeartbeats 1000000 in
set_option maxRecDepth 100000 in
/-- putBlock -/
theorem c_SF_putBlock_nf (l : Launch) (D : va_G) (cI cZ cJ : ClassId) (q : Nat → Nat) (fl : Nat → Int32) (sl : Nat → Int32) (tb : Nat → Int32) (np : Nat → Int32) (nt : Nat → Int32) (cp : Nat → Int32) (cc : Int32) (cb : Int32) (ch : Int32) (cm : Int32) (mp : Nat → Int32) (mc : Int32) (mb : Int32) (mh : Int32) (mm : Int32) (us : Nat → Int32) (ta : Nat → Int32) (tp : Nat → Int32) (tl : Int32) (cu : Int32) (bl : Int32) (pf : Int32) (sh : Int32) (bk : Int32) : sf_M (S := ((Nat → Int32) × Int32)) l D classes (sf_tys cI cZ cJ) y_SF_putBlock (sf_ws y_SF_putBlock b_SF_putBlock 5 none) 1 24 [.ref (q 0), .ref (q 7), .ref (q 1), .int bk] (sf_w q cI cZ fl sl tb np nt cp cc cb ch cm mp mc mb mh mm us ta tp tl cu bl pf sh) (fun _ => none) (fun r => r = f_SF_putBlock_nf fl np bl bk) (fun r => (sf_w q cI cZ r.1 sl tb np nt cp cc cb ch cm mp mc mb mh mm us ta tp tl cu r.2 pf sh)) := by
  refine sf_ofW (S := ((Nat → Int32) × Int32)) (by decide) (Nat.le_of_ble_eq_true rfl) ?_
  intro p e s m below meth c A ls R args Q hR hArgs hQ hC0 hr hK hP hD hl
  obtain ⟨hx, hb, hml, hown, hts, hA, hlk⟩ := hC0
  have hS : va_S A s.heap s.heap [] := va_S.rf
  have hl : lv_has ls 5 [(0, .ref (q 0)), (1, .ref (q 7)), (2, .ref (q 1)), (3, .int bk)] := hl
  refine lv_iconst (v := 0) hx hb d_SF_putBlock_0 (by decide) ?_
  refine lv_istore (lv' := [(4, .int 0), (0, .ref (q 0)), (1, .ref (q 7)), (2, .ref (q 1)), (3, .int bk)]) hx hb d_SF_putBlock_1 hl (by decide) rfl (fun ls hl => ?_)
  have loop3 : ∀ (fu k : Nat) (vf : (Nat → Int32)) (vb : Int32), k ≤ 32 → k + fu = 32 + 1 → f_SF_putBlock_nf_l3 np bk fu k vf vb = f_SF_putBlock_nf fl np bl bk → ∀ (H : Heap) (locs : List Loc), va_P D classes (sf_w q cI cZ vf sl tb np nt cp cc cb ch cm mp mc mb mh mm us ta tp tl cu vb pf sh) H → va_D A (sf_w q cI cZ vf sl tb np nt cp cc cb ch cm mp mc mb mh mm us ta tp tl cu vb pf sh) → va_S A s.heap H locs → ∀ (ls : Array Slot), lv_has ls 5 [(0, .ref (q 0)), (1, .ref (q 7)), (2, .ref (q 1)), (3, .int bk), (4, .int (nI k))] → W p l e R s m args below meth c H locs 0 0 Q (F0 m 3 ls []) := by
    intro fu
    induction fu with
    | zero =>
      intro k vf vb h1 h2
      exact absurd h2 (by omega)
    | succ fu ih3 =>
      intro k vf vb hk3 hkn3 heq3 H locs hP hD hS ls hl
      refine lv_iload hx hb d_SF_putBlock_3 (lv_at hl 4 rfl) ?_
      refine lv_aload_n hx hb d_SF_putBlock_5 rfl (lv_at hl 1 rfl) ?_
      refine va_get (D := D) (ci := 0) (v := .int (nI 32)) (C := R_Bl) (T := F_Bl) (N := 2) hx hb hts i_Bl hown hK hP 7 rfl rfl 1 (by decide) (hts _ wd_80) (fun _ h9 => h9) rfl d_SF_putBlock_6 ?_
      refine lv_icmp_ge (tgt := 49) hx hb d_SF_putBlock_9 (by decide) (fun c_1 => ?_) (fun c_1 => ?_)
      · rw [hQ]
        exact sf_vret (vf, vb) hx hb hr hlk hS rfl (by rw [← heq3]; simp only [f_SF_putBlock_nf_l3, eq_true c_1, ↓reduceIte]) hP d_SF_putBlock_49
      · have hlt : k < 32 := sf_lt_of (N := 32) (by omega) (by omega) c_1
        refine lv_aload_n hx hb d_SF_putBlock_12 rfl (lv_at hl 0 rfl) ?_
        refine va_get (D := D) (ci := 2) (v := .int vb) (C := R_SF) (T := F_SF) (N := 15) hx hb hts i_SF hown hK hP 0 rfl rfl 12 (by decide) (hts _ wd_122) (fun _ h9 => h9) rfl d_SF_putBlock_13 ?_
        refine lv_if_le (tgt := 49) hx hb d_SF_putBlock_16 (by decide) (fun c_2 => ?_) (fun c_2 => ?_)
        · rw [hQ]
          exact sf_vret (vf, vb) hx hb hr hlk hS rfl (by rw [← heq3]; simp only [f_SF_putBlock_nf_l3, eq_false c_1, eq_true c_2, ↓reduceIte]) hP d_SF_putBlock_49
        · refine lv_aload_n hx hb d_SF_putBlock_19 rfl (lv_at hl 2 rfl) ?_
          refine lv_iload_n hx hb d_SF_putBlock_20 rfl (lv_at hl 3 rfl) ?_
          refine lv_iload hx hb d_SF_putBlock_21 (lv_at hl 4 rfl) ?_
          refine lv_aload_n hx hb d_SF_putBlock_23 rfl (lv_at hl 1 rfl) ?_
          refine lv_iconst (v := 0) hx hb d_SF_putBlock_24 (by decide) ?_
          refine lv_iload hx hb d_SF_putBlock_25 (lv_at hl 4 rfl) ?_
          refine sf_callVr (S := Int32) (rest := [.int (nI k), .int bk, .ref (q 1)]) ⟨hx, hb, hml, hown, hts⟩ (c_Bl_get l D cI cZ cJ (q 7) (q 8) 32 np (nI 32) 0 (nI k) (by omega)) (sf_cwV lk_SF_203 hts (fun _ h => h) (by rw [hR]; exact ⟨Nat.le_of_ble_eq_true rfl, Nat.le_of_ble_eq_true rfl⟩)) hK hP hD hS hA [7, 8] rfl rfl (fun _ => rfl) (ci := 0) (q0 := 0) rfl rfl rfl rfl rfl hl.1 (Nat.le_of_ble_eq_true rfl) d_SF_putBlock_27 ⟨Nat.zero_le _, Nat.zero_le _⟩ (fun u_3 H locs hu_3 hP hS => ?_)
          refine sf_callV (S := (Nat → Int32)) (rest := []) ⟨hx, hb, hml, hown, hts⟩ (c_Bl_set l D cI cZ cJ (q 1) (q 2) 768 vf (nI 32) bk (nI k) u_3 (by omega)) (sf_cwV lk_SF_209 hts (fun _ h => h) (by rw [hR]; exact ⟨Nat.le_of_ble_eq_true rfl, Nat.le_of_ble_eq_true rfl⟩)) hK hP hD hS hA [1, 2] rfl rfl (fun _ => rfl) (ci := 0) (q0 := 0) rfl rfl rfl rfl rfl hl.1 (Nat.le_of_ble_eq_true rfl) d_SF_putBlock_30 ⟨Nat.zero_le _, Nat.zero_le _⟩ (fun u_4 H locs hu_4 hP hD hS => ?_)
          have hP : va_P D classes (sf_w q cI cZ u_4 sl tb np nt cp cc cb ch cm mp mc mb mh mm us ta tp tl cu vb pf sh) H := hP
          have hD : va_D A (sf_w q cI cZ u_4 sl tb np nt cp cc cb ch cm mp mc mb mh mm us ta tp tl cu vb pf sh) := hD
          refine lv_aload_n hx hb d_SF_putBlock_33 rfl (lv_at hl 0 rfl) ?_
          refine lv_dup hx hb d_SF_putBlock_34 rfl ?_
          refine va_get (D := D) (ci := 2) (v := .int vb) (C := R_SF) (T := F_SF) (N := 15) hx hb hts i_SF hown hK hP 0 rfl rfl 12 (by decide) (hts _ wd_122) (fun _ h9 => h9) rfl d_SF_putBlock_35 ?_
          refine lv_iconst (v := 1) hx hb d_SF_putBlock_38 (by decide) ?_
          refine lv_isub hx hb d_SF_putBlock_39 ?_
          refine va_put (D := D) (ci := 2) (v := .int (vb - 1)) (ty := .int) (C := R_SF) (T := F_SF) (N := 15) hx hb hts i_SF t_SF t_SF_ok n_SF hown hK hP hD hS 0 rfl rfl 12 (by decide) (hts _ wd_122) (fun _ h9 => h9) rfl (by decide +kernel) rfl rfl (Nat.le_of_ble_eq_true rfl) d_SF_putBlock_40 (fun H locs hP hD hS => ?_)
          have hP : va_P D classes (sf_w q cI cZ u_4 sl tb np nt cp cc cb ch cm mp mc mb mh mm us ta tp tl cu (vb - 1) pf sh) H := hP
          have hD : va_D A (sf_w q cI cZ u_4 sl tb np nt cp cc cb ch cm mp mc mb mh mm us ta tp tl cu (vb - 1) pf sh) := hD
          refine lv_iinc (v := (nI (k + 1))) (lv' := [(4, .int (nI (k + 1))), (0, .ref (q 0)), (1, .ref (q 7)), (2, .ref (q 1)), (3, .int bk)]) hx hb d_SF_putBlock_43 hl (k := 4) rfl (nI_1 k) (by decide) rfl (fun ls hl => ?_)
          refine lv_goto (tgt := 3) hx hb d_SF_putBlock_46 (by decide) ?_
          exact ih3 (k + 1) u_4 (vb - 1) (by omega) (by omega) (by rw [← heq3]; simp only [f_SF_putBlock_nf_l3, ← hu_3, ← hu_4, eq_false c_1, eq_false c_2, ↓reduceIte]) _ _ hP hD hS ls (lv_sub hl [1, 2, 3, 4, 0] rfl)
  exact loop3 (32 + 1) 0 fl bl (by omega) (by omega) (by simp only [f_SF_putBlock_nf, ↓reduceIte]) _ _ hP hD hS ls (lv_sub hl [1, 2, 3, 4, 0] rfl)
def f_SF_putBlock_ns_l3 (np : Nat → Int32) (bk : Int32) : Nat → Nat → (Nat → Int32) → Int32 → ((Nat → Int32) × Int32)
  | 0, _, _, _ => ((fun _ => 0), 0)
  | fu + 1, k, vf, vb =>
    if (nI 32) ≤ (nI k) then
      (vf, vb)
    else
      if vb ≤ 0 then
        (vf, vb)
      else
        f_SF_putBlock_ns_l3 np bk fu (k + 1) (f_Bl_set 512 vf (nI 32) bk (nI k) (f_Bl_get 32 np (nI 32) 0 (nI k))) (vb - 1)
def f_SF_putBlock_ns (sl : Nat → Int32) (np : Nat → Int32) (bl : Int32) (bk : Int32) : ((Nat → Int32) × Int32) :=
  f_SF_putBlock_ns_l3 np bk (32 + 1) 0 sl bl
set_option maxHeartbeats 1000000 in
set_option maxRecDepth 100000 in
/-- putBlock -/
theorem c_SF_putBlock_ns (l : Launch) (D : va_G) (cI cZ cJ : ClassId) (q : Nat → Nat) (fl : Nat → Int32) (sl : Nat → Int32) (tb : Nat → Int32) (np : Nat → Int32) (nt : Nat → Int32) (cp : Nat → Int32) (cc : Int32) (cb : Int32) (ch : Int32) (cm : Int32) (mp : Nat → Int32) (mc : Int32) (mb : Int32) (mh : Int32) (mm : Int32) (us : Nat → Int32) (ta : Nat → Int32) (tp : Nat → Int32) (tl : Int32) (cu : Int32) (bl : Int32) (pf : Int32) (sh : Int32) (bk : Int32) : sf_M (S := ((Nat → Int32) × Int32)) l D classes (sf_tys cI cZ cJ) y_SF_putBlock (sf_ws y_SF_putBlock b_SF_putBlock 5 none) 1 24 [.ref (q 0), .ref (q 7), .ref (q 3), .int bk] (sf_w q cI cZ fl sl tb np nt cp cc cb ch cm mp mc mb mh mm us ta tp tl cu bl pf sh) (fun _ => none) (fun r => r = f_SF_putBlock_ns sl np bl bk) (fun r => (sf_w q cI cZ fl r.1 tb np nt cp cc cb ch cm mp mc mb mh mm us ta tp tl cu r.2 pf sh)) := by
  refine sf_ofW (S := ((Nat → Int32) × Int32)) (by decide) (Nat.le_of_ble_eq_true rfl) ?_
  intro p e s m below meth c A ls R args Q hR hArgs hQ hC0 hr hK hP hD hl
  obtain ⟨hx, hb, hml, hown, hts, hA, hlk⟩ := hC0
  have hS : va_S A s.heap s.heap [] := va_S.rf
  have hl : lv_has ls 5 [(0, .ref (q 0)), (1, .ref (q 7)), (2, .ref (q 3)), (3, .int bk)] := hl
  refine lv_iconst (v := 0) hx hb d_SF_putBlock_0 (by decide) ?_
  refine lv_istore (lv' := [(4, .int 0), (0, .ref (q 0)), (1, .ref (q 7)), (2, .ref (q 3)), (3, .int bk)]) hx hb d_SF_putBlock_1 hl (by decide) rfl (fun ls hl => ?_)
  have loop3 : ∀ (fu k : Nat) (vf : (Nat → Int32)) (vb : Int32), k ≤ 32 → k + fu = 32 + 1 → f_SF_putBlock_ns_l3 np bk fu k vf vb = f_SF_putBlock_ns sl np bl bk → ∀ (H : Heap) (locs : List Loc), va_P D classes (sf_w q cI cZ fl vf tb np nt cp cc cb ch cm mp mc mb mh mm us ta tp tl cu vb pf sh) H → va_D A (sf_w q cI cZ fl vf tb np nt cp cc cb ch cm mp mc mb mh mm us ta tp tl cu vb pf sh) → va_S A s.heap H locs → ∀ (ls : Array Slot), lv_has ls 5 [(0, .ref (q 0)), (1, .ref (q 7)), (2, .ref (q 3)), (3, .int bk), (4, .int (nI k))] → W p l e R s m args below meth c H locs 0 0 Q (F0 m 3 ls []) := by
    intro fu
    induction fu with
    | zero =>
      intro k vf vb h1 h2
      exact absurd h2 (by omega)
    | succ fu ih3 =>
      intro k vf vb hk3 hkn3 heq3 H locs hP hD hS ls hl
      refine lv_iload hx hb d_SF_putBlock_3 (lv_at hl 4 rfl) ?_
      refine lv_aload_n hx hb d_SF_putBlock_5 rfl (lv_at hl 1 rfl) ?_
      refine va_get (D := D) (ci := 0) (v := .int (nI 32)) (C := R_Bl) (T := F_Bl) (N := 2) hx hb hts i_Bl hown hK hP 7 rfl rfl 1 (by decide) (hts _ wd_80) (fun _ h9 => h9) rfl d_SF_putBlock_6 ?_
      refine lv_icmp_ge (tgt := 49) hx hb d_SF_putBlock_9 (by decide) (fun c_1 => ?_) (fun c_1 => ?_)
      · rw [hQ]
        exact sf_vret (vf, vb) hx hb hr hlk hS rfl (by rw [← heq3]; simp only [f_SF_putBlock_ns_l3, eq_true c_1, ↓reduceIte]) hP d_SF_putBlock_49
      · have hlt : k < 32 := sf_lt_of (N := 32) (by omega) (by omega) c_1
        refine lv_aload_n hx hb d_SF_putBlock_12 rfl (lv_at hl 0 rfl) ?_
        refine va_get (D := D) (ci := 2) (v := .int vb) (C := R_SF) (T := F_SF) (N := 15) hx hb hts i_SF hown hK hP 0 rfl rfl 12 (by decide) (hts _ wd_122) (fun _ h9 => h9) rfl d_SF_putBlock_13 ?_
        refine lv_if_le (tgt := 49) hx hb d_SF_putBlock_16 (by decide) (fun c_2 => ?_) (fun c_2 => ?_)
        · rw [hQ]
          exact sf_vret (vf, vb) hx hb hr hlk hS rfl (by rw [← heq3]; simp only [f_SF_putBlock_ns_l3, eq_false c_1, eq_true c_2, ↓reduceIte]) hP d_SF_putBlock_49
        · refine lv_aload_n hx hb d_SF_putBlock_19 rfl (lv_at hl 2 rfl) ?_
          refine lv_iload_n hx hb d_SF_putBlock_20 rfl (lv_at hl 3 rfl) ?_
          refine lv_iload hx hb d_SF_putBlock_21 (lv_at hl 4 rfl) ?_
          refine lv_aload_n hx hb d_SF_putBlock_23 rfl (lv_at hl 1 rfl) ?_
          refine lv_iconst (v := 0) hx hb d_SF_putBlock_24 (by decide) ?_
          refine lv_iload hx hb d_SF_putBlock_25 (lv_at hl 4 rfl) ?_
          refine sf_callVr (S := Int32) (rest := [.int (nI k), .int bk, .ref (q 3)]) ⟨hx, hb, hml, hown, hts⟩ (c_Bl_get l D cI cZ cJ (q 7) (q 8) 32 np (nI 32) 0 (nI k) (by omega)) (sf_cwV lk_SF_203 hts (fun _ h => h) (by rw [hR]; exact ⟨Nat.le_of_ble_eq_true rfl, Nat.le_of_ble_eq_true rfl⟩)) hK hP hD hS hA [7, 8] rfl rfl (fun _ => rfl) (ci := 0) (q0 := 0) rfl rfl rfl rfl rfl hl.1 (Nat.le_of_ble_eq_true rfl) d_SF_putBlock_27 ⟨Nat.zero_le _, Nat.zero_le _⟩ (fun u_3 H locs hu_3 hP hS => ?_)
          refine sf_callV (S := (Nat → Int32)) (rest := []) ⟨hx, hb, hml, hown, hts⟩ (c_Bl_set l D cI cZ cJ (q 3) (q 4) 512 vf (nI 32) bk (nI k) u_3 (by omega)) (sf_cwV lk_SF_209 hts (fun _ h => h) (by rw [hR]; exact ⟨Nat.le_of_ble_eq_true rfl, Nat.le_of_ble_eq_true rfl⟩)) hK hP hD hS hA [3, 4] rfl rfl (fun _ => rfl) (ci := 0) (q0 := 0) rfl rfl rfl rfl rfl hl.1 (Nat.le_of_ble_eq_true rfl) d_SF_putBlock_30 ⟨Nat.zero_le _, Nat.zero_le _⟩ (fun u_4 H locs hu_4 hP hD hS => ?_)
          have hP : va_P D classes (sf_w q cI cZ fl u_4 tb np nt cp cc cb ch cm mp mc mb mh mm us ta tp tl cu vb pf sh) H := hP
          have hD : va_D A (sf_w q cI cZ fl u_4 tb np nt cp cc cb ch cm mp mc mb mh mm us ta tp tl cu vb pf sh) := hD
          refine lv_aload_n hx hb d_SF_putBlock_33 rfl (lv_at hl 0 rfl) ?_
          refine lv_dup hx hb d_SF_putBlock_34 rfl ?_
          refine va_get (D := D) (ci := 2) (v := .int vb) (C := R_SF) (T := F_SF) (N := 15) hx hb hts i_SF hown hK hP 0 rfl rfl 12 (by decide) (hts _ wd_122) (fun _ h9 => h9) rfl d_SF_putBlock_35 ?_
          refine lv_iconst (v := 1) hx hb d_SF_putBlock_38 (by decide) ?_
          refine lv_isub hx hb d_SF_putBlock_39 ?_
          refine va_put (D := D) (ci := 2) (v := .int (vb - 1)) (ty := .int) (C := R_SF) (T := F_SF) (N := 15) hx hb hts i_SF t_SF t_SF_ok n_SF hown hK hP hD hS 0 rfl rfl 12 (by decide) (hts _ wd_122) (fun _ h9 => h9) rfl (by decide +kernel) rfl rfl (Nat.le_of_ble_eq_true rfl) d_SF_putBlock_40 (fun H locs hP hD hS => ?_)
          have hP : va_P D classes (sf_w q cI cZ fl u_4 tb np nt cp cc cb ch cm mp mc mb mh mm us ta tp tl cu (vb - 1) pf sh) H := hP
          have hD : va_D A (sf_w q cI cZ fl u_4 tb np nt cp cc cb ch cm mp mc mb mh mm us ta tp tl cu (vb - 1) pf sh) := hD
          refine lv_iinc (v := (nI (k + 1))) (lv' := [(4, .int (nI (k + 1))), (0, .ref (q 0)), (1, .ref (q 7)), (2, .ref (q 3)), (3, .int bk)]) hx hb d_SF_putBlock_43 hl (k := 4) rfl (nI_1 k) (by decide) rfl (fun ls hl => ?_)
          refine lv_goto (tgt := 3) hx hb d_SF_putBlock_46 (by decide) ?_
          exact ih3 (k + 1) u_4 (vb - 1) (by omega) (by omega) (by rw [← heq3]; simp only [f_SF_putBlock_ns_l3, ← hu_3, ← hu_4, eq_false c_1, eq_false c_2, ↓reduceIte]) _ _ hP hD hS ls (lv_sub hl [1, 2, 3, 4, 0] rfl)
  exact loop3 (32 + 1) 0 sl bl (by omega) (by omega) (by simp only [f_SF_putBlock_ns, ↓reduceIte]) _ _ hP hD hS ls (lv_sub hl [1, 2, 3, 4, 0] rfl)
def f_SF_putBlock_tt_l3 (nt : Nat → Int32) (bk : Int32) : Nat → Nat → (Nat → Int32) → Int32 → ((Nat → Int32) × Int32)
  | 0, _, _, _ => ((fun _ => 0), 0)
  | fu + 1, k, vf, vb =>
    if (nI 40) ≤ (nI k) then
      (vf, vb)
    else
      if vb ≤ 0 then
        (vf, vb)
      else
        f_SF_putBlock_tt_l3 nt bk fu (k + 1) (f_Bl_set 80 vf (nI 40) bk (nI k) (f_Bl_get 40 nt (nI 40) 0 (nI k))) (vb - 1)
def f_SF_putBlock_tt (tb : Nat → Int32) (nt : Nat → Int32) (bl : Int32) (bk : Int32) : ((Nat → Int32) × Int32) :=
  f_SF_putBlock_tt_l3 nt bk (40 + 1) 0 tb bl
set_option maxHeartbeats 1000000 in
set_option maxRecDepth 100000 in
/-- putBlock -/
theorem c_SF_putBlock_tt (l : Launch) (D : va_G) (cI cZ cJ : ClassId) (q : Nat → Nat) (fl : Nat → Int32) (sl : Nat → Int32) (tb : Nat → Int32) (np : Nat → Int32) (nt : Nat → Int32) (cp : Nat → Int32) (cc : Int32) (cb : Int32) (ch : Int32) (cm : Int32) (mp : Nat → Int32) (mc : Int32) (mb : Int32) (mh : Int32) (mm : Int32) (us : Nat → Int32) (ta : Nat → Int32) (tp : Nat → Int32) (tl : Int32) (cu : Int32) (bl : Int32) (pf : Int32) (sh : Int32) (bk : Int32) : sf_M (S := ((Nat → Int32) × Int32)) l D classes (sf_tys cI cZ cJ) y_SF_putBlock (sf_ws y_SF_putBlock b_SF_putBlock 5 none) 1 24 [.ref (q 0), .ref (q 9), .ref (q 5), .int bk] (sf_w q cI cZ fl sl tb np nt cp cc cb ch cm mp mc mb mh mm us ta tp tl cu bl pf sh) (fun _ => none) (fun r => r = f_SF_putBlock_tt tb nt bl bk) (fun r => (sf_w q cI cZ fl sl r.1 np nt cp cc cb ch cm mp mc mb mh mm us ta tp tl cu r.2 pf sh)) := by
  refine sf_ofW (S := ((Nat → Int32) × Int32)) (by decide) (Nat.le_of_ble_eq_true rfl) ?_
  intro p e s m below meth c A ls R args Q hR hArgs hQ hC0 hr hK hP hD hl
  obtain ⟨hx, hb, hml, hown, hts, hA, hlk⟩ := hC0
  have hS : va_S A s.heap s.heap [] := va_S.rf
  have hl : lv_has ls 5 [(0, .ref (q 0)), (1, .ref (q 9)), (2, .ref (q 5)), (3, .int bk)] := hl
  refine lv_iconst (v := 0) hx hb d_SF_putBlock_0 (by decide) ?_
  refine lv_istore (lv' := [(4, .int 0), (0, .ref (q 0)), (1, .ref (q 9)), (2, .ref (q 5)), (3, .int bk)]) hx hb d_SF_putBlock_1 hl (by decide) rfl (fun ls hl => ?_)
  have loop3 : ∀ (fu k : Nat) (vf : (Nat → Int32)) (vb : Int32), k ≤ 40 → k + fu = 40 + 1 → f_SF_putBlock_tt_l3 nt bk fu k vf vb = f_SF_putBlock_tt tb nt bl bk → ∀ (H : Heap) (locs : List Loc), va_P D classes (sf_w q cI cZ fl sl vf np nt cp cc cb ch cm mp mc mb mh mm us ta tp tl cu vb pf sh) H → va_D A (sf_w q cI cZ fl sl vf np nt cp cc cb ch cm mp mc mb mh mm us ta tp tl cu vb pf sh) → va_S A s.heap H locs → ∀ (ls : Array Slot), lv_has ls 5 [(0, .ref (q 0)), (1, .ref (q 9)), (2, .ref (q 5)), (3, .int bk), (4, .int (nI k))] → W p l e R s m args below meth c H locs 0 0 Q (F0 m 3 ls []) := by
    intro fu
    induction fu with
    | zero =>
      intro k vf vb h1 h2
      exact absurd h2 (by omega)
    | succ fu ih3 =>
      intro k vf vb hk3 hkn3 heq3 H locs hP hD hS ls hl
      refine lv_iload hx hb d_SF_putBlock_3 (lv_at hl 4 rfl) ?_
      refine lv_aload_n hx hb d_SF_putBlock_5 rfl (lv_at hl 1 rfl) ?_
      refine va_get (D := D) (ci := 0) (v := .int (nI 40)) (C := R_Bl) (T := F_Bl) (N := 2) hx hb hts i_Bl hown hK hP 9 rfl rfl 1 (by decide) (hts _ wd_80) (fun _ h9 => h9) rfl d_SF_putBlock_6 ?_
      refine lv_icmp_ge (tgt := 49) hx hb d_SF_putBlock_9 (by decide) (fun c_1 => ?_) (fun c_1 => ?_)
      · rw [hQ]
        exact sf_vret (vf, vb) hx hb hr hlk hS rfl (by rw [← heq3]; simp only [f_SF_putBlock_tt_l3, eq_true c_1, ↓reduceIte]) hP d_SF_putBlock_49
      · have hlt : k < 40 := sf_lt_of (N := 40) (by omega) (by omega) c_1
        refine lv_aload_n hx hb d_SF_putBlock_12 rfl (lv_at hl 0 rfl) ?_
        refine va_get (D := D) (ci := 2) (v := .int vb) (C := R_SF) (T := F_SF) (N := 15) hx hb hts i_SF hown hK hP 0 rfl rfl 12 (by decide) (hts _ wd_122) (fun _ h9 => h9) rfl d_SF_putBlock_13 ?_
        refine lv_if_le (tgt := 49) hx hb d_SF_putBlock_16 (by decide) (fun c_2 => ?_) (fun c_2 => ?_)
        · rw [hQ]
          exact sf_vret (vf, vb) hx hb hr hlk hS rfl (by rw [← heq3]; simp only [f_SF_putBlock_tt_l3, eq_false c_1, eq_true c_2, ↓reduceIte]) hP d_SF_putBlock_49
        · refine lv_aload_n hx hb d_SF_putBlock_19 rfl (lv_at hl 2 rfl) ?_
          refine lv_iload_n hx hb d_SF_putBlock_20 rfl (lv_at hl 3 rfl) ?_
          refine lv_iload hx hb d_SF_putBlock_21 (lv_at hl 4 rfl) ?_
          refine lv_aload_n hx hb d_SF_putBlock_23 rfl (lv_at hl 1 rfl) ?_
          refine lv_iconst (v := 0) hx hb d_SF_putBlock_24 (by decide) ?_
          refine lv_iload hx hb d_SF_putBlock_25 (lv_at hl 4 rfl) ?_
          refine sf_callVr (S := Int32) (rest := [.int (nI k), .int bk, .ref (q 5)]) ⟨hx, hb, hml, hown, hts⟩ (c_Bl_get l D cI cZ cJ (q 9) (q 10) 40 nt (nI 40) 0 (nI k) (by omega)) (sf_cwV lk_SF_203 hts (fun _ h => h) (by rw [hR]; exact ⟨Nat.le_of_ble_eq_true rfl, Nat.le_of_ble_eq_true rfl⟩)) hK hP hD hS hA [9, 10] rfl rfl (fun _ => rfl) (ci := 0) (q0 := 0) rfl rfl rfl rfl rfl hl.1 (Nat.le_of_ble_eq_true rfl) d_SF_putBlock_27 ⟨Nat.zero_le _, Nat.zero_le _⟩ (fun u_3 H locs hu_3 hP hS => ?_)
          refine sf_callV (S := (Nat → Int32)) (rest := []) ⟨hx, hb, hml, hown, hts⟩ (c_Bl_set l D cI cZ cJ (q 5) (q 6) 80 vf (nI 40) bk (nI k) u_3 (by omega)) (sf_cwV lk_SF_209 hts (fun _ h => h) (by rw [hR]; exact ⟨Nat.le_of_ble_eq_true rfl, Nat.le_of_ble_eq_true rfl⟩)) hK hP hD hS hA [5, 6] rfl rfl (fun _ => rfl) (ci := 0) (q0 := 0) rfl rfl rfl rfl rfl hl.1 (Nat.le_of_ble_eq_true rfl) d_SF_putBlock_30 ⟨Nat.zero_le _, Nat.zero_le _⟩ (fun u_4 H locs hu_4 hP hD hS => ?_)
          have hP : va_P D classes (sf_w q cI cZ fl sl u_4 np nt cp cc cb ch cm mp mc mb mh mm us ta tp tl cu vb pf sh) H := hP
          have hD : va_D A (sf_w q cI cZ fl sl u_4 np nt cp cc cb ch cm mp mc mb mh mm us ta tp tl cu vb pf sh) := hD
          refine lv_aload_n hx hb d_SF_putBlock_33 rfl (lv_at hl 0 rfl) ?_
          refine lv_dup hx hb d_SF_putBlock_34 rfl ?_
          refine va_get (D := D) (ci := 2) (v := .int vb) (C := R_SF) (T := F_SF) (N := 15) hx hb hts i_SF hown hK hP 0 rfl rfl 12 (by decide) (hts _ wd_122) (fun _ h9 => h9) rfl d_SF_putBlock_35 ?_
          refine lv_iconst (v := 1) hx hb d_SF_putBlock_38 (by decide) ?_
          refine lv_isub hx hb d_SF_putBlock_39 ?_
          refine va_put (D := D) (ci := 2) (v := .int (vb - 1)) (ty := .int) (C := R_SF) (T := F_SF) (N := 15) hx hb hts i_SF t_SF t_SF_ok n_SF hown hK hP hD hS 0 rfl rfl 12 (by decide) (hts _ wd_122) (fun _ h9 => h9) rfl (by decide +kernel) rfl rfl (Nat.le_of_ble_eq_true rfl) d_SF_putBlock_40 (fun H locs hP hD hS => ?_)
          have hP : va_P D classes (sf_w q cI cZ fl sl u_4 np nt cp cc cb ch cm mp mc mb mh mm us ta tp tl cu (vb - 1) pf sh) H := hP
          have hD : va_D A (sf_w q cI cZ fl sl u_4 np nt cp cc cb ch cm mp mc mb mh mm us ta tp tl cu (vb - 1) pf sh) := hD
          refine lv_iinc (v := (nI (k + 1))) (lv' := [(4, .int (nI (k + 1))), (0, .ref (q 0)), (1, .ref (q 9)), (2, .ref (q 5)), (3, .int bk)]) hx hb d_SF_putBlock_43 hl (k := 4) rfl (nI_1 k) (by decide) rfl (fun ls hl => ?_)
          refine lv_goto (tgt := 3) hx hb d_SF_putBlock_46 (by decide) ?_
          exact ih3 (k + 1) u_4 (vb - 1) (by omega) (by omega) (by rw [← heq3]; simp only [f_SF_putBlock_tt_l3, ← hu_3, ← hu_4, eq_false c_1, eq_false c_2, ↓reduceIte]) _ _ hP hD hS ls (lv_sub hl [1, 2, 3, 4, 0] rfl)
  exact loop3 (40 + 1) 0 tb bl (by omega) (by omega) (by simp only [f_SF_putBlock_tt, ↓reduceIte]) _ _ hP hD hS ls (lv_sub hl [1, 2, 3, 4, 0] rfl)
def f_SF_putPlace_f (fl : Nat → Int32) (np : Nat → Int32) (bl : Int32) (bk : Int32) : ((Nat → Int32) × (Nat → Int32) × Int32) :=
  ((f_SF_setSum 32 np 28), (f_SF_putBlock_nf fl (f_SF_setSum 32 np 28) bl bk).1, (f_SF_putBlock_nf fl (f_SF_setSum 32 np 28) bl bk).2)
set_option maxHeartbeats 1000000 in
set_option maxRecDepth 100000 in
/-- putPlace -/
theorem c_SF_putPlace_f (l : Launch) (D : va_G) (cI cZ cJ : ClassId) (q : Nat → Nat) (fl : Nat → Int32) (sl : Nat → Int32) (tb : Nat → Int32) (np : Nat → Int32) (nt : Nat → Int32) (cp : Nat → Int32) (cc : Int32) (cb : Int32) (ch : Int32) (cm : Int32) (mp : Nat → Int32) (mc : Int32) (mb : Int32) (mh : Int32) (mm : Int32) (us : Nat → Int32) (ta : Nat → Int32) (tp : Nat → Int32) (tl : Int32) (cu : Int32) (bl : Int32) (pf : Int32) (sh : Int32) (bk : Int32) : sf_M (S := ((Nat → Int32) × (Nat → Int32) × Int32)) l D classes (sf_tys cI cZ cJ) y_SF_putPlace (sf_ws y_SF_putPlace b_SF_putPlace 3 none) 2 49 [.ref (q 0), .ref (q 1), .int bk] (sf_w q cI cZ fl sl tb np nt cp cc cb ch cm mp mc mb mh mm us ta tp tl cu bl pf sh) (fun _ => none) (fun r => r = f_SF_putPlace_f fl np bl bk) (fun r => (sf_w q cI cZ r.2.1 sl tb r.1 nt cp cc cb ch cm mp mc mb mh mm us ta tp tl cu r.2.2 pf sh)) := by
  refine sf_ofW (S := ((Nat → Int32) × (Nat → Int32) × Int32)) (by decide) (Nat.le_of_ble_eq_true rfl) ?_
  intro p e s m below meth c A ls R args Q hR hArgs hQ hC0 hr hK hP hD hl
  obtain ⟨hx, hb, hml, hown, hts, hA, hlk⟩ := hC0
  have hS : va_S A s.heap s.heap [] := va_S.rf
  have hl : lv_has ls 3 [(0, .ref (q 0)), (1, .ref (q 1)), (2, .int bk)] := hl
  refine lv_aload_n hx hb d_SF_putPlace_0 rfl (lv_at hl 0 rfl) ?_
  refine va_get (D := D) (ci := 2) (v := .ref (q 7)) (C := R_SF) (T := F_SF) (N := 15) hx hb hts i_SF hown hK hP 0 rfl rfl 3 (by decide) (hts _ wd_113) (fun _ h9 => h9) rfl d_SF_putPlace_1 ?_
  refine sf_callS (S := (Nat → Int32)) (rest := []) ⟨hx, hb, hml, hown, hts⟩ (c_SF_setSum l D cI cZ cJ (q 7) (q 8) 32 np 28 (by omega) (by omega)) (sf_cwS lk_SF_270 hts (fun _ h => h) (by rw [hR]; exact ⟨Nat.le_of_ble_eq_true rfl, Nat.le_of_ble_eq_true rfl⟩)) hK hP hD hS hA [7, 8] rfl rfl (fun _ => rfl) rfl rfl hl.1 (Nat.le_of_ble_eq_true rfl) d_SF_putPlace_4 ⟨Nat.zero_le _, Nat.zero_le _⟩ (fun u_1 H locs hu_1 hP hD hS => ?_)
  have hP : va_P D classes (sf_w q cI cZ fl sl tb u_1 nt cp cc cb ch cm mp mc mb mh mm us ta tp tl cu bl pf sh) H := hP
  have hD : va_D A (sf_w q cI cZ fl sl tb u_1 nt cp cc cb ch cm mp mc mb mh mm us ta tp tl cu bl pf sh) := hD
  refine lv_aload_n hx hb d_SF_putPlace_7 rfl (lv_at hl 0 rfl) ?_
  refine lv_aload_n hx hb d_SF_putPlace_8 rfl (lv_at hl 0 rfl) ?_
  refine va_get (D := D) (ci := 2) (v := .ref (q 7)) (C := R_SF) (T := F_SF) (N := 15) hx hb hts i_SF hown hK hP 0 rfl rfl 3 (by decide) (hts _ wd_113) (fun _ h9 => h9) rfl d_SF_putPlace_9 ?_
  refine lv_aload_n hx hb d_SF_putPlace_12 rfl (lv_at hl 1 rfl) ?_
  refine lv_iload_n hx hb d_SF_putPlace_13 rfl (lv_at hl 2 rfl) ?_
  refine sf_callVw (S := ((Nat → Int32) × Int32)) (rest := []) ⟨hx, hb, hml, hown, hts⟩ (c_SF_putBlock_nf l D cI cZ cJ q fl sl tb u_1 nt cp cc cb ch cm mp mc mb mh mm us ta tp tl cu bl pf sh bk) (sf_cwV lk_SF_274 hts (fun _ h => h) (by rw [hR]; exact ⟨Nat.le_of_ble_eq_true rfl, Nat.le_of_ble_eq_true rfl⟩)) hK hP hD hS hA (fun _ => by simp only [sf_w_fst]) (ci := 2) (q0 := 0) rfl rfl rfl rfl rfl hl.1 (Nat.le_of_ble_eq_true rfl) d_SF_putPlace_14 ⟨Nat.zero_le _, Nat.zero_le _⟩ (fun u_2 H locs hu_2 hP hD hS => ?_)
  have hP : va_P D classes (sf_w q cI cZ u_2.1 sl tb u_1 nt cp cc cb ch cm mp mc mb mh mm us ta tp tl cu u_2.2 pf sh) H := hP
  have hD : va_D A (sf_w q cI cZ u_2.1 sl tb u_1 nt cp cc cb ch cm mp mc mb mh mm us ta tp tl cu u_2.2 pf sh) := hD
  rw [hQ]
  exact sf_vret (u_1, u_2.1, u_2.2) hx hb hr hlk hS rfl (by simp only [f_SF_putPlace_f, ← hu_1, ← hu_2, ↓reduceIte]) hP d_SF_putPlace_17
def f_SF_putPlace_s (sl : Nat → Int32) (np : Nat → Int32) (bl : Int32) (bk : Int32) : ((Nat → Int32) × (Nat → Int32) × Int32) :=
  ((f_SF_setSum 32 np 28), (f_SF_putBlock_ns sl (f_SF_setSum 32 np 28) bl bk).1, (f_SF_putBlock_ns sl (f_SF_setSum 32 np 28) bl bk).2)
set_option maxHeartbeats 1000000 in
set_option maxRecDepth 100000 in
/-- putPlace -/
theorem c_SF_putPlace_s (l : Launch) (D : va_G) (cI cZ cJ : ClassId) (q : Nat → Nat) (fl : Nat → Int32) (sl : Nat → Int32) (tb : Nat → Int32) (np : Nat → Int32) (nt : Nat → Int32) (cp : Nat → Int32) (cc : Int32) (cb : Int32) (ch : Int32) (cm : Int32) (mp : Nat → Int32) (mc : Int32) (mb : Int32) (mh : Int32) (mm : Int32) (us : Nat → Int32) (ta : Nat → Int32) (tp : Nat → Int32) (tl : Int32) (cu : Int32) (bl : Int32) (pf : Int32) (sh : Int32) (bk : Int32) : sf_M (S := ((Nat → Int32) × (Nat → Int32) × Int32)) l D classes (sf_tys cI cZ cJ) y_SF_putPlace (sf_ws y_SF_putPlace b_SF_putPlace 3 none) 2 49 [.ref (q 0), .ref (q 3), .int bk] (sf_w q cI cZ fl sl tb np nt cp cc cb ch cm mp mc mb mh mm us ta tp tl cu bl pf sh) (fun _ => none) (fun r => r = f_SF_putPlace_s sl np bl bk) (fun r => (sf_w q cI cZ fl r.2.1 tb r.1 nt cp cc cb ch cm mp mc mb mh mm us ta tp tl cu r.2.2 pf sh)) := by
  refine sf_ofW (S := ((Nat → Int32) × (Nat → Int32) × Int32)) (by decide) (Nat.le_of_ble_eq_true rfl) ?_
  intro p e s m below meth c A ls R args Q hR hArgs hQ hC0 hr hK hP hD hl
  obtain ⟨hx, hb, hml, hown, hts, hA, hlk⟩ := hC0
  have hS : va_S A s.heap s.heap [] := va_S.rf
  have hl : lv_has ls 3 [(0, .ref (q 0)), (1, .ref (q 3)), (2, .int bk)] := hl
  refine lv_aload_n hx hb d_SF_putPlace_0 rfl (lv_at hl 0 rfl) ?_
  refine va_get (D := D) (ci := 2) (v := .ref (q 7)) (C := R_SF) (T := F_SF) (N := 15) hx hb hts i_SF hown hK hP 0 rfl rfl 3 (by decide) (hts _ wd_113) (fun _ h9 => h9) rfl d_SF_putPlace_1 ?_
  refine sf_callS (S := (Nat → Int32)) (rest := []) ⟨hx, hb, hml, hown, hts⟩ (c_SF_setSum l D cI cZ cJ (q 7) (q 8) 32 np 28 (by omega) (by omega)) (sf_cwS lk_SF_270 hts (fun _ h => h) (by rw [hR]; exact ⟨Nat.le_of_ble_eq_true rfl, Nat.le_of_ble_eq_true rfl⟩)) hK hP hD hS hA [7, 8] rfl rfl (fun _ => rfl) rfl rfl hl.1 (Nat.le_of_ble_eq_true rfl) d_SF_putPlace_4 ⟨Nat.zero_le _, Nat.zero_le _⟩ (fun u_1 H locs hu_1 hP hD hS => ?_)
  have hP : va_P D classes (sf_w q cI cZ fl sl tb u_1 nt cp cc cb ch cm mp mc mb mh mm us ta tp tl cu bl pf sh) H := hP
  have hD : va_D A (sf_w q cI cZ fl sl tb u_1 nt cp cc cb ch cm mp mc mb mh mm us ta tp tl cu bl pf sh) := hD
  refine lv_aload_n hx hb d_SF_putPlace_7 rfl (lv_at hl 0 rfl) ?_
  refine lv_aload_n hx hb d_SF_putPlace_8 rfl (lv_at hl 0 rfl) ?_
  refine va_get (D := D) (ci := 2) (v := .ref (q 7)) (C := R_SF) (T := F_SF) (N := 15) hx hb hts i_SF hown hK hP 0 rfl rfl 3 (by decide) (hts _ wd_113) (fun _ h9 => h9) rfl d_SF_putPlace_9 ?_
  refine lv_aload_n hx hb d_SF_putPlace_12 rfl (lv_at hl 1 rfl) ?_
  refine lv_iload_n hx hb d_SF_putPlace_13 rfl (lv_at hl 2 rfl) ?_
  refine sf_callVw (S := ((Nat → Int32) × Int32)) (rest := []) ⟨hx, hb, hml, hown, hts⟩ (c_SF_putBlock_ns l D cI cZ cJ q fl sl tb u_1 nt cp cc cb ch cm mp mc mb mh mm us ta tp tl cu bl pf sh bk) (sf_cwV lk_SF_274 hts (fun _ h => h) (by rw [hR]; exact ⟨Nat.le_of_ble_eq_true rfl, Nat.le_of_ble_eq_true rfl⟩)) hK hP hD hS hA (fun _ => by simp only [sf_w_fst]) (ci := 2) (q0 := 0) rfl rfl rfl rfl rfl hl.1 (Nat.le_of_ble_eq_true rfl) d_SF_putPlace_14 ⟨Nat.zero_le _, Nat.zero_le _⟩ (fun u_2 H locs hu_2 hP hD hS => ?_)
  have hP : va_P D classes (sf_w q cI cZ fl u_2.1 tb u_1 nt cp cc cb ch cm mp mc mb mh mm us ta tp tl cu u_2.2 pf sh) H := hP
  have hD : va_D A (sf_w q cI cZ fl u_2.1 tb u_1 nt cp cc cb ch cm mp mc mb mh mm us ta tp tl cu u_2.2 pf sh) := hD
  rw [hQ]
  exact sf_vret (u_1, u_2.1, u_2.2) hx hb hr hlk hS rfl (by simp only [f_SF_putPlace_s, ← hu_1, ← hu_2, ↓reduceIte]) hP d_SF_putPlace_17
def f_SF_preparePlaceFromTape_l59 (tp : Nat → Int32) (tl : Int32) (pk : Int32) : Nat → Nat → (Nat → Int32) → (Nat → Int32)
  | 0, _, _ => (fun _ => 0)
  | fu + 1, k, vn =>
    if 25 ≤ (nI k) then
      vn
    else
      if (if (tl - (pk * 25)) < 25 then (tl - (pk * 25)) else 25) ≤ (nI k) then
        f_SF_preparePlaceFromTape_l59 tp tl pk fu (k + 1) (f_Bl_set 32 vn (nI 32) 0 (3 + (nI k)) 0)
      else
        f_SF_preparePlaceFromTape_l59 tp tl pk fu (k + 1) (f_Bl_set 32 vn (nI 32) 0 (3 + (nI k)) (f_SF_tapeAt tp tl ((pk * 25) + (nI k))))
def f_SF_preparePlaceFromTape (np : Nat → Int32) (ta : Nat → Int32) (tp : Nat → Int32) (tl : Int32) (pk : Int32) (pn : Int32) (mo : Int32) : (Nat → Int32) :=
  f_SF_preparePlaceFromTape_l59 tp tl pk (25 + 1) 0 (f_Bl_set 32 (f_Bl_set 32 (f_Bl_set 32 np (nI 32) 0 0 (f_SF_linkBehind ta pk pn)) (nI 32) 0 1 (if (tl - (pk * 25)) < 25 then (tl - (pk * 25)) else 25)) (nI 32) 0 2 mo)
set_option maxHeartbeats 1000000 in
set_option maxRecDepth 100000 in
/-- preparePlaceFromTape -/
theorem c_SF_preparePlaceFromTape (l : Launch) (D : va_G) (cI cZ cJ : ClassId) (q : Nat → Nat) (fl : Nat → Int32) (sl : Nat → Int32) (tb : Nat → Int32) (np : Nat → Int32) (nt : Nat → Int32) (cp : Nat → Int32) (cc : Int32) (cb : Int32) (ch : Int32) (cm : Int32) (mp : Nat → Int32) (mc : Int32) (mb : Int32) (mh : Int32) (mm : Int32) (us : Nat → Int32) (ta : Nat → Int32) (tp : Nat → Int32) (tl : Int32) (cu : Int32) (bl : Int32) (pf : Int32) (sh : Int32) (pk : Int32) (pn : Int32) (mo : Int32) : sf_M (S := (Nat → Int32)) l D classes (sf_tys cI cZ cJ) y_SF_preparePlaceFromTape (sf_ws y_SF_preparePlaceFromTape b_SF_preparePlaceFromTape 7 none) 2 43 [.ref (q 0), .int pk, .int pn, .int mo] (sf_w q cI cZ fl sl tb np nt cp cc cb ch cm mp mc mb mh mm us ta tp tl cu bl pf sh) (fun _ => none) (fun r => r = f_SF_preparePlaceFromTape np ta tp tl pk pn mo) (fun r => (sf_w q cI cZ fl sl tb r nt cp cc cb ch cm mp mc mb mh mm us ta tp tl cu bl pf sh)) := by
  refine sf_ofW (S := (Nat → Int32)) (by decide) (Nat.le_of_ble_eq_true rfl) ?_
  intro p e s m below meth c A ls R args Q hR hArgs hQ hC0 hr hK hP hD hl
  obtain ⟨hx, hb, hml, hown, hts, hA, hlk⟩ := hC0
  have hS : va_S A s.heap s.heap [] := va_S.rf
  have hl : lv_has ls 7 [(0, .ref (q 0)), (1, .int pk), (2, .int pn), (3, .int mo)] := hl
  refine lv_iload_n hx hb d_SF_preparePlaceFromTape_0 rfl (lv_at hl 1 rfl) ?_
  refine lv_bipush (v := 25) hx hb d_SF_preparePlaceFromTape_1 (by decide) ?_
  refine lv_imul hx hb d_SF_preparePlaceFromTape_3 ?_
  refine lv_istore (lv' := [(4, .int (pk * 25)), (0, .ref (q 0)), (1, .int pk), (2, .int pn), (3, .int mo)]) hx hb d_SF_preparePlaceFromTape_4 hl (by decide) rfl (fun ls hl => ?_)
  refine lv_bipush (v := 25) hx hb d_SF_preparePlaceFromTape_6 (by decide) ?_
  refine lv_aload_n hx hb d_SF_preparePlaceFromTape_8 rfl (lv_at hl 1 rfl) ?_
  refine va_get (D := D) (ci := 2) (v := .int tl) (C := R_SF) (T := F_SF) (N := 15) hx hb hts i_SF hown hK hP 0 rfl rfl 10 (by decide) (hts _ wd_120) (fun _ h9 => h9) rfl d_SF_preparePlaceFromTape_9 ?_
  refine lv_iload hx hb d_SF_preparePlaceFromTape_12 (lv_at hl 0 rfl) ?_
  refine lv_isub hx hb d_SF_preparePlaceFromTape_14 ?_
  refine va_mmin hx hb (by rw [hml]; exact hl.1.symm) hown (hts _ wd_402) (hts _ wd_403) (hts _ wd_63) (hts _ wd_404) (by rw [hR]; exact Nat.le_of_ble_eq_true rfl) (by rw [hR]; exact Nat.le_of_ble_eq_true rfl) (Nat.zero_le _) (Nat.zero_le _) d_SF_preparePlaceFromTape_15 ?_
  refine lv_topi (fun u_1 hu_1 => ?_)
  refine lv_istore (lv' := [(5, .int u_1), (4, .int (pk * 25)), (0, .ref (q 0)), (1, .int pk), (2, .int pn), (3, .int mo)]) hx hb d_SF_preparePlaceFromTape_18 hl (by decide) rfl (fun ls hl => ?_)
  refine lv_aload_n hx hb d_SF_preparePlaceFromTape_20 rfl (lv_at hl 2 rfl) ?_
  refine va_get (D := D) (ci := 2) (v := .ref (q 7)) (C := R_SF) (T := F_SF) (N := 15) hx hb hts i_SF hown hK hP 0 rfl rfl 3 (by decide) (hts _ wd_113) (fun _ h9 => h9) rfl d_SF_preparePlaceFromTape_21 ?_
  refine lv_iconst (v := 0) hx hb d_SF_preparePlaceFromTape_24 (by decide) ?_
  refine lv_iconst (v := 0) hx hb d_SF_preparePlaceFromTape_25 (by decide) ?_
  refine lv_aload_n hx hb d_SF_preparePlaceFromTape_26 rfl (lv_at hl 2 rfl) ?_
  refine lv_iload_n hx hb d_SF_preparePlaceFromTape_27 rfl (lv_at hl 3 rfl) ?_
  refine lv_iload_n hx hb d_SF_preparePlaceFromTape_28 rfl (lv_at hl 4 rfl) ?_
  refine sf_callVw (S := Int32) (rest := [.int 0, .int 0, .ref (q 7)]) ⟨hx, hb, hml, hown, hts⟩ (c_SF_linkBehind l D cI cZ cJ q fl sl tb np nt cp cc cb ch cm mp mc mb mh mm us ta tp tl cu bl pf sh pk pn) (sf_cwV lk_SF_264 hts (fun _ h => h) (by rw [hR]; exact ⟨Nat.le_of_ble_eq_true rfl, Nat.le_of_ble_eq_true rfl⟩)) hK hP hD hS hA (fun _ => by simp only [sf_w_fst]) (ci := 2) (q0 := 0) rfl rfl rfl rfl rfl hl.1 (Nat.le_of_ble_eq_true rfl) d_SF_preparePlaceFromTape_29 ⟨Nat.zero_le _, Nat.zero_le _⟩ (fun u_2 H locs hu_2 hP hD hS => ?_)
  have hP : va_P D classes (sf_w q cI cZ fl sl tb np nt cp cc cb ch cm mp mc mb mh mm us ta tp tl cu bl pf sh) H := hP
  have hD : va_D A (sf_w q cI cZ fl sl tb np nt cp cc cb ch cm mp mc mb mh mm us ta tp tl cu bl pf sh) := hD
  refine sf_callV (S := (Nat → Int32)) (rest := []) ⟨hx, hb, hml, hown, hts⟩ (c_Bl_set l D cI cZ cJ (q 7) (q 8) 32 np (nI 32) 0 0 u_2 (by omega)) (sf_cwV lk_SF_209 hts (fun _ h => h) (by rw [hR]; exact ⟨Nat.le_of_ble_eq_true rfl, Nat.le_of_ble_eq_true rfl⟩)) hK hP hD hS hA [7, 8] rfl rfl (fun _ => rfl) (ci := 0) (q0 := 0) rfl rfl rfl rfl rfl hl.1 (Nat.le_of_ble_eq_true rfl) d_SF_preparePlaceFromTape_32 ⟨Nat.zero_le _, Nat.zero_le _⟩ (fun u_3 H locs hu_3 hP hD hS => ?_)
  have hP : va_P D classes (sf_w q cI cZ fl sl tb u_3 nt cp cc cb ch cm mp mc mb mh mm us ta tp tl cu bl pf sh) H := hP
  have hD : va_D A (sf_w q cI cZ fl sl tb u_3 nt cp cc cb ch cm mp mc mb mh mm us ta tp tl cu bl pf sh) := hD
  refine lv_aload_n hx hb d_SF_preparePlaceFromTape_35 rfl (lv_at hl 2 rfl) ?_
  refine va_get (D := D) (ci := 2) (v := .ref (q 7)) (C := R_SF) (T := F_SF) (N := 15) hx hb hts i_SF hown hK hP 0 rfl rfl 3 (by decide) (hts _ wd_113) (fun _ h9 => h9) rfl d_SF_preparePlaceFromTape_36 ?_
  refine lv_iconst (v := 0) hx hb d_SF_preparePlaceFromTape_39 (by decide) ?_
  refine lv_iconst (v := 1) hx hb d_SF_preparePlaceFromTape_40 (by decide) ?_
  refine lv_iload hx hb d_SF_preparePlaceFromTape_41 (lv_at hl 0 rfl) ?_
  refine sf_callV (S := (Nat → Int32)) (rest := []) ⟨hx, hb, hml, hown, hts⟩ (c_Bl_set l D cI cZ cJ (q 7) (q 8) 32 u_3 (nI 32) 0 1 u_1 (by omega)) (sf_cwV lk_SF_209 hts (fun _ h => h) (by rw [hR]; exact ⟨Nat.le_of_ble_eq_true rfl, Nat.le_of_ble_eq_true rfl⟩)) hK hP hD hS hA [7, 8] rfl rfl (fun _ => rfl) (ci := 0) (q0 := 0) rfl rfl rfl rfl rfl hl.1 (Nat.le_of_ble_eq_true rfl) d_SF_preparePlaceFromTape_43 ⟨Nat.zero_le _, Nat.zero_le _⟩ (fun u_4 H locs hu_4 hP hD hS => ?_)
  have hP : va_P D classes (sf_w q cI cZ fl sl tb u_4 nt cp cc cb ch cm mp mc mb mh mm us ta tp tl cu bl pf sh) H := hP
  have hD : va_D A (sf_w q cI cZ fl sl tb u_4 nt cp cc cb ch cm mp mc mb mh mm us ta tp tl cu bl pf sh) := hD
  refine lv_aload_n hx hb d_SF_preparePlaceFromTape_46 rfl (lv_at hl 2 rfl) ?_
  refine va_get (D := D) (ci := 2) (v := .ref (q 7)) (C := R_SF) (T := F_SF) (N := 15) hx hb hts i_SF hown hK hP 0 rfl rfl 3 (by decide) (hts _ wd_113) (fun _ h9 => h9) rfl d_SF_preparePlaceFromTape_47 ?_
  refine lv_iconst (v := 0) hx hb d_SF_preparePlaceFromTape_50 (by decide) ?_
  refine lv_iconst (v := 2) hx hb d_SF_preparePlaceFromTape_51 (by decide) ?_
  refine lv_iload_n hx hb d_SF_preparePlaceFromTape_52 rfl (lv_at hl 5 rfl) ?_
  refine sf_callV (S := (Nat → Int32)) (rest := []) ⟨hx, hb, hml, hown, hts⟩ (c_Bl_set l D cI cZ cJ (q 7) (q 8) 32 u_4 (nI 32) 0 2 mo (by omega)) (sf_cwV lk_SF_209 hts (fun _ h => h) (by rw [hR]; exact ⟨Nat.le_of_ble_eq_true rfl, Nat.le_of_ble_eq_true rfl⟩)) hK hP hD hS hA [7, 8] rfl rfl (fun _ => rfl) (ci := 0) (q0 := 0) rfl rfl rfl rfl rfl hl.1 (Nat.le_of_ble_eq_true rfl) d_SF_preparePlaceFromTape_53 ⟨Nat.zero_le _, Nat.zero_le _⟩ (fun u_5 H locs hu_5 hP hD hS => ?_)
  have hP : va_P D classes (sf_w q cI cZ fl sl tb u_5 nt cp cc cb ch cm mp mc mb mh mm us ta tp tl cu bl pf sh) H := hP
  have hD : va_D A (sf_w q cI cZ fl sl tb u_5 nt cp cc cb ch cm mp mc mb mh mm us ta tp tl cu bl pf sh) := hD
  refine lv_iconst (v := 0) hx hb d_SF_preparePlaceFromTape_56 (by decide) ?_
  refine lv_istore (lv' := [(6, .int 0), (5, .int u_1), (4, .int (pk * 25)), (0, .ref (q 0)), (1, .int pk), (2, .int pn), (3, .int mo)]) hx hb d_SF_preparePlaceFromTape_57 hl (by decide) rfl (fun ls hl => ?_)
  have loop59 : ∀ (fu k : Nat) (vn : (Nat → Int32)), k ≤ 25 → k + fu = 25 + 1 → f_SF_preparePlaceFromTape_l59 tp tl pk fu k vn = f_SF_preparePlaceFromTape np ta tp tl pk pn mo → ∀ (H : Heap) (locs : List Loc), va_P D classes (sf_w q cI cZ fl sl tb vn nt cp cc cb ch cm mp mc mb mh mm us ta tp tl cu bl pf sh) H → va_D A (sf_w q cI cZ fl sl tb vn nt cp cc cb ch cm mp mc mb mh mm us ta tp tl cu bl pf sh) → va_S A s.heap H locs → ∀ (ls : Array Slot), lv_has ls 7 [(0, .ref (q 0)), (1, .int pk), (2, .int pn), (3, .int mo), (4, .int (pk * 25)), (5, .int u_1), (6, .int (nI k))] → W p l e R s m args below meth c H locs 0 0 Q (F0 m 59 ls []) := by
    intro fu
    induction fu with
    | zero =>
      intro k vn h1 h2
      exact absurd h2 (by omega)
    | succ fu ih59 =>
      intro k vn hk59 hkn59 heq59 H locs hP hD hS ls hl
      refine lv_iload hx hb d_SF_preparePlaceFromTape_59 (lv_at hl 6 rfl) ?_
      refine lv_bipush (v := 25) hx hb d_SF_preparePlaceFromTape_61 (by decide) ?_
      refine lv_icmp_ge (tgt := 104) hx hb d_SF_preparePlaceFromTape_63 (by decide) (fun c_6 => ?_) (fun c_6 => ?_)
      · rw [hQ]
        exact sf_vret vn hx hb hr hlk hS rfl (by rw [← heq59]; simp only [f_SF_preparePlaceFromTape_l59, ← hu_1, ← hu_2, ← hu_3, ← hu_4, ← hu_5, eq_true c_6, ↓reduceIte]) hP d_SF_preparePlaceFromTape_104
      · have hlt : k < 25 := sf_lt_of (N := 25) (by omega) (by omega) c_6
        refine lv_aload_n hx hb d_SF_preparePlaceFromTape_66 rfl (lv_at hl 0 rfl) ?_
        refine va_get (D := D) (ci := 2) (v := .ref (q 7)) (C := R_SF) (T := F_SF) (N := 15) hx hb hts i_SF hown hK hP 0 rfl rfl 3 (by decide) (hts _ wd_113) (fun _ h9 => h9) rfl d_SF_preparePlaceFromTape_67 ?_
        refine lv_iconst (v := 0) hx hb d_SF_preparePlaceFromTape_70 (by decide) ?_
        refine lv_iconst (v := 3) hx hb d_SF_preparePlaceFromTape_71 (by decide) ?_
        refine lv_iload hx hb d_SF_preparePlaceFromTape_72 (lv_at hl 6 rfl) ?_
        refine lv_iadd hx hb d_SF_preparePlaceFromTape_74 ?_
        refine lv_iload hx hb d_SF_preparePlaceFromTape_75 (lv_at hl 6 rfl) ?_
        refine lv_iload hx hb d_SF_preparePlaceFromTape_77 (lv_at hl 5 rfl) ?_
        refine lv_icmp_ge (tgt := 94) hx hb d_SF_preparePlaceFromTape_79 (by decide) (fun c_7 => ?_) (fun c_7 => ?_)
        · refine lv_iconst (v := 0) hx hb d_SF_preparePlaceFromTape_94 (by decide) ?_
          refine sf_callV (S := (Nat → Int32)) (rest := []) ⟨hx, hb, hml, hown, hts⟩ (c_Bl_set l D cI cZ cJ (q 7) (q 8) 32 vn (nI 32) 0 (3 + (nI k)) 0 (by omega)) (sf_cwV lk_SF_209 hts (fun _ h => h) (by rw [hR]; exact ⟨Nat.le_of_ble_eq_true rfl, Nat.le_of_ble_eq_true rfl⟩)) hK hP hD hS hA [7, 8] rfl rfl (fun _ => rfl) (ci := 0) (q0 := 0) rfl rfl rfl rfl rfl hl.1 (Nat.le_of_ble_eq_true rfl) d_SF_preparePlaceFromTape_95 ⟨Nat.zero_le _, Nat.zero_le _⟩ (fun u_8 H locs hu_8 hP hD hS => ?_)
          have hP : va_P D classes (sf_w q cI cZ fl sl tb u_8 nt cp cc cb ch cm mp mc mb mh mm us ta tp tl cu bl pf sh) H := hP
          have hD : va_D A (sf_w q cI cZ fl sl tb u_8 nt cp cc cb ch cm mp mc mb mh mm us ta tp tl cu bl pf sh) := hD
          refine lv_iinc (v := (nI (k + 1))) (lv' := [(6, .int (nI (k + 1))), (0, .ref (q 0)), (1, .int pk), (2, .int pn), (3, .int mo), (4, .int (pk * 25)), (5, .int u_1)]) hx hb d_SF_preparePlaceFromTape_98 hl (k := 6) rfl (nI_1 k) (by decide) rfl (fun ls hl => ?_)
          refine lv_goto (tgt := 59) hx hb d_SF_preparePlaceFromTape_101 (by decide) ?_
          exact ih59 (k + 1) u_8 (by omega) (by omega) (by rw [← heq59]; simp only [f_SF_preparePlaceFromTape_l59, ← hu_1, ← hu_2, ← hu_3, ← hu_4, ← hu_5, ← hu_8, eq_false c_6, eq_true c_7, ↓reduceIte]) _ _ hP hD hS ls (lv_sub hl [1, 2, 3, 4, 5, 6, 0] rfl)
        · refine lv_aload_n hx hb d_SF_preparePlaceFromTape_82 rfl (lv_at hl 0 rfl) ?_
          refine lv_iload hx hb d_SF_preparePlaceFromTape_83 (lv_at hl 4 rfl) ?_
          refine lv_iload hx hb d_SF_preparePlaceFromTape_85 (lv_at hl 6 rfl) ?_
          refine lv_iadd hx hb d_SF_preparePlaceFromTape_87 ?_
          refine sf_callVw (S := Int32) (rest := [.int (3 + (nI k)), .int 0, .ref (q 7)]) ⟨hx, hb, hml, hown, hts⟩ (c_SF_tapeAt l D cI cZ cJ q fl sl tb vn nt cp cc cb ch cm mp mc mb mh mm us ta tp tl cu bl pf sh ((pk * 25) + (nI k))) (sf_cwV lk_SF_267 hts (fun _ h => h) (by rw [hR]; exact ⟨Nat.le_of_ble_eq_true rfl, Nat.le_of_ble_eq_true rfl⟩)) hK hP hD hS hA (fun _ => by simp only [sf_w_fst]) (ci := 2) (q0 := 0) rfl rfl rfl rfl rfl hl.1 (Nat.le_of_ble_eq_true rfl) d_SF_preparePlaceFromTape_88 ⟨Nat.zero_le _, Nat.zero_le _⟩ (fun u_9 H locs hu_9 hP hD hS => ?_)
          have hP : va_P D classes (sf_w q cI cZ fl sl tb vn nt cp cc cb ch cm mp mc mb mh mm us ta tp tl cu bl pf sh) H := hP
          have hD : va_D A (sf_w q cI cZ fl sl tb vn nt cp cc cb ch cm mp mc mb mh mm us ta tp tl cu bl pf sh) := hD
          refine lv_goto (tgt := 95) hx hb d_SF_preparePlaceFromTape_91 (by decide) ?_
          refine sf_callV (S := (Nat → Int32)) (rest := []) ⟨hx, hb, hml, hown, hts⟩ (c_Bl_set l D cI cZ cJ (q 7) (q 8) 32 vn (nI 32) 0 (3 + (nI k)) u_9 (by omega)) (sf_cwV lk_SF_209 hts (fun _ h => h) (by rw [hR]; exact ⟨Nat.le_of_ble_eq_true rfl, Nat.le_of_ble_eq_true rfl⟩)) hK hP hD hS hA [7, 8] rfl rfl (fun _ => rfl) (ci := 0) (q0 := 0) rfl rfl rfl rfl rfl hl.1 (Nat.le_of_ble_eq_true rfl) d_SF_preparePlaceFromTape_95 ⟨Nat.zero_le _, Nat.zero_le _⟩ (fun u_10 H locs hu_10 hP hD hS => ?_)
          have hP : va_P D classes (sf_w q cI cZ fl sl tb u_10 nt cp cc cb ch cm mp mc mb mh mm us ta tp tl cu bl pf sh) H := hP
          have hD : va_D A (sf_w q cI cZ fl sl tb u_10 nt cp cc cb ch cm mp mc mb mh mm us ta tp tl cu bl pf sh) := hD
          refine lv_iinc (v := (nI (k + 1))) (lv' := [(6, .int (nI (k + 1))), (0, .ref (q 0)), (1, .int pk), (2, .int pn), (3, .int mo), (4, .int (pk * 25)), (5, .int u_1)]) hx hb d_SF_preparePlaceFromTape_98 hl (k := 6) rfl (nI_1 k) (by decide) rfl (fun ls hl => ?_)
          refine lv_goto (tgt := 59) hx hb d_SF_preparePlaceFromTape_101 (by decide) ?_
          exact ih59 (k + 1) u_10 (by omega) (by omega) (by rw [← heq59]; simp only [f_SF_preparePlaceFromTape_l59, ← hu_1, ← hu_2, ← hu_3, ← hu_4, ← hu_5, ← hu_9, ← hu_10, eq_false c_6, eq_false c_7, ↓reduceIte]) _ _ hP hD hS ls (lv_sub hl [1, 2, 3, 4, 5, 6, 0] rfl)
  exact loop59 (25 + 1) 0 u_5 (by omega) (by omega) (by simp only [f_SF_preparePlaceFromTape, ← hu_1, ← hu_2, ← hu_3, ← hu_4, ← hu_5, ↓reduceIte]) _ _ hP hD hS ls (lv_sub hl [3, 4, 5, 6, 2, 1, 0] rfl)
def f_SF_preparePlaceFromChain_l23 (fl : Nat → Int32) (cp : Nat → Int32) (cc : Int32) (pk : Int32) : Nat → Nat → (Nat → Int32) → (Nat → Int32)
  | 0, _, _ => (fun _ => 0)
  | fu + 1, k, vn =>
    if 28 ≤ (nI (1 + k)) then
      vn
    else
      f_SF_preparePlaceFromChain_l23 fl cp cc pk fu (k + 1) (f_Bl_set 32 vn (nI 32) 0 (nI (1 + k)) (f_Bl_get 768 fl (nI 32) (f_Ch_placeAt cp cc pk) (nI (1 + k))))
def f_SF_preparePlaceFromChain (fl : Nat → Int32) (np : Nat → Int32) (cp : Nat → Int32) (cc : Int32) (ta : Nat → Int32) (pk : Int32) : (Nat → Int32) :=
  f_SF_preparePlaceFromChain_l23 fl cp cc pk (27 + 1) 0 (f_Bl_set 32 np (nI 32) 0 0 (f_SF_linkBehind ta pk cc))
set_option maxHeartbeats 1000000 in
set_option maxRecDepth 100000 in
/-- preparePlaceFromChain -/
theorem c_SF_preparePlaceFromChain (l : Launch) (D : va_G) (cI cZ cJ : ClassId) (q : Nat → Nat) (fl : Nat → Int32) (sl : Nat → Int32) (tb : Nat → Int32) (np : Nat → Int32) (nt : Nat → Int32) (cp : Nat → Int32) (cc : Int32) (cb : Int32) (ch : Int32) (cm : Int32) (mp : Nat → Int32) (mc : Int32) (mb : Int32) (mh : Int32) (mm : Int32) (us : Nat → Int32) (ta : Nat → Int32) (tp : Nat → Int32) (tl : Int32) (cu : Int32) (bl : Int32) (pf : Int32) (sh : Int32) (pk : Int32) : sf_M (S := (Nat → Int32)) l D classes (sf_tys cI cZ cJ) y_SF_preparePlaceFromChain (sf_ws y_SF_preparePlaceFromChain b_SF_preparePlaceFromChain 3 none) 2 43 [.ref (q 0), .int pk] (sf_w q cI cZ fl sl tb np nt cp cc cb ch cm mp mc mb mh mm us ta tp tl cu bl pf sh) (fun _ => none) (fun r => r = f_SF_preparePlaceFromChain fl np cp cc ta pk) (fun r => (sf_w q cI cZ fl sl tb r nt cp cc cb ch cm mp mc mb mh mm us ta tp tl cu bl pf sh)) := by
  refine sf_ofW (S := (Nat → Int32)) (by decide) (Nat.le_of_ble_eq_true rfl) ?_
  intro p e s m below meth c A ls R args Q hR hArgs hQ hC0 hr hK hP hD hl
  obtain ⟨hx, hb, hml, hown, hts, hA, hlk⟩ := hC0
  have hS : va_S A s.heap s.heap [] := va_S.rf
  have hl : lv_has ls 3 [(0, .ref (q 0)), (1, .int pk)] := hl
  refine lv_aload_n hx hb d_SF_preparePlaceFromChain_0 rfl (lv_at hl 0 rfl) ?_
  refine va_get (D := D) (ci := 2) (v := .ref (q 7)) (C := R_SF) (T := F_SF) (N := 15) hx hb hts i_SF hown hK hP 0 rfl rfl 3 (by decide) (hts _ wd_113) (fun _ h9 => h9) rfl d_SF_preparePlaceFromChain_1 ?_
  refine lv_iconst (v := 0) hx hb d_SF_preparePlaceFromChain_4 (by decide) ?_
  refine lv_iconst (v := 0) hx hb d_SF_preparePlaceFromChain_5 (by decide) ?_
  refine lv_aload_n hx hb d_SF_preparePlaceFromChain_6 rfl (lv_at hl 0 rfl) ?_
  refine lv_iload_n hx hb d_SF_preparePlaceFromChain_7 rfl (lv_at hl 1 rfl) ?_
  refine lv_aload_n hx hb d_SF_preparePlaceFromChain_8 rfl (lv_at hl 0 rfl) ?_
  refine va_get (D := D) (ci := 2) (v := .ref (q 11)) (C := R_SF) (T := F_SF) (N := 15) hx hb hts i_SF hown hK hP 0 rfl rfl 5 (by decide) (hts _ wd_115) (fun _ h9 => h9) rfl d_SF_preparePlaceFromChain_9 ?_
  refine va_get (D := D) (ci := 1) (v := .int cc) (C := R_Ch) (T := F_Ch) (N := 5) hx hb hts i_Ch hown hK hP 11 rfl rfl 1 (by decide) (hts _ wd_95) (fun _ h9 => h9) rfl d_SF_preparePlaceFromChain_12 ?_
  refine sf_callVw (S := Int32) (rest := [.int 0, .int 0, .ref (q 7)]) ⟨hx, hb, hml, hown, hts⟩ (c_SF_linkBehind l D cI cZ cJ q fl sl tb np nt cp cc cb ch cm mp mc mb mh mm us ta tp tl cu bl pf sh pk cc) (sf_cwV lk_SF_264 hts (fun _ h => h) (by rw [hR]; exact ⟨Nat.le_of_ble_eq_true rfl, Nat.le_of_ble_eq_true rfl⟩)) hK hP hD hS hA (fun _ => by simp only [sf_w_fst]) (ci := 2) (q0 := 0) rfl rfl rfl rfl rfl hl.1 (Nat.le_of_ble_eq_true rfl) d_SF_preparePlaceFromChain_15 ⟨Nat.zero_le _, Nat.zero_le _⟩ (fun u_1 H locs hu_1 hP hD hS => ?_)
  have hP : va_P D classes (sf_w q cI cZ fl sl tb np nt cp cc cb ch cm mp mc mb mh mm us ta tp tl cu bl pf sh) H := hP
  have hD : va_D A (sf_w q cI cZ fl sl tb np nt cp cc cb ch cm mp mc mb mh mm us ta tp tl cu bl pf sh) := hD
  refine sf_callV (S := (Nat → Int32)) (rest := []) ⟨hx, hb, hml, hown, hts⟩ (c_Bl_set l D cI cZ cJ (q 7) (q 8) 32 np (nI 32) 0 0 u_1 (by omega)) (sf_cwV lk_SF_209 hts (fun _ h => h) (by rw [hR]; exact ⟨Nat.le_of_ble_eq_true rfl, Nat.le_of_ble_eq_true rfl⟩)) hK hP hD hS hA [7, 8] rfl rfl (fun _ => rfl) (ci := 0) (q0 := 0) rfl rfl rfl rfl rfl hl.1 (Nat.le_of_ble_eq_true rfl) d_SF_preparePlaceFromChain_18 ⟨Nat.zero_le _, Nat.zero_le _⟩ (fun u_2 H locs hu_2 hP hD hS => ?_)
  have hP : va_P D classes (sf_w q cI cZ fl sl tb u_2 nt cp cc cb ch cm mp mc mb mh mm us ta tp tl cu bl pf sh) H := hP
  have hD : va_D A (sf_w q cI cZ fl sl tb u_2 nt cp cc cb ch cm mp mc mb mh mm us ta tp tl cu bl pf sh) := hD
  refine lv_iconst (v := 1) hx hb d_SF_preparePlaceFromChain_21 (by decide) ?_
  refine lv_istore_n (lv' := [(2, .int 1), (0, .ref (q 0)), (1, .int pk)]) hx hb d_SF_preparePlaceFromChain_22 rfl hl (by decide) rfl (fun ls hl => ?_)
  have loop23 : ∀ (fu k : Nat) (vn : (Nat → Int32)), k ≤ 27 → k + fu = 27 + 1 → f_SF_preparePlaceFromChain_l23 fl cp cc pk fu k vn = f_SF_preparePlaceFromChain fl np cp cc ta pk → ∀ (H : Heap) (locs : List Loc), va_P D classes (sf_w q cI cZ fl sl tb vn nt cp cc cb ch cm mp mc mb mh mm us ta tp tl cu bl pf sh) H → va_D A (sf_w q cI cZ fl sl tb vn nt cp cc cb ch cm mp mc mb mh mm us ta tp tl cu bl pf sh) → va_S A s.heap H locs → ∀ (ls : Array Slot), lv_has ls 3 [(0, .ref (q 0)), (1, .int pk), (2, .int (nI (1 + k)))] → W p l e R s m args below meth c H locs 0 0 Q (F0 m 23 ls []) := by
    intro fu
    induction fu with
    | zero =>
      intro k vn h1 h2
      exact absurd h2 (by omega)
    | succ fu ih23 =>
      intro k vn hk23 hkn23 heq23 H locs hP hD hS ls hl
      refine lv_iload_n hx hb d_SF_preparePlaceFromChain_23 rfl (lv_at hl 2 rfl) ?_
      refine lv_bipush (v := 28) hx hb d_SF_preparePlaceFromChain_24 (by decide) ?_
      refine lv_icmp_ge (tgt := 60) hx hb d_SF_preparePlaceFromChain_26 (by decide) (fun c_3 => ?_) (fun c_3 => ?_)
      · rw [hQ]
        exact sf_vret vn hx hb hr hlk hS rfl (by rw [← heq23]; simp only [f_SF_preparePlaceFromChain_l23, ← hu_1, ← hu_2, eq_true c_3, ↓reduceIte]) hP d_SF_preparePlaceFromChain_60
      · have hlt : k < 27 := by have := sf_lt_of (N := 28) (k := 1 + k) (by omega) (by omega) c_3; omega
        refine lv_aload_n hx hb d_SF_preparePlaceFromChain_29 rfl (lv_at hl 0 rfl) ?_
        refine va_get (D := D) (ci := 2) (v := .ref (q 7)) (C := R_SF) (T := F_SF) (N := 15) hx hb hts i_SF hown hK hP 0 rfl rfl 3 (by decide) (hts _ wd_113) (fun _ h9 => h9) rfl d_SF_preparePlaceFromChain_30 ?_
        refine lv_iconst (v := 0) hx hb d_SF_preparePlaceFromChain_33 (by decide) ?_
        refine lv_iload_n hx hb d_SF_preparePlaceFromChain_34 rfl (lv_at hl 2 rfl) ?_
        refine lv_aload_n hx hb d_SF_preparePlaceFromChain_35 rfl (lv_at hl 0 rfl) ?_
        refine va_get (D := D) (ci := 2) (v := .ref (q 1)) (C := R_SF) (T := F_SF) (N := 15) hx hb hts i_SF hown hK hP 0 rfl rfl 0 (by decide) (hts _ wd_110) (fun _ h9 => h9) rfl d_SF_preparePlaceFromChain_36 ?_
        refine lv_aload_n hx hb d_SF_preparePlaceFromChain_39 rfl (lv_at hl 0 rfl) ?_
        refine va_get (D := D) (ci := 2) (v := .ref (q 11)) (C := R_SF) (T := F_SF) (N := 15) hx hb hts i_SF hown hK hP 0 rfl rfl 5 (by decide) (hts _ wd_115) (fun _ h9 => h9) rfl d_SF_preparePlaceFromChain_40 ?_
        refine lv_iload_n hx hb d_SF_preparePlaceFromChain_43 rfl (lv_at hl 1 rfl) ?_
        refine sf_callVr (S := Int32) (rest := [.ref (q 1), .int (nI (1 + k)), .int 0, .ref (q 7)]) ⟨hx, hb, hml, hown, hts⟩ (c_Ch_placeAt l D cI cZ cJ (q 11) (q 12) cp cc cb ch cm pk) (sf_cwV lk_SF_237 hts (fun _ h => h) (by rw [hR]; exact ⟨Nat.le_of_ble_eq_true rfl, Nat.le_of_ble_eq_true rfl⟩)) hK hP hD hS hA [11, 12] rfl rfl (fun _ => rfl) (ci := 1) (q0 := 0) rfl rfl rfl rfl rfl hl.1 (Nat.le_of_ble_eq_true rfl) d_SF_preparePlaceFromChain_44 ⟨Nat.zero_le _, Nat.zero_le _⟩ (fun u_4 H locs hu_4 hP hS => ?_)
        refine lv_iload_n hx hb d_SF_preparePlaceFromChain_47 rfl (lv_at hl 2 rfl) ?_
        refine sf_callVr (S := Int32) (rest := [.int (nI (1 + k)), .int 0, .ref (q 7)]) ⟨hx, hb, hml, hown, hts⟩ (c_Bl_get l D cI cZ cJ (q 1) (q 2) 768 fl (nI 32) u_4 (nI (1 + k)) (by omega)) (sf_cwV lk_SF_203 hts (fun _ h => h) (by rw [hR]; exact ⟨Nat.le_of_ble_eq_true rfl, Nat.le_of_ble_eq_true rfl⟩)) hK hP hD hS hA [1, 2] rfl rfl (fun _ => rfl) (ci := 0) (q0 := 0) rfl rfl rfl rfl rfl hl.1 (Nat.le_of_ble_eq_true rfl) d_SF_preparePlaceFromChain_48 ⟨Nat.zero_le _, Nat.zero_le _⟩ (fun u_5 H locs hu_5 hP hS => ?_)
        refine sf_callV (S := (Nat → Int32)) (rest := []) ⟨hx, hb, hml, hown, hts⟩ (c_Bl_set l D cI cZ cJ (q 7) (q 8) 32 vn (nI 32) 0 (nI (1 + k)) u_5 (by omega)) (sf_cwV lk_SF_209 hts (fun _ h => h) (by rw [hR]; exact ⟨Nat.le_of_ble_eq_true rfl, Nat.le_of_ble_eq_true rfl⟩)) hK hP hD hS hA [7, 8] rfl rfl (fun _ => rfl) (ci := 0) (q0 := 0) rfl rfl rfl rfl rfl hl.1 (Nat.le_of_ble_eq_true rfl) d_SF_preparePlaceFromChain_51 ⟨Nat.zero_le _, Nat.zero_le _⟩ (fun u_6 H locs hu_6 hP hD hS => ?_)
        have hP : va_P D classes (sf_w q cI cZ fl sl tb u_6 nt cp cc cb ch cm mp mc mb mh mm us ta tp tl cu bl pf sh) H := hP
        have hD : va_D A (sf_w q cI cZ fl sl tb u_6 nt cp cc cb ch cm mp mc mb mh mm us ta tp tl cu bl pf sh) := hD
        refine lv_iinc (v := (nI (1 + (k + 1)))) (lv' := [(2, .int (nI (1 + (k + 1)))), (0, .ref (q 0)), (1, .int pk)]) hx hb d_SF_preparePlaceFromChain_54 hl (k := 2) rfl (nI_1 (1 + k)) (by decide) rfl (fun ls hl => ?_)
        refine lv_goto (tgt := 23) hx hb d_SF_preparePlaceFromChain_57 (by decide) ?_
        exact ih23 (k + 1) u_6 (by omega) (by omega) (by rw [← heq23]; simp only [f_SF_preparePlaceFromChain_l23, ← hu_1, ← hu_2, ← hu_4, ← hu_5, ← hu_6, eq_false c_3, ↓reduceIte]) _ _ hP hD hS ls (lv_sub hl [1, 2, 0] rfl)
  skip
  exact loop23 (27 + 1) 0 u_2 (by omega) (by omega) (by simp only [f_SF_preparePlaceFromChain, ← hu_1, ← hu_2, ↓reduceIte]) _ _ hP hD hS ls (lv_sub hl [1, 2, 0] rfl)
def f_SF_putTable_l27 (tb : Nat → Int32) (bl : Int32) (ro : Int32) (fi : Int32) (fs : Int32) : Nat → Nat → (Nat → Int32) → ((Nat → Int32) × (Nat → Int32) × Int32)
  | 0, _, _ => ((fun _ => 0), (fun _ => 0), 0)
  | fu + 1, k, vn =>
    if 12 ≤ (nI k) then
      if (f_SF_countingTable tb) = 0 then
        ((f_SF_setSum 40 vn 36), (f_SF_putBlock_tt tb (f_SF_setSum 40 vn 36) bl 1).1, (f_SF_putBlock_tt tb (f_SF_setSum 40 vn 36) bl 1).2)
      else
        ((f_SF_setSum 40 vn 36), (f_SF_putBlock_tt tb (f_SF_setSum 40 vn 36) bl 0).1, (f_SF_putBlock_tt tb (f_SF_setSum 40 vn 36) bl 0).2)
    else
      if (nI k) = ro then
        f_SF_putTable_l27 tb bl ro fi fs fu (k + 1) (f_Bl_set 40 (f_Bl_set 40 vn (nI 40) 0 (1 + (nI k)) fi) (nI 40) 0 (13 + (nI k)) fs)
      else
        f_SF_putTable_l27 tb bl ro fi fs fu (k + 1) (f_Bl_set 40 (f_Bl_set 40 vn (nI 40) 0 (1 + (nI k)) (f_SF_firstOf tb (f_SF_countingTable tb) (nI k) 0)) (nI 40) 0 (13 + (nI k)) (f_SF_firstOf tb (f_SF_countingTable tb) (nI k) 1))
def f_SF_putTable (tb : Nat → Int32) (nt : Nat → Int32) (bl : Int32) (ro : Int32) (fi : Int32) (fs : Int32) : ((Nat → Int32) × (Nat → Int32) × Int32) :=
  f_SF_putTable_l27 tb bl ro fi fs (12 + 1) 0 (f_Bl_set 40 nt (nI 40) 0 0 (f_SF_numberBehind (f_SF_numberOf tb (f_SF_countingTable tb))))
set_option maxHeartbeats 1000000 in
set_option maxRecDepth 100000 in
/-- putTable -/
theorem c_SF_putTable (l : Launch) (D : va_G) (cI cZ cJ : ClassId) (q : Nat → Nat) (fl : Nat → Int32) (sl : Nat → Int32) (tb : Nat → Int32) (np : Nat → Int32) (nt : Nat → Int32) (cp : Nat → Int32) (cc : Int32) (cb : Int32) (ch : Int32) (cm : Int32) (mp : Nat → Int32) (mc : Int32) (mb : Int32) (mh : Int32) (mm : Int32) (us : Nat → Int32) (ta : Nat → Int32) (tp : Nat → Int32) (tl : Int32) (cu : Int32) (bl : Int32) (pf : Int32) (sh : Int32) (ro : Int32) (fi : Int32) (fs : Int32) : sf_M (S := ((Nat → Int32) × (Nat → Int32) × Int32)) l D classes (sf_tys cI cZ cJ) y_SF_putTable (sf_ws y_SF_putTable b_SF_putTable 6 none) 4 93 [.ref (q 0), .int ro, .int fi, .int fs] (sf_w q cI cZ fl sl tb np nt cp cc cb ch cm mp mc mb mh mm us ta tp tl cu bl pf sh) (fun _ => none) (fun r => r = f_SF_putTable tb nt bl ro fi fs) (fun r => (sf_w q cI cZ fl sl r.2.1 np r.1 cp cc cb ch cm mp mc mb mh mm us ta tp tl cu r.2.2 pf sh)) := by
  refine sf_ofW (S := ((Nat → Int32) × (Nat → Int32) × Int32)) (by decide) (Nat.le_of_ble_eq_true rfl) ?_
  intro p e s m below meth c A ls R args Q hR hArgs hQ hC0 hr hK hP hD hl
  obtain ⟨hx, hb, hml, hown, hts, hA, hlk⟩ := hC0
  have hS : va_S A s.heap s.heap [] := va_S.rf
  have hl : lv_has ls 6 [(0, .ref (q 0)), (1, .int ro), (2, .int fi), (3, .int fs)] := hl
  refine lv_aload_n hx hb d_SF_putTable_0 rfl (lv_at hl 0 rfl) ?_
  refine sf_callVw (S := Int32) (rest := []) ⟨hx, hb, hml, hown, hts⟩ (c_SF_countingTable l D cI cZ cJ q fl sl tb np nt cp cc cb ch cm mp mc mb mh mm us ta tp tl cu bl pf sh) (sf_cwV lk_SF_179 hts (fun _ h => h) (by rw [hR]; exact ⟨Nat.le_of_ble_eq_true rfl, Nat.le_of_ble_eq_true rfl⟩)) hK hP hD hS hA (fun _ => by simp only [sf_w_fst]) (ci := 2) (q0 := 0) rfl rfl rfl rfl rfl hl.1 (Nat.le_of_ble_eq_true rfl) d_SF_putTable_1 ⟨Nat.zero_le _, Nat.zero_le _⟩ (fun u_1 H locs hu_1 hP hD hS => ?_)
  have hP : va_P D classes (sf_w q cI cZ fl sl tb np nt cp cc cb ch cm mp mc mb mh mm us ta tp tl cu bl pf sh) H := hP
  have hD : va_D A (sf_w q cI cZ fl sl tb np nt cp cc cb ch cm mp mc mb mh mm us ta tp tl cu bl pf sh) := hD
  refine lv_istore (lv' := [(4, .int u_1), (0, .ref (q 0)), (1, .int ro), (2, .int fi), (3, .int fs)]) hx hb d_SF_putTable_4 hl (by decide) rfl (fun ls hl => ?_)
  refine lv_aload_n hx hb d_SF_putTable_6 rfl (lv_at hl 1 rfl) ?_
  refine va_get (D := D) (ci := 2) (v := .ref (q 9)) (C := R_SF) (T := F_SF) (N := 15) hx hb hts i_SF hown hK hP 0 rfl rfl 4 (by decide) (hts _ wd_114) (fun _ h9 => h9) rfl d_SF_putTable_7 ?_
  refine lv_iconst (v := 0) hx hb d_SF_putTable_10 (by decide) ?_
  refine lv_iconst (v := 0) hx hb d_SF_putTable_11 (by decide) ?_
  refine lv_aload_n hx hb d_SF_putTable_12 rfl (lv_at hl 1 rfl) ?_
  refine lv_iload hx hb d_SF_putTable_13 (lv_at hl 0 rfl) ?_
  refine sf_callVw (S := Int32) (rest := [.int 0, .int 0, .ref (q 9)]) ⟨hx, hb, hml, hown, hts⟩ (c_SF_numberOf l D cI cZ cJ q fl sl tb np nt cp cc cb ch cm mp mc mb mh mm us ta tp tl cu bl pf sh u_1) (sf_cwV lk_SF_182 hts (fun _ h => h) (by rw [hR]; exact ⟨Nat.le_of_ble_eq_true rfl, Nat.le_of_ble_eq_true rfl⟩)) hK hP hD hS hA (fun _ => by simp only [sf_w_fst]) (ci := 2) (q0 := 0) rfl rfl rfl rfl rfl hl.1 (Nat.le_of_ble_eq_true rfl) d_SF_putTable_15 ⟨Nat.zero_le _, Nat.zero_le _⟩ (fun u_2 H locs hu_2 hP hD hS => ?_)
  have hP : va_P D classes (sf_w q cI cZ fl sl tb np nt cp cc cb ch cm mp mc mb mh mm us ta tp tl cu bl pf sh) H := hP
  have hD : va_D A (sf_w q cI cZ fl sl tb np nt cp cc cb ch cm mp mc mb mh mm us ta tp tl cu bl pf sh) := hD
  refine sf_callSr (S := Int32) (rest := [.int 0, .int 0, .ref (q 9)]) ⟨hx, hb, hml, hown, hts⟩ (c_SF_numberBehind l D cI cZ cJ u_2) (sf_cwS lk_SF_221 hts (fun _ h => h) (by rw [hR]; exact ⟨Nat.le_of_ble_eq_true rfl, Nat.le_of_ble_eq_true rfl⟩)) hK hP hD hS hA [] rfl rfl (fun _ => rfl) rfl rfl hl.1 (Nat.le_of_ble_eq_true rfl) d_SF_putTable_18 ⟨Nat.zero_le _, Nat.zero_le _⟩ (fun u_3 H locs hu_3 hP hS => ?_)
  refine sf_callV (S := (Nat → Int32)) (rest := []) ⟨hx, hb, hml, hown, hts⟩ (c_Bl_set l D cI cZ cJ (q 9) (q 10) 40 nt (nI 40) 0 0 u_3 (by omega)) (sf_cwV lk_SF_209 hts (fun _ h => h) (by rw [hR]; exact ⟨Nat.le_of_ble_eq_true rfl, Nat.le_of_ble_eq_true rfl⟩)) hK hP hD hS hA [9, 10] rfl rfl (fun _ => rfl) (ci := 0) (q0 := 0) rfl rfl rfl rfl rfl hl.1 (Nat.le_of_ble_eq_true rfl) d_SF_putTable_21 ⟨Nat.zero_le _, Nat.zero_le _⟩ (fun u_4 H locs hu_4 hP hD hS => ?_)
  have hP : va_P D classes (sf_w q cI cZ fl sl tb np u_4 cp cc cb ch cm mp mc mb mh mm us ta tp tl cu bl pf sh) H := hP
  have hD : va_D A (sf_w q cI cZ fl sl tb np u_4 cp cc cb ch cm mp mc mb mh mm us ta tp tl cu bl pf sh) := hD
  refine lv_iconst (v := 0) hx hb d_SF_putTable_24 (by decide) ?_
  refine lv_istore (lv' := [(5, .int 0), (4, .int u_1), (0, .ref (q 0)), (1, .int ro), (2, .int fi), (3, .int fs)]) hx hb d_SF_putTable_25 hl (by decide) rfl (fun ls hl => ?_)
  have loop27 : ∀ (fu k : Nat) (vn : (Nat → Int32)), k ≤ 12 → k + fu = 12 + 1 → f_SF_putTable_l27 tb bl ro fi fs fu k vn = f_SF_putTable tb nt bl ro fi fs → ∀ (H : Heap) (locs : List Loc), va_P D classes (sf_w q cI cZ fl sl tb np vn cp cc cb ch cm mp mc mb mh mm us ta tp tl cu bl pf sh) H → va_D A (sf_w q cI cZ fl sl tb np vn cp cc cb ch cm mp mc mb mh mm us ta tp tl cu bl pf sh) → va_S A s.heap H locs → ∀ (ls : Array Slot), lv_has ls 6 [(0, .ref (q 0)), (1, .int ro), (2, .int fi), (3, .int fs), (4, .int u_1), (5, .int (nI k))] → W p l e R s m args below meth c H locs 0 0 Q (F0 m 27 ls []) := by
    intro fu
    induction fu with
    | zero =>
      intro k vn h1 h2
      exact absurd h2 (by omega)
    | succ fu ih27 =>
      intro k vn hk27 hkn27 heq27 H locs hP hD hS ls hl
      refine lv_iload hx hb d_SF_putTable_27 (lv_at hl 5 rfl) ?_
      refine lv_bipush (v := 12) hx hb d_SF_putTable_29 (by decide) ?_
      refine lv_icmp_ge (tgt := 103) hx hb d_SF_putTable_31 (by decide) (fun c_5 => ?_) (fun c_5 => ?_)
      · refine lv_aload_n hx hb d_SF_putTable_103 rfl (lv_at hl 0 rfl) ?_
        refine va_get (D := D) (ci := 2) (v := .ref (q 9)) (C := R_SF) (T := F_SF) (N := 15) hx hb hts i_SF hown hK hP 0 rfl rfl 4 (by decide) (hts _ wd_114) (fun _ h9 => h9) rfl d_SF_putTable_104 ?_
        refine sf_callS (S := (Nat → Int32)) (rest := []) ⟨hx, hb, hml, hown, hts⟩ (c_SF_setSum l D cI cZ cJ (q 9) (q 10) 40 vn 36 (by omega) (by omega)) (sf_cwS lk_SF_270 hts (fun _ h => h) (by rw [hR]; exact ⟨Nat.le_of_ble_eq_true rfl, Nat.le_of_ble_eq_true rfl⟩)) hK hP hD hS hA [9, 10] rfl rfl (fun _ => rfl) rfl rfl hl.1 (Nat.le_of_ble_eq_true rfl) d_SF_putTable_107 ⟨Nat.zero_le _, Nat.zero_le _⟩ (fun u_6 H locs hu_6 hP hD hS => ?_)
        have hP : va_P D classes (sf_w q cI cZ fl sl tb np u_6 cp cc cb ch cm mp mc mb mh mm us ta tp tl cu bl pf sh) H := hP
        have hD : va_D A (sf_w q cI cZ fl sl tb np u_6 cp cc cb ch cm mp mc mb mh mm us ta tp tl cu bl pf sh) := hD
        refine lv_aload_n hx hb d_SF_putTable_110 rfl (lv_at hl 0 rfl) ?_
        refine lv_aload_n hx hb d_SF_putTable_111 rfl (lv_at hl 0 rfl) ?_
        refine va_get (D := D) (ci := 2) (v := .ref (q 9)) (C := R_SF) (T := F_SF) (N := 15) hx hb hts i_SF hown hK hP 0 rfl rfl 4 (by decide) (hts _ wd_114) (fun _ h9 => h9) rfl d_SF_putTable_112 ?_
        refine lv_aload_n hx hb d_SF_putTable_115 rfl (lv_at hl 0 rfl) ?_
        refine va_get (D := D) (ci := 2) (v := .ref (q 5)) (C := R_SF) (T := F_SF) (N := 15) hx hb hts i_SF hown hK hP 0 rfl rfl 2 (by decide) (hts _ wd_112) (fun _ h9 => h9) rfl d_SF_putTable_116 ?_
        refine lv_iload hx hb d_SF_putTable_119 (lv_at hl 4 rfl) ?_
        refine lv_if_ne (tgt := 128) hx hb d_SF_putTable_121 (by decide) (fun c_7 => ?_) (fun c_7 => ?_)
        · refine lv_iconst (v := 0) hx hb d_SF_putTable_128 (by decide) ?_
          refine sf_callVw (S := ((Nat → Int32) × Int32)) (rest := []) ⟨hx, hb, hml, hown, hts⟩ (c_SF_putBlock_tt l D cI cZ cJ q fl sl tb np u_6 cp cc cb ch cm mp mc mb mh mm us ta tp tl cu bl pf sh 0) (sf_cwV lk_SF_274 hts (fun _ h => h) (by rw [hR]; exact ⟨Nat.le_of_ble_eq_true rfl, Nat.le_of_ble_eq_true rfl⟩)) hK hP hD hS hA (fun _ => by simp only [sf_w_fst]) (ci := 2) (q0 := 0) rfl rfl rfl rfl rfl hl.1 (Nat.le_of_ble_eq_true rfl) d_SF_putTable_129 ⟨Nat.zero_le _, Nat.zero_le _⟩ (fun u_8 H locs hu_8 hP hD hS => ?_)
          have hP : va_P D classes (sf_w q cI cZ fl sl u_8.1 np u_6 cp cc cb ch cm mp mc mb mh mm us ta tp tl cu u_8.2 pf sh) H := hP
          have hD : va_D A (sf_w q cI cZ fl sl u_8.1 np u_6 cp cc cb ch cm mp mc mb mh mm us ta tp tl cu u_8.2 pf sh) := hD
          rw [hQ]
          exact sf_vret (u_6, u_8.1, u_8.2) hx hb hr hlk hS rfl (by rw [← heq27]; simp only [f_SF_putTable_l27, ← hu_1, ← hu_2, ← hu_3, ← hu_4, ← hu_6, ← hu_8, eq_true c_5, eq_false c_7, ↓reduceIte]) hP d_SF_putTable_132
        · refine lv_iconst (v := 1) hx hb d_SF_putTable_124 (by decide) ?_
          refine lv_goto (tgt := 129) hx hb d_SF_putTable_125 (by decide) ?_
          refine sf_callVw (S := ((Nat → Int32) × Int32)) (rest := []) ⟨hx, hb, hml, hown, hts⟩ (c_SF_putBlock_tt l D cI cZ cJ q fl sl tb np u_6 cp cc cb ch cm mp mc mb mh mm us ta tp tl cu bl pf sh 1) (sf_cwV lk_SF_274 hts (fun _ h => h) (by rw [hR]; exact ⟨Nat.le_of_ble_eq_true rfl, Nat.le_of_ble_eq_true rfl⟩)) hK hP hD hS hA (fun _ => by simp only [sf_w_fst]) (ci := 2) (q0 := 0) rfl rfl rfl rfl rfl hl.1 (Nat.le_of_ble_eq_true rfl) d_SF_putTable_129 ⟨Nat.zero_le _, Nat.zero_le _⟩ (fun u_9 H locs hu_9 hP hD hS => ?_)
          have hP : va_P D classes (sf_w q cI cZ fl sl u_9.1 np u_6 cp cc cb ch cm mp mc mb mh mm us ta tp tl cu u_9.2 pf sh) H := hP
          have hD : va_D A (sf_w q cI cZ fl sl u_9.1 np u_6 cp cc cb ch cm mp mc mb mh mm us ta tp tl cu u_9.2 pf sh) := hD
          rw [hQ]
          exact sf_vret (u_6, u_9.1, u_9.2) hx hb hr hlk hS rfl (by rw [← heq27]; simp only [f_SF_putTable_l27, ← hu_1, ← hu_2, ← hu_3, ← hu_4, ← hu_6, ← hu_9, eq_true c_5, eq_true c_7, ↓reduceIte]) hP d_SF_putTable_132
      · have hlt : k < 12 := sf_lt_of (N := 12) (by omega) (by omega) c_5
        refine lv_aload_n hx hb d_SF_putTable_34 rfl (lv_at hl 0 rfl) ?_
        refine va_get (D := D) (ci := 2) (v := .ref (q 9)) (C := R_SF) (T := F_SF) (N := 15) hx hb hts i_SF hown hK hP 0 rfl rfl 4 (by decide) (hts _ wd_114) (fun _ h9 => h9) rfl d_SF_putTable_35 ?_
        refine lv_iconst (v := 0) hx hb d_SF_putTable_38 (by decide) ?_
        refine lv_iconst (v := 1) hx hb d_SF_putTable_39 (by decide) ?_
        refine lv_iload hx hb d_SF_putTable_40 (lv_at hl 5 rfl) ?_
        refine lv_iadd hx hb d_SF_putTable_42 ?_
        refine lv_iload hx hb d_SF_putTable_43 (lv_at hl 5 rfl) ?_
        refine lv_iload_n hx hb d_SF_putTable_45 rfl (lv_at hl 1 rfl) ?_
        refine lv_icmp_ne (tgt := 53) hx hb d_SF_putTable_46 (by decide) (fun c_10 => ?_) (fun c_10 => ?_)
        · refine lv_aload_n hx hb d_SF_putTable_53 rfl (lv_at hl 0 rfl) ?_
          refine lv_iload hx hb d_SF_putTable_54 (lv_at hl 4 rfl) ?_
          refine lv_iload hx hb d_SF_putTable_56 (lv_at hl 5 rfl) ?_
          refine lv_iconst (v := 0) hx hb d_SF_putTable_58 (by decide) ?_
          refine sf_callVw (S := Int32) (rest := [.int (1 + (nI k)), .int 0, .ref (q 9)]) ⟨hx, hb, hml, hown, hts⟩ (c_SF_firstOf l D cI cZ cJ q fl sl tb np vn cp cc cb ch cm mp mc mb mh mm us ta tp tl cu bl pf sh u_1 (nI k) 0) (sf_cwV lk_SF_224 hts (fun _ h => h) (by rw [hR]; exact ⟨Nat.le_of_ble_eq_true rfl, Nat.le_of_ble_eq_true rfl⟩)) hK hP hD hS hA (fun _ => by simp only [sf_w_fst]) (ci := 2) (q0 := 0) rfl rfl rfl rfl rfl hl.1 (Nat.le_of_ble_eq_true rfl) d_SF_putTable_59 ⟨Nat.zero_le _, Nat.zero_le _⟩ (fun u_11 H locs hu_11 hP hD hS => ?_)
          have hP : va_P D classes (sf_w q cI cZ fl sl tb np vn cp cc cb ch cm mp mc mb mh mm us ta tp tl cu bl pf sh) H := hP
          have hD : va_D A (sf_w q cI cZ fl sl tb np vn cp cc cb ch cm mp mc mb mh mm us ta tp tl cu bl pf sh) := hD
          refine sf_callV (S := (Nat → Int32)) (rest := []) ⟨hx, hb, hml, hown, hts⟩ (c_Bl_set l D cI cZ cJ (q 9) (q 10) 40 vn (nI 40) 0 (1 + (nI k)) u_11 (by omega)) (sf_cwV lk_SF_209 hts (fun _ h => h) (by rw [hR]; exact ⟨Nat.le_of_ble_eq_true rfl, Nat.le_of_ble_eq_true rfl⟩)) hK hP hD hS hA [9, 10] rfl rfl (fun _ => rfl) (ci := 0) (q0 := 0) rfl rfl rfl rfl rfl hl.1 (Nat.le_of_ble_eq_true rfl) d_SF_putTable_62 ⟨Nat.zero_le _, Nat.zero_le _⟩ (fun u_12 H locs hu_12 hP hD hS => ?_)
          have hP : va_P D classes (sf_w q cI cZ fl sl tb np u_12 cp cc cb ch cm mp mc mb mh mm us ta tp tl cu bl pf sh) H := hP
          have hD : va_D A (sf_w q cI cZ fl sl tb np u_12 cp cc cb ch cm mp mc mb mh mm us ta tp tl cu bl pf sh) := hD
          refine lv_aload_n hx hb d_SF_putTable_65 rfl (lv_at hl 0 rfl) ?_
          refine va_get (D := D) (ci := 2) (v := .ref (q 9)) (C := R_SF) (T := F_SF) (N := 15) hx hb hts i_SF hown hK hP 0 rfl rfl 4 (by decide) (hts _ wd_114) (fun _ h9 => h9) rfl d_SF_putTable_66 ?_
          refine lv_iconst (v := 0) hx hb d_SF_putTable_69 (by decide) ?_
          refine lv_bipush (v := 13) hx hb d_SF_putTable_70 (by decide) ?_
          refine lv_iload hx hb d_SF_putTable_72 (lv_at hl 5 rfl) ?_
          refine lv_iadd hx hb d_SF_putTable_74 ?_
          refine lv_iload hx hb d_SF_putTable_75 (lv_at hl 5 rfl) ?_
          refine lv_iload_n hx hb d_SF_putTable_77 rfl (lv_at hl 1 rfl) ?_
          refine lv_icmp_ne (tgt := 85) hx hb d_SF_putTable_78 (by decide) (fun c_13 => ?_) (fun c_13 => absurd c_13 c_10)
          refine lv_aload_n hx hb d_SF_putTable_85 rfl (lv_at hl 0 rfl) ?_
          refine lv_iload hx hb d_SF_putTable_86 (lv_at hl 4 rfl) ?_
          refine lv_iload hx hb d_SF_putTable_88 (lv_at hl 5 rfl) ?_
          refine lv_iconst (v := 1) hx hb d_SF_putTable_90 (by decide) ?_
          refine sf_callVw (S := Int32) (rest := [.int (13 + (nI k)), .int 0, .ref (q 9)]) ⟨hx, hb, hml, hown, hts⟩ (c_SF_firstOf l D cI cZ cJ q fl sl tb np u_12 cp cc cb ch cm mp mc mb mh mm us ta tp tl cu bl pf sh u_1 (nI k) 1) (sf_cwV lk_SF_224 hts (fun _ h => h) (by rw [hR]; exact ⟨Nat.le_of_ble_eq_true rfl, Nat.le_of_ble_eq_true rfl⟩)) hK hP hD hS hA (fun _ => by simp only [sf_w_fst]) (ci := 2) (q0 := 0) rfl rfl rfl rfl rfl hl.1 (Nat.le_of_ble_eq_true rfl) d_SF_putTable_91 ⟨Nat.zero_le _, Nat.zero_le _⟩ (fun u_14 H locs hu_14 hP hD hS => ?_)
          have hP : va_P D classes (sf_w q cI cZ fl sl tb np u_12 cp cc cb ch cm mp mc mb mh mm us ta tp tl cu bl pf sh) H := hP
          have hD : va_D A (sf_w q cI cZ fl sl tb np u_12 cp cc cb ch cm mp mc mb mh mm us ta tp tl cu bl pf sh) := hD
          refine sf_callV (S := (Nat → Int32)) (rest := []) ⟨hx, hb, hml, hown, hts⟩ (c_Bl_set l D cI cZ cJ (q 9) (q 10) 40 u_12 (nI 40) 0 (13 + (nI k)) u_14 (by omega)) (sf_cwV lk_SF_209 hts (fun _ h => h) (by rw [hR]; exact ⟨Nat.le_of_ble_eq_true rfl, Nat.le_of_ble_eq_true rfl⟩)) hK hP hD hS hA [9, 10] rfl rfl (fun _ => rfl) (ci := 0) (q0 := 0) rfl rfl rfl rfl rfl hl.1 (Nat.le_of_ble_eq_true rfl) d_SF_putTable_94 ⟨Nat.zero_le _, Nat.zero_le _⟩ (fun u_15 H locs hu_15 hP hD hS => ?_)
          have hP : va_P D classes (sf_w q cI cZ fl sl tb np u_15 cp cc cb ch cm mp mc mb mh mm us ta tp tl cu bl pf sh) H := hP
          have hD : va_D A (sf_w q cI cZ fl sl tb np u_15 cp cc cb ch cm mp mc mb mh mm us ta tp tl cu bl pf sh) := hD
          refine lv_iinc (v := (nI (k + 1))) (lv' := [(5, .int (nI (k + 1))), (0, .ref (q 0)), (1, .int ro), (2, .int fi), (3, .int fs), (4, .int u_1)]) hx hb d_SF_putTable_97 hl (k := 5) rfl (nI_1 k) (by decide) rfl (fun ls hl => ?_)
          refine lv_goto (tgt := 27) hx hb d_SF_putTable_100 (by decide) ?_
          exact ih27 (k + 1) u_15 (by omega) (by omega) (by rw [← heq27]; simp only [f_SF_putTable_l27, ← hu_1, ← hu_2, ← hu_3, ← hu_4, ← hu_11, ← hu_12, ← hu_14, ← hu_15, eq_false c_5, eq_false c_10, ↓reduceIte]) _ _ hP hD hS ls (lv_sub hl [1, 2, 3, 4, 5, 0] rfl)
        · refine lv_iload_n hx hb d_SF_putTable_49 rfl (lv_at hl 2 rfl) ?_
          refine lv_goto (tgt := 62) hx hb d_SF_putTable_50 (by decide) ?_
          refine sf_callV (S := (Nat → Int32)) (rest := []) ⟨hx, hb, hml, hown, hts⟩ (c_Bl_set l D cI cZ cJ (q 9) (q 10) 40 vn (nI 40) 0 (1 + (nI k)) fi (by omega)) (sf_cwV lk_SF_209 hts (fun _ h => h) (by rw [hR]; exact ⟨Nat.le_of_ble_eq_true rfl, Nat.le_of_ble_eq_true rfl⟩)) hK hP hD hS hA [9, 10] rfl rfl (fun _ => rfl) (ci := 0) (q0 := 0) rfl rfl rfl rfl rfl hl.1 (Nat.le_of_ble_eq_true rfl) d_SF_putTable_62 ⟨Nat.zero_le _, Nat.zero_le _⟩ (fun u_16 H locs hu_16 hP hD hS => ?_)
          have hP : va_P D classes (sf_w q cI cZ fl sl tb np u_16 cp cc cb ch cm mp mc mb mh mm us ta tp tl cu bl pf sh) H := hP
          have hD : va_D A (sf_w q cI cZ fl sl tb np u_16 cp cc cb ch cm mp mc mb mh mm us ta tp tl cu bl pf sh) := hD
          refine lv_aload_n hx hb d_SF_putTable_65 rfl (lv_at hl 0 rfl) ?_
          refine va_get (D := D) (ci := 2) (v := .ref (q 9)) (C := R_SF) (T := F_SF) (N := 15) hx hb hts i_SF hown hK hP 0 rfl rfl 4 (by decide) (hts _ wd_114) (fun _ h9 => h9) rfl d_SF_putTable_66 ?_
          refine lv_iconst (v := 0) hx hb d_SF_putTable_69 (by decide) ?_
          refine lv_bipush (v := 13) hx hb d_SF_putTable_70 (by decide) ?_
          refine lv_iload hx hb d_SF_putTable_72 (lv_at hl 5 rfl) ?_
          refine lv_iadd hx hb d_SF_putTable_74 ?_
          refine lv_iload hx hb d_SF_putTable_75 (lv_at hl 5 rfl) ?_
          refine lv_iload_n hx hb d_SF_putTable_77 rfl (lv_at hl 1 rfl) ?_
          refine lv_icmp_ne (tgt := 85) hx hb d_SF_putTable_78 (by decide) (fun c_17 => absurd c_10 c_17) (fun c_17 => ?_)
          refine lv_iload_n hx hb d_SF_putTable_81 rfl (lv_at hl 3 rfl) ?_
          refine lv_goto (tgt := 94) hx hb d_SF_putTable_82 (by decide) ?_
          refine sf_callV (S := (Nat → Int32)) (rest := []) ⟨hx, hb, hml, hown, hts⟩ (c_Bl_set l D cI cZ cJ (q 9) (q 10) 40 u_16 (nI 40) 0 (13 + (nI k)) fs (by omega)) (sf_cwV lk_SF_209 hts (fun _ h => h) (by rw [hR]; exact ⟨Nat.le_of_ble_eq_true rfl, Nat.le_of_ble_eq_true rfl⟩)) hK hP hD hS hA [9, 10] rfl rfl (fun _ => rfl) (ci := 0) (q0 := 0) rfl rfl rfl rfl rfl hl.1 (Nat.le_of_ble_eq_true rfl) d_SF_putTable_94 ⟨Nat.zero_le _, Nat.zero_le _⟩ (fun u_18 H locs hu_18 hP hD hS => ?_)
          have hP : va_P D classes (sf_w q cI cZ fl sl tb np u_18 cp cc cb ch cm mp mc mb mh mm us ta tp tl cu bl pf sh) H := hP
          have hD : va_D A (sf_w q cI cZ fl sl tb np u_18 cp cc cb ch cm mp mc mb mh mm us ta tp tl cu bl pf sh) := hD
          refine lv_iinc (v := (nI (k + 1))) (lv' := [(5, .int (nI (k + 1))), (0, .ref (q 0)), (1, .int ro), (2, .int fi), (3, .int fs), (4, .int u_1)]) hx hb d_SF_putTable_97 hl (k := 5) rfl (nI_1 k) (by decide) rfl (fun ls hl => ?_)
          refine lv_goto (tgt := 27) hx hb d_SF_putTable_100 (by decide) ?_
          exact ih27 (k + 1) u_18 (by omega) (by omega) (by rw [← heq27]; simp only [f_SF_putTable_l27, ← hu_1, ← hu_2, ← hu_3, ← hu_4, ← hu_16, ← hu_18, eq_false c_5, eq_true c_10, ↓reduceIte]) _ _ hP hD hS ls (lv_sub hl [1, 2, 3, 4, 5, 0] rfl)
  exact loop27 (12 + 1) 0 u_4 (by omega) (by omega) (by simp only [f_SF_putTable, ← hu_1, ← hu_2, ← hu_3, ← hu_4, ↓reduceIte]) _ _ hP hD hS ls (lv_sub hl [2, 3, 4, 5, 1, 0] rfl)
