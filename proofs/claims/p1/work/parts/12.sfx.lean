/-! sfx: contracts, with the pure functions that they speak of (printed by wip/gen) -/
set_option maxRecDepth 20000 in
theorem wd_207 : Cond.classLink R_SF 55 "java/lang/IllegalArgumentException" ∈ sf_tb := sf_tb_in 207 rfl rfl
set_option maxRecDepth 20000 in
theorem wd_59 : Cond.initialized "java/lang/IllegalArgumentException" ∈ sf_tb := sf_tb_in 59 rfl rfl
set_option maxRecDepth 20000 in
theorem wd_276 : Cond.classLink R_SF 65 "java/lang/UnsupportedOperationException" ∈ sf_tb := sf_tb_in 276 rfl rfl
set_option maxRecDepth 20000 in
theorem wd_60 : Cond.initialized "java/lang/UnsupportedOperationException" ∈ sf_tb := sf_tb_in 60 rfl rfl
set_option maxRecDepth 20000 in
theorem wd_308 : Cond.classLink R_SF 78 "java/lang/IndexOutOfBoundsException" ∈ sf_tb := sf_tb_in 308 rfl rfl
set_option maxRecDepth 20000 in
theorem wd_61 : Cond.initialized "java/lang/IndexOutOfBoundsException" ∈ sf_tb := sf_tb_in 61 rfl rfl
set_option maxRecDepth 20000 in
theorem wd_324 : Cond.classLink R_SF 87 "java/lang/IllegalStateException" ∈ sf_tb := sf_tb_in 324 rfl rfl
set_option maxRecDepth 20000 in
theorem wd_62 : Cond.initialized "java/lang/IllegalStateException" ∈ sf_tb := sf_tb_in 62 rfl rfl
set_option maxRecDepth 20000 in
theorem wd_292 : Cond.methodLink R_SF 70 y_SF_addToTape ∈ sf_tb := sf_tb_in 292 rfl rfl
set_option maxRecDepth 20000 in
theorem wd_295 : Cond.code y_SF_addToTape b_SF_addToTape 2 none ∈ sf_tb := sf_tb_in 295 rfl rfl
set_option maxRecDepth 20000 in
theorem wd_294 : Cond.instanceMethod y_SF_addToTape ∈ sf_tb := sf_tb_in 294 rfl rfl
set_option maxRecDepth 20000 in
theorem wd_6 : Cond.selects R_SF y_SF_addToTape y_SF_addToTape ∈ sf_tb := sf_tb_in 6 rfl rfl
set_option maxRecDepth 20000 in
theorem wd_305 : Cond.methodLink R_SF 74 y_SF_isRow ∈ sf_tb := sf_tb_in 305 rfl rfl
set_option maxRecDepth 20000 in
theorem wd_307 : Cond.code y_SF_isRow b_SF_isRow 1 (some .boolean) ∈ sf_tb := sf_tb_in 307 rfl rfl
set_option maxRecDepth 20000 in
theorem wd_306 : Cond.static y_SF_isRow ∈ sf_tb := sf_tb_in 306 rfl rfl
set_option maxRecDepth 20000 in
theorem wd_340 : Cond.methodLink R_SF 92 y_SF_isMonth ∈ sf_tb := sf_tb_in 340 rfl rfl
set_option maxRecDepth 20000 in
theorem wd_342 : Cond.code y_SF_isMonth b_SF_isMonth 1 (some .boolean) ∈ sf_tb := sf_tb_in 342 rfl rfl
set_option maxRecDepth 20000 in
theorem wd_341 : Cond.static y_SF_isMonth ∈ sf_tb := sf_tb_in 341 rfl rfl
set_option maxRecDepth 20000 in
theorem wd_344 : Cond.methodLink R_SF 97 y_SF_takePlaces ∈ sf_tb := sf_tb_in 344 rfl rfl
set_option maxRecDepth 20000 in
theorem wd_347 : Cond.code y_SF_takePlaces b_SF_takePlaces 5 (some .boolean) ∈ sf_tb := sf_tb_in 347 rfl rfl
set_option maxRecDepth 20000 in
theorem wd_346 : Cond.instanceMethod y_SF_takePlaces ∈ sf_tb := sf_tb_in 346 rfl rfl
set_option maxRecDepth 20000 in
theorem wd_7 : Cond.selects R_SF y_SF_takePlaces y_SF_takePlaces ∈ sf_tb := sf_tb_in 7 rfl rfl
set_option maxRecDepth 20000 in
theorem wd_398 : Cond.methodLink R_SF 106 y_SF_preparePlaceFromTape ∈ sf_tb := sf_tb_in 398 rfl rfl
set_option maxRecDepth 20000 in
theorem wd_401 : Cond.code y_SF_preparePlaceFromTape b_SF_preparePlaceFromTape 7 none ∈ sf_tb := sf_tb_in 401 rfl rfl
set_option maxRecDepth 20000 in
theorem wd_400 : Cond.instanceMethod y_SF_preparePlaceFromTape ∈ sf_tb := sf_tb_in 400 rfl rfl
set_option maxRecDepth 20000 in
theorem wd_15 : Cond.selects R_SF y_SF_preparePlaceFromTape y_SF_preparePlaceFromTape ∈ sf_tb := sf_tb_in 15 rfl rfl
set_option maxRecDepth 20000 in
theorem wd_457 : Cond.methodLink R_SF 132 y_SF_followToMove ∈ sf_tb := sf_tb_in 457 rfl rfl
set_option maxRecDepth 20000 in
theorem wd_460 : Cond.code y_SF_followToMove b_SF_followToMove 3 (some .boolean) ∈ sf_tb := sf_tb_in 460 rfl rfl
set_option maxRecDepth 20000 in
theorem wd_459 : Cond.instanceMethod y_SF_followToMove ∈ sf_tb := sf_tb_in 459 rfl rfl
set_option maxRecDepth 20000 in
theorem wd_23 : Cond.selects R_SF y_SF_followToMove y_SF_followToMove ∈ sf_tb := sf_tb_in 23 rfl rfl
set_option maxRecDepth 20000 in
theorem wd_474 : Cond.methodLink R_SF 141 y_SF_moveFollowed ∈ sf_tb := sf_tb_in 474 rfl rfl
set_option maxRecDepth 20000 in
theorem wd_477 : Cond.code y_SF_moveFollowed b_SF_moveFollowed 3 (some .boolean) ∈ sf_tb := sf_tb_in 477 rfl rfl
set_option maxRecDepth 20000 in
theorem wd_476 : Cond.instanceMethod y_SF_moveFollowed ∈ sf_tb := sf_tb_in 476 rfl rfl
set_option maxRecDepth 20000 in
theorem wd_26 : Cond.selects R_SF y_SF_moveFollowed y_SF_moveFollowed ∈ sf_tb := sf_tb_in 26 rfl rfl
set_option maxRecDepth 20000 in
theorem wd_498 : Cond.methodLink R_SF 151 y_Ch_bytes ∈ sf_tb := sf_tb_in 498 rfl rfl
set_option maxRecDepth 20000 in
theorem wd_501 : Cond.code y_Ch_bytes b_Ch_bytes 1 (some .int) ∈ sf_tb := sf_tb_in 501 rfl rfl
set_option maxRecDepth 20000 in
theorem wd_499 : Cond.instanceMethod y_Ch_bytes ∈ sf_tb := sf_tb_in 499 rfl rfl
set_option maxRecDepth 20000 in
theorem wd_500 : Cond.selects R_Ch y_Ch_bytes y_Ch_bytes ∈ sf_tb := sf_tb_in 500 rfl rfl
set_option maxRecDepth 20000 in
theorem wd_503 : Cond.methodLink R_SF 164 y_Ch_dataAt ∈ sf_tb := sf_tb_in 503 rfl rfl
set_option maxRecDepth 20000 in
theorem wd_506 : Cond.code y_Ch_dataAt b_Ch_dataAt 7 (some .int) ∈ sf_tb := sf_tb_in 506 rfl rfl
set_option maxRecDepth 20000 in
theorem wd_504 : Cond.instanceMethod y_Ch_dataAt ∈ sf_tb := sf_tb_in 504 rfl rfl
set_option maxRecDepth 20000 in
theorem wd_505 : Cond.selects R_Ch y_Ch_dataAt y_Ch_dataAt ∈ sf_tb := sf_tb_in 505 rfl rfl
set_option maxRecDepth 20000 in
theorem wd_524 : Cond.methodLink R_SF 175 y_SF_countFree ∈ sf_tb := sf_tb_in 524 rfl rfl
set_option maxRecDepth 20000 in
theorem wd_527 : Cond.code y_SF_countFree b_SF_countFree 4 (some .int) ∈ sf_tb := sf_tb_in 527 rfl rfl
set_option maxRecDepth 20000 in
theorem wd_526 : Cond.instanceMethod y_SF_countFree ∈ sf_tb := sf_tb_in 526 rfl rfl
set_option maxRecDepth 20000 in
theorem wd_28 : Cond.selects R_SF y_SF_countFree y_SF_countFree ∈ sf_tb := sf_tb_in 28 rfl rfl
set_option maxRecDepth 20000 in
theorem wd_536 : Cond.methodLink R_SF 187 y_SF_wrongTable ∈ sf_tb := sf_tb_in 536 rfl rfl
set_option maxRecDepth 20000 in
theorem wd_539 : Cond.code y_SF_wrongTable b_SF_wrongTable 4 (some .int) ∈ sf_tb := sf_tb_in 539 rfl rfl
set_option maxRecDepth 20000 in
theorem wd_538 : Cond.instanceMethod y_SF_wrongTable ∈ sf_tb := sf_tb_in 538 rfl rfl
set_option maxRecDepth 20000 in
theorem wd_29 : Cond.selects R_SF y_SF_wrongTable y_SF_wrongTable ∈ sf_tb := sf_tb_in 29 rfl rfl
set_option maxRecDepth 20000 in
theorem wd_540 : Cond.methodLink R_SF 190 y_SF_wrongPlace ∈ sf_tb := sf_tb_in 540 rfl rfl
set_option maxRecDepth 20000 in
theorem wd_543 : Cond.code y_SF_wrongPlace b_SF_wrongPlace 6 (some .int) ∈ sf_tb := sf_tb_in 543 rfl rfl
set_option maxRecDepth 20000 in
theorem wd_542 : Cond.instanceMethod y_SF_wrongPlace ∈ sf_tb := sf_tb_in 542 rfl rfl
set_option maxRecDepth 20000 in
theorem wd_30 : Cond.selects R_SF y_SF_wrongPlace y_SF_wrongPlace ∈ sf_tb := sf_tb_in 30 rfl rfl
set_option maxRecDepth 20000 in
theorem wd_551 : Cond.methodLink R_SF 194 y_SF_hasByte ∈ sf_tb := sf_tb_in 551 rfl rfl
set_option maxRecDepth 20000 in
theorem wd_554 : Cond.code y_SF_hasByte b_SF_hasByte 3 (some .boolean) ∈ sf_tb := sf_tb_in 554 rfl rfl
set_option maxRecDepth 20000 in
theorem wd_553 : Cond.instanceMethod y_SF_hasByte ∈ sf_tb := sf_tb_in 553 rfl rfl
set_option maxRecDepth 20000 in
theorem wd_31 : Cond.selects R_SF y_SF_hasByte y_SF_hasByte ∈ sf_tb := sf_tb_in 31 rfl rfl
theorem lk_SF_70 : sf_LV R_SF 70 y_SF_addToTape b_SF_addToTape 2 none 1 := ⟨wd_295, wd_292, wd_294, wd_6, wd_52, by decide +kernel⟩
theorem lk_SF_74 : sf_LS R_SF 74 y_SF_isRow b_SF_isRow 1 (some .boolean) 1 := ⟨wd_307, wd_305, wd_306, wd_52, by decide +kernel⟩
theorem lk_SF_92 : sf_LS R_SF 92 y_SF_isMonth b_SF_isMonth 1 (some .boolean) 1 := ⟨wd_342, wd_340, wd_341, wd_52, by decide +kernel⟩
theorem lk_SF_97 : sf_LV R_SF 97 y_SF_takePlaces b_SF_takePlaces 5 (some .boolean) 2 := ⟨wd_347, wd_344, wd_346, wd_7, wd_52, by decide +kernel⟩
theorem lk_SF_106 : sf_LV R_SF 106 y_SF_preparePlaceFromTape b_SF_preparePlaceFromTape 7 none 3 := ⟨wd_401, wd_398, wd_400, wd_15, wd_52, by decide +kernel⟩
theorem lk_SF_132 : sf_LV R_SF 132 y_SF_followToMove b_SF_followToMove 3 (some .boolean) 2 := ⟨wd_460, wd_457, wd_459, wd_23, wd_52, by decide +kernel⟩
theorem lk_SF_141 : sf_LV R_SF 141 y_SF_moveFollowed b_SF_moveFollowed 3 (some .boolean) 1 := ⟨wd_477, wd_474, wd_476, wd_26, wd_52, by decide +kernel⟩
theorem lk_SF_151 : sf_LV R_SF 151 y_Ch_bytes b_Ch_bytes 1 (some .int) 0 := ⟨wd_501, wd_498, wd_499, wd_500, wd_54, by decide +kernel⟩
theorem lk_SF_164 : sf_LV R_SF 164 y_Ch_dataAt b_Ch_dataAt 7 (some .int) 2 := ⟨wd_506, wd_503, wd_504, wd_505, wd_54, by decide +kernel⟩
theorem lk_SF_175 : sf_LV R_SF 175 y_SF_countFree b_SF_countFree 4 (some .int) 1 := ⟨wd_527, wd_524, wd_526, wd_28, wd_52, by decide +kernel⟩
theorem lk_SF_187 : sf_LV R_SF 187 y_SF_wrongTable b_SF_wrongTable 4 (some .int) 1 := ⟨wd_539, wd_536, wd_538, wd_29, wd_52, by decide +kernel⟩
theorem lk_SF_190 : sf_LV R_SF 190 y_SF_wrongPlace b_SF_wrongPlace 6 (some .int) 2 := ⟨wd_543, wd_540, wd_542, wd_30, wd_52, by decide +kernel⟩
theorem lk_SF_194 : sf_LV R_SF 194 y_SF_hasByte b_SF_hasByte 3 (some .boolean) 2 := ⟨wd_554, wd_551, wd_553, wd_31, wd_52, by decide +kernel⟩
theorem d_SF_cut_0 : decode b_SF_cut 0 = .ok (.iload_n 1, 1) := by decide +kernel
theorem d_SF_cut_1 : decode b_SF_cut 1 = .ok (.iconst (-1), 1) := by decide +kernel
theorem d_SF_cut_2 : decode b_SF_cut 2 = .ok (.if_icmp .lt 10, 3) := by decide +kernel
theorem d_SF_cut_5 : decode b_SF_cut 5 = .ok (.iload_n 1, 1) := by decide +kernel
theorem d_SF_cut_6 : decode b_SF_cut 6 = .ok (.sipush 200, 3) := by decide +kernel
theorem d_SF_cut_9 : decode b_SF_cut 9 = .ok (.if_icmp .le 13, 3) := by decide +kernel
theorem d_SF_cut_12 : decode b_SF_cut 12 = .ok (.new 55, 3) := by decide +kernel
theorem d_SF_cut_15 : decode b_SF_cut 15 = .ok (.dup, 1) := by decide +kernel
theorem d_SF_cut_16 : decode b_SF_cut 16 = .ok (.ldc 144, 2) := by decide +kernel
theorem d_SF_cut_18 : decode b_SF_cut 18 = .ok (.invokespecial 59, 3) := by decide +kernel
theorem d_SF_cut_21 : decode b_SF_cut 21 = .ok (.athrow, 1) := by decide +kernel
theorem d_SF_cut_22 : decode b_SF_cut 22 = .ok (.aload_n 0, 1) := by decide +kernel
theorem d_SF_cut_23 : decode b_SF_cut 23 = .ok (.iload_n 1, 1) := by decide +kernel
theorem d_SF_cut_24 : decode b_SF_cut 24 = .ok (.putfield 51, 3) := by decide +kernel
theorem d_SF_cut_27 : decode b_SF_cut 27 = .ok (.return_, 1) := by decide +kernel
theorem d_SF_remove_0 : decode b_SF_remove 0 = .ok (.iload_n 1, 1) := by decide +kernel
theorem d_SF_remove_1 : decode b_SF_remove 1 = .ok (.invokestatic 74, 3) := by decide +kernel
theorem d_SF_remove_4 : decode b_SF_remove 4 = .ok (.ifCond .ne 13, 3) := by decide +kernel
theorem d_SF_remove_7 : decode b_SF_remove 7 = .ok (.new 78, 3) := by decide +kernel
theorem d_SF_remove_10 : decode b_SF_remove 10 = .ok (.dup, 1) := by decide +kernel
theorem d_SF_remove_11 : decode b_SF_remove 11 = .ok (.ldc 80, 2) := by decide +kernel
theorem d_SF_remove_13 : decode b_SF_remove 13 = .ok (.invokespecial 82, 3) := by decide +kernel
theorem d_SF_remove_16 : decode b_SF_remove 16 = .ok (.athrow, 1) := by decide +kernel
theorem d_SF_remove_17 : decode b_SF_remove 17 = .ok (.aload_n 0, 1) := by decide +kernel
theorem d_SF_remove_18 : decode b_SF_remove 18 = .ok (.getfield 83, 3) := by decide +kernel
theorem d_SF_remove_21 : decode b_SF_remove 21 = .ok (.ifCond .ne 11, 3) := by decide +kernel
theorem d_SF_remove_24 : decode b_SF_remove 24 = .ok (.aload_n 0, 1) := by decide +kernel
theorem d_SF_remove_25 : decode b_SF_remove 25 = .ok (.iload_n 1, 1) := by decide +kernel
theorem d_SF_remove_26 : decode b_SF_remove 26 = .ok (.invokevirtual 125, 3) := by decide +kernel
theorem d_SF_remove_29 : decode b_SF_remove 29 = .ok (.ifCond .ne 13, 3) := by decide +kernel
theorem d_SF_remove_32 : decode b_SF_remove 32 = .ok (.new 87, 3) := by decide +kernel
theorem d_SF_remove_35 : decode b_SF_remove 35 = .ok (.dup, 1) := by decide +kernel
theorem d_SF_remove_36 : decode b_SF_remove 36 = .ok (.ldc 128, 2) := by decide +kernel
theorem d_SF_remove_38 : decode b_SF_remove 38 = .ok (.invokespecial 91, 3) := by decide +kernel
theorem d_SF_remove_41 : decode b_SF_remove 41 = .ok (.athrow, 1) := by decide +kernel
theorem d_SF_remove_42 : decode b_SF_remove 42 = .ok (.aload_n 0, 1) := by decide +kernel
theorem d_SF_remove_43 : decode b_SF_remove 43 = .ok (.iconst 0, 1) := by decide +kernel
theorem d_SF_remove_44 : decode b_SF_remove 44 = .ok (.invokevirtual 103, 3) := by decide +kernel
theorem d_SF_remove_47 : decode b_SF_remove 47 = .ok (.aload_n 0, 1) := by decide +kernel
theorem d_SF_remove_48 : decode b_SF_remove 48 = .ok (.iload_n 1, 1) := by decide +kernel
theorem d_SF_remove_49 : decode b_SF_remove 49 = .ok (.iconst 0, 1) := by decide +kernel
theorem d_SF_remove_50 : decode b_SF_remove 50 = .ok (.iconst 0, 1) := by decide +kernel
theorem d_SF_remove_51 : decode b_SF_remove 51 = .ok (.invokevirtual 118, 3) := by decide +kernel
theorem d_SF_remove_54 : decode b_SF_remove 54 = .ok (.aload_n 0, 1) := by decide +kernel
theorem d_SF_remove_55 : decode b_SF_remove 55 = .ok (.invokevirtual 121, 3) := by decide +kernel
theorem d_SF_remove_58 : decode b_SF_remove 58 = .ok (.ifCond .eq 7, 3) := by decide +kernel
theorem d_SF_remove_61 : decode b_SF_remove 61 = .ok (.iconst 0, 1) := by decide +kernel
theorem d_SF_remove_62 : decode b_SF_remove 62 = .ok (.goto 4, 3) := by decide +kernel
theorem d_SF_remove_65 : decode b_SF_remove 65 = .ok (.iconst (-1), 1) := by decide +kernel
theorem d_SF_remove_66 : decode b_SF_remove 66 = .ok (.ireturn, 1) := by decide +kernel
theorem d_SF_write_0 : decode b_SF_write 0 = .ok (.iload_n 1, 1) := by decide +kernel
theorem d_SF_write_1 : decode b_SF_write 1 = .ok (.invokestatic 74, 3) := by decide +kernel
theorem d_SF_write_4 : decode b_SF_write 4 = .ok (.ifCond .ne 13, 3) := by decide +kernel
theorem d_SF_write_7 : decode b_SF_write 7 = .ok (.new 78, 3) := by decide +kernel
theorem d_SF_write_10 : decode b_SF_write 10 = .ok (.dup, 1) := by decide +kernel
theorem d_SF_write_11 : decode b_SF_write 11 = .ok (.ldc 80, 2) := by decide +kernel
theorem d_SF_write_13 : decode b_SF_write 13 = .ok (.invokespecial 82, 3) := by decide +kernel
theorem d_SF_write_16 : decode b_SF_write 16 = .ok (.athrow, 1) := by decide +kernel
theorem d_SF_write_17 : decode b_SF_write 17 = .ok (.aload_n 0, 1) := by decide +kernel
theorem d_SF_write_18 : decode b_SF_write 18 = .ok (.getfield 83, 3) := by decide +kernel
theorem d_SF_write_21 : decode b_SF_write 21 = .ok (.ifCond .ne 10, 3) := by decide +kernel
theorem d_SF_write_24 : decode b_SF_write 24 = .ok (.aload_n 0, 1) := by decide +kernel
theorem d_SF_write_25 : decode b_SF_write 25 = .ok (.getfield 62, 3) := by decide +kernel
theorem d_SF_write_28 : decode b_SF_write 28 = .ok (.ifCond .ne 13, 3) := by decide +kernel
theorem d_SF_write_31 : decode b_SF_write 31 = .ok (.new 87, 3) := by decide +kernel
theorem d_SF_write_34 : decode b_SF_write 34 = .ok (.dup, 1) := by decide +kernel
theorem d_SF_write_35 : decode b_SF_write 35 = .ok (.ldc 89, 2) := by decide +kernel
theorem d_SF_write_37 : decode b_SF_write 37 = .ok (.invokespecial 91, 3) := by decide +kernel
theorem d_SF_write_40 : decode b_SF_write 40 = .ok (.athrow, 1) := by decide +kernel
theorem d_SF_write_41 : decode b_SF_write 41 = .ok (.iload_n 2, 1) := by decide +kernel
theorem d_SF_write_42 : decode b_SF_write 42 = .ok (.invokestatic 92, 3) := by decide +kernel
theorem d_SF_write_45 : decode b_SF_write 45 = .ok (.ifCond .ne 13, 3) := by decide +kernel
theorem d_SF_write_48 : decode b_SF_write 48 = .ok (.new 55, 3) := by decide +kernel
theorem d_SF_write_51 : decode b_SF_write 51 = .ok (.dup, 1) := by decide +kernel
theorem d_SF_write_52 : decode b_SF_write 52 = .ok (.ldc 95, 2) := by decide +kernel
theorem d_SF_write_54 : decode b_SF_write 54 = .ok (.invokespecial 59, 3) := by decide +kernel
theorem d_SF_write_57 : decode b_SF_write 57 = .ok (.athrow, 1) := by decide +kernel
theorem d_SF_write_58 : decode b_SF_write 58 = .ok (.aload_n 0, 1) := by decide +kernel
theorem d_SF_write_59 : decode b_SF_write 59 = .ok (.getfield 62, 3) := by decide +kernel
theorem d_SF_write_62 : decode b_SF_write 62 = .ok (.bipush 25, 2) := by decide +kernel
theorem d_SF_write_64 : decode b_SF_write 64 = .ok (.iadd, 1) := by decide +kernel
theorem d_SF_write_65 : decode b_SF_write 65 = .ok (.iconst 1, 1) := by decide +kernel
theorem d_SF_write_66 : decode b_SF_write 66 = .ok (.isub, 1) := by decide +kernel
theorem d_SF_write_67 : decode b_SF_write 67 = .ok (.bipush 25, 2) := by decide +kernel
theorem d_SF_write_69 : decode b_SF_write 69 = .ok (.idiv, 1) := by decide +kernel
theorem d_SF_write_70 : decode b_SF_write 70 = .ok (.istore_n 3, 1) := by decide +kernel
theorem d_SF_write_71 : decode b_SF_write 71 = .ok (.aload_n 0, 1) := by decide +kernel
theorem d_SF_write_72 : decode b_SF_write 72 = .ok (.iconst 0, 1) := by decide +kernel
theorem d_SF_write_73 : decode b_SF_write 73 = .ok (.iload_n 3, 1) := by decide +kernel
theorem d_SF_write_74 : decode b_SF_write 74 = .ok (.invokevirtual 97, 3) := by decide +kernel
theorem d_SF_write_77 : decode b_SF_write 77 = .ok (.ifCond .ne 13, 3) := by decide +kernel
theorem d_SF_write_80 : decode b_SF_write 80 = .ok (.new 65, 3) := by decide +kernel
theorem d_SF_write_83 : decode b_SF_write 83 = .ok (.dup, 1) := by decide +kernel
theorem d_SF_write_84 : decode b_SF_write 84 = .ok (.ldc 101, 2) := by decide +kernel
theorem d_SF_write_86 : decode b_SF_write 86 = .ok (.invokespecial 69, 3) := by decide +kernel
theorem d_SF_write_89 : decode b_SF_write 89 = .ok (.athrow, 1) := by decide +kernel
theorem d_SF_write_90 : decode b_SF_write 90 = .ok (.aload_n 0, 1) := by decide +kernel
theorem d_SF_write_91 : decode b_SF_write 91 = .ok (.iload_n 3, 1) := by decide +kernel
theorem d_SF_write_92 : decode b_SF_write 92 = .ok (.invokevirtual 103, 3) := by decide +kernel
theorem d_SF_write_95 : decode b_SF_write 95 = .ok (.iconst 0, 1) := by decide +kernel
theorem d_SF_write_96 : decode b_SF_write 96 = .ok (.istore 4, 2) := by decide +kernel
theorem d_SF_write_98 : decode b_SF_write 98 = .ok (.iload 4, 2) := by decide +kernel
theorem d_SF_write_100 : decode b_SF_write 100 = .ok (.iload_n 3, 1) := by decide +kernel
theorem d_SF_write_101 : decode b_SF_write 101 = .ok (.if_icmp .ge 31, 3) := by decide +kernel
theorem d_SF_write_104 : decode b_SF_write 104 = .ok (.aload_n 0, 1) := by decide +kernel
theorem d_SF_write_105 : decode b_SF_write 105 = .ok (.iload 4, 2) := by decide +kernel
theorem d_SF_write_107 : decode b_SF_write 107 = .ok (.iload_n 3, 1) := by decide +kernel
theorem d_SF_write_108 : decode b_SF_write 108 = .ok (.iload_n 2, 1) := by decide +kernel
theorem d_SF_write_109 : decode b_SF_write 109 = .ok (.invokevirtual 106, 3) := by decide +kernel
theorem d_SF_write_112 : decode b_SF_write 112 = .ok (.aload_n 0, 1) := by decide +kernel
theorem d_SF_write_113 : decode b_SF_write 113 = .ok (.aload_n 0, 1) := by decide +kernel
theorem d_SF_write_114 : decode b_SF_write 114 = .ok (.getfield 14, 3) := by decide +kernel
theorem d_SF_write_117 : decode b_SF_write 117 = .ok (.aload_n 0, 1) := by decide +kernel
theorem d_SF_write_118 : decode b_SF_write 118 = .ok (.iload 4, 2) := by decide +kernel
theorem d_SF_write_120 : decode b_SF_write 120 = .ok (.invokevirtual 110, 3) := by decide +kernel
theorem d_SF_write_123 : decode b_SF_write 123 = .ok (.invokevirtual 114, 3) := by decide +kernel
theorem d_SF_write_126 : decode b_SF_write 126 = .ok (.iinc 4 1, 3) := by decide +kernel
theorem d_SF_write_129 : decode b_SF_write 129 = .ok (.goto (-31), 3) := by decide +kernel
theorem d_SF_write_132 : decode b_SF_write 132 = .ok (.aload_n 0, 1) := by decide +kernel
theorem d_SF_write_133 : decode b_SF_write 133 = .ok (.iconst 0, 1) := by decide +kernel
theorem d_SF_write_134 : decode b_SF_write 134 = .ok (.putfield 62, 3) := by decide +kernel
theorem d_SF_write_137 : decode b_SF_write 137 = .ok (.aload_n 0, 1) := by decide +kernel
theorem d_SF_write_138 : decode b_SF_write 138 = .ok (.iload_n 1, 1) := by decide +kernel
theorem d_SF_write_139 : decode b_SF_write 139 = .ok (.aload_n 0, 1) := by decide +kernel
theorem d_SF_write_140 : decode b_SF_write 140 = .ok (.iconst 0, 1) := by decide +kernel
theorem d_SF_write_141 : decode b_SF_write 141 = .ok (.invokevirtual 110, 3) := by decide +kernel
theorem d_SF_write_144 : decode b_SF_write 144 = .ok (.iconst 1, 1) := by decide +kernel
theorem d_SF_write_145 : decode b_SF_write 145 = .ok (.iadd, 1) := by decide +kernel
theorem d_SF_write_146 : decode b_SF_write 146 = .ok (.iconst 0, 1) := by decide +kernel
theorem d_SF_write_147 : decode b_SF_write 147 = .ok (.invokevirtual 118, 3) := by decide +kernel
theorem d_SF_write_150 : decode b_SF_write 150 = .ok (.aload_n 0, 1) := by decide +kernel
theorem d_SF_write_151 : decode b_SF_write 151 = .ok (.invokevirtual 121, 3) := by decide +kernel
theorem d_SF_write_154 : decode b_SF_write 154 = .ok (.ifCond .eq 7, 3) := by decide +kernel
theorem d_SF_write_157 : decode b_SF_write 157 = .ok (.iload_n 3, 1) := by decide +kernel
theorem d_SF_write_158 : decode b_SF_write 158 = .ok (.goto 4, 3) := by decide +kernel
theorem d_SF_write_161 : decode b_SF_write 161 = .ok (.iconst (-1), 1) := by decide +kernel
theorem d_SF_write_162 : decode b_SF_write 162 = .ok (.ireturn, 1) := by decide +kernel
theorem d_SF_row_0 : decode b_SF_row 0 = .ok (.iload_n 1, 1) := by decide +kernel
theorem d_SF_row_1 : decode b_SF_row 1 = .ok (.invokestatic 74, 3) := by decide +kernel
theorem d_SF_row_4 : decode b_SF_row 4 = .ok (.ifCond .eq 8, 3) := by decide +kernel
theorem d_SF_row_7 : decode b_SF_row 7 = .ok (.iload_n 2, 1) := by decide +kernel
theorem d_SF_row_8 : decode b_SF_row 8 = .ok (.iconst (-1), 1) := by decide +kernel
theorem d_SF_row_9 : decode b_SF_row 9 = .ok (.if_icmp .ge 13, 3) := by decide +kernel
theorem d_SF_row_12 : decode b_SF_row 12 = .ok (.new 78, 3) := by decide +kernel
theorem d_SF_row_15 : decode b_SF_row 15 = .ok (.dup, 1) := by decide +kernel
theorem d_SF_row_16 : decode b_SF_row 16 = .ok (.ldc 146, 2) := by decide +kernel
theorem d_SF_row_18 : decode b_SF_row 18 = .ok (.invokespecial 82, 3) := by decide +kernel
theorem d_SF_row_21 : decode b_SF_row 21 = .ok (.athrow, 1) := by decide +kernel
theorem d_SF_row_22 : decode b_SF_row 22 = .ok (.aload_n 0, 1) := by decide +kernel
theorem d_SF_row_23 : decode b_SF_row 23 = .ok (.getfield 83, 3) := by decide +kernel
theorem d_SF_row_26 : decode b_SF_row 26 = .ok (.ifCond .ne 11, 3) := by decide +kernel
theorem d_SF_row_29 : decode b_SF_row 29 = .ok (.aload_n 0, 1) := by decide +kernel
theorem d_SF_row_30 : decode b_SF_row 30 = .ok (.iload_n 1, 1) := by decide +kernel
theorem d_SF_row_31 : decode b_SF_row 31 = .ok (.invokevirtual 125, 3) := by decide +kernel
theorem d_SF_row_34 : decode b_SF_row 34 = .ok (.ifCond .ne 13, 3) := by decide +kernel
theorem d_SF_row_37 : decode b_SF_row 37 = .ok (.new 87, 3) := by decide +kernel
theorem d_SF_row_40 : decode b_SF_row 40 = .ok (.dup, 1) := by decide +kernel
theorem d_SF_row_41 : decode b_SF_row 41 = .ok (.ldc 128, 2) := by decide +kernel
theorem d_SF_row_43 : decode b_SF_row 43 = .ok (.invokespecial 91, 3) := by decide +kernel
theorem d_SF_row_46 : decode b_SF_row 46 = .ok (.athrow, 1) := by decide +kernel
theorem d_SF_row_47 : decode b_SF_row 47 = .ok (.aload_n 0, 1) := by decide +kernel
theorem d_SF_row_48 : decode b_SF_row 48 = .ok (.iload_n 1, 1) := by decide +kernel
theorem d_SF_row_49 : decode b_SF_row 49 = .ok (.invokevirtual 148, 3) := by decide +kernel
theorem d_SF_row_52 : decode b_SF_row 52 = .ok (.iload_n 2, 1) := by decide +kernel
theorem d_SF_row_53 : decode b_SF_row 53 = .ok (.iconst (-1), 1) := by decide +kernel
theorem d_SF_row_54 : decode b_SF_row 54 = .ok (.if_icmp .ne 11, 3) := by decide +kernel
theorem d_SF_row_57 : decode b_SF_row 57 = .ok (.aload_n 0, 1) := by decide +kernel
theorem d_SF_row_58 : decode b_SF_row 58 = .ok (.getfield 33, 3) := by decide +kernel
theorem d_SF_row_61 : decode b_SF_row 61 = .ok (.invokevirtual 151, 3) := by decide +kernel
theorem d_SF_row_64 : decode b_SF_row 64 = .ok (.ireturn, 1) := by decide +kernel
theorem d_SF_row_65 : decode b_SF_row 65 = .ok (.iload_n 2, 1) := by decide +kernel
theorem d_SF_row_66 : decode b_SF_row 66 = .ok (.aload_n 0, 1) := by decide +kernel
theorem d_SF_row_67 : decode b_SF_row 67 = .ok (.getfield 33, 3) := by decide +kernel
theorem d_SF_row_70 : decode b_SF_row 70 = .ok (.invokevirtual 151, 3) := by decide +kernel
theorem d_SF_row_73 : decode b_SF_row 73 = .ok (.if_icmp .lt 13, 3) := by decide +kernel
theorem d_SF_row_76 : decode b_SF_row 76 = .ok (.new 78, 3) := by decide +kernel
theorem d_SF_row_79 : decode b_SF_row 79 = .ok (.dup, 1) := by decide +kernel
theorem d_SF_row_80 : decode b_SF_row 80 = .ok (.ldc 155, 2) := by decide +kernel
theorem d_SF_row_82 : decode b_SF_row 82 = .ok (.invokespecial 82, 3) := by decide +kernel
theorem d_SF_row_85 : decode b_SF_row 85 = .ok (.athrow, 1) := by decide +kernel
theorem d_SF_row_86 : decode b_SF_row 86 = .ok (.aload_n 0, 1) := by decide +kernel
theorem d_SF_row_87 : decode b_SF_row 87 = .ok (.getfield 33, 3) := by decide +kernel
theorem d_SF_row_90 : decode b_SF_row 90 = .ok (.aload_n 0, 1) := by decide +kernel
theorem d_SF_row_91 : decode b_SF_row 91 = .ok (.aload_n 0, 1) := by decide +kernel
theorem d_SF_row_92 : decode b_SF_row 92 = .ok (.iload_n 1, 1) := by decide +kernel
theorem d_SF_row_93 : decode b_SF_row 93 = .ok (.invokevirtual 157, 3) := by decide +kernel
theorem d_SF_row_96 : decode b_SF_row 96 = .ok (.invokevirtual 160, 3) := by decide +kernel
theorem d_SF_row_99 : decode b_SF_row 99 = .ok (.iload_n 2, 1) := by decide +kernel
theorem d_SF_row_100 : decode b_SF_row 100 = .ok (.invokevirtual 164, 3) := by decide +kernel
theorem d_SF_row_103 : decode b_SF_row 103 = .ok (.ireturn, 1) := by decide +kernel
theorem d_SF_at_0 : decode b_SF_at 0 = .ok (.iload_n 1, 1) := by decide +kernel
theorem d_SF_at_1 : decode b_SF_at 1 = .ok (.invokestatic 74, 3) := by decide +kernel
theorem d_SF_at_4 : decode b_SF_at 4 = .ok (.ifCond .eq 12, 3) := by decide +kernel
theorem d_SF_at_7 : decode b_SF_at 7 = .ok (.iload_n 2, 1) := by decide +kernel
theorem d_SF_at_8 : decode b_SF_at 8 = .ok (.ifCond .lt 8, 3) := by decide +kernel
theorem d_SF_at_11 : decode b_SF_at 11 = .ok (.iload_n 2, 1) := by decide +kernel
theorem d_SF_at_12 : decode b_SF_at 12 = .ok (.iconst 3, 1) := by decide +kernel
theorem d_SF_at_13 : decode b_SF_at 13 = .ok (.if_icmp .le 13, 3) := by decide +kernel
theorem d_SF_at_16 : decode b_SF_at 16 = .ok (.new 78, 3) := by decide +kernel
theorem d_SF_at_19 : decode b_SF_at 19 = .ok (.dup, 1) := by decide +kernel
theorem d_SF_at_20 : decode b_SF_at 20 = .ok (.ldc 168, 2) := by decide +kernel
theorem d_SF_at_22 : decode b_SF_at 22 = .ok (.invokespecial 82, 3) := by decide +kernel
theorem d_SF_at_25 : decode b_SF_at 25 = .ok (.athrow, 1) := by decide +kernel
theorem d_SF_at_26 : decode b_SF_at 26 = .ok (.aload_n 0, 1) := by decide +kernel
theorem d_SF_at_27 : decode b_SF_at 27 = .ok (.getfield 83, 3) := by decide +kernel
theorem d_SF_at_30 : decode b_SF_at 30 = .ok (.ifCond .ne 15, 3) := by decide +kernel
theorem d_SF_at_33 : decode b_SF_at 33 = .ok (.iload_n 2, 1) := by decide +kernel
theorem d_SF_at_34 : decode b_SF_at 34 = .ok (.ifCond .eq 21, 3) := by decide +kernel
theorem d_SF_at_37 : decode b_SF_at 37 = .ok (.aload_n 0, 1) := by decide +kernel
theorem d_SF_at_38 : decode b_SF_at 38 = .ok (.iload_n 1, 1) := by decide +kernel
theorem d_SF_at_39 : decode b_SF_at 39 = .ok (.invokevirtual 125, 3) := by decide +kernel
theorem d_SF_at_42 : decode b_SF_at 42 = .ok (.ifCond .ne 13, 3) := by decide +kernel
theorem d_SF_at_45 : decode b_SF_at 45 = .ok (.new 87, 3) := by decide +kernel
theorem d_SF_at_48 : decode b_SF_at 48 = .ok (.dup, 1) := by decide +kernel
theorem d_SF_at_49 : decode b_SF_at 49 = .ok (.ldc 128, 2) := by decide +kernel
theorem d_SF_at_51 : decode b_SF_at 51 = .ok (.invokespecial 91, 3) := by decide +kernel
theorem d_SF_at_54 : decode b_SF_at 54 = .ok (.athrow, 1) := by decide +kernel
theorem d_SF_at_55 : decode b_SF_at 55 = .ok (.iload_n 2, 1) := by decide +kernel
theorem d_SF_at_56 : decode b_SF_at 56 = .ok (.ifCond .ne 17, 3) := by decide +kernel
theorem d_SF_at_59 : decode b_SF_at 59 = .ok (.aload_n 0, 1) := by decide +kernel
theorem d_SF_at_60 : decode b_SF_at 60 = .ok (.iload_n 1, 1) := by decide +kernel
theorem d_SF_at_61 : decode b_SF_at 61 = .ok (.invokevirtual 125, 3) := by decide +kernel
theorem d_SF_at_64 : decode b_SF_at 64 = .ok (.ifCond .eq 7, 3) := by decide +kernel
theorem d_SF_at_67 : decode b_SF_at 67 = .ok (.iconst 1, 1) := by decide +kernel
theorem d_SF_at_68 : decode b_SF_at 68 = .ok (.goto 4, 3) := by decide +kernel
theorem d_SF_at_71 : decode b_SF_at 71 = .ok (.iconst 0, 1) := by decide +kernel
theorem d_SF_at_72 : decode b_SF_at 72 = .ok (.ireturn, 1) := by decide +kernel
theorem d_SF_at_73 : decode b_SF_at 73 = .ok (.iload_n 2, 1) := by decide +kernel
theorem d_SF_at_74 : decode b_SF_at 74 = .ok (.iconst 1, 1) := by decide +kernel
theorem d_SF_at_75 : decode b_SF_at 75 = .ok (.if_icmp .ne 17, 3) := by decide +kernel
theorem d_SF_at_78 : decode b_SF_at 78 = .ok (.aload_n 0, 1) := by decide +kernel
theorem d_SF_at_79 : decode b_SF_at 79 = .ok (.iload_n 1, 1) := by decide +kernel
theorem d_SF_at_80 : decode b_SF_at 80 = .ok (.invokevirtual 157, 3) := by decide +kernel
theorem d_SF_at_83 : decode b_SF_at 83 = .ok (.ifCond .eq 7, 3) := by decide +kernel
theorem d_SF_at_86 : decode b_SF_at 86 = .ok (.iconst 1, 1) := by decide +kernel
theorem d_SF_at_87 : decode b_SF_at 87 = .ok (.goto 4, 3) := by decide +kernel
theorem d_SF_at_90 : decode b_SF_at 90 = .ok (.iconst 0, 1) := by decide +kernel
theorem d_SF_at_91 : decode b_SF_at 91 = .ok (.ireturn, 1) := by decide +kernel
theorem d_SF_at_92 : decode b_SF_at 92 = .ok (.aload_n 0, 1) := by decide +kernel
theorem d_SF_at_93 : decode b_SF_at 93 = .ok (.iload_n 1, 1) := by decide +kernel
theorem d_SF_at_94 : decode b_SF_at 94 = .ok (.invokevirtual 148, 3) := by decide +kernel
theorem d_SF_at_97 : decode b_SF_at 97 = .ok (.iload_n 2, 1) := by decide +kernel
theorem d_SF_at_98 : decode b_SF_at 98 = .ok (.iconst 2, 1) := by decide +kernel
theorem d_SF_at_99 : decode b_SF_at 99 = .ok (.if_icmp .ne 13, 3) := by decide +kernel
theorem d_SF_at_102 : decode b_SF_at 102 = .ok (.aload_n 0, 1) := by decide +kernel
theorem d_SF_at_103 : decode b_SF_at 103 = .ok (.getfield 33, 3) := by decide +kernel
theorem d_SF_at_106 : decode b_SF_at 106 = .ok (.invokevirtual 170, 3) := by decide +kernel
theorem d_SF_at_109 : decode b_SF_at 109 = .ok (.goto 10, 3) := by decide +kernel
theorem d_SF_at_112 : decode b_SF_at 112 = .ok (.aload_n 0, 1) := by decide +kernel
theorem d_SF_at_113 : decode b_SF_at 113 = .ok (.getfield 33, 3) := by decide +kernel
theorem d_SF_at_116 : decode b_SF_at 116 = .ok (.getfield 136, 3) := by decide +kernel
theorem d_SF_at_119 : decode b_SF_at 119 = .ok (.ireturn, 1) := by decide +kernel
theorem d_SF_told_0 : decode b_SF_told 0 = .ok (.iload_n 1, 1) := by decide +kernel
theorem d_SF_told_1 : decode b_SF_told 1 = .ok (.ifCond .lt 8, 3) := by decide +kernel
theorem d_SF_told_4 : decode b_SF_told 4 = .ok (.iload_n 1, 1) := by decide +kernel
theorem d_SF_told_5 : decode b_SF_told 5 = .ok (.iconst 4, 1) := by decide +kernel
theorem d_SF_told_6 : decode b_SF_told 6 = .ok (.if_icmp .le 13, 3) := by decide +kernel
theorem d_SF_told_9 : decode b_SF_told 9 = .ok (.new 78, 3) := by decide +kernel
theorem d_SF_told_12 : decode b_SF_told 12 = .ok (.dup, 1) := by decide +kernel
theorem d_SF_told_13 : decode b_SF_told 13 = .ok (.ldc 173, 2) := by decide +kernel
theorem d_SF_told_15 : decode b_SF_told 15 = .ok (.invokespecial 82, 3) := by decide +kernel
theorem d_SF_told_18 : decode b_SF_told 18 = .ok (.athrow, 1) := by decide +kernel
theorem d_SF_told_19 : decode b_SF_told 19 = .ok (.aload_n 0, 1) := by decide +kernel
theorem d_SF_told_20 : decode b_SF_told 20 = .ok (.getfield 83, 3) := by decide +kernel
theorem d_SF_told_23 : decode b_SF_told 23 = .ok (.ifCond .eq 18, 3) := by decide +kernel
theorem d_SF_told_26 : decode b_SF_told 26 = .ok (.iload_n 1, 1) := by decide +kernel
theorem d_SF_told_27 : decode b_SF_told 27 = .ok (.iconst 4, 1) := by decide +kernel
theorem d_SF_told_28 : decode b_SF_told 28 = .ok (.if_icmp .eq 13, 3) := by decide +kernel
theorem d_SF_told_31 : decode b_SF_told 31 = .ok (.new 87, 3) := by decide +kernel
theorem d_SF_told_34 : decode b_SF_told 34 = .ok (.dup, 1) := by decide +kernel
theorem d_SF_told_35 : decode b_SF_told 35 = .ok (.ldc 130, 2) := by decide +kernel
theorem d_SF_told_37 : decode b_SF_told 37 = .ok (.invokespecial 91, 3) := by decide +kernel
theorem d_SF_told_40 : decode b_SF_told 40 = .ok (.athrow, 1) := by decide +kernel
theorem d_SF_told_41 : decode b_SF_told 41 = .ok (.iload_n 1, 1) := by decide +kernel
theorem d_SF_told_72 : decode b_SF_told 72 = .ok (.aload_n 0, 1) := by decide +kernel
theorem d_SF_told_73 : decode b_SF_told 73 = .ok (.iconst 0, 1) := by decide +kernel
theorem d_SF_told_74 : decode b_SF_told 74 = .ok (.invokevirtual 175, 3) := by decide +kernel
theorem d_SF_told_77 : decode b_SF_told 77 = .ok (.ireturn, 1) := by decide +kernel
theorem d_SF_told_78 : decode b_SF_told 78 = .ok (.aload_n 0, 1) := by decide +kernel
theorem d_SF_told_79 : decode b_SF_told 79 = .ok (.iconst 1, 1) := by decide +kernel
theorem d_SF_told_80 : decode b_SF_told 80 = .ok (.invokevirtual 175, 3) := by decide +kernel
theorem d_SF_told_83 : decode b_SF_told 83 = .ok (.ireturn, 1) := by decide +kernel
theorem d_SF_told_84 : decode b_SF_told 84 = .ok (.aload_n 0, 1) := by decide +kernel
theorem d_SF_told_85 : decode b_SF_told 85 = .ok (.aload_n 0, 1) := by decide +kernel
theorem d_SF_told_86 : decode b_SF_told 86 = .ok (.invokevirtual 179, 3) := by decide +kernel
theorem d_SF_told_89 : decode b_SF_told 89 = .ok (.invokevirtual 182, 3) := by decide +kernel
theorem d_SF_told_92 : decode b_SF_told 92 = .ok (.ireturn, 1) := by decide +kernel
theorem d_SF_told_93 : decode b_SF_told 93 = .ok (.aload_n 0, 1) := by decide +kernel
theorem d_SF_told_94 : decode b_SF_told 94 = .ok (.invokevirtual 179, 3) := by decide +kernel
theorem d_SF_told_97 : decode b_SF_told 97 = .ok (.ireturn, 1) := by decide +kernel
theorem d_SF_told_98 : decode b_SF_told 98 = .ok (.aload_n 0, 1) := by decide +kernel
theorem d_SF_told_99 : decode b_SF_told 99 = .ok (.getfield 62, 3) := by decide +kernel
theorem d_SF_told_102 : decode b_SF_told 102 = .ok (.ireturn, 1) := by decide +kernel
theorem d_SF_wrong_0 : decode b_SF_wrong 0 = .ok (.iload_n 1, 1) := by decide +kernel
theorem d_SF_wrong_1 : decode b_SF_wrong 1 = .ok (.ifCond .lt 12, 3) := by decide +kernel
theorem d_SF_wrong_4 : decode b_SF_wrong 4 = .ok (.iload_n 1, 1) := by decide +kernel
theorem d_SF_wrong_5 : decode b_SF_wrong 5 = .ok (.iconst 2, 1) := by decide +kernel
theorem d_SF_wrong_6 : decode b_SF_wrong 6 = .ok (.if_icmp .gt 7, 3) := by decide +kernel
theorem d_SF_wrong_9 : decode b_SF_wrong 9 = .ok (.iload_n 2, 1) := by decide +kernel
theorem d_SF_wrong_10 : decode b_SF_wrong 10 = .ok (.ifCond .ge 13, 3) := by decide +kernel
theorem d_SF_wrong_13 : decode b_SF_wrong 13 = .ok (.new 78, 3) := by decide +kernel
theorem d_SF_wrong_16 : decode b_SF_wrong 16 = .ok (.dup, 1) := by decide +kernel
theorem d_SF_wrong_17 : decode b_SF_wrong 17 = .ok (.ldc 185, 2) := by decide +kernel
theorem d_SF_wrong_19 : decode b_SF_wrong 19 = .ok (.invokespecial 82, 3) := by decide +kernel
theorem d_SF_wrong_22 : decode b_SF_wrong 22 = .ok (.athrow, 1) := by decide +kernel
theorem d_SF_wrong_23 : decode b_SF_wrong 23 = .ok (.iload_n 1, 1) := by decide +kernel
theorem d_SF_wrong_24 : decode b_SF_wrong 24 = .ok (.iconst 2, 1) := by decide +kernel
theorem d_SF_wrong_25 : decode b_SF_wrong 25 = .ok (.if_icmp .ne 11, 3) := by decide +kernel
theorem d_SF_wrong_28 : decode b_SF_wrong 28 = .ok (.aload_n 0, 1) := by decide +kernel
theorem d_SF_wrong_29 : decode b_SF_wrong 29 = .ok (.iload_n 2, 1) := by decide +kernel
theorem d_SF_wrong_30 : decode b_SF_wrong 30 = .ok (.invokevirtual 187, 3) := by decide +kernel
theorem d_SF_wrong_33 : decode b_SF_wrong 33 = .ok (.goto 18, 3) := by decide +kernel
theorem d_SF_wrong_36 : decode b_SF_wrong 36 = .ok (.aload_n 0, 1) := by decide +kernel
theorem d_SF_wrong_37 : decode b_SF_wrong 37 = .ok (.iload_n 1, 1) := by decide +kernel
theorem d_SF_wrong_38 : decode b_SF_wrong 38 = .ok (.iconst 1, 1) := by decide +kernel
theorem d_SF_wrong_39 : decode b_SF_wrong 39 = .ok (.if_icmp .ne 7, 3) := by decide +kernel
theorem d_SF_wrong_42 : decode b_SF_wrong 42 = .ok (.iconst 1, 1) := by decide +kernel
theorem d_SF_wrong_43 : decode b_SF_wrong 43 = .ok (.goto 4, 3) := by decide +kernel
theorem d_SF_wrong_46 : decode b_SF_wrong 46 = .ok (.iconst 0, 1) := by decide +kernel
theorem d_SF_wrong_47 : decode b_SF_wrong 47 = .ok (.iload_n 2, 1) := by decide +kernel
theorem d_SF_wrong_48 : decode b_SF_wrong 48 = .ok (.invokevirtual 190, 3) := by decide +kernel
theorem d_SF_wrong_51 : decode b_SF_wrong 51 = .ok (.ireturn, 1) := by decide +kernel
theorem d_SF_byteAt_0 : decode b_SF_byteAt 0 = .ok (.aload_n 0, 1) := by decide +kernel
theorem d_SF_byteAt_1 : decode b_SF_byteAt 1 = .ok (.iload_n 1, 1) := by decide +kernel
theorem d_SF_byteAt_2 : decode b_SF_byteAt 2 = .ok (.iload_n 2, 1) := by decide +kernel
theorem d_SF_byteAt_3 : decode b_SF_byteAt 3 = .ok (.invokevirtual 194, 3) := by decide +kernel
theorem d_SF_byteAt_6 : decode b_SF_byteAt 6 = .ok (.ifCond .ne 13, 3) := by decide +kernel
theorem d_SF_byteAt_9 : decode b_SF_byteAt 9 = .ok (.new 78, 3) := by decide +kernel
theorem d_SF_byteAt_12 : decode b_SF_byteAt 12 = .ok (.dup, 1) := by decide +kernel
theorem d_SF_byteAt_13 : decode b_SF_byteAt 13 = .ok (.ldc 197, 2) := by decide +kernel
theorem d_SF_byteAt_15 : decode b_SF_byteAt 15 = .ok (.invokespecial 82, 3) := by decide +kernel
theorem d_SF_byteAt_18 : decode b_SF_byteAt 18 = .ok (.athrow, 1) := by decide +kernel
theorem d_SF_byteAt_19 : decode b_SF_byteAt 19 = .ok (.aload_n 0, 1) := by decide +kernel
theorem d_SF_byteAt_20 : decode b_SF_byteAt 20 = .ok (.iload_n 1, 1) := by decide +kernel
theorem d_SF_byteAt_21 : decode b_SF_byteAt 21 = .ok (.invokevirtual 199, 3) := by decide +kernel
theorem d_SF_byteAt_24 : decode b_SF_byteAt 24 = .ok (.iconst 0, 1) := by decide +kernel
theorem d_SF_byteAt_25 : decode b_SF_byteAt 25 = .ok (.iload_n 2, 1) := by decide +kernel
theorem d_SF_byteAt_26 : decode b_SF_byteAt 26 = .ok (.invokevirtual 203, 3) := by decide +kernel
theorem d_SF_byteAt_29 : decode b_SF_byteAt 29 = .ok (.ireturn, 1) := by decide +kernel
theorem d_SF_poke_0 : decode b_SF_poke 0 = .ok (.aload_n 0, 1) := by decide +kernel
theorem d_SF_poke_1 : decode b_SF_poke 1 = .ok (.iload_n 1, 1) := by decide +kernel
theorem d_SF_poke_2 : decode b_SF_poke 2 = .ok (.iload_n 2, 1) := by decide +kernel
theorem d_SF_poke_3 : decode b_SF_poke 3 = .ok (.invokevirtual 194, 3) := by decide +kernel
theorem d_SF_poke_6 : decode b_SF_poke 6 = .ok (.ifCond .ne 13, 3) := by decide +kernel
theorem d_SF_poke_9 : decode b_SF_poke 9 = .ok (.new 78, 3) := by decide +kernel
theorem d_SF_poke_12 : decode b_SF_poke 12 = .ok (.dup, 1) := by decide +kernel
theorem d_SF_poke_13 : decode b_SF_poke 13 = .ok (.ldc 197, 2) := by decide +kernel
theorem d_SF_poke_15 : decode b_SF_poke 15 = .ok (.invokespecial 82, 3) := by decide +kernel
theorem d_SF_poke_18 : decode b_SF_poke 18 = .ok (.athrow, 1) := by decide +kernel
theorem d_SF_poke_19 : decode b_SF_poke 19 = .ok (.iload_n 3, 1) := by decide +kernel
theorem d_SF_poke_20 : decode b_SF_poke 20 = .ok (.iconst 1, 1) := by decide +kernel
theorem d_SF_poke_21 : decode b_SF_poke 21 = .ok (.if_icmp .lt 10, 3) := by decide +kernel
theorem d_SF_poke_24 : decode b_SF_poke 24 = .ok (.iload_n 3, 1) := by decide +kernel
theorem d_SF_poke_25 : decode b_SF_poke 25 = .ok (.sipush 255, 3) := by decide +kernel
theorem d_SF_poke_28 : decode b_SF_poke 28 = .ok (.if_icmp .le 13, 3) := by decide +kernel
theorem d_SF_poke_31 : decode b_SF_poke 31 = .ok (.new 55, 3) := by decide +kernel
theorem d_SF_poke_34 : decode b_SF_poke 34 = .ok (.dup, 1) := by decide +kernel
theorem d_SF_poke_35 : decode b_SF_poke 35 = .ok (.ldc 207, 2) := by decide +kernel
theorem d_SF_poke_37 : decode b_SF_poke 37 = .ok (.invokespecial 59, 3) := by decide +kernel
theorem d_SF_poke_40 : decode b_SF_poke 40 = .ok (.athrow, 1) := by decide +kernel
theorem d_SF_poke_41 : decode b_SF_poke 41 = .ok (.aload_n 0, 1) := by decide +kernel
theorem d_SF_poke_42 : decode b_SF_poke 42 = .ok (.iload_n 1, 1) := by decide +kernel
theorem d_SF_poke_43 : decode b_SF_poke 43 = .ok (.invokevirtual 199, 3) := by decide +kernel
theorem d_SF_poke_46 : decode b_SF_poke 46 = .ok (.astore 4, 2) := by decide +kernel
theorem d_SF_poke_48 : decode b_SF_poke 48 = .ok (.aload 4, 2) := by decide +kernel
theorem d_SF_poke_50 : decode b_SF_poke 50 = .ok (.iconst 0, 1) := by decide +kernel
theorem d_SF_poke_51 : decode b_SF_poke 51 = .ok (.iload_n 2, 1) := by decide +kernel
theorem d_SF_poke_52 : decode b_SF_poke 52 = .ok (.aload 4, 2) := by decide +kernel
theorem d_SF_poke_54 : decode b_SF_poke 54 = .ok (.iconst 0, 1) := by decide +kernel
theorem d_SF_poke_55 : decode b_SF_poke 55 = .ok (.iload_n 2, 1) := by decide +kernel
theorem d_SF_poke_56 : decode b_SF_poke 56 = .ok (.invokevirtual 203, 3) := by decide +kernel
theorem d_SF_poke_59 : decode b_SF_poke 59 = .ok (.iload_n 3, 1) := by decide +kernel
theorem d_SF_poke_60 : decode b_SF_poke 60 = .ok (.ixor, 1) := by decide +kernel
theorem d_SF_poke_61 : decode b_SF_poke 61 = .ok (.invokevirtual 209, 3) := by decide +kernel
theorem d_SF_poke_64 : decode b_SF_poke 64 = .ok (.aload_n 0, 1) := by decide +kernel
theorem d_SF_poke_65 : decode b_SF_poke 65 = .ok (.iconst 1, 1) := by decide +kernel
theorem d_SF_poke_66 : decode b_SF_poke 66 = .ok (.putfield 83, 3) := by decide +kernel
theorem d_SF_poke_69 : decode b_SF_poke 69 = .ok (.return_, 1) := by decide +kernel
theorem d_SF_move_0 : decode b_SF_move 0 = .ok (.aload_n 0, 1) := by decide +kernel
theorem d_SF_move_1 : decode b_SF_move 1 = .ok (.getfield 83, 3) := by decide +kernel
theorem d_SF_move_4 : decode b_SF_move 4 = .ok (.ifCond .eq 13, 3) := by decide +kernel
theorem d_SF_move_7 : decode b_SF_move 7 = .ok (.new 87, 3) := by decide +kernel
theorem d_SF_move_10 : decode b_SF_move 10 = .ok (.dup, 1) := by decide +kernel
theorem d_SF_move_11 : decode b_SF_move 11 = .ok (.ldc 130, 2) := by decide +kernel
theorem d_SF_move_13 : decode b_SF_move 13 = .ok (.invokespecial 91, 3) := by decide +kernel
theorem d_SF_move_16 : decode b_SF_move 16 = .ok (.athrow, 1) := by decide +kernel
theorem d_SF_move_17 : decode b_SF_move 17 = .ok (.iload_n 1, 1) := by decide +kernel
theorem d_SF_move_18 : decode b_SF_move 18 = .ok (.invokestatic 92, 3) := by decide +kernel
theorem d_SF_move_21 : decode b_SF_move 21 = .ok (.ifCond .ne 13, 3) := by decide +kernel
theorem d_SF_move_24 : decode b_SF_move 24 = .ok (.new 55, 3) := by decide +kernel
theorem d_SF_move_27 : decode b_SF_move 27 = .ok (.dup, 1) := by decide +kernel
theorem d_SF_move_28 : decode b_SF_move 28 = .ok (.ldc 95, 2) := by decide +kernel
theorem d_SF_move_30 : decode b_SF_move 30 = .ok (.invokespecial 59, 3) := by decide +kernel
theorem d_SF_move_33 : decode b_SF_move 33 = .ok (.athrow, 1) := by decide +kernel
theorem d_SF_move_34 : decode b_SF_move 34 = .ok (.iconst 0, 1) := by decide +kernel
theorem d_SF_move_35 : decode b_SF_move 35 = .ok (.istore_n 2, 1) := by decide +kernel
theorem d_SF_move_36 : decode b_SF_move 36 = .ok (.iconst 0, 1) := by decide +kernel
theorem d_SF_move_37 : decode b_SF_move 37 = .ok (.istore_n 3, 1) := by decide +kernel
theorem d_SF_move_38 : decode b_SF_move 38 = .ok (.iload_n 3, 1) := by decide +kernel
theorem d_SF_move_39 : decode b_SF_move 39 = .ok (.bipush 12, 2) := by decide +kernel
theorem d_SF_move_41 : decode b_SF_move 41 = .ok (.if_icmp .ge 59, 3) := by decide +kernel
theorem d_SF_move_44 : decode b_SF_move 44 = .ok (.aload_n 0, 1) := by decide +kernel
theorem d_SF_move_45 : decode b_SF_move 45 = .ok (.iload_n 3, 1) := by decide +kernel
theorem d_SF_move_46 : decode b_SF_move 46 = .ok (.iload_n 1, 1) := by decide +kernel
theorem d_SF_move_47 : decode b_SF_move 47 = .ok (.invokevirtual 132, 3) := by decide +kernel
theorem d_SF_move_50 : decode b_SF_move 50 = .ok (.ifCond .ne 6, 3) := by decide +kernel
theorem d_SF_move_53 : decode b_SF_move 53 = .ok (.goto 41, 3) := by decide +kernel
theorem d_SF_move_56 : decode b_SF_move 56 = .ok (.aload_n 0, 1) := by decide +kernel
theorem d_SF_move_57 : decode b_SF_move 57 = .ok (.iconst 1, 1) := by decide +kernel
theorem d_SF_move_58 : decode b_SF_move 58 = .ok (.aload_n 0, 1) := by decide +kernel
theorem d_SF_move_59 : decode b_SF_move 59 = .ok (.getfield 33, 3) := by decide +kernel
theorem d_SF_move_62 : decode b_SF_move 62 = .ok (.getfield 136, 3) := by decide +kernel
theorem d_SF_move_65 : decode b_SF_move 65 = .ok (.invokevirtual 97, 3) := by decide +kernel
theorem d_SF_move_68 : decode b_SF_move 68 = .ok (.ifCond .ne 13, 3) := by decide +kernel
theorem d_SF_move_71 : decode b_SF_move 71 = .ok (.new 65, 3) := by decide +kernel
theorem d_SF_move_74 : decode b_SF_move 74 = .ok (.dup, 1) := by decide +kernel
theorem d_SF_move_75 : decode b_SF_move 75 = .ok (.ldc 139, 2) := by decide +kernel
theorem d_SF_move_77 : decode b_SF_move 77 = .ok (.invokespecial 69, 3) := by decide +kernel
theorem d_SF_move_80 : decode b_SF_move 80 = .ok (.athrow, 1) := by decide +kernel
theorem d_SF_move_81 : decode b_SF_move 81 = .ok (.aload_n 0, 1) := by decide +kernel
theorem d_SF_move_82 : decode b_SF_move 82 = .ok (.iload_n 3, 1) := by decide +kernel
theorem d_SF_move_83 : decode b_SF_move 83 = .ok (.invokevirtual 141, 3) := by decide +kernel
theorem d_SF_move_86 : decode b_SF_move 86 = .ok (.ifCond .ne 5, 3) := by decide +kernel
theorem d_SF_move_89 : decode b_SF_move 89 = .ok (.iconst (-1), 1) := by decide +kernel
theorem d_SF_move_90 : decode b_SF_move 90 = .ok (.ireturn, 1) := by decide +kernel
theorem d_SF_move_91 : decode b_SF_move 91 = .ok (.iinc 2 1, 3) := by decide +kernel
theorem d_SF_move_94 : decode b_SF_move 94 = .ok (.iinc 3 1, 3) := by decide +kernel
theorem d_SF_move_97 : decode b_SF_move 97 = .ok (.goto (-59), 3) := by decide +kernel
theorem d_SF_move_100 : decode b_SF_move 100 = .ok (.iload_n 2, 1) := by decide +kernel
theorem d_SF_move_101 : decode b_SF_move 101 = .ok (.ireturn, 1) := by decide +kernel
set_option maxRecDepth 20000 in
theorem xk_55_59 : sf_XOK R_SF 55 59 "java/lang/IllegalArgumentException" := ⟨by decide +kernel, ⟨wd_207, wd_59⟩, by decide +kernel, by decide +kernel⟩
set_option maxRecDepth 20000 in
theorem xk_65_69 : sf_XOK R_SF 65 69 "java/lang/UnsupportedOperationException" := ⟨by decide +kernel, ⟨wd_276, wd_60⟩, by decide +kernel, by decide +kernel⟩
set_option maxRecDepth 20000 in
theorem xk_78_82 : sf_XOK R_SF 78 82 "java/lang/IndexOutOfBoundsException" := ⟨by decide +kernel, ⟨wd_308, wd_61⟩, by decide +kernel, by decide +kernel⟩
set_option maxRecDepth 20000 in
theorem xk_87_91 : sf_XOK R_SF 87 91 "java/lang/IllegalStateException" := ⟨by decide +kernel, ⟨wd_324, wd_62⟩, by decide +kernel, by decide +kernel⟩
set_option maxRecDepth 20000 in
theorem xs_101 : Cond.stringRef R_SF 101 "not so many free places" ∈ lw_tbl := List.mem_of_getElem? (i := 393) rfl
set_option maxRecDepth 20000 in
theorem xs_128 : Cond.stringRef R_SF 128 "the file is shut or the row is not there" ∈ lw_tbl := List.mem_of_getElem? (i := 448) rfl
set_option maxRecDepth 20000 in
theorem xs_130 : Cond.stringRef R_SF 130 "the file is shut" ∈ lw_tbl := List.mem_of_getElem? (i := 456) rfl
set_option maxRecDepth 20000 in
theorem xs_139 : Cond.stringRef R_SF 139 "no room in the slow file" ∈ lw_tbl := List.mem_of_getElem? (i := 473) rfl
set_option maxRecDepth 20000 in
theorem xs_144 : Cond.stringRef R_SF 144 "a cut is behind 0 to 200 bytes, or -1" ∈ lw_tbl := List.mem_of_getElem? (i := 489) rfl
set_option maxRecDepth 20000 in
theorem xs_146 : Cond.stringRef R_SF 146 "no such row or byte" ∈ lw_tbl := List.mem_of_getElem? (i := 497) rfl
set_option maxRecDepth 20000 in
theorem xs_155 : Cond.stringRef R_SF 155 "the row has no such byte" ∈ lw_tbl := List.mem_of_getElem? (i := 502) rfl
set_option maxRecDepth 20000 in
theorem xs_168 : Cond.stringRef R_SF 168 "no such row or what" ∈ lw_tbl := List.mem_of_getElem? (i := 515) rfl
set_option maxRecDepth 20000 in
theorem xs_173 : Cond.stringRef R_SF 173 "no such what" ∈ lw_tbl := List.mem_of_getElem? (i := 523) rfl
set_option maxRecDepth 20000 in
theorem xs_185 : Cond.stringRef R_SF 185 "no such what, or k is below 0" ∈ lw_tbl := List.mem_of_getElem? (i := 535) rfl
set_option maxRecDepth 20000 in
theorem xs_197 : Cond.stringRef R_SF 197 "no such byte" ∈ lw_tbl := List.mem_of_getElem? (i := 560) rfl
set_option maxRecDepth 20000 in
theorem xs_207 : Cond.stringRef R_SF 207 "a mask is 1 to 255" ∈ lw_tbl := List.mem_of_getElem? (i := 568) rfl
set_option maxRecDepth 20000 in
theorem xs_57 : Cond.stringRef R_SF 57 "1 to 8 bytes are fed at once" ∈ lw_tbl := List.mem_of_getElem? (i := 249) rfl
set_option maxRecDepth 20000 in
theorem xs_67 : Cond.stringRef R_SF 67 "the tape holds 60 bytes" ∈ lw_tbl := List.mem_of_getElem? (i := 285) rfl
set_option maxRecDepth 20000 in
theorem xs_80 : Cond.stringRef R_SF 80 "no such row" ∈ lw_tbl := List.mem_of_getElem? (i := 317) rfl
set_option maxRecDepth 20000 in
theorem xs_89 : Cond.stringRef R_SF 89 "the file is shut or the tape is empty" ∈ lw_tbl := List.mem_of_getElem? (i := 333) rfl
set_option maxRecDepth 20000 in
theorem xs_95 : Cond.stringRef R_SF 95 "no such month" ∈ lw_tbl := List.mem_of_getElem? (i := 343) rfl
theorem f_SF_isSlow_b (tb : Nat → Int32) (ro : Int32) : f_SF_isSlow tb ro = 0 ∨ f_SF_isSlow tb ro = 1 := by
  unfold f_SF_isSlow
  split
  · exact Or.inl rfl
  · exact Or.inr rfl
theorem f_SF_hasByte_3 {wt i : Int32} (h : ¬ f_SF_hasByte wt i = 0) : wt = 0 ∨ wt = 1 ∨ wt = 2 := by
  by_cases h1 : wt < 0
  · exact absurd (by simp only [f_SF_hasByte, eq_true h1, ↓reduceIte]) h
  · by_cases h2 : 2 < wt
    · exact absurd (by simp only [f_SF_hasByte, eq_false h1, eq_true h2, ↓reduceIte]) h
    · exact sf_three h1 h2
theorem sf_five {x : Int32} (h1 : ¬ x < 0) (h2 : x ≤ 4) : x = 0 ∨ x = 1 ∨ x = 2 ∨ x = 3 ∨ x = 4 := by
  obtain ⟨j, hj, rfl⟩ := nI_of h1
  have h3 : nI j ≤ nI 4 := h2
  rw [nI_leI hj (by omega)] at h3
  rcases (show j = 0 ∨ j = 1 ∨ j = 2 ∨ j = 3 ∨ j = 4 by omega) with rfl | rfl | rfl | rfl | rfl
  · exact Or.inl rfl
  · exact Or.inr (Or.inl rfl)
  · exact Or.inr (Or.inr (Or.inl rfl))
  · exact Or.inr (Or.inr (Or.inr (Or.inl rfl)))
  · exact Or.inr (Or.inr (Or.inr (Or.inr rfl)))
theorem d_SF_told_42 : decode b_SF_told 42 = .ok (.tableswitch 56 0 3 #[30, 36, 42, 51], 30) := by decide +kernel
def f_SF_cut (cu : Int32) (bt : Int32) : (Int32 × Int32) :=
  if bt < (-1) then
    (3, cu)
  else
    if bt ≤ 200 then
      (0, bt)
    else
      (3, cu)
set_option maxHeartbeats 1000000 in
set_option maxRecDepth 100000 in
/-- cut -/
theorem c_SF_cut (l : Launch) (D : va_G) (cI cZ cJ : ClassId) (hst : l.stackTraces = false) (q : Nat → Nat) (fl : Nat → Int32) (sl : Nat → Int32) (tb : Nat → Int32) (np : Nat → Int32) (nt : Nat → Int32) (cp : Nat → Int32) (cc : Int32) (cb : Int32) (ch : Int32) (cm : Int32) (mp : Nat → Int32) (mc : Int32) (mb : Int32) (mh : Int32) (mm : Int32) (us : Nat → Int32) (ta : Nat → Int32) (tp : Nat → Int32) (tl : Int32) (cu : Int32) (bl : Int32) (pf : Int32) (sh : Int32) (bt : Int32) : sf_XM (S := (Int32 × Int32)) l D classes (sf_tys cI cZ cJ) y_SF_cut (sf_ws y_SF_cut b_SF_cut 2 none) 6 90 [.ref (q 0), .int bt] (sf_w q cI cZ fl sl tb np nt cp cc cb ch cm mp mc mb mh mm us ta tp tl cu bl pf sh) (fun r => r.1) (fun _ => none) (fun r => r = f_SF_cut cu bt) (fun r => (sf_w q cI cZ fl sl tb np nt cp cc cb ch cm mp mc mb mh mm us ta tp tl r.2 bl pf sh)) := by
  refine sf_xofW (S := (Int32 × Int32)) (by decide) (Nat.le_of_ble_eq_true rfl) ?_
  intro p e s m below meth c A ls R args Q hR hArgs hQ hC0 hr hex hE hK hP hD hl
  obtain ⟨hx, hb, hml, hown, hts, hA, hlk⟩ := hC0
  have hS : va_S A s.heap s.heap [] := va_S.rf
  have hl : lv_has ls 2 [(0, .ref (q 0)), (1, .int bt)] := hl
  refine lv_iload_n hx hb d_SF_cut_0 rfl (lv_at hl 1 rfl) ?_
  refine lv_iconst (v := (-1)) hx hb d_SF_cut_1 (by decide) ?_
  refine lv_icmp_lt (tgt := 12) hx hb d_SF_cut_2 (by decide) (fun c_1 => ?_) (fun c_1 => ?_)
  · rw [hQ]
    exact sf_xthrow (text := "a cut is behind 0 to 200 bytes, or -1") (u := (3, cu)) hx hb hst hml hown hts hE hex xk_55_59 xs_144 hlk hS (show ¬ (3 : Int32) = 0 by decide) (show _ = sf_en 3 by decide) (by simp only [f_SF_cut, eq_true c_1, ↓reduceIte]) hP hl.1 (by rw [hR]; exact ⟨Nat.le_of_ble_eq_true rfl, Nat.le_of_ble_eq_true rfl, Nat.le_refl _, Nat.le_refl _⟩) d_SF_cut_12 d_SF_cut_15 d_SF_cut_16 d_SF_cut_18 d_SF_cut_21
  · refine lv_iload_n hx hb d_SF_cut_5 rfl (lv_at hl 1 rfl) ?_
    refine lv_sipush (v := 200) hx hb d_SF_cut_6 (by decide) ?_
    refine lv_icmp_le (tgt := 22) hx hb d_SF_cut_9 (by decide) (fun c_2 => ?_) (fun c_2 => ?_)
    · refine lv_aload_n hx hb d_SF_cut_22 rfl (lv_at hl 0 rfl) ?_
      refine lv_iload_n hx hb d_SF_cut_23 rfl (lv_at hl 1 rfl) ?_
      refine va_put (D := D) (ci := 2) (v := .int bt) (ty := .int) (C := R_SF) (T := F_SF) (N := 15) hx hb hts i_SF t_SF t_SF_ok n_SF hown hK hP hD hS 0 rfl rfl 11 (by decide) (hts _ wd_121) (fun _ h9 => h9) rfl (by decide +kernel) rfl rfl (Nat.le_of_ble_eq_true rfl) d_SF_cut_24 (fun H locs hP hD hS => ?_)
      have hP : va_P D classes (sf_w q cI cZ fl sl tb np nt cp cc cb ch cm mp mc mb mh mm us ta tp tl bt bl pf sh) H := hP
      have hD : va_D A (sf_w q cI cZ fl sl tb np nt cp cc cb ch cm mp mc mb mh mm us ta tp tl bt bl pf sh) := hD
      rw [hQ]
      exact sf_xvret (0, bt) hx hb hr hlk hS rfl rfl (by simp only [f_SF_cut, eq_false c_1, eq_true c_2, ↓reduceIte]) hP d_SF_cut_27
    · rw [hQ]
      exact sf_xthrow (text := "a cut is behind 0 to 200 bytes, or -1") (u := (3, cu)) hx hb hst hml hown hts hE hex xk_55_59 xs_144 hlk hS (show ¬ (3 : Int32) = 0 by decide) (show _ = sf_en 3 by decide) (by simp only [f_SF_cut, eq_false c_1, eq_false c_2, ↓reduceIte]) hP hl.1 (by rw [hR]; exact ⟨Nat.le_of_ble_eq_true rfl, Nat.le_of_ble_eq_true rfl, Nat.le_refl _, Nat.le_refl _⟩) d_SF_cut_12 d_SF_cut_15 d_SF_cut_16 d_SF_cut_18 d_SF_cut_21
def f_SF_remove (tb : Nat → Int32) (nt : Nat → Int32) (cu : Int32) (bl : Int32) (pf : Int32) (sh : Int32) (ro : Int32) : (Int32 × Int32 × (Nat → Int32) × (Nat → Int32) × Int32 × Int32 × Int32 × Int32) :=
  if (f_SF_isRow ro) = 0 then
    (1, 0, tb, nt, cu, bl, pf, sh)
  else
    if sh = 0 then
      if (f_SF_isThere tb ro) = 0 then
        (2, 0, tb, nt, cu, bl, pf, sh)
      else
        if (f_SF_endWriting (f_SF_beginWriting cu 0).2.2 sh).1 = 0 then
          (0, (-1), (f_SF_putTable tb nt (f_SF_beginWriting cu 0).2.1 ro 0 0).2.1, (f_SF_putTable tb nt (f_SF_beginWriting cu 0).2.1 ro 0 0).1, (f_SF_beginWriting cu 0).1, (f_SF_putTable tb nt (f_SF_beginWriting cu 0).2.1 ro 0 0).2.2, (f_SF_beginWriting cu 0).2.2, (f_SF_endWriting (f_SF_beginWriting cu 0).2.2 sh).2)
        else
          (0, 0, (f_SF_putTable tb nt (f_SF_beginWriting cu 0).2.1 ro 0 0).2.1, (f_SF_putTable tb nt (f_SF_beginWriting cu 0).2.1 ro 0 0).1, (f_SF_beginWriting cu 0).1, (f_SF_putTable tb nt (f_SF_beginWriting cu 0).2.1 ro 0 0).2.2, (f_SF_beginWriting cu 0).2.2, (f_SF_endWriting (f_SF_beginWriting cu 0).2.2 sh).2)
    else
      (2, 0, tb, nt, cu, bl, pf, sh)
set_option maxHeartbeats 1000000 in
set_option maxRecDepth 100000 in
/-- remove -/
theorem c_SF_remove (l : Launch) (D : va_G) (cI cZ cJ : ClassId) (hst : l.stackTraces = false) (q : Nat → Nat) (fl : Nat → Int32) (sl : Nat → Int32) (tb : Nat → Int32) (np : Nat → Int32) (nt : Nat → Int32) (cp : Nat → Int32) (cc : Int32) (cb : Int32) (ch : Int32) (cm : Int32) (mp : Nat → Int32) (mc : Int32) (mb : Int32) (mh : Int32) (mm : Int32) (us : Nat → Int32) (ta : Nat → Int32) (tp : Nat → Int32) (tl : Int32) (cu : Int32) (bl : Int32) (pf : Int32) (sh : Int32) (ro : Int32) : sf_XM (S := (Int32 × Int32 × (Nat → Int32) × (Nat → Int32) × Int32 × Int32 × Int32 × Int32)) l D classes (sf_tys cI cZ cJ) y_SF_remove (sf_ws y_SF_remove b_SF_remove 2 (some .int)) 6 118 [.ref (q 0), .int ro] (sf_w q cI cZ fl sl tb np nt cp cc cb ch cm mp mc mb mh mm us ta tp tl cu bl pf sh) (fun r => r.1) (fun r => some (.int r.2.1)) (fun r => r = f_SF_remove tb nt cu bl pf sh ro) (fun r => (sf_w q cI cZ fl sl r.2.2.1 np r.2.2.2.1 cp cc cb ch cm mp mc mb mh mm us ta tp tl r.2.2.2.2.1 r.2.2.2.2.2.1 r.2.2.2.2.2.2.1 r.2.2.2.2.2.2.2)) := by
  refine sf_xofW (S := (Int32 × Int32 × (Nat → Int32) × (Nat → Int32) × Int32 × Int32 × Int32 × Int32)) (by decide) (Nat.le_of_ble_eq_true rfl) ?_
  intro p e s m below meth c A ls R args Q hR hArgs hQ hC0 hr hex hE hK hP hD hl
  obtain ⟨hx, hb, hml, hown, hts, hA, hlk⟩ := hC0
  have hS : va_S A s.heap s.heap [] := va_S.rf
  have hl : lv_has ls 2 [(0, .ref (q 0)), (1, .int ro)] := hl
  refine lv_iload_n hx hb d_SF_remove_0 rfl (lv_at hl 1 rfl) ?_
  refine sf_callSr (S := Int32) (rest := []) ⟨hx, hb, hml, hown, hts⟩ (c_SF_isRow l D cI cZ cJ ro) (sf_cwS lk_SF_74 hts (fun _ h => h) (by rw [hR]; exact ⟨Nat.le_of_ble_eq_true rfl, Nat.le_of_ble_eq_true rfl⟩)) hK hP hD hS hA [] rfl rfl (fun _ => rfl) rfl rfl hl.1 (Nat.le_of_ble_eq_true rfl) d_SF_remove_1 ⟨Nat.zero_le _, Nat.zero_le _⟩ (fun u_1 H locs hu_1 hP hS => ?_)
  refine lv_if_ne (tgt := 17) hx hb d_SF_remove_4 (by decide) (fun c_2 => ?_) (fun c_2 => ?_)
  · refine lv_aload_n hx hb d_SF_remove_17 rfl (lv_at hl 0 rfl) ?_
    refine va_get (D := D) (ci := 2) (v := .int sh) (C := R_SF) (T := F_SF) (N := 15) hx hb hts i_SF hown hK hP 0 rfl rfl 14 (by decide) (hts _ wd_124) (fun _ h9 => h9) rfl d_SF_remove_18 ?_
    refine lv_if_ne (tgt := 32) hx hb d_SF_remove_21 (by decide) (fun c_3 => ?_) (fun c_3 => ?_)
    · rw [hQ]
      exact sf_xthrow (text := "the file is shut or the row is not there") (u := (2, 0, tb, nt, cu, bl, pf, sh)) hx hb hst hml hown hts hE hex xk_87_91 xs_128 hlk hS (show ¬ (2 : Int32) = 0 by decide) (show _ = sf_en 2 by decide) (by simp only [f_SF_remove, ← hu_1, eq_false c_2, eq_false c_3, ↓reduceIte]) hP hl.1 (by rw [hR]; exact ⟨Nat.le_of_ble_eq_true rfl, Nat.le_of_ble_eq_true rfl, Nat.le_refl _, Nat.le_refl _⟩) d_SF_remove_32 d_SF_remove_35 d_SF_remove_36 d_SF_remove_38 d_SF_remove_41
    · refine lv_aload_n hx hb d_SF_remove_24 rfl (lv_at hl 0 rfl) ?_
      refine lv_iload_n hx hb d_SF_remove_25 rfl (lv_at hl 1 rfl) ?_
      refine sf_callVw (S := Int32) (rest := []) ⟨hx, hb, hml, hown, hts⟩ (c_SF_isThere l D cI cZ cJ q fl sl tb np nt cp cc cb ch cm mp mc mb mh mm us ta tp tl cu bl pf sh ro) (sf_cwV lk_SF_125 hts (fun _ h => h) (by rw [hR]; exact ⟨Nat.le_of_ble_eq_true rfl, Nat.le_of_ble_eq_true rfl⟩)) hK hP hD hS hA (fun _ => by simp only [sf_w_fst]) (ci := 2) (q0 := 0) rfl rfl rfl rfl rfl hl.1 (Nat.le_of_ble_eq_true rfl) d_SF_remove_26 ⟨Nat.zero_le _, Nat.zero_le _⟩ (fun u_4 H locs hu_4 hP hD hS => ?_)
      have hP : va_P D classes (sf_w q cI cZ fl sl tb np nt cp cc cb ch cm mp mc mb mh mm us ta tp tl cu bl pf sh) H := hP
      have hD : va_D A (sf_w q cI cZ fl sl tb np nt cp cc cb ch cm mp mc mb mh mm us ta tp tl cu bl pf sh) := hD
      refine lv_if_ne (tgt := 42) hx hb d_SF_remove_29 (by decide) (fun c_5 => ?_) (fun c_5 => ?_)
      · refine lv_aload_n hx hb d_SF_remove_42 rfl (lv_at hl 0 rfl) ?_
        refine lv_iconst (v := 0) hx hb d_SF_remove_43 (by decide) ?_
        refine sf_callVw (S := (Int32 × Int32 × Int32)) (rest := []) ⟨hx, hb, hml, hown, hts⟩ (c_SF_beginWriting l D cI cZ cJ q fl sl tb np nt cp cc cb ch cm mp mc mb mh mm us ta tp tl cu bl pf sh 0) (sf_cwV lk_SF_103 hts (fun _ h => h) (by rw [hR]; exact ⟨Nat.le_of_ble_eq_true rfl, Nat.le_of_ble_eq_true rfl⟩)) hK hP hD hS hA (fun _ => by simp only [sf_w_fst]) (ci := 2) (q0 := 0) rfl rfl rfl rfl rfl hl.1 (Nat.le_of_ble_eq_true rfl) d_SF_remove_44 ⟨Nat.zero_le _, Nat.zero_le _⟩ (fun u_6 H locs hu_6 hP hD hS => ?_)
        have hP : va_P D classes (sf_w q cI cZ fl sl tb np nt cp cc cb ch cm mp mc mb mh mm us ta tp tl u_6.1 u_6.2.1 u_6.2.2 sh) H := hP
        have hD : va_D A (sf_w q cI cZ fl sl tb np nt cp cc cb ch cm mp mc mb mh mm us ta tp tl u_6.1 u_6.2.1 u_6.2.2 sh) := hD
        refine lv_aload_n hx hb d_SF_remove_47 rfl (lv_at hl 0 rfl) ?_
        refine lv_iload_n hx hb d_SF_remove_48 rfl (lv_at hl 1 rfl) ?_
        refine lv_iconst (v := 0) hx hb d_SF_remove_49 (by decide) ?_
        refine lv_iconst (v := 0) hx hb d_SF_remove_50 (by decide) ?_
        refine sf_callVw (S := ((Nat → Int32) × (Nat → Int32) × Int32)) (rest := []) ⟨hx, hb, hml, hown, hts⟩ (c_SF_putTable l D cI cZ cJ q fl sl tb np nt cp cc cb ch cm mp mc mb mh mm us ta tp tl u_6.1 u_6.2.1 u_6.2.2 sh ro 0 0) (sf_cwV lk_SF_118 hts (fun _ h => h) (by rw [hR]; exact ⟨Nat.le_of_ble_eq_true rfl, Nat.le_of_ble_eq_true rfl⟩)) hK hP hD hS hA (fun _ => by simp only [sf_w_fst]) (ci := 2) (q0 := 0) rfl rfl rfl rfl rfl hl.1 (Nat.le_of_ble_eq_true rfl) d_SF_remove_51 ⟨Nat.zero_le _, Nat.zero_le _⟩ (fun u_7 H locs hu_7 hP hD hS => ?_)
        have hP : va_P D classes (sf_w q cI cZ fl sl u_7.2.1 np u_7.1 cp cc cb ch cm mp mc mb mh mm us ta tp tl u_6.1 u_7.2.2 u_6.2.2 sh) H := hP
        have hD : va_D A (sf_w q cI cZ fl sl u_7.2.1 np u_7.1 cp cc cb ch cm mp mc mb mh mm us ta tp tl u_6.1 u_7.2.2 u_6.2.2 sh) := hD
        refine lv_aload_n hx hb d_SF_remove_54 rfl (lv_at hl 0 rfl) ?_
        refine sf_callVw (S := (Int32 × Int32)) (rest := []) ⟨hx, hb, hml, hown, hts⟩ (c_SF_endWriting l D cI cZ cJ q fl sl u_7.2.1 np u_7.1 cp cc cb ch cm mp mc mb mh mm us ta tp tl u_6.1 u_7.2.2 u_6.2.2 sh) (sf_cwV lk_SF_121 hts (fun _ h => h) (by rw [hR]; exact ⟨Nat.le_of_ble_eq_true rfl, Nat.le_of_ble_eq_true rfl⟩)) hK hP hD hS hA (fun _ => by simp only [sf_w_fst]) (ci := 2) (q0 := 0) rfl rfl rfl rfl rfl hl.1 (Nat.le_of_ble_eq_true rfl) d_SF_remove_55 ⟨Nat.zero_le _, Nat.zero_le _⟩ (fun u_8 H locs hu_8 hP hD hS => ?_)
        have hP : va_P D classes (sf_w q cI cZ fl sl u_7.2.1 np u_7.1 cp cc cb ch cm mp mc mb mh mm us ta tp tl u_6.1 u_7.2.2 u_6.2.2 u_8.2) H := hP
        have hD : va_D A (sf_w q cI cZ fl sl u_7.2.1 np u_7.1 cp cc cb ch cm mp mc mb mh mm us ta tp tl u_6.1 u_7.2.2 u_6.2.2 u_8.2) := hD
        refine lv_if_eq (tgt := 65) hx hb d_SF_remove_58 (by decide) (fun c_9 => ?_) (fun c_9 => ?_)
        · refine lv_iconst (v := (-1)) hx hb d_SF_remove_65 (by decide) ?_
          rw [hQ]
          exact sf_xiret (0, (-1), u_7.2.1, u_7.1, u_6.1, u_7.2.2, u_6.2.2, u_8.2) hx hb hr hlk hS rfl rfl rfl (by simp only [f_SF_remove, ← hu_1, ← hu_4, ← hu_6, ← hu_7, ← hu_8, eq_false c_2, eq_true c_3, eq_false c_5, eq_true c_9, ↓reduceIte]) hP d_SF_remove_66
        · refine lv_iconst (v := 0) hx hb d_SF_remove_61 (by decide) ?_
          refine lv_goto (tgt := 66) hx hb d_SF_remove_62 (by decide) ?_
          rw [hQ]
          exact sf_xiret (0, 0, u_7.2.1, u_7.1, u_6.1, u_7.2.2, u_6.2.2, u_8.2) hx hb hr hlk hS rfl rfl rfl (by simp only [f_SF_remove, ← hu_1, ← hu_4, ← hu_6, ← hu_7, ← hu_8, eq_false c_2, eq_true c_3, eq_false c_5, eq_false c_9, ↓reduceIte]) hP d_SF_remove_66
      · rw [hQ]
        exact sf_xthrow (text := "the file is shut or the row is not there") (u := (2, 0, tb, nt, cu, bl, pf, sh)) hx hb hst hml hown hts hE hex xk_87_91 xs_128 hlk hS (show ¬ (2 : Int32) = 0 by decide) (show _ = sf_en 2 by decide) (by simp only [f_SF_remove, ← hu_1, ← hu_4, eq_false c_2, eq_true c_3, eq_true c_5, ↓reduceIte]) hP hl.1 (by rw [hR]; exact ⟨Nat.le_of_ble_eq_true rfl, Nat.le_of_ble_eq_true rfl, Nat.le_refl _, Nat.le_refl _⟩) d_SF_remove_32 d_SF_remove_35 d_SF_remove_36 d_SF_remove_38 d_SF_remove_41
  · rw [hQ]
    exact sf_xthrow (text := "no such row") (u := (1, 0, tb, nt, cu, bl, pf, sh)) hx hb hst hml hown hts hE hex xk_78_82 xs_80 hlk hS (show ¬ (1 : Int32) = 0 by decide) (show _ = sf_en 1 by decide) (by simp only [f_SF_remove, ← hu_1, eq_true c_2, ↓reduceIte]) hP hl.1 (by rw [hR]; exact ⟨Nat.le_of_ble_eq_true rfl, Nat.le_of_ble_eq_true rfl, Nat.le_refl _, Nat.le_refl _⟩) d_SF_remove_7 d_SF_remove_10 d_SF_remove_11 d_SF_remove_13 d_SF_remove_16
def f_SF_write_l98 (fl : Nat → Int32) (tb : Nat → Int32) (nt : Nat → Int32) (mp : Nat → Int32) (mc : Int32) (mb : Int32) (mh : Int32) (mm : Int32) (us : Nat → Int32) (ta : Nat → Int32) (tp : Nat → Int32) (tl : Int32) (cu : Int32) (sh : Int32) (ro : Int32) (mo : Int32) : Nat → Nat → (Nat → Int32) → (Nat → Int32) → Int32 → (Int32 × Int32 × (Nat → Int32) × (Nat → Int32) × (Nat → Int32) × (Nat → Int32) × (Nat → Int32) × (Nat → Int32) × Int32 × Int32 × Int32 × Int32 × (Nat → Int32) × Int32 × Int32 × Int32 × Int32 × Int32)
  | 0, _, _, _, _ => (0, 0, (fun _ => 0), (fun _ => 0), (fun _ => 0), (fun _ => 0), (fun _ => 0), (fun _ => 0), 0, 0, 0, 0, (fun _ => 0), 0, 0, 0, 0, 0)
  | fu + 1, k, vn, vf, vb =>
    if (((tl + 25) - 1) / 25) ≤ (nI k) then
      if (f_SF_endWriting (f_SF_beginWriting cu (((tl + 25) - 1) / 25)).2.2 sh).1 = 0 then
        (0, (-1), vf, (f_SF_putTable tb nt vb ro ((f_SF_takenAt (f_SF_takePlaces_0 fl tb mp mc mb mh mm us ta (((tl + 25) - 1) / 25)).2.2.2.2.2.2.2 0) + 1) 0).2.1, vn, (f_SF_putTable tb nt vb ro ((f_SF_takenAt (f_SF_takePlaces_0 fl tb mp mc mb mh mm us ta (((tl + 25) - 1) / 25)).2.2.2.2.2.2.2 0) + 1) 0).1, (f_SF_takePlaces_0 fl tb mp mc mb mh mm us ta (((tl + 25) - 1) / 25)).2.1, (f_SF_takePlaces_0 fl tb mp mc mb mh mm us ta (((tl + 25) - 1) / 25)).2.2.1, (f_SF_takePlaces_0 fl tb mp mc mb mh mm us ta (((tl + 25) - 1) / 25)).2.2.2.1, (f_SF_takePlaces_0 fl tb mp mc mb mh mm us ta (((tl + 25) - 1) / 25)).2.2.2.2.1, (f_SF_takePlaces_0 fl tb mp mc mb mh mm us ta (((tl + 25) - 1) / 25)).2.2.2.2.2.1, (f_SF_takePlaces_0 fl tb mp mc mb mh mm us ta (((tl + 25) - 1) / 25)).2.2.2.2.2.2.1, (f_SF_takePlaces_0 fl tb mp mc mb mh mm us ta (((tl + 25) - 1) / 25)).2.2.2.2.2.2.2, 0, (f_SF_beginWriting cu (((tl + 25) - 1) / 25)).1, (f_SF_putTable tb nt vb ro ((f_SF_takenAt (f_SF_takePlaces_0 fl tb mp mc mb mh mm us ta (((tl + 25) - 1) / 25)).2.2.2.2.2.2.2 0) + 1) 0).2.2, (f_SF_beginWriting cu (((tl + 25) - 1) / 25)).2.2, (f_SF_endWriting (f_SF_beginWriting cu (((tl + 25) - 1) / 25)).2.2 sh).2)
      else
        (0, (((tl + 25) - 1) / 25), vf, (f_SF_putTable tb nt vb ro ((f_SF_takenAt (f_SF_takePlaces_0 fl tb mp mc mb mh mm us ta (((tl + 25) - 1) / 25)).2.2.2.2.2.2.2 0) + 1) 0).2.1, vn, (f_SF_putTable tb nt vb ro ((f_SF_takenAt (f_SF_takePlaces_0 fl tb mp mc mb mh mm us ta (((tl + 25) - 1) / 25)).2.2.2.2.2.2.2 0) + 1) 0).1, (f_SF_takePlaces_0 fl tb mp mc mb mh mm us ta (((tl + 25) - 1) / 25)).2.1, (f_SF_takePlaces_0 fl tb mp mc mb mh mm us ta (((tl + 25) - 1) / 25)).2.2.1, (f_SF_takePlaces_0 fl tb mp mc mb mh mm us ta (((tl + 25) - 1) / 25)).2.2.2.1, (f_SF_takePlaces_0 fl tb mp mc mb mh mm us ta (((tl + 25) - 1) / 25)).2.2.2.2.1, (f_SF_takePlaces_0 fl tb mp mc mb mh mm us ta (((tl + 25) - 1) / 25)).2.2.2.2.2.1, (f_SF_takePlaces_0 fl tb mp mc mb mh mm us ta (((tl + 25) - 1) / 25)).2.2.2.2.2.2.1, (f_SF_takePlaces_0 fl tb mp mc mb mh mm us ta (((tl + 25) - 1) / 25)).2.2.2.2.2.2.2, 0, (f_SF_beginWriting cu (((tl + 25) - 1) / 25)).1, (f_SF_putTable tb nt vb ro ((f_SF_takenAt (f_SF_takePlaces_0 fl tb mp mc mb mh mm us ta (((tl + 25) - 1) / 25)).2.2.2.2.2.2.2 0) + 1) 0).2.2, (f_SF_beginWriting cu (((tl + 25) - 1) / 25)).2.2, (f_SF_endWriting (f_SF_beginWriting cu (((tl + 25) - 1) / 25)).2.2 sh).2)
    else
      f_SF_write_l98 fl tb nt mp mc mb mh mm us ta tp tl cu sh ro mo fu (k + 1) (f_SF_putPlace_f vf (f_SF_preparePlaceFromTape vn (f_SF_takePlaces_0 fl tb mp mc mb mh mm us ta (((tl + 25) - 1) / 25)).2.2.2.2.2.2.2 tp tl (nI k) (((tl + 25) - 1) / 25) mo) vb (f_SF_takenAt (f_SF_takePlaces_0 fl tb mp mc mb mh mm us ta (((tl + 25) - 1) / 25)).2.2.2.2.2.2.2 (nI k))).1 (f_SF_putPlace_f vf (f_SF_preparePlaceFromTape vn (f_SF_takePlaces_0 fl tb mp mc mb mh mm us ta (((tl + 25) - 1) / 25)).2.2.2.2.2.2.2 tp tl (nI k) (((tl + 25) - 1) / 25) mo) vb (f_SF_takenAt (f_SF_takePlaces_0 fl tb mp mc mb mh mm us ta (((tl + 25) - 1) / 25)).2.2.2.2.2.2.2 (nI k))).2.1 (f_SF_putPlace_f vf (f_SF_preparePlaceFromTape vn (f_SF_takePlaces_0 fl tb mp mc mb mh mm us ta (((tl + 25) - 1) / 25)).2.2.2.2.2.2.2 tp tl (nI k) (((tl + 25) - 1) / 25) mo) vb (f_SF_takenAt (f_SF_takePlaces_0 fl tb mp mc mb mh mm us ta (((tl + 25) - 1) / 25)).2.2.2.2.2.2.2 (nI k))).2.2
def f_SF_write (fl : Nat → Int32) (tb : Nat → Int32) (np : Nat → Int32) (nt : Nat → Int32) (mp : Nat → Int32) (mc : Int32) (mb : Int32) (mh : Int32) (mm : Int32) (us : Nat → Int32) (ta : Nat → Int32) (tp : Nat → Int32) (tl : Int32) (cu : Int32) (bl : Int32) (pf : Int32) (sh : Int32) (ro : Int32) (mo : Int32) : (Int32 × Int32 × (Nat → Int32) × (Nat → Int32) × (Nat → Int32) × (Nat → Int32) × (Nat → Int32) × (Nat → Int32) × Int32 × Int32 × Int32 × Int32 × (Nat → Int32) × Int32 × Int32 × Int32 × Int32 × Int32) :=
  if (f_SF_isRow ro) = 0 then
    (1, 0, fl, tb, np, nt, us, mp, mc, mb, mh, mm, ta, tl, cu, bl, pf, sh)
  else
    if sh = 0 then
      if tl = 0 then
        (2, 0, fl, tb, np, nt, us, mp, mc, mb, mh, mm, ta, tl, cu, bl, pf, sh)
      else
        if (f_SF_isMonth mo) = 0 then
          (3, 0, fl, tb, np, nt, us, mp, mc, mb, mh, mm, ta, tl, cu, bl, pf, sh)
        else
          if (f_SF_takePlaces_0 fl tb mp mc mb mh mm us ta (((tl + 25) - 1) / 25)).1 = 0 then
            (4, 0, fl, tb, np, nt, (f_SF_takePlaces_0 fl tb mp mc mb mh mm us ta (((tl + 25) - 1) / 25)).2.1, (f_SF_takePlaces_0 fl tb mp mc mb mh mm us ta (((tl + 25) - 1) / 25)).2.2.1, (f_SF_takePlaces_0 fl tb mp mc mb mh mm us ta (((tl + 25) - 1) / 25)).2.2.2.1, (f_SF_takePlaces_0 fl tb mp mc mb mh mm us ta (((tl + 25) - 1) / 25)).2.2.2.2.1, (f_SF_takePlaces_0 fl tb mp mc mb mh mm us ta (((tl + 25) - 1) / 25)).2.2.2.2.2.1, (f_SF_takePlaces_0 fl tb mp mc mb mh mm us ta (((tl + 25) - 1) / 25)).2.2.2.2.2.2.1, (f_SF_takePlaces_0 fl tb mp mc mb mh mm us ta (((tl + 25) - 1) / 25)).2.2.2.2.2.2.2, tl, cu, bl, pf, sh)
          else
            f_SF_write_l98 fl tb nt mp mc mb mh mm us ta tp tl cu sh ro mo ((((tl + 25) - 1) / 25).toNatClampNeg + 1) 0 np fl (f_SF_beginWriting cu (((tl + 25) - 1) / 25)).2.1
    else
      (2, 0, fl, tb, np, nt, us, mp, mc, mb, mh, mm, ta, tl, cu, bl, pf, sh)
set_option maxHeartbeats 1000000 in
set_option maxRecDepth 100000 in
/-- write -/
theorem c_SF_write (l : Launch) (D : va_G) (cI cZ cJ : ClassId) (hst : l.stackTraces = false) (q : Nat → Nat) (fl : Nat → Int32) (sl : Nat → Int32) (tb : Nat → Int32) (np : Nat → Int32) (nt : Nat → Int32) (cp : Nat → Int32) (cc : Int32) (cb : Int32) (ch : Int32) (cm : Int32) (mp : Nat → Int32) (mc : Int32) (mb : Int32) (mh : Int32) (mm : Int32) (us : Nat → Int32) (ta : Nat → Int32) (tp : Nat → Int32) (tl : Int32) (cu : Int32) (bl : Int32) (pf : Int32) (sh : Int32) (ro : Int32) (mo : Int32) : sf_XM (S := (Int32 × Int32 × (Nat → Int32) × (Nat → Int32) × (Nat → Int32) × (Nat → Int32) × (Nat → Int32) × (Nat → Int32) × Int32 × Int32 × Int32 × Int32 × (Nat → Int32) × Int32 × Int32 × Int32 × Int32 × Int32)) l D classes (sf_tys cI cZ cJ) y_SF_write (sf_ws y_SF_write b_SF_write 5 (some .int)) 6 145 [.ref (q 0), .int ro, .int mo] (sf_w q cI cZ fl sl tb np nt cp cc cb ch cm mp mc mb mh mm us ta tp tl cu bl pf sh) (fun r => r.1) (fun r => some (.int r.2.1)) (fun r => r = f_SF_write fl tb np nt mp mc mb mh mm us ta tp tl cu bl pf sh ro mo) (fun r => (sf_w q cI cZ r.2.2.1 sl r.2.2.2.1 r.2.2.2.2.1 r.2.2.2.2.2.1 cp cc cb ch cm r.2.2.2.2.2.2.2.1 r.2.2.2.2.2.2.2.2.1 r.2.2.2.2.2.2.2.2.2.1 r.2.2.2.2.2.2.2.2.2.2.1 r.2.2.2.2.2.2.2.2.2.2.2.1 r.2.2.2.2.2.2.1 r.2.2.2.2.2.2.2.2.2.2.2.2.1 tp r.2.2.2.2.2.2.2.2.2.2.2.2.2.1 r.2.2.2.2.2.2.2.2.2.2.2.2.2.2.1 r.2.2.2.2.2.2.2.2.2.2.2.2.2.2.2.1 r.2.2.2.2.2.2.2.2.2.2.2.2.2.2.2.2.1 r.2.2.2.2.2.2.2.2.2.2.2.2.2.2.2.2.2)) := by
  refine sf_xofW (S := (Int32 × Int32 × (Nat → Int32) × (Nat → Int32) × (Nat → Int32) × (Nat → Int32) × (Nat → Int32) × (Nat → Int32) × Int32 × Int32 × Int32 × Int32 × (Nat → Int32) × Int32 × Int32 × Int32 × Int32 × Int32)) (by decide) (Nat.le_of_ble_eq_true rfl) ?_
  intro p e s m below meth c A ls R args Q hR hArgs hQ hC0 hr hex hE hK hP hD hl
  obtain ⟨hx, hb, hml, hown, hts, hA, hlk⟩ := hC0
  have hS : va_S A s.heap s.heap [] := va_S.rf
  have hl : lv_has ls 5 [(0, .ref (q 0)), (1, .int ro), (2, .int mo)] := hl
  have hcl := sf_clt (((tl + 25) - 1) / 25)
  refine lv_iload_n hx hb d_SF_write_0 rfl (lv_at hl 1 rfl) ?_
  refine sf_callSr (S := Int32) (rest := []) ⟨hx, hb, hml, hown, hts⟩ (c_SF_isRow l D cI cZ cJ ro) (sf_cwS lk_SF_74 hts (fun _ h => h) (by rw [hR]; exact ⟨Nat.le_of_ble_eq_true rfl, Nat.le_of_ble_eq_true rfl⟩)) hK hP hD hS hA [] rfl rfl (fun _ => rfl) rfl rfl hl.1 (Nat.le_of_ble_eq_true rfl) d_SF_write_1 ⟨Nat.zero_le _, Nat.zero_le _⟩ (fun u_1 H locs hu_1 hP hS => ?_)
  refine lv_if_ne (tgt := 17) hx hb d_SF_write_4 (by decide) (fun c_2 => ?_) (fun c_2 => ?_)
  · refine lv_aload_n hx hb d_SF_write_17 rfl (lv_at hl 0 rfl) ?_
    refine va_get (D := D) (ci := 2) (v := .int sh) (C := R_SF) (T := F_SF) (N := 15) hx hb hts i_SF hown hK hP 0 rfl rfl 14 (by decide) (hts _ wd_124) (fun _ h9 => h9) rfl d_SF_write_18 ?_
    refine lv_if_ne (tgt := 31) hx hb d_SF_write_21 (by decide) (fun c_3 => ?_) (fun c_3 => ?_)
    · rw [hQ]
      exact sf_xthrow (text := "the file is shut or the tape is empty") (u := (2, 0, fl, tb, np, nt, us, mp, mc, mb, mh, mm, ta, tl, cu, bl, pf, sh)) hx hb hst hml hown hts hE hex xk_87_91 xs_89 hlk hS (show ¬ (2 : Int32) = 0 by decide) (show _ = sf_en 2 by decide) (by simp only [f_SF_write, ← hu_1, eq_false c_2, eq_false c_3, ↓reduceIte]) hP hl.1 (by rw [hR]; exact ⟨Nat.le_of_ble_eq_true rfl, Nat.le_of_ble_eq_true rfl, Nat.le_refl _, Nat.le_refl _⟩) d_SF_write_31 d_SF_write_34 d_SF_write_35 d_SF_write_37 d_SF_write_40
    · refine lv_aload_n hx hb d_SF_write_24 rfl (lv_at hl 0 rfl) ?_
      refine va_get (D := D) (ci := 2) (v := .int tl) (C := R_SF) (T := F_SF) (N := 15) hx hb hts i_SF hown hK hP 0 rfl rfl 10 (by decide) (hts _ wd_120) (fun _ h9 => h9) rfl d_SF_write_25 ?_
      refine lv_if_ne (tgt := 41) hx hb d_SF_write_28 (by decide) (fun c_4 => ?_) (fun c_4 => ?_)
      · refine lv_iload_n hx hb d_SF_write_41 rfl (lv_at hl 2 rfl) ?_
        refine sf_callSr (S := Int32) (rest := []) ⟨hx, hb, hml, hown, hts⟩ (c_SF_isMonth l D cI cZ cJ mo) (sf_cwS lk_SF_92 hts (fun _ h => h) (by rw [hR]; exact ⟨Nat.le_of_ble_eq_true rfl, Nat.le_of_ble_eq_true rfl⟩)) hK hP hD hS hA [] rfl rfl (fun _ => rfl) rfl rfl hl.1 (Nat.le_of_ble_eq_true rfl) d_SF_write_42 ⟨Nat.zero_le _, Nat.zero_le _⟩ (fun u_5 H locs hu_5 hP hS => ?_)
        refine lv_if_ne (tgt := 58) hx hb d_SF_write_45 (by decide) (fun c_6 => ?_) (fun c_6 => ?_)
        · refine lv_aload_n hx hb d_SF_write_58 rfl (lv_at hl 0 rfl) ?_
          refine va_get (D := D) (ci := 2) (v := .int tl) (C := R_SF) (T := F_SF) (N := 15) hx hb hts i_SF hown hK hP 0 rfl rfl 10 (by decide) (hts _ wd_120) (fun _ h9 => h9) rfl d_SF_write_59 ?_
          refine lv_bipush (v := 25) hx hb d_SF_write_62 (by decide) ?_
          refine lv_iadd hx hb d_SF_write_64 ?_
          refine lv_iconst (v := 1) hx hb d_SF_write_65 (by decide) ?_
          refine lv_isub hx hb d_SF_write_66 ?_
          refine lv_bipush (v := 25) hx hb d_SF_write_67 (by decide) ?_
          refine lv_idiv hx hb d_SF_write_69 (by decide) ?_
          refine lv_istore_n (lv' := [(3, .int (((tl + 25) - 1) / 25)), (0, .ref (q 0)), (1, .int ro), (2, .int mo)]) hx hb d_SF_write_70 rfl hl (by decide) rfl (fun ls hl => ?_)
          refine lv_aload_n hx hb d_SF_write_71 rfl (lv_at hl 1 rfl) ?_
          refine lv_iconst (v := 0) hx hb d_SF_write_72 (by decide) ?_
          refine lv_iload_n hx hb d_SF_write_73 rfl (lv_at hl 0 rfl) ?_
          refine sf_callVw (S := (Int32 × (Nat → Int32) × (Nat → Int32) × Int32 × Int32 × Int32 × Int32 × (Nat → Int32))) (rest := []) ⟨hx, hb, hml, hown, hts⟩ (c_SF_takePlaces_0 l D cI cZ cJ q fl sl tb np nt cp cc cb ch cm mp mc mb mh mm us ta tp tl cu bl pf sh (((tl + 25) - 1) / 25)) (sf_cwV lk_SF_97 hts (fun _ h => h) (by rw [hR]; exact ⟨Nat.le_of_ble_eq_true rfl, Nat.le_of_ble_eq_true rfl⟩)) hK hP hD hS hA (fun _ => by simp only [sf_w_fst]) (ci := 2) (q0 := 0) rfl rfl rfl rfl rfl hl.1 (Nat.le_of_ble_eq_true rfl) d_SF_write_74 ⟨Nat.zero_le _, Nat.zero_le _⟩ (fun u_7 H locs hu_7 hP hD hS => ?_)
          have hP : va_P D classes (sf_w q cI cZ fl sl tb np nt cp cc cb ch cm u_7.2.2.1 u_7.2.2.2.1 u_7.2.2.2.2.1 u_7.2.2.2.2.2.1 u_7.2.2.2.2.2.2.1 u_7.2.1 u_7.2.2.2.2.2.2.2 tp tl cu bl pf sh) H := hP
          have hD : va_D A (sf_w q cI cZ fl sl tb np nt cp cc cb ch cm u_7.2.2.1 u_7.2.2.2.1 u_7.2.2.2.2.1 u_7.2.2.2.2.2.1 u_7.2.2.2.2.2.2.1 u_7.2.1 u_7.2.2.2.2.2.2.2 tp tl cu bl pf sh) := hD
          refine lv_if_ne (tgt := 90) hx hb d_SF_write_77 (by decide) (fun c_8 => ?_) (fun c_8 => ?_)
          · refine lv_aload_n hx hb d_SF_write_90 rfl (lv_at hl 1 rfl) ?_
            refine lv_iload_n hx hb d_SF_write_91 rfl (lv_at hl 0 rfl) ?_
            refine sf_callVw (S := (Int32 × Int32 × Int32)) (rest := []) ⟨hx, hb, hml, hown, hts⟩ (c_SF_beginWriting l D cI cZ cJ q fl sl tb np nt cp cc cb ch cm u_7.2.2.1 u_7.2.2.2.1 u_7.2.2.2.2.1 u_7.2.2.2.2.2.1 u_7.2.2.2.2.2.2.1 u_7.2.1 u_7.2.2.2.2.2.2.2 tp tl cu bl pf sh (((tl + 25) - 1) / 25)) (sf_cwV lk_SF_103 hts (fun _ h => h) (by rw [hR]; exact ⟨Nat.le_of_ble_eq_true rfl, Nat.le_of_ble_eq_true rfl⟩)) hK hP hD hS hA (fun _ => by simp only [sf_w_fst]) (ci := 2) (q0 := 0) rfl rfl rfl rfl rfl hl.1 (Nat.le_of_ble_eq_true rfl) d_SF_write_92 ⟨Nat.zero_le _, Nat.zero_le _⟩ (fun u_9 H locs hu_9 hP hD hS => ?_)
            have hP : va_P D classes (sf_w q cI cZ fl sl tb np nt cp cc cb ch cm u_7.2.2.1 u_7.2.2.2.1 u_7.2.2.2.2.1 u_7.2.2.2.2.2.1 u_7.2.2.2.2.2.2.1 u_7.2.1 u_7.2.2.2.2.2.2.2 tp tl u_9.1 u_9.2.1 u_9.2.2 sh) H := hP
            have hD : va_D A (sf_w q cI cZ fl sl tb np nt cp cc cb ch cm u_7.2.2.1 u_7.2.2.2.1 u_7.2.2.2.2.1 u_7.2.2.2.2.2.1 u_7.2.2.2.2.2.2.1 u_7.2.1 u_7.2.2.2.2.2.2.2 tp tl u_9.1 u_9.2.1 u_9.2.2 sh) := hD
            refine lv_iconst (v := 0) hx hb d_SF_write_95 (by decide) ?_
            refine lv_istore (lv' := [(4, .int 0), (3, .int (((tl + 25) - 1) / 25)), (0, .ref (q 0)), (1, .int ro), (2, .int mo)]) hx hb d_SF_write_96 hl (by decide) rfl (fun ls hl => ?_)
            have loop98 : ∀ (fu k : Nat) (vn : (Nat → Int32)) (vf : (Nat → Int32)) (vb : Int32), k ≤ (((tl + 25) - 1) / 25).toNatClampNeg → k + fu = (((tl + 25) - 1) / 25).toNatClampNeg + 1 → f_SF_write_l98 fl tb nt mp mc mb mh mm us ta tp tl cu sh ro mo fu k vn vf vb = f_SF_write fl tb np nt mp mc mb mh mm us ta tp tl cu bl pf sh ro mo → ∀ (H : Heap) (locs : List Loc), va_P D classes (sf_w q cI cZ vf sl tb vn nt cp cc cb ch cm u_7.2.2.1 u_7.2.2.2.1 u_7.2.2.2.2.1 u_7.2.2.2.2.2.1 u_7.2.2.2.2.2.2.1 u_7.2.1 u_7.2.2.2.2.2.2.2 tp tl u_9.1 vb u_9.2.2 sh) H → va_D A (sf_w q cI cZ vf sl tb vn nt cp cc cb ch cm u_7.2.2.1 u_7.2.2.2.1 u_7.2.2.2.2.1 u_7.2.2.2.2.2.1 u_7.2.2.2.2.2.2.1 u_7.2.1 u_7.2.2.2.2.2.2.2 tp tl u_9.1 vb u_9.2.2 sh) → va_S A s.heap H locs → ∀ (ls : Array Slot), lv_has ls 5 [(0, .ref (q 0)), (1, .int ro), (2, .int mo), (3, .int (((tl + 25) - 1) / 25)), (4, .int (nI k))] → W p l e R s m args below meth c H locs 0 0 Q (F0 m 98 ls []) := by
              intro fu
              induction fu with
              | zero =>
                intro k vn vf vb h1 h2
                exact absurd h2 (by omega)
              | succ fu ih98 =>
                intro k vn vf vb hk98 hkn98 heq98 H locs hP hD hS ls hl
                have hcl := sf_clt (((tl + 25) - 1) / 25)
                refine lv_iload hx hb d_SF_write_98 (lv_at hl 4 rfl) ?_
                refine lv_iload_n hx hb d_SF_write_100 rfl (lv_at hl 3 rfl) ?_
                refine lv_icmp_ge (tgt := 132) hx hb d_SF_write_101 (by decide) (fun c_10 => ?_) (fun c_10 => ?_)
                · refine lv_aload_n hx hb d_SF_write_132 rfl (lv_at hl 0 rfl) ?_
                  refine lv_iconst (v := 0) hx hb d_SF_write_133 (by decide) ?_
                  refine va_put (D := D) (ci := 2) (v := .int 0) (ty := .int) (C := R_SF) (T := F_SF) (N := 15) hx hb hts i_SF t_SF t_SF_ok n_SF hown hK hP hD hS 0 rfl rfl 10 (by decide) (hts _ wd_120) (fun _ h9 => h9) rfl (by decide +kernel) rfl rfl (Nat.le_of_ble_eq_true rfl) d_SF_write_134 (fun H locs hP hD hS => ?_)
                  have hP : va_P D classes (sf_w q cI cZ vf sl tb vn nt cp cc cb ch cm u_7.2.2.1 u_7.2.2.2.1 u_7.2.2.2.2.1 u_7.2.2.2.2.2.1 u_7.2.2.2.2.2.2.1 u_7.2.1 u_7.2.2.2.2.2.2.2 tp 0 u_9.1 vb u_9.2.2 sh) H := hP
                  have hD : va_D A (sf_w q cI cZ vf sl tb vn nt cp cc cb ch cm u_7.2.2.1 u_7.2.2.2.1 u_7.2.2.2.2.1 u_7.2.2.2.2.2.1 u_7.2.2.2.2.2.2.1 u_7.2.1 u_7.2.2.2.2.2.2.2 tp 0 u_9.1 vb u_9.2.2 sh) := hD
                  refine lv_aload_n hx hb d_SF_write_137 rfl (lv_at hl 0 rfl) ?_
                  refine lv_iload_n hx hb d_SF_write_138 rfl (lv_at hl 1 rfl) ?_
                  refine lv_aload_n hx hb d_SF_write_139 rfl (lv_at hl 0 rfl) ?_
                  refine lv_iconst (v := 0) hx hb d_SF_write_140 (by decide) ?_
                  refine sf_callVw (S := Int32) (rest := [.int ro, .ref (q 0)]) ⟨hx, hb, hml, hown, hts⟩ (c_SF_takenAt l D cI cZ cJ q vf sl tb vn nt cp cc cb ch cm u_7.2.2.1 u_7.2.2.2.1 u_7.2.2.2.2.1 u_7.2.2.2.2.2.1 u_7.2.2.2.2.2.2.1 u_7.2.1 u_7.2.2.2.2.2.2.2 tp 0 u_9.1 vb u_9.2.2 sh 0) (sf_cwV lk_SF_110 hts (fun _ h => h) (by rw [hR]; exact ⟨Nat.le_of_ble_eq_true rfl, Nat.le_of_ble_eq_true rfl⟩)) hK hP hD hS hA (fun _ => by simp only [sf_w_fst]) (ci := 2) (q0 := 0) rfl rfl rfl rfl rfl hl.1 (Nat.le_of_ble_eq_true rfl) d_SF_write_141 ⟨Nat.zero_le _, Nat.zero_le _⟩ (fun u_11 H locs hu_11 hP hD hS => ?_)
                  have hP : va_P D classes (sf_w q cI cZ vf sl tb vn nt cp cc cb ch cm u_7.2.2.1 u_7.2.2.2.1 u_7.2.2.2.2.1 u_7.2.2.2.2.2.1 u_7.2.2.2.2.2.2.1 u_7.2.1 u_7.2.2.2.2.2.2.2 tp 0 u_9.1 vb u_9.2.2 sh) H := hP
                  have hD : va_D A (sf_w q cI cZ vf sl tb vn nt cp cc cb ch cm u_7.2.2.1 u_7.2.2.2.1 u_7.2.2.2.2.1 u_7.2.2.2.2.2.1 u_7.2.2.2.2.2.2.1 u_7.2.1 u_7.2.2.2.2.2.2.2 tp 0 u_9.1 vb u_9.2.2 sh) := hD
                  refine lv_iconst (v := 1) hx hb d_SF_write_144 (by decide) ?_
                  refine lv_iadd hx hb d_SF_write_145 ?_
                  refine lv_iconst (v := 0) hx hb d_SF_write_146 (by decide) ?_
                  refine sf_callVw (S := ((Nat → Int32) × (Nat → Int32) × Int32)) (rest := []) ⟨hx, hb, hml, hown, hts⟩ (c_SF_putTable l D cI cZ cJ q vf sl tb vn nt cp cc cb ch cm u_7.2.2.1 u_7.2.2.2.1 u_7.2.2.2.2.1 u_7.2.2.2.2.2.1 u_7.2.2.2.2.2.2.1 u_7.2.1 u_7.2.2.2.2.2.2.2 tp 0 u_9.1 vb u_9.2.2 sh ro (u_11 + 1) 0) (sf_cwV lk_SF_118 hts (fun _ h => h) (by rw [hR]; exact ⟨Nat.le_of_ble_eq_true rfl, Nat.le_of_ble_eq_true rfl⟩)) hK hP hD hS hA (fun _ => by simp only [sf_w_fst]) (ci := 2) (q0 := 0) rfl rfl rfl rfl rfl hl.1 (Nat.le_of_ble_eq_true rfl) d_SF_write_147 ⟨Nat.zero_le _, Nat.zero_le _⟩ (fun u_12 H locs hu_12 hP hD hS => ?_)
                  have hP : va_P D classes (sf_w q cI cZ vf sl u_12.2.1 vn u_12.1 cp cc cb ch cm u_7.2.2.1 u_7.2.2.2.1 u_7.2.2.2.2.1 u_7.2.2.2.2.2.1 u_7.2.2.2.2.2.2.1 u_7.2.1 u_7.2.2.2.2.2.2.2 tp 0 u_9.1 u_12.2.2 u_9.2.2 sh) H := hP
                  have hD : va_D A (sf_w q cI cZ vf sl u_12.2.1 vn u_12.1 cp cc cb ch cm u_7.2.2.1 u_7.2.2.2.1 u_7.2.2.2.2.1 u_7.2.2.2.2.2.1 u_7.2.2.2.2.2.2.1 u_7.2.1 u_7.2.2.2.2.2.2.2 tp 0 u_9.1 u_12.2.2 u_9.2.2 sh) := hD
                  refine lv_aload_n hx hb d_SF_write_150 rfl (lv_at hl 0 rfl) ?_
                  refine sf_callVw (S := (Int32 × Int32)) (rest := []) ⟨hx, hb, hml, hown, hts⟩ (c_SF_endWriting l D cI cZ cJ q vf sl u_12.2.1 vn u_12.1 cp cc cb ch cm u_7.2.2.1 u_7.2.2.2.1 u_7.2.2.2.2.1 u_7.2.2.2.2.2.1 u_7.2.2.2.2.2.2.1 u_7.2.1 u_7.2.2.2.2.2.2.2 tp 0 u_9.1 u_12.2.2 u_9.2.2 sh) (sf_cwV lk_SF_121 hts (fun _ h => h) (by rw [hR]; exact ⟨Nat.le_of_ble_eq_true rfl, Nat.le_of_ble_eq_true rfl⟩)) hK hP hD hS hA (fun _ => by simp only [sf_w_fst]) (ci := 2) (q0 := 0) rfl rfl rfl rfl rfl hl.1 (Nat.le_of_ble_eq_true rfl) d_SF_write_151 ⟨Nat.zero_le _, Nat.zero_le _⟩ (fun u_13 H locs hu_13 hP hD hS => ?_)
                  have hP : va_P D classes (sf_w q cI cZ vf sl u_12.2.1 vn u_12.1 cp cc cb ch cm u_7.2.2.1 u_7.2.2.2.1 u_7.2.2.2.2.1 u_7.2.2.2.2.2.1 u_7.2.2.2.2.2.2.1 u_7.2.1 u_7.2.2.2.2.2.2.2 tp 0 u_9.1 u_12.2.2 u_9.2.2 u_13.2) H := hP
                  have hD : va_D A (sf_w q cI cZ vf sl u_12.2.1 vn u_12.1 cp cc cb ch cm u_7.2.2.1 u_7.2.2.2.1 u_7.2.2.2.2.1 u_7.2.2.2.2.2.1 u_7.2.2.2.2.2.2.1 u_7.2.1 u_7.2.2.2.2.2.2.2 tp 0 u_9.1 u_12.2.2 u_9.2.2 u_13.2) := hD
                  refine lv_if_eq (tgt := 161) hx hb d_SF_write_154 (by decide) (fun c_14 => ?_) (fun c_14 => ?_)
                  · refine lv_iconst (v := (-1)) hx hb d_SF_write_161 (by decide) ?_
                    rw [hQ]
                    exact sf_xiret (0, (-1), vf, u_12.2.1, vn, u_12.1, u_7.2.1, u_7.2.2.1, u_7.2.2.2.1, u_7.2.2.2.2.1, u_7.2.2.2.2.2.1, u_7.2.2.2.2.2.2.1, u_7.2.2.2.2.2.2.2, 0, u_9.1, u_12.2.2, u_9.2.2, u_13.2) hx hb hr hlk hS rfl rfl rfl (by rw [← heq98]; simp only [f_SF_write_l98, ← hu_1, ← hu_5, ← hu_7, ← hu_9, ← hu_11, ← hu_12, ← hu_13, eq_true c_10, eq_true c_14, ↓reduceIte]) hP d_SF_write_162
                  · refine lv_iload_n hx hb d_SF_write_157 rfl (lv_at hl 3 rfl) ?_
                    refine lv_goto (tgt := 162) hx hb d_SF_write_158 (by decide) ?_
                    rw [hQ]
                    exact sf_xiret (0, (((tl + 25) - 1) / 25), vf, u_12.2.1, vn, u_12.1, u_7.2.1, u_7.2.2.1, u_7.2.2.2.1, u_7.2.2.2.2.1, u_7.2.2.2.2.2.1, u_7.2.2.2.2.2.2.1, u_7.2.2.2.2.2.2.2, 0, u_9.1, u_12.2.2, u_9.2.2, u_13.2) hx hb hr hlk hS rfl rfl rfl (by rw [← heq98]; simp only [f_SF_write_l98, ← hu_1, ← hu_5, ← hu_7, ← hu_9, ← hu_11, ← hu_12, ← hu_13, eq_true c_10, eq_false c_14, ↓reduceIte]) hP d_SF_write_162
                · have hlt : k < (((tl + 25) - 1) / 25).toNatClampNeg := sf_ltc (by omega) c_10
                  refine lv_aload_n hx hb d_SF_write_104 rfl (lv_at hl 0 rfl) ?_
                  refine lv_iload hx hb d_SF_write_105 (lv_at hl 4 rfl) ?_
                  refine lv_iload_n hx hb d_SF_write_107 rfl (lv_at hl 3 rfl) ?_
                  refine lv_iload_n hx hb d_SF_write_108 rfl (lv_at hl 2 rfl) ?_
                  refine sf_callVw (S := (Nat → Int32)) (rest := []) ⟨hx, hb, hml, hown, hts⟩ (c_SF_preparePlaceFromTape l D cI cZ cJ q vf sl tb vn nt cp cc cb ch cm u_7.2.2.1 u_7.2.2.2.1 u_7.2.2.2.2.1 u_7.2.2.2.2.2.1 u_7.2.2.2.2.2.2.1 u_7.2.1 u_7.2.2.2.2.2.2.2 tp tl u_9.1 vb u_9.2.2 sh (nI k) (((tl + 25) - 1) / 25) mo) (sf_cwV lk_SF_106 hts (fun _ h => h) (by rw [hR]; exact ⟨Nat.le_of_ble_eq_true rfl, Nat.le_of_ble_eq_true rfl⟩)) hK hP hD hS hA (fun _ => by simp only [sf_w_fst]) (ci := 2) (q0 := 0) rfl rfl rfl rfl rfl hl.1 (Nat.le_of_ble_eq_true rfl) d_SF_write_109 ⟨Nat.zero_le _, Nat.zero_le _⟩ (fun u_15 H locs hu_15 hP hD hS => ?_)
                  have hP : va_P D classes (sf_w q cI cZ vf sl tb u_15 nt cp cc cb ch cm u_7.2.2.1 u_7.2.2.2.1 u_7.2.2.2.2.1 u_7.2.2.2.2.2.1 u_7.2.2.2.2.2.2.1 u_7.2.1 u_7.2.2.2.2.2.2.2 tp tl u_9.1 vb u_9.2.2 sh) H := hP
                  have hD : va_D A (sf_w q cI cZ vf sl tb u_15 nt cp cc cb ch cm u_7.2.2.1 u_7.2.2.2.1 u_7.2.2.2.2.1 u_7.2.2.2.2.2.1 u_7.2.2.2.2.2.2.1 u_7.2.1 u_7.2.2.2.2.2.2.2 tp tl u_9.1 vb u_9.2.2 sh) := hD
                  refine lv_aload_n hx hb d_SF_write_112 rfl (lv_at hl 0 rfl) ?_
                  refine lv_aload_n hx hb d_SF_write_113 rfl (lv_at hl 0 rfl) ?_
                  refine va_get (D := D) (ci := 2) (v := .ref (q 1)) (C := R_SF) (T := F_SF) (N := 15) hx hb hts i_SF hown hK hP 0 rfl rfl 0 (by decide) (hts _ wd_110) (fun _ h9 => h9) rfl d_SF_write_114 ?_
                  refine lv_aload_n hx hb d_SF_write_117 rfl (lv_at hl 0 rfl) ?_
                  refine lv_iload hx hb d_SF_write_118 (lv_at hl 4 rfl) ?_
                  refine sf_callVw (S := Int32) (rest := [.ref (q 1), .ref (q 0)]) ⟨hx, hb, hml, hown, hts⟩ (c_SF_takenAt l D cI cZ cJ q vf sl tb u_15 nt cp cc cb ch cm u_7.2.2.1 u_7.2.2.2.1 u_7.2.2.2.2.1 u_7.2.2.2.2.2.1 u_7.2.2.2.2.2.2.1 u_7.2.1 u_7.2.2.2.2.2.2.2 tp tl u_9.1 vb u_9.2.2 sh (nI k)) (sf_cwV lk_SF_110 hts (fun _ h => h) (by rw [hR]; exact ⟨Nat.le_of_ble_eq_true rfl, Nat.le_of_ble_eq_true rfl⟩)) hK hP hD hS hA (fun _ => by simp only [sf_w_fst]) (ci := 2) (q0 := 0) rfl rfl rfl rfl rfl hl.1 (Nat.le_of_ble_eq_true rfl) d_SF_write_120 ⟨Nat.zero_le _, Nat.zero_le _⟩ (fun u_16 H locs hu_16 hP hD hS => ?_)
                  have hP : va_P D classes (sf_w q cI cZ vf sl tb u_15 nt cp cc cb ch cm u_7.2.2.1 u_7.2.2.2.1 u_7.2.2.2.2.1 u_7.2.2.2.2.2.1 u_7.2.2.2.2.2.2.1 u_7.2.1 u_7.2.2.2.2.2.2.2 tp tl u_9.1 vb u_9.2.2 sh) H := hP
                  have hD : va_D A (sf_w q cI cZ vf sl tb u_15 nt cp cc cb ch cm u_7.2.2.1 u_7.2.2.2.1 u_7.2.2.2.2.1 u_7.2.2.2.2.2.1 u_7.2.2.2.2.2.2.1 u_7.2.1 u_7.2.2.2.2.2.2.2 tp tl u_9.1 vb u_9.2.2 sh) := hD
                  refine sf_callVw (S := ((Nat → Int32) × (Nat → Int32) × Int32)) (rest := []) ⟨hx, hb, hml, hown, hts⟩ (c_SF_putPlace_f l D cI cZ cJ q vf sl tb u_15 nt cp cc cb ch cm u_7.2.2.1 u_7.2.2.2.1 u_7.2.2.2.2.1 u_7.2.2.2.2.2.1 u_7.2.2.2.2.2.2.1 u_7.2.1 u_7.2.2.2.2.2.2.2 tp tl u_9.1 vb u_9.2.2 sh u_16) (sf_cwV lk_SF_114 hts (fun _ h => h) (by rw [hR]; exact ⟨Nat.le_of_ble_eq_true rfl, Nat.le_of_ble_eq_true rfl⟩)) hK hP hD hS hA (fun _ => by simp only [sf_w_fst]) (ci := 2) (q0 := 0) rfl rfl rfl rfl rfl hl.1 (Nat.le_of_ble_eq_true rfl) d_SF_write_123 ⟨Nat.zero_le _, Nat.zero_le _⟩ (fun u_17 H locs hu_17 hP hD hS => ?_)
                  have hP : va_P D classes (sf_w q cI cZ u_17.2.1 sl tb u_17.1 nt cp cc cb ch cm u_7.2.2.1 u_7.2.2.2.1 u_7.2.2.2.2.1 u_7.2.2.2.2.2.1 u_7.2.2.2.2.2.2.1 u_7.2.1 u_7.2.2.2.2.2.2.2 tp tl u_9.1 u_17.2.2 u_9.2.2 sh) H := hP
                  have hD : va_D A (sf_w q cI cZ u_17.2.1 sl tb u_17.1 nt cp cc cb ch cm u_7.2.2.1 u_7.2.2.2.1 u_7.2.2.2.2.1 u_7.2.2.2.2.2.1 u_7.2.2.2.2.2.2.1 u_7.2.1 u_7.2.2.2.2.2.2.2 tp tl u_9.1 u_17.2.2 u_9.2.2 sh) := hD
                  refine lv_iinc (v := (nI (k + 1))) (lv' := [(4, .int (nI (k + 1))), (0, .ref (q 0)), (1, .int ro), (2, .int mo), (3, .int (((tl + 25) - 1) / 25))]) hx hb d_SF_write_126 hl (k := 4) rfl (nI_1 k) (by decide) rfl (fun ls hl => ?_)
                  refine lv_goto (tgt := 98) hx hb d_SF_write_129 (by decide) ?_
                  exact ih98 (k + 1) u_17.1 u_17.2.1 u_17.2.2 (by omega) (by omega) (by rw [← heq98]; simp only [f_SF_write_l98, ← hu_1, ← hu_5, ← hu_7, ← hu_9, ← hu_15, ← hu_16, ← hu_17, eq_false c_10, ↓reduceIte]) _ _ hP hD hS ls (lv_sub hl [1, 2, 3, 4, 0] rfl)
            exact loop98 ((((tl + 25) - 1) / 25).toNatClampNeg + 1) 0 np fl u_9.2.1 (by omega) (by omega) (by simp only [f_SF_write, ← hu_1, ← hu_5, ← hu_7, ← hu_9, eq_false c_2, eq_true c_3, eq_false c_4, eq_false c_6, eq_false c_8, ↓reduceIte]) _ _ hP hD hS ls (lv_sub hl [2, 3, 4, 1, 0] rfl)
          · rw [hQ]
            exact sf_xthrow (text := "not so many free places") (u := (4, 0, fl, tb, np, nt, u_7.2.1, u_7.2.2.1, u_7.2.2.2.1, u_7.2.2.2.2.1, u_7.2.2.2.2.2.1, u_7.2.2.2.2.2.2.1, u_7.2.2.2.2.2.2.2, tl, cu, bl, pf, sh)) hx hb hst hml hown hts hE hex xk_65_69 xs_101 hlk hS (show ¬ (4 : Int32) = 0 by decide) (show _ = sf_en 4 by decide) (by simp only [f_SF_write, ← hu_1, ← hu_5, ← hu_7, eq_false c_2, eq_true c_3, eq_false c_4, eq_false c_6, eq_true c_8, ↓reduceIte]) hP hl.1 (by rw [hR]; exact ⟨Nat.le_of_ble_eq_true rfl, Nat.le_of_ble_eq_true rfl, Nat.le_refl _, Nat.le_refl _⟩) d_SF_write_80 d_SF_write_83 d_SF_write_84 d_SF_write_86 d_SF_write_89
        · rw [hQ]
          exact sf_xthrow (text := "no such month") (u := (3, 0, fl, tb, np, nt, us, mp, mc, mb, mh, mm, ta, tl, cu, bl, pf, sh)) hx hb hst hml hown hts hE hex xk_55_59 xs_95 hlk hS (show ¬ (3 : Int32) = 0 by decide) (show _ = sf_en 3 by decide) (by simp only [f_SF_write, ← hu_1, ← hu_5, eq_false c_2, eq_true c_3, eq_false c_4, eq_true c_6, ↓reduceIte]) hP hl.1 (by rw [hR]; exact ⟨Nat.le_of_ble_eq_true rfl, Nat.le_of_ble_eq_true rfl, Nat.le_refl _, Nat.le_refl _⟩) d_SF_write_48 d_SF_write_51 d_SF_write_52 d_SF_write_54 d_SF_write_57
      · rw [hQ]
        exact sf_xthrow (text := "the file is shut or the tape is empty") (u := (2, 0, fl, tb, np, nt, us, mp, mc, mb, mh, mm, ta, tl, cu, bl, pf, sh)) hx hb hst hml hown hts hE hex xk_87_91 xs_89 hlk hS (show ¬ (2 : Int32) = 0 by decide) (show _ = sf_en 2 by decide) (by simp only [f_SF_write, ← hu_1, eq_false c_2, eq_true c_3, eq_true c_4, ↓reduceIte]) hP hl.1 (by rw [hR]; exact ⟨Nat.le_of_ble_eq_true rfl, Nat.le_of_ble_eq_true rfl, Nat.le_refl _, Nat.le_refl _⟩) d_SF_write_31 d_SF_write_34 d_SF_write_35 d_SF_write_37 d_SF_write_40
  · rw [hQ]
    exact sf_xthrow (text := "no such row") (u := (1, 0, fl, tb, np, nt, us, mp, mc, mb, mh, mm, ta, tl, cu, bl, pf, sh)) hx hb hst hml hown hts hE hex xk_78_82 xs_80 hlk hS (show ¬ (1 : Int32) = 0 by decide) (show _ = sf_en 1 by decide) (by simp only [f_SF_write, ← hu_1, eq_true c_2, ↓reduceIte]) hP hl.1 (by rw [hR]; exact ⟨Nat.le_of_ble_eq_true rfl, Nat.le_of_ble_eq_true rfl, Nat.le_refl _, Nat.le_refl _⟩) d_SF_write_7 d_SF_write_10 d_SF_write_11 d_SF_write_13 d_SF_write_16
def f_SF_row (fl : Nat → Int32) (sl : Nat → Int32) (tb : Nat → Int32) (cp : Nat → Int32) (cc : Int32) (cb : Int32) (ch : Int32) (cm : Int32) (sh : Int32) (ro : Int32) (i : Int32) : (Int32 × Int32 × (Nat → Int32) × Int32 × Int32 × Int32 × Int32) :=
  if (f_SF_isRow ro) = 0 then
    (1, 0, cp, cc, cb, ch, cm)
  else
    if (-1) ≤ i then
      if sh = 0 then
        if (f_SF_isThere tb ro) = 0 then
          (2, 0, cp, cc, cb, ch, cm)
        else
          if i = (-1) then
            (0, (f_Ch_bytes (f_SF_followRow fl sl tb cp ro).2.2.1 (f_SF_followRow fl sl tb cp ro).2.2.2.1), (f_SF_followRow fl sl tb cp ro).1, (f_SF_followRow fl sl tb cp ro).2.1, (f_SF_followRow fl sl tb cp ro).2.2.1, (f_SF_followRow fl sl tb cp ro).2.2.2.1, (f_SF_followRow fl sl tb cp ro).2.2.2.2)
          else
            if i < (f_Ch_bytes (f_SF_followRow fl sl tb cp ro).2.2.1 (f_SF_followRow fl sl tb cp ro).2.2.2.1) then
              if (f_SF_isSlow tb ro) = 0 then
                (0, (f_Ch_dataAt (f_SF_followRow fl sl tb cp ro).1 (f_SF_followRow fl sl tb cp ro).2.1 768 fl 28 i), (f_SF_followRow fl sl tb cp ro).1, (f_SF_followRow fl sl tb cp ro).2.1, (f_SF_followRow fl sl tb cp ro).2.2.1, (f_SF_followRow fl sl tb cp ro).2.2.2.1, (f_SF_followRow fl sl tb cp ro).2.2.2.2)
              else
                (0, (f_Ch_dataAt (f_SF_followRow fl sl tb cp ro).1 (f_SF_followRow fl sl tb cp ro).2.1 512 sl 28 i), (f_SF_followRow fl sl tb cp ro).1, (f_SF_followRow fl sl tb cp ro).2.1, (f_SF_followRow fl sl tb cp ro).2.2.1, (f_SF_followRow fl sl tb cp ro).2.2.2.1, (f_SF_followRow fl sl tb cp ro).2.2.2.2)
            else
              (1, 0, (f_SF_followRow fl sl tb cp ro).1, (f_SF_followRow fl sl tb cp ro).2.1, (f_SF_followRow fl sl tb cp ro).2.2.1, (f_SF_followRow fl sl tb cp ro).2.2.2.1, (f_SF_followRow fl sl tb cp ro).2.2.2.2)
      else
        (2, 0, cp, cc, cb, ch, cm)
    else
      (1, 0, cp, cc, cb, ch, cm)
set_option maxHeartbeats 1000000 in
set_option maxRecDepth 100000 in
/-- row -/
theorem c_SF_row (l : Launch) (D : va_G) (cI cZ cJ : ClassId) (hst : l.stackTraces = false) (q : Nat → Nat) (fl : Nat → Int32) (sl : Nat → Int32) (tb : Nat → Int32) (np : Nat → Int32) (nt : Nat → Int32) (cp : Nat → Int32) (cc : Int32) (cb : Int32) (ch : Int32) (cm : Int32) (mp : Nat → Int32) (mc : Int32) (mb : Int32) (mh : Int32) (mm : Int32) (us : Nat → Int32) (ta : Nat → Int32) (tp : Nat → Int32) (tl : Int32) (cu : Int32) (bl : Int32) (pf : Int32) (sh : Int32) (ro : Int32) (i : Int32) : sf_XM (S := (Int32 × Int32 × (Nat → Int32) × Int32 × Int32 × Int32 × Int32)) l D classes (sf_tys cI cZ cJ) y_SF_row (sf_ws y_SF_row b_SF_row 3 (some .int)) 6 120 [.ref (q 0), .int ro, .int i] (sf_w q cI cZ fl sl tb np nt cp cc cb ch cm mp mc mb mh mm us ta tp tl cu bl pf sh) (fun r => r.1) (fun r => some (.int r.2.1)) (fun r => r = f_SF_row fl sl tb cp cc cb ch cm sh ro i) (fun r => (sf_w q cI cZ fl sl tb np nt r.2.2.1 r.2.2.2.1 r.2.2.2.2.1 r.2.2.2.2.2.1 r.2.2.2.2.2.2 mp mc mb mh mm us ta tp tl cu bl pf sh)) := by
  refine sf_xofW (S := (Int32 × Int32 × (Nat → Int32) × Int32 × Int32 × Int32 × Int32)) (by decide) (Nat.le_of_ble_eq_true rfl) ?_
  intro p e s m below meth c A ls R args Q hR hArgs hQ hC0 hr hex hE hK hP hD hl
  obtain ⟨hx, hb, hml, hown, hts, hA, hlk⟩ := hC0
  have hS : va_S A s.heap s.heap [] := va_S.rf
  have hl : lv_has ls 3 [(0, .ref (q 0)), (1, .int ro), (2, .int i)] := hl
  refine lv_iload_n hx hb d_SF_row_0 rfl (lv_at hl 1 rfl) ?_
  refine sf_callSr (S := Int32) (rest := []) ⟨hx, hb, hml, hown, hts⟩ (c_SF_isRow l D cI cZ cJ ro) (sf_cwS lk_SF_74 hts (fun _ h => h) (by rw [hR]; exact ⟨Nat.le_of_ble_eq_true rfl, Nat.le_of_ble_eq_true rfl⟩)) hK hP hD hS hA [] rfl rfl (fun _ => rfl) rfl rfl hl.1 (Nat.le_of_ble_eq_true rfl) d_SF_row_1 ⟨Nat.zero_le _, Nat.zero_le _⟩ (fun u_1 H locs hu_1 hP hS => ?_)
  refine lv_if_eq (tgt := 12) hx hb d_SF_row_4 (by decide) (fun c_2 => ?_) (fun c_2 => ?_)
  · rw [hQ]
    exact sf_xthrow (text := "no such row or byte") (u := (1, 0, cp, cc, cb, ch, cm)) hx hb hst hml hown hts hE hex xk_78_82 xs_146 hlk hS (show ¬ (1 : Int32) = 0 by decide) (show _ = sf_en 1 by decide) (by simp only [f_SF_row, ← hu_1, eq_true c_2, ↓reduceIte]) hP hl.1 (by rw [hR]; exact ⟨Nat.le_of_ble_eq_true rfl, Nat.le_of_ble_eq_true rfl, Nat.le_refl _, Nat.le_refl _⟩) d_SF_row_12 d_SF_row_15 d_SF_row_16 d_SF_row_18 d_SF_row_21
  · refine lv_iload_n hx hb d_SF_row_7 rfl (lv_at hl 2 rfl) ?_
    refine lv_iconst (v := (-1)) hx hb d_SF_row_8 (by decide) ?_
    refine lv_icmp_ge (tgt := 22) hx hb d_SF_row_9 (by decide) (fun c_3 => ?_) (fun c_3 => ?_)
    · refine lv_aload_n hx hb d_SF_row_22 rfl (lv_at hl 0 rfl) ?_
      refine va_get (D := D) (ci := 2) (v := .int sh) (C := R_SF) (T := F_SF) (N := 15) hx hb hts i_SF hown hK hP 0 rfl rfl 14 (by decide) (hts _ wd_124) (fun _ h9 => h9) rfl d_SF_row_23 ?_
      refine lv_if_ne (tgt := 37) hx hb d_SF_row_26 (by decide) (fun c_4 => ?_) (fun c_4 => ?_)
      · rw [hQ]
        exact sf_xthrow (text := "the file is shut or the row is not there") (u := (2, 0, cp, cc, cb, ch, cm)) hx hb hst hml hown hts hE hex xk_87_91 xs_128 hlk hS (show ¬ (2 : Int32) = 0 by decide) (show _ = sf_en 2 by decide) (by simp only [f_SF_row, ← hu_1, eq_false c_2, eq_true c_3, eq_false c_4, ↓reduceIte]) hP hl.1 (by rw [hR]; exact ⟨Nat.le_of_ble_eq_true rfl, Nat.le_of_ble_eq_true rfl, Nat.le_refl _, Nat.le_refl _⟩) d_SF_row_37 d_SF_row_40 d_SF_row_41 d_SF_row_43 d_SF_row_46
      · refine lv_aload_n hx hb d_SF_row_29 rfl (lv_at hl 0 rfl) ?_
        refine lv_iload_n hx hb d_SF_row_30 rfl (lv_at hl 1 rfl) ?_
        refine sf_callVw (S := Int32) (rest := []) ⟨hx, hb, hml, hown, hts⟩ (c_SF_isThere l D cI cZ cJ q fl sl tb np nt cp cc cb ch cm mp mc mb mh mm us ta tp tl cu bl pf sh ro) (sf_cwV lk_SF_125 hts (fun _ h => h) (by rw [hR]; exact ⟨Nat.le_of_ble_eq_true rfl, Nat.le_of_ble_eq_true rfl⟩)) hK hP hD hS hA (fun _ => by simp only [sf_w_fst]) (ci := 2) (q0 := 0) rfl rfl rfl rfl rfl hl.1 (Nat.le_of_ble_eq_true rfl) d_SF_row_31 ⟨Nat.zero_le _, Nat.zero_le _⟩ (fun u_5 H locs hu_5 hP hD hS => ?_)
        have hP : va_P D classes (sf_w q cI cZ fl sl tb np nt cp cc cb ch cm mp mc mb mh mm us ta tp tl cu bl pf sh) H := hP
        have hD : va_D A (sf_w q cI cZ fl sl tb np nt cp cc cb ch cm mp mc mb mh mm us ta tp tl cu bl pf sh) := hD
        refine lv_if_ne (tgt := 47) hx hb d_SF_row_34 (by decide) (fun c_6 => ?_) (fun c_6 => ?_)
        · refine lv_aload_n hx hb d_SF_row_47 rfl (lv_at hl 0 rfl) ?_
          refine lv_iload_n hx hb d_SF_row_48 rfl (lv_at hl 1 rfl) ?_
          refine sf_callVw (S := ((Nat → Int32) × Int32 × Int32 × Int32 × Int32)) (rest := []) ⟨hx, hb, hml, hown, hts⟩ (c_SF_followRow l D cI cZ cJ q fl sl tb np nt cp cc cb ch cm mp mc mb mh mm us ta tp tl cu bl pf sh ro) (sf_cwV lk_SF_148 hts (fun _ h => h) (by rw [hR]; exact ⟨Nat.le_of_ble_eq_true rfl, Nat.le_of_ble_eq_true rfl⟩)) hK hP hD hS hA (fun _ => by simp only [sf_w_fst]) (ci := 2) (q0 := 0) rfl rfl rfl rfl rfl hl.1 (Nat.le_of_ble_eq_true rfl) d_SF_row_49 ⟨Nat.zero_le _, Nat.zero_le _⟩ (fun u_7 H locs hu_7 hP hD hS => ?_)
          have hP : va_P D classes (sf_w q cI cZ fl sl tb np nt u_7.1 u_7.2.1 u_7.2.2.1 u_7.2.2.2.1 u_7.2.2.2.2 mp mc mb mh mm us ta tp tl cu bl pf sh) H := hP
          have hD : va_D A (sf_w q cI cZ fl sl tb np nt u_7.1 u_7.2.1 u_7.2.2.1 u_7.2.2.2.1 u_7.2.2.2.2 mp mc mb mh mm us ta tp tl cu bl pf sh) := hD
          refine lv_iload_n hx hb d_SF_row_52 rfl (lv_at hl 2 rfl) ?_
          refine lv_iconst (v := (-1)) hx hb d_SF_row_53 (by decide) ?_
          refine lv_icmp_ne (tgt := 65) hx hb d_SF_row_54 (by decide) (fun c_8 => ?_) (fun c_8 => ?_)
          · refine lv_iload_n hx hb d_SF_row_65 rfl (lv_at hl 2 rfl) ?_
            refine lv_aload_n hx hb d_SF_row_66 rfl (lv_at hl 0 rfl) ?_
            refine va_get (D := D) (ci := 2) (v := .ref (q 11)) (C := R_SF) (T := F_SF) (N := 15) hx hb hts i_SF hown hK hP 0 rfl rfl 5 (by decide) (hts _ wd_115) (fun _ h9 => h9) rfl d_SF_row_67 ?_
            refine sf_callVr (S := Int32) (rest := [.int i]) ⟨hx, hb, hml, hown, hts⟩ (c_Ch_bytes l D cI cZ cJ (q 11) (q 12) u_7.1 u_7.2.1 u_7.2.2.1 u_7.2.2.2.1 u_7.2.2.2.2) (sf_cwV lk_SF_151 hts (fun _ h => h) (by rw [hR]; exact ⟨Nat.le_of_ble_eq_true rfl, Nat.le_of_ble_eq_true rfl⟩)) hK hP hD hS hA [11, 12] rfl rfl (fun _ => rfl) (ci := 1) (q0 := 0) rfl rfl rfl rfl rfl hl.1 (Nat.le_of_ble_eq_true rfl) d_SF_row_70 ⟨Nat.zero_le _, Nat.zero_le _⟩ (fun u_9 H locs hu_9 hP hS => ?_)
            refine lv_icmp_lt (tgt := 86) hx hb d_SF_row_73 (by decide) (fun c_10 => ?_) (fun c_10 => ?_)
            · refine lv_aload_n hx hb d_SF_row_86 rfl (lv_at hl 0 rfl) ?_
              refine va_get (D := D) (ci := 2) (v := .ref (q 11)) (C := R_SF) (T := F_SF) (N := 15) hx hb hts i_SF hown hK hP 0 rfl rfl 5 (by decide) (hts _ wd_115) (fun _ h9 => h9) rfl d_SF_row_87 ?_
              refine lv_aload_n hx hb d_SF_row_90 rfl (lv_at hl 0 rfl) ?_
              refine lv_aload_n hx hb d_SF_row_91 rfl (lv_at hl 0 rfl) ?_
              refine lv_iload_n hx hb d_SF_row_92 rfl (lv_at hl 1 rfl) ?_
              refine sf_callVw (S := Int32) (rest := [.ref (q 0), .ref (q 11)]) ⟨hx, hb, hml, hown, hts⟩ (c_SF_isSlow l D cI cZ cJ q fl sl tb np nt u_7.1 u_7.2.1 u_7.2.2.1 u_7.2.2.2.1 u_7.2.2.2.2 mp mc mb mh mm us ta tp tl cu bl pf sh ro) (sf_cwV lk_SF_157 hts (fun _ h => h) (by rw [hR]; exact ⟨Nat.le_of_ble_eq_true rfl, Nat.le_of_ble_eq_true rfl⟩)) hK hP hD hS hA (fun _ => by simp only [sf_w_fst]) (ci := 2) (q0 := 0) rfl rfl rfl rfl rfl hl.1 (Nat.le_of_ble_eq_true rfl) d_SF_row_93 ⟨Nat.zero_le _, Nat.zero_le _⟩ (fun u_11 H locs hu_11 hP hD hS => ?_)
              have hP : va_P D classes (sf_w q cI cZ fl sl tb np nt u_7.1 u_7.2.1 u_7.2.2.1 u_7.2.2.2.1 u_7.2.2.2.2 mp mc mb mh mm us ta tp tl cu bl pf sh) H := hP
              have hD : va_D A (sf_w q cI cZ fl sl tb np nt u_7.1 u_7.2.1 u_7.2.2.1 u_7.2.2.2.1 u_7.2.2.2.2 mp mc mb mh mm us ta tp tl cu bl pf sh) := hD
              rcases (show u_11 = 0 ∨ u_11 = 1 by rw [hu_11]; exact f_SF_isSlow_b _ _) with hz | hz
              · have hz0 : u_11 = 0 := by rw [hz]
                rw [hz]
                refine sf_callVw (S := Unit) (rest := [.ref (q 11)]) ⟨hx, hb, hml, hown, hts⟩ (c_SF_placesOf_0 l D cI cZ cJ q fl sl tb np nt u_7.1 u_7.2.1 u_7.2.2.1 u_7.2.2.2.1 u_7.2.2.2.2 mp mc mb mh mm us ta tp tl cu bl pf sh) (sf_cwV lk_SF_160 hts (fun _ h => h) (by rw [hR]; exact ⟨Nat.le_of_ble_eq_true rfl, Nat.le_of_ble_eq_true rfl⟩)) hK hP hD hS hA (fun _ => by simp only [sf_w_fst]) (ci := 2) (q0 := 0) rfl rfl rfl rfl rfl hl.1 (Nat.le_of_ble_eq_true rfl) d_SF_row_96 ⟨Nat.zero_le _, Nat.zero_le _⟩ (fun u H locs hu hP hD hS => ?_)
                have hP : va_P D classes (sf_w q cI cZ fl sl tb np nt u_7.1 u_7.2.1 u_7.2.2.1 u_7.2.2.2.1 u_7.2.2.2.2 mp mc mb mh mm us ta tp tl cu bl pf sh) H := hP
                have hD : va_D A (sf_w q cI cZ fl sl tb np nt u_7.1 u_7.2.1 u_7.2.2.1 u_7.2.2.2.1 u_7.2.2.2.2 mp mc mb mh mm us ta tp tl cu bl pf sh) := hD
                refine lv_iload_n hx hb d_SF_row_99 rfl (lv_at hl 2 rfl) ?_
                refine sf_callVr (S := Int32) (rest := []) ⟨hx, hb, hml, hown, hts⟩ (c_Ch_dataAt l D cI cZ cJ (q 11) (q 12) u_7.1 u_7.2.1 u_7.2.2.1 u_7.2.2.2.1 u_7.2.2.2.2 (q 1) (q 2) 768 fl 28 i (by omega) (by omega)) (sf_cwV lk_SF_164 hts (fun _ h => h) (by rw [hR]; exact ⟨Nat.le_of_ble_eq_true rfl, Nat.le_of_ble_eq_true rfl⟩)) hK hP hD hS hA [11, 12, 1, 2] rfl rfl (fun _ => rfl) (ci := 1) (q0 := 0) rfl rfl rfl rfl rfl hl.1 (Nat.le_of_ble_eq_true rfl) d_SF_row_100 ⟨Nat.zero_le _, Nat.zero_le _⟩ (fun u_12 H locs hu_12 hP hS => ?_)
                rw [hQ]
                exact sf_xiret (0, u_12, u_7.1, u_7.2.1, u_7.2.2.1, u_7.2.2.2.1, u_7.2.2.2.2) hx hb hr hlk hS rfl rfl rfl (by simp only [f_SF_row, ← hu_1, ← hu_5, ← hu_7, ← hu_9, ← hu_11, ← hu_12, eq_false c_2, eq_true c_3, eq_true c_4, eq_false c_6, eq_false c_8, eq_true c_10, eq_true hz0, ↓reduceIte]) hP d_SF_row_103
              · have hz0 : ¬ u_11 = 0 := by rw [hz]; decide
                rw [hz]
                refine sf_callVw (S := Unit) (rest := [.ref (q 11)]) ⟨hx, hb, hml, hown, hts⟩ (c_SF_placesOf_1 l D cI cZ cJ q fl sl tb np nt u_7.1 u_7.2.1 u_7.2.2.1 u_7.2.2.2.1 u_7.2.2.2.2 mp mc mb mh mm us ta tp tl cu bl pf sh) (sf_cwV lk_SF_160 hts (fun _ h => h) (by rw [hR]; exact ⟨Nat.le_of_ble_eq_true rfl, Nat.le_of_ble_eq_true rfl⟩)) hK hP hD hS hA (fun _ => by simp only [sf_w_fst]) (ci := 2) (q0 := 0) rfl rfl rfl rfl rfl hl.1 (Nat.le_of_ble_eq_true rfl) d_SF_row_96 ⟨Nat.zero_le _, Nat.zero_le _⟩ (fun u H locs hu hP hD hS => ?_)
                have hP : va_P D classes (sf_w q cI cZ fl sl tb np nt u_7.1 u_7.2.1 u_7.2.2.1 u_7.2.2.2.1 u_7.2.2.2.2 mp mc mb mh mm us ta tp tl cu bl pf sh) H := hP
                have hD : va_D A (sf_w q cI cZ fl sl tb np nt u_7.1 u_7.2.1 u_7.2.2.1 u_7.2.2.2.1 u_7.2.2.2.2 mp mc mb mh mm us ta tp tl cu bl pf sh) := hD
                refine lv_iload_n hx hb d_SF_row_99 rfl (lv_at hl 2 rfl) ?_
                refine sf_callVr (S := Int32) (rest := []) ⟨hx, hb, hml, hown, hts⟩ (c_Ch_dataAt l D cI cZ cJ (q 11) (q 12) u_7.1 u_7.2.1 u_7.2.2.1 u_7.2.2.2.1 u_7.2.2.2.2 (q 3) (q 4) 512 sl 28 i (by omega) (by omega)) (sf_cwV lk_SF_164 hts (fun _ h => h) (by rw [hR]; exact ⟨Nat.le_of_ble_eq_true rfl, Nat.le_of_ble_eq_true rfl⟩)) hK hP hD hS hA [11, 12, 3, 4] rfl rfl (fun _ => rfl) (ci := 1) (q0 := 0) rfl rfl rfl rfl rfl hl.1 (Nat.le_of_ble_eq_true rfl) d_SF_row_100 ⟨Nat.zero_le _, Nat.zero_le _⟩ (fun u_13 H locs hu_13 hP hS => ?_)
                rw [hQ]
                exact sf_xiret (0, u_13, u_7.1, u_7.2.1, u_7.2.2.1, u_7.2.2.2.1, u_7.2.2.2.2) hx hb hr hlk hS rfl rfl rfl (by simp only [f_SF_row, ← hu_1, ← hu_5, ← hu_7, ← hu_9, ← hu_11, ← hu_13, eq_false c_2, eq_true c_3, eq_true c_4, eq_false c_6, eq_false c_8, eq_true c_10, eq_false hz0, ↓reduceIte]) hP d_SF_row_103
            · rw [hQ]
              exact sf_xthrow (text := "the row has no such byte") (u := (1, 0, u_7.1, u_7.2.1, u_7.2.2.1, u_7.2.2.2.1, u_7.2.2.2.2)) hx hb hst hml hown hts hE hex xk_78_82 xs_155 hlk hS (show ¬ (1 : Int32) = 0 by decide) (show _ = sf_en 1 by decide) (by simp only [f_SF_row, ← hu_1, ← hu_5, ← hu_7, ← hu_9, eq_false c_2, eq_true c_3, eq_true c_4, eq_false c_6, eq_false c_8, eq_false c_10, ↓reduceIte]) hP hl.1 (by rw [hR]; exact ⟨Nat.le_of_ble_eq_true rfl, Nat.le_of_ble_eq_true rfl, Nat.le_refl _, Nat.le_refl _⟩) d_SF_row_76 d_SF_row_79 d_SF_row_80 d_SF_row_82 d_SF_row_85
          · refine lv_aload_n hx hb d_SF_row_57 rfl (lv_at hl 0 rfl) ?_
            refine va_get (D := D) (ci := 2) (v := .ref (q 11)) (C := R_SF) (T := F_SF) (N := 15) hx hb hts i_SF hown hK hP 0 rfl rfl 5 (by decide) (hts _ wd_115) (fun _ h9 => h9) rfl d_SF_row_58 ?_
            refine sf_callVr (S := Int32) (rest := []) ⟨hx, hb, hml, hown, hts⟩ (c_Ch_bytes l D cI cZ cJ (q 11) (q 12) u_7.1 u_7.2.1 u_7.2.2.1 u_7.2.2.2.1 u_7.2.2.2.2) (sf_cwV lk_SF_151 hts (fun _ h => h) (by rw [hR]; exact ⟨Nat.le_of_ble_eq_true rfl, Nat.le_of_ble_eq_true rfl⟩)) hK hP hD hS hA [11, 12] rfl rfl (fun _ => rfl) (ci := 1) (q0 := 0) rfl rfl rfl rfl rfl hl.1 (Nat.le_of_ble_eq_true rfl) d_SF_row_61 ⟨Nat.zero_le _, Nat.zero_le _⟩ (fun u_14 H locs hu_14 hP hS => ?_)
            rw [hQ]
            exact sf_xiret (0, u_14, u_7.1, u_7.2.1, u_7.2.2.1, u_7.2.2.2.1, u_7.2.2.2.2) hx hb hr hlk hS rfl rfl rfl (by simp only [f_SF_row, ← hu_1, ← hu_5, ← hu_7, ← hu_14, eq_false c_2, eq_true c_3, eq_true c_4, eq_false c_6, eq_true c_8, ↓reduceIte]) hP d_SF_row_64
        · rw [hQ]
          exact sf_xthrow (text := "the file is shut or the row is not there") (u := (2, 0, cp, cc, cb, ch, cm)) hx hb hst hml hown hts hE hex xk_87_91 xs_128 hlk hS (show ¬ (2 : Int32) = 0 by decide) (show _ = sf_en 2 by decide) (by simp only [f_SF_row, ← hu_1, ← hu_5, eq_false c_2, eq_true c_3, eq_true c_4, eq_true c_6, ↓reduceIte]) hP hl.1 (by rw [hR]; exact ⟨Nat.le_of_ble_eq_true rfl, Nat.le_of_ble_eq_true rfl, Nat.le_refl _, Nat.le_refl _⟩) d_SF_row_37 d_SF_row_40 d_SF_row_41 d_SF_row_43 d_SF_row_46
    · rw [hQ]
      exact sf_xthrow (text := "no such row or byte") (u := (1, 0, cp, cc, cb, ch, cm)) hx hb hst hml hown hts hE hex xk_78_82 xs_146 hlk hS (show ¬ (1 : Int32) = 0 by decide) (show _ = sf_en 1 by decide) (by simp only [f_SF_row, ← hu_1, eq_false c_2, eq_false c_3, ↓reduceIte]) hP hl.1 (by rw [hR]; exact ⟨Nat.le_of_ble_eq_true rfl, Nat.le_of_ble_eq_true rfl, Nat.le_refl _, Nat.le_refl _⟩) d_SF_row_12 d_SF_row_15 d_SF_row_16 d_SF_row_18 d_SF_row_21
def f_SF_at (fl : Nat → Int32) (sl : Nat → Int32) (tb : Nat → Int32) (cp : Nat → Int32) (cc : Int32) (cb : Int32) (ch : Int32) (cm : Int32) (sh : Int32) (ro : Int32) (wt : Int32) : (Int32 × Int32 × (Nat → Int32) × Int32 × Int32 × Int32 × Int32) :=
  if (f_SF_isRow ro) = 0 then
    (1, 0, cp, cc, cb, ch, cm)
  else
    if wt < 0 then
      (1, 0, cp, cc, cb, ch, cm)
    else
      if wt ≤ 3 then
        if sh = 0 then
          if wt = 0 then
            if (f_SF_isThere tb ro) = 0 then
              (0, 0, cp, cc, cb, ch, cm)
            else
              (0, 1, cp, cc, cb, ch, cm)
          else
            if (f_SF_isThere tb ro) = 0 then
              (2, 0, cp, cc, cb, ch, cm)
            else
              if wt = 1 then
                if (f_SF_isSlow tb ro) = 0 then
                  (0, 0, cp, cc, cb, ch, cm)
                else
                  (0, 1, cp, cc, cb, ch, cm)
              else
                if wt = 2 then
                  (0, (f_Ch_monthOrNone (f_SF_followRow fl sl tb cp ro).2.2.1 (f_SF_followRow fl sl tb cp ro).2.2.2.2), (f_SF_followRow fl sl tb cp ro).1, (f_SF_followRow fl sl tb cp ro).2.1, (f_SF_followRow fl sl tb cp ro).2.2.1, (f_SF_followRow fl sl tb cp ro).2.2.2.1, (f_SF_followRow fl sl tb cp ro).2.2.2.2)
                else
                  (0, (f_SF_followRow fl sl tb cp ro).2.1, (f_SF_followRow fl sl tb cp ro).1, (f_SF_followRow fl sl tb cp ro).2.1, (f_SF_followRow fl sl tb cp ro).2.2.1, (f_SF_followRow fl sl tb cp ro).2.2.2.1, (f_SF_followRow fl sl tb cp ro).2.2.2.2)
        else
          (2, 0, cp, cc, cb, ch, cm)
      else
        (1, 0, cp, cc, cb, ch, cm)
set_option maxHeartbeats 1000000 in
set_option maxRecDepth 100000 in
/-- at -/
theorem c_SF_at (l : Launch) (D : va_G) (cI cZ cJ : ClassId) (hst : l.stackTraces = false) (q : Nat → Nat) (fl : Nat → Int32) (sl : Nat → Int32) (tb : Nat → Int32) (np : Nat → Int32) (nt : Nat → Int32) (cp : Nat → Int32) (cc : Int32) (cb : Int32) (ch : Int32) (cm : Int32) (mp : Nat → Int32) (mc : Int32) (mb : Int32) (mh : Int32) (mm : Int32) (us : Nat → Int32) (ta : Nat → Int32) (tp : Nat → Int32) (tl : Int32) (cu : Int32) (bl : Int32) (pf : Int32) (sh : Int32) (ro : Int32) (wt : Int32) : sf_XM (S := (Int32 × Int32 × (Nat → Int32) × Int32 × Int32 × Int32 × Int32)) l D classes (sf_tys cI cZ cJ) y_SF_at (sf_ws y_SF_at b_SF_at 3 (some .int)) 6 120 [.ref (q 0), .int ro, .int wt] (sf_w q cI cZ fl sl tb np nt cp cc cb ch cm mp mc mb mh mm us ta tp tl cu bl pf sh) (fun r => r.1) (fun r => some (.int r.2.1)) (fun r => r = f_SF_at fl sl tb cp cc cb ch cm sh ro wt) (fun r => (sf_w q cI cZ fl sl tb np nt r.2.2.1 r.2.2.2.1 r.2.2.2.2.1 r.2.2.2.2.2.1 r.2.2.2.2.2.2 mp mc mb mh mm us ta tp tl cu bl pf sh)) := by
  refine sf_xofW (S := (Int32 × Int32 × (Nat → Int32) × Int32 × Int32 × Int32 × Int32)) (by decide) (Nat.le_of_ble_eq_true rfl) ?_
  intro p e s m below meth c A ls R args Q hR hArgs hQ hC0 hr hex hE hK hP hD hl
  obtain ⟨hx, hb, hml, hown, hts, hA, hlk⟩ := hC0
  have hS : va_S A s.heap s.heap [] := va_S.rf
  have hl : lv_has ls 3 [(0, .ref (q 0)), (1, .int ro), (2, .int wt)] := hl
  refine lv_iload_n hx hb d_SF_at_0 rfl (lv_at hl 1 rfl) ?_
  refine sf_callSr (S := Int32) (rest := []) ⟨hx, hb, hml, hown, hts⟩ (c_SF_isRow l D cI cZ cJ ro) (sf_cwS lk_SF_74 hts (fun _ h => h) (by rw [hR]; exact ⟨Nat.le_of_ble_eq_true rfl, Nat.le_of_ble_eq_true rfl⟩)) hK hP hD hS hA [] rfl rfl (fun _ => rfl) rfl rfl hl.1 (Nat.le_of_ble_eq_true rfl) d_SF_at_1 ⟨Nat.zero_le _, Nat.zero_le _⟩ (fun u_1 H locs hu_1 hP hS => ?_)
  refine lv_if_eq (tgt := 16) hx hb d_SF_at_4 (by decide) (fun c_2 => ?_) (fun c_2 => ?_)
  · rw [hQ]
    exact sf_xthrow (text := "no such row or what") (u := (1, 0, cp, cc, cb, ch, cm)) hx hb hst hml hown hts hE hex xk_78_82 xs_168 hlk hS (show ¬ (1 : Int32) = 0 by decide) (show _ = sf_en 1 by decide) (by simp only [f_SF_at, ← hu_1, eq_true c_2, ↓reduceIte]) hP hl.1 (by rw [hR]; exact ⟨Nat.le_of_ble_eq_true rfl, Nat.le_of_ble_eq_true rfl, Nat.le_refl _, Nat.le_refl _⟩) d_SF_at_16 d_SF_at_19 d_SF_at_20 d_SF_at_22 d_SF_at_25
  · refine lv_iload_n hx hb d_SF_at_7 rfl (lv_at hl 2 rfl) ?_
    refine lv_if_lt (tgt := 16) hx hb d_SF_at_8 (by decide) (fun c_3 => ?_) (fun c_3 => ?_)
    · rw [hQ]
      exact sf_xthrow (text := "no such row or what") (u := (1, 0, cp, cc, cb, ch, cm)) hx hb hst hml hown hts hE hex xk_78_82 xs_168 hlk hS (show ¬ (1 : Int32) = 0 by decide) (show _ = sf_en 1 by decide) (by simp only [f_SF_at, ← hu_1, eq_false c_2, eq_true c_3, ↓reduceIte]) hP hl.1 (by rw [hR]; exact ⟨Nat.le_of_ble_eq_true rfl, Nat.le_of_ble_eq_true rfl, Nat.le_refl _, Nat.le_refl _⟩) d_SF_at_16 d_SF_at_19 d_SF_at_20 d_SF_at_22 d_SF_at_25
    · refine lv_iload_n hx hb d_SF_at_11 rfl (lv_at hl 2 rfl) ?_
      refine lv_iconst (v := 3) hx hb d_SF_at_12 (by decide) ?_
      refine lv_icmp_le (tgt := 26) hx hb d_SF_at_13 (by decide) (fun c_4 => ?_) (fun c_4 => ?_)
      · refine lv_aload_n hx hb d_SF_at_26 rfl (lv_at hl 0 rfl) ?_
        refine va_get (D := D) (ci := 2) (v := .int sh) (C := R_SF) (T := F_SF) (N := 15) hx hb hts i_SF hown hK hP 0 rfl rfl 14 (by decide) (hts _ wd_124) (fun _ h9 => h9) rfl d_SF_at_27 ?_
        refine lv_if_ne (tgt := 45) hx hb d_SF_at_30 (by decide) (fun c_5 => ?_) (fun c_5 => ?_)
        · rw [hQ]
          exact sf_xthrow (text := "the file is shut or the row is not there") (u := (2, 0, cp, cc, cb, ch, cm)) hx hb hst hml hown hts hE hex xk_87_91 xs_128 hlk hS (show ¬ (2 : Int32) = 0 by decide) (show _ = sf_en 2 by decide) (by simp only [f_SF_at, ← hu_1, eq_false c_2, eq_false c_3, eq_true c_4, eq_false c_5, ↓reduceIte]) hP hl.1 (by rw [hR]; exact ⟨Nat.le_of_ble_eq_true rfl, Nat.le_of_ble_eq_true rfl, Nat.le_refl _, Nat.le_refl _⟩) d_SF_at_45 d_SF_at_48 d_SF_at_49 d_SF_at_51 d_SF_at_54
        · refine lv_iload_n hx hb d_SF_at_33 rfl (lv_at hl 2 rfl) ?_
          refine lv_if_eq (tgt := 55) hx hb d_SF_at_34 (by decide) (fun c_6 => ?_) (fun c_6 => ?_)
          · refine lv_iload_n hx hb d_SF_at_55 rfl (lv_at hl 2 rfl) ?_
            refine lv_if_ne (tgt := 73) hx hb d_SF_at_56 (by decide) (fun c_7 => absurd c_6 c_7) (fun c_7 => ?_)
            refine lv_aload_n hx hb d_SF_at_59 rfl (lv_at hl 0 rfl) ?_
            refine lv_iload_n hx hb d_SF_at_60 rfl (lv_at hl 1 rfl) ?_
            refine sf_callVw (S := Int32) (rest := []) ⟨hx, hb, hml, hown, hts⟩ (c_SF_isThere l D cI cZ cJ q fl sl tb np nt cp cc cb ch cm mp mc mb mh mm us ta tp tl cu bl pf sh ro) (sf_cwV lk_SF_125 hts (fun _ h => h) (by rw [hR]; exact ⟨Nat.le_of_ble_eq_true rfl, Nat.le_of_ble_eq_true rfl⟩)) hK hP hD hS hA (fun _ => by simp only [sf_w_fst]) (ci := 2) (q0 := 0) rfl rfl rfl rfl rfl hl.1 (Nat.le_of_ble_eq_true rfl) d_SF_at_61 ⟨Nat.zero_le _, Nat.zero_le _⟩ (fun u_8 H locs hu_8 hP hD hS => ?_)
            have hP : va_P D classes (sf_w q cI cZ fl sl tb np nt cp cc cb ch cm mp mc mb mh mm us ta tp tl cu bl pf sh) H := hP
            have hD : va_D A (sf_w q cI cZ fl sl tb np nt cp cc cb ch cm mp mc mb mh mm us ta tp tl cu bl pf sh) := hD
            refine lv_if_eq (tgt := 71) hx hb d_SF_at_64 (by decide) (fun c_9 => ?_) (fun c_9 => ?_)
            · refine lv_iconst (v := 0) hx hb d_SF_at_71 (by decide) ?_
              rw [hQ]
              exact sf_xiret (0, 0, cp, cc, cb, ch, cm) hx hb hr hlk hS rfl rfl rfl (by simp only [f_SF_at, ← hu_1, ← hu_8, eq_false c_2, eq_false c_3, eq_true c_4, eq_true c_5, eq_true c_6, eq_true c_9, ↓reduceIte]) hP d_SF_at_72
            · refine lv_iconst (v := 1) hx hb d_SF_at_67 (by decide) ?_
              refine lv_goto (tgt := 72) hx hb d_SF_at_68 (by decide) ?_
              rw [hQ]
              exact sf_xiret (0, 1, cp, cc, cb, ch, cm) hx hb hr hlk hS rfl rfl rfl (by simp only [f_SF_at, ← hu_1, ← hu_8, eq_false c_2, eq_false c_3, eq_true c_4, eq_true c_5, eq_true c_6, eq_false c_9, ↓reduceIte]) hP d_SF_at_72
          · refine lv_aload_n hx hb d_SF_at_37 rfl (lv_at hl 0 rfl) ?_
            refine lv_iload_n hx hb d_SF_at_38 rfl (lv_at hl 1 rfl) ?_
            refine sf_callVw (S := Int32) (rest := []) ⟨hx, hb, hml, hown, hts⟩ (c_SF_isThere l D cI cZ cJ q fl sl tb np nt cp cc cb ch cm mp mc mb mh mm us ta tp tl cu bl pf sh ro) (sf_cwV lk_SF_125 hts (fun _ h => h) (by rw [hR]; exact ⟨Nat.le_of_ble_eq_true rfl, Nat.le_of_ble_eq_true rfl⟩)) hK hP hD hS hA (fun _ => by simp only [sf_w_fst]) (ci := 2) (q0 := 0) rfl rfl rfl rfl rfl hl.1 (Nat.le_of_ble_eq_true rfl) d_SF_at_39 ⟨Nat.zero_le _, Nat.zero_le _⟩ (fun u_10 H locs hu_10 hP hD hS => ?_)
            have hP : va_P D classes (sf_w q cI cZ fl sl tb np nt cp cc cb ch cm mp mc mb mh mm us ta tp tl cu bl pf sh) H := hP
            have hD : va_D A (sf_w q cI cZ fl sl tb np nt cp cc cb ch cm mp mc mb mh mm us ta tp tl cu bl pf sh) := hD
            refine lv_if_ne (tgt := 55) hx hb d_SF_at_42 (by decide) (fun c_11 => ?_) (fun c_11 => ?_)
            · refine lv_iload_n hx hb d_SF_at_55 rfl (lv_at hl 2 rfl) ?_
              refine lv_if_ne (tgt := 73) hx hb d_SF_at_56 (by decide) (fun c_12 => ?_) (fun c_12 => absurd c_12 c_6)
              refine lv_iload_n hx hb d_SF_at_73 rfl (lv_at hl 2 rfl) ?_
              refine lv_iconst (v := 1) hx hb d_SF_at_74 (by decide) ?_
              refine lv_icmp_ne (tgt := 92) hx hb d_SF_at_75 (by decide) (fun c_13 => ?_) (fun c_13 => ?_)
              · refine lv_aload_n hx hb d_SF_at_92 rfl (lv_at hl 0 rfl) ?_
                refine lv_iload_n hx hb d_SF_at_93 rfl (lv_at hl 1 rfl) ?_
                refine sf_callVw (S := ((Nat → Int32) × Int32 × Int32 × Int32 × Int32)) (rest := []) ⟨hx, hb, hml, hown, hts⟩ (c_SF_followRow l D cI cZ cJ q fl sl tb np nt cp cc cb ch cm mp mc mb mh mm us ta tp tl cu bl pf sh ro) (sf_cwV lk_SF_148 hts (fun _ h => h) (by rw [hR]; exact ⟨Nat.le_of_ble_eq_true rfl, Nat.le_of_ble_eq_true rfl⟩)) hK hP hD hS hA (fun _ => by simp only [sf_w_fst]) (ci := 2) (q0 := 0) rfl rfl rfl rfl rfl hl.1 (Nat.le_of_ble_eq_true rfl) d_SF_at_94 ⟨Nat.zero_le _, Nat.zero_le _⟩ (fun u_14 H locs hu_14 hP hD hS => ?_)
                have hP : va_P D classes (sf_w q cI cZ fl sl tb np nt u_14.1 u_14.2.1 u_14.2.2.1 u_14.2.2.2.1 u_14.2.2.2.2 mp mc mb mh mm us ta tp tl cu bl pf sh) H := hP
                have hD : va_D A (sf_w q cI cZ fl sl tb np nt u_14.1 u_14.2.1 u_14.2.2.1 u_14.2.2.2.1 u_14.2.2.2.2 mp mc mb mh mm us ta tp tl cu bl pf sh) := hD
                refine lv_iload_n hx hb d_SF_at_97 rfl (lv_at hl 2 rfl) ?_
                refine lv_iconst (v := 2) hx hb d_SF_at_98 (by decide) ?_
                refine lv_icmp_ne (tgt := 112) hx hb d_SF_at_99 (by decide) (fun c_15 => ?_) (fun c_15 => ?_)
                · refine lv_aload_n hx hb d_SF_at_112 rfl (lv_at hl 0 rfl) ?_
                  refine va_get (D := D) (ci := 2) (v := .ref (q 11)) (C := R_SF) (T := F_SF) (N := 15) hx hb hts i_SF hown hK hP 0 rfl rfl 5 (by decide) (hts _ wd_115) (fun _ h9 => h9) rfl d_SF_at_113 ?_
                  refine va_get (D := D) (ci := 1) (v := .int u_14.2.1) (C := R_Ch) (T := F_Ch) (N := 5) hx hb hts i_Ch hown hK hP 11 rfl rfl 1 (by decide) (hts _ wd_95) (fun _ h9 => h9) rfl d_SF_at_116 ?_
                  rw [hQ]
                  exact sf_xiret (0, u_14.2.1, u_14.1, u_14.2.1, u_14.2.2.1, u_14.2.2.2.1, u_14.2.2.2.2) hx hb hr hlk hS rfl rfl rfl (by simp only [f_SF_at, ← hu_1, ← hu_10, ← hu_14, eq_false c_2, eq_false c_3, eq_true c_4, eq_true c_5, eq_false c_6, eq_false c_11, eq_false c_13, eq_false c_15, ↓reduceIte]) hP d_SF_at_119
                · refine lv_aload_n hx hb d_SF_at_102 rfl (lv_at hl 0 rfl) ?_
                  refine va_get (D := D) (ci := 2) (v := .ref (q 11)) (C := R_SF) (T := F_SF) (N := 15) hx hb hts i_SF hown hK hP 0 rfl rfl 5 (by decide) (hts _ wd_115) (fun _ h9 => h9) rfl d_SF_at_103 ?_
                  refine sf_callVr (S := Int32) (rest := []) ⟨hx, hb, hml, hown, hts⟩ (c_Ch_monthOrNone l D cI cZ cJ (q 11) (q 12) u_14.1 u_14.2.1 u_14.2.2.1 u_14.2.2.2.1 u_14.2.2.2.2) (sf_cwV lk_SF_170 hts (fun _ h => h) (by rw [hR]; exact ⟨Nat.le_of_ble_eq_true rfl, Nat.le_of_ble_eq_true rfl⟩)) hK hP hD hS hA [11, 12] rfl rfl (fun _ => rfl) (ci := 1) (q0 := 0) rfl rfl rfl rfl rfl hl.1 (Nat.le_of_ble_eq_true rfl) d_SF_at_106 ⟨Nat.zero_le _, Nat.zero_le _⟩ (fun u_16 H locs hu_16 hP hS => ?_)
                  refine lv_goto (tgt := 119) hx hb d_SF_at_109 (by decide) ?_
                  rw [hQ]
                  exact sf_xiret (0, u_16, u_14.1, u_14.2.1, u_14.2.2.1, u_14.2.2.2.1, u_14.2.2.2.2) hx hb hr hlk hS rfl rfl rfl (by simp only [f_SF_at, ← hu_1, ← hu_10, ← hu_14, ← hu_16, eq_false c_2, eq_false c_3, eq_true c_4, eq_true c_5, eq_false c_6, eq_false c_11, eq_false c_13, eq_true c_15, ↓reduceIte]) hP d_SF_at_119
              · refine lv_aload_n hx hb d_SF_at_78 rfl (lv_at hl 0 rfl) ?_
                refine lv_iload_n hx hb d_SF_at_79 rfl (lv_at hl 1 rfl) ?_
                refine sf_callVw (S := Int32) (rest := []) ⟨hx, hb, hml, hown, hts⟩ (c_SF_isSlow l D cI cZ cJ q fl sl tb np nt cp cc cb ch cm mp mc mb mh mm us ta tp tl cu bl pf sh ro) (sf_cwV lk_SF_157 hts (fun _ h => h) (by rw [hR]; exact ⟨Nat.le_of_ble_eq_true rfl, Nat.le_of_ble_eq_true rfl⟩)) hK hP hD hS hA (fun _ => by simp only [sf_w_fst]) (ci := 2) (q0 := 0) rfl rfl rfl rfl rfl hl.1 (Nat.le_of_ble_eq_true rfl) d_SF_at_80 ⟨Nat.zero_le _, Nat.zero_le _⟩ (fun u_17 H locs hu_17 hP hD hS => ?_)
                have hP : va_P D classes (sf_w q cI cZ fl sl tb np nt cp cc cb ch cm mp mc mb mh mm us ta tp tl cu bl pf sh) H := hP
                have hD : va_D A (sf_w q cI cZ fl sl tb np nt cp cc cb ch cm mp mc mb mh mm us ta tp tl cu bl pf sh) := hD
                refine lv_if_eq (tgt := 90) hx hb d_SF_at_83 (by decide) (fun c_18 => ?_) (fun c_18 => ?_)
                · refine lv_iconst (v := 0) hx hb d_SF_at_90 (by decide) ?_
                  rw [hQ]
                  exact sf_xiret (0, 0, cp, cc, cb, ch, cm) hx hb hr hlk hS rfl rfl rfl (by simp only [f_SF_at, ← hu_1, ← hu_10, ← hu_17, eq_false c_2, eq_false c_3, eq_true c_4, eq_true c_5, eq_false c_6, eq_false c_11, eq_true c_13, eq_true c_18, ↓reduceIte]) hP d_SF_at_91
                · refine lv_iconst (v := 1) hx hb d_SF_at_86 (by decide) ?_
                  refine lv_goto (tgt := 91) hx hb d_SF_at_87 (by decide) ?_
                  rw [hQ]
                  exact sf_xiret (0, 1, cp, cc, cb, ch, cm) hx hb hr hlk hS rfl rfl rfl (by simp only [f_SF_at, ← hu_1, ← hu_10, ← hu_17, eq_false c_2, eq_false c_3, eq_true c_4, eq_true c_5, eq_false c_6, eq_false c_11, eq_true c_13, eq_false c_18, ↓reduceIte]) hP d_SF_at_91
            · rw [hQ]
              exact sf_xthrow (text := "the file is shut or the row is not there") (u := (2, 0, cp, cc, cb, ch, cm)) hx hb hst hml hown hts hE hex xk_87_91 xs_128 hlk hS (show ¬ (2 : Int32) = 0 by decide) (show _ = sf_en 2 by decide) (by simp only [f_SF_at, ← hu_1, ← hu_10, eq_false c_2, eq_false c_3, eq_true c_4, eq_true c_5, eq_false c_6, eq_true c_11, ↓reduceIte]) hP hl.1 (by rw [hR]; exact ⟨Nat.le_of_ble_eq_true rfl, Nat.le_of_ble_eq_true rfl, Nat.le_refl _, Nat.le_refl _⟩) d_SF_at_45 d_SF_at_48 d_SF_at_49 d_SF_at_51 d_SF_at_54
      · rw [hQ]
        exact sf_xthrow (text := "no such row or what") (u := (1, 0, cp, cc, cb, ch, cm)) hx hb hst hml hown hts hE hex xk_78_82 xs_168 hlk hS (show ¬ (1 : Int32) = 0 by decide) (show _ = sf_en 1 by decide) (by simp only [f_SF_at, ← hu_1, eq_false c_2, eq_false c_3, eq_false c_4, ↓reduceIte]) hP hl.1 (by rw [hR]; exact ⟨Nat.le_of_ble_eq_true rfl, Nat.le_of_ble_eq_true rfl, Nat.le_refl _, Nat.le_refl _⟩) d_SF_at_16 d_SF_at_19 d_SF_at_20 d_SF_at_22 d_SF_at_25
def f_SF_told (fl : Nat → Int32) (sl : Nat → Int32) (tb : Nat → Int32) (mp : Nat → Int32) (mc : Int32) (mb : Int32) (mh : Int32) (mm : Int32) (us : Nat → Int32) (tl : Int32) (sh : Int32) (wt : Int32) : (Int32 × Int32 × (Nat → Int32) × (Nat → Int32) × Int32 × Int32 × Int32 × Int32) :=
  if wt < 0 then
    (1, 0, us, mp, mc, mb, mh, mm)
  else
    if wt ≤ 4 then
      if sh = 0 then
        if wt = 0 then
          (0, (f_SF_countFree_0 fl tb mp mc mb mh mm us).1, (f_SF_countFree_0 fl tb mp mc mb mh mm us).2.1, (f_SF_countFree_0 fl tb mp mc mb mh mm us).2.2.1, (f_SF_countFree_0 fl tb mp mc mb mh mm us).2.2.2.1, (f_SF_countFree_0 fl tb mp mc mb mh mm us).2.2.2.2.1, (f_SF_countFree_0 fl tb mp mc mb mh mm us).2.2.2.2.2.1, (f_SF_countFree_0 fl tb mp mc mb mh mm us).2.2.2.2.2.2)
        else
          if wt = 1 then
            (0, (f_SF_countFree_1 sl tb mp mc mb mh mm us).1, (f_SF_countFree_1 sl tb mp mc mb mh mm us).2.1, (f_SF_countFree_1 sl tb mp mc mb mh mm us).2.2.1, (f_SF_countFree_1 sl tb mp mc mb mh mm us).2.2.2.1, (f_SF_countFree_1 sl tb mp mc mb mh mm us).2.2.2.2.1, (f_SF_countFree_1 sl tb mp mc mb mh mm us).2.2.2.2.2.1, (f_SF_countFree_1 sl tb mp mc mb mh mm us).2.2.2.2.2.2)
          else
            if wt = 2 then
              (0, (f_SF_numberOf tb (f_SF_countingTable tb)), us, mp, mc, mb, mh, mm)
            else
              if wt = 3 then
                (0, (f_SF_countingTable tb), us, mp, mc, mb, mh, mm)
              else
                (0, tl, us, mp, mc, mb, mh, mm)
      else
        if wt = 4 then
          if wt = 0 then
            (0, (f_SF_countFree_0 fl tb mp mc mb mh mm us).1, (f_SF_countFree_0 fl tb mp mc mb mh mm us).2.1, (f_SF_countFree_0 fl tb mp mc mb mh mm us).2.2.1, (f_SF_countFree_0 fl tb mp mc mb mh mm us).2.2.2.1, (f_SF_countFree_0 fl tb mp mc mb mh mm us).2.2.2.2.1, (f_SF_countFree_0 fl tb mp mc mb mh mm us).2.2.2.2.2.1, (f_SF_countFree_0 fl tb mp mc mb mh mm us).2.2.2.2.2.2)
          else
            if wt = 1 then
              (0, (f_SF_countFree_1 sl tb mp mc mb mh mm us).1, (f_SF_countFree_1 sl tb mp mc mb mh mm us).2.1, (f_SF_countFree_1 sl tb mp mc mb mh mm us).2.2.1, (f_SF_countFree_1 sl tb mp mc mb mh mm us).2.2.2.1, (f_SF_countFree_1 sl tb mp mc mb mh mm us).2.2.2.2.1, (f_SF_countFree_1 sl tb mp mc mb mh mm us).2.2.2.2.2.1, (f_SF_countFree_1 sl tb mp mc mb mh mm us).2.2.2.2.2.2)
            else
              if wt = 2 then
                (0, (f_SF_numberOf tb (f_SF_countingTable tb)), us, mp, mc, mb, mh, mm)
              else
                if wt = 3 then
                  (0, (f_SF_countingTable tb), us, mp, mc, mb, mh, mm)
                else
                  (0, tl, us, mp, mc, mb, mh, mm)
        else
          (2, 0, us, mp, mc, mb, mh, mm)
    else
      (1, 0, us, mp, mc, mb, mh, mm)
set_option maxHeartbeats 1000000 in
set_option maxRecDepth 100000 in
/-- told -/
theorem c_SF_told (l : Launch) (D : va_G) (cI cZ cJ : ClassId) (hst : l.stackTraces = false) (q : Nat → Nat) (fl : Nat → Int32) (sl : Nat → Int32) (tb : Nat → Int32) (np : Nat → Int32) (nt : Nat → Int32) (cp : Nat → Int32) (cc : Int32) (cb : Int32) (ch : Int32) (cm : Int32) (mp : Nat → Int32) (mc : Int32) (mb : Int32) (mh : Int32) (mm : Int32) (us : Nat → Int32) (ta : Nat → Int32) (tp : Nat → Int32) (tl : Int32) (cu : Int32) (bl : Int32) (pf : Int32) (sh : Int32) (wt : Int32) : sf_XM (S := (Int32 × Int32 × (Nat → Int32) × (Nat → Int32) × Int32 × Int32 × Int32 × Int32)) l D classes (sf_tys cI cZ cJ) y_SF_told (sf_ws y_SF_told b_SF_told 2 (some .int)) 6 144 [.ref (q 0), .int wt] (sf_w q cI cZ fl sl tb np nt cp cc cb ch cm mp mc mb mh mm us ta tp tl cu bl pf sh) (fun r => r.1) (fun r => some (.int r.2.1)) (fun r => r = f_SF_told fl sl tb mp mc mb mh mm us tl sh wt) (fun r => (sf_w q cI cZ fl sl tb np nt cp cc cb ch cm r.2.2.2.1 r.2.2.2.2.1 r.2.2.2.2.2.1 r.2.2.2.2.2.2.1 r.2.2.2.2.2.2.2 r.2.2.1 ta tp tl cu bl pf sh)) := by
  refine sf_xofW (S := (Int32 × Int32 × (Nat → Int32) × (Nat → Int32) × Int32 × Int32 × Int32 × Int32)) (by decide) (Nat.le_of_ble_eq_true rfl) ?_
  intro p e s m below meth c A ls R args Q hR hArgs hQ hC0 hr hex hE hK hP hD hl
  obtain ⟨hx, hb, hml, hown, hts, hA, hlk⟩ := hC0
  have hS : va_S A s.heap s.heap [] := va_S.rf
  have hl : lv_has ls 2 [(0, .ref (q 0)), (1, .int wt)] := hl
  refine lv_iload_n hx hb d_SF_told_0 rfl (lv_at hl 1 rfl) ?_
  refine lv_if_lt (tgt := 9) hx hb d_SF_told_1 (by decide) (fun c_1 => ?_) (fun c_1 => ?_)
  · rw [hQ]
    exact sf_xthrow (text := "no such what") (u := (1, 0, us, mp, mc, mb, mh, mm)) hx hb hst hml hown hts hE hex xk_78_82 xs_173 hlk hS (show ¬ (1 : Int32) = 0 by decide) (show _ = sf_en 1 by decide) (by simp only [f_SF_told, eq_true c_1, ↓reduceIte]) hP hl.1 (by rw [hR]; exact ⟨Nat.le_of_ble_eq_true rfl, Nat.le_of_ble_eq_true rfl, Nat.le_refl _, Nat.le_refl _⟩) d_SF_told_9 d_SF_told_12 d_SF_told_13 d_SF_told_15 d_SF_told_18
  · refine lv_iload_n hx hb d_SF_told_4 rfl (lv_at hl 1 rfl) ?_
    refine lv_iconst (v := 4) hx hb d_SF_told_5 (by decide) ?_
    refine lv_icmp_le (tgt := 19) hx hb d_SF_told_6 (by decide) (fun c_2 => ?_) (fun c_2 => ?_)
    · refine lv_aload_n hx hb d_SF_told_19 rfl (lv_at hl 0 rfl) ?_
      refine va_get (D := D) (ci := 2) (v := .int sh) (C := R_SF) (T := F_SF) (N := 15) hx hb hts i_SF hown hK hP 0 rfl rfl 14 (by decide) (hts _ wd_124) (fun _ h9 => h9) rfl d_SF_told_20 ?_
      refine lv_if_eq (tgt := 41) hx hb d_SF_told_23 (by decide) (fun c_3 => ?_) (fun c_3 => ?_)
      · refine lv_iload_n hx hb d_SF_told_41 rfl (lv_at hl 1 rfl) ?_
        rcases sf_five c_1 c_2 with hw | hw | hw | hw | hw
        · rw [hw]
          refine lv_tableIn (tgt := 72) (off := 30) hx hb d_SF_told_42 (by decide) (by decide) (by decide) (by decide) ?_
          refine lv_aload_n hx hb d_SF_told_72 rfl (lv_at hl 0 rfl) ?_
          refine lv_iconst (v := 0) hx hb d_SF_told_73 (by decide) ?_
          refine sf_callVw (S := (Int32 × (Nat → Int32) × (Nat → Int32) × Int32 × Int32 × Int32 × Int32)) (rest := []) ⟨hx, hb, hml, hown, hts⟩ (c_SF_countFree_0 l D cI cZ cJ q fl sl tb np nt cp cc cb ch cm mp mc mb mh mm us ta tp tl cu bl pf sh) (sf_cwV lk_SF_175 hts (fun _ h => h) (by rw [hR]; exact ⟨Nat.le_of_ble_eq_true rfl, Nat.le_of_ble_eq_true rfl⟩)) hK hP hD hS hA (fun _ => by simp only [sf_w_fst]) (ci := 2) (q0 := 0) rfl rfl rfl rfl rfl hl.1 (Nat.le_of_ble_eq_true rfl) d_SF_told_74 ⟨Nat.zero_le _, Nat.zero_le _⟩ (fun u_4 H locs hu_4 hP hD hS => ?_)
          have hP : va_P D classes (sf_w q cI cZ fl sl tb np nt cp cc cb ch cm u_4.2.2.1 u_4.2.2.2.1 u_4.2.2.2.2.1 u_4.2.2.2.2.2.1 u_4.2.2.2.2.2.2 u_4.2.1 ta tp tl cu bl pf sh) H := hP
          have hD : va_D A (sf_w q cI cZ fl sl tb np nt cp cc cb ch cm u_4.2.2.1 u_4.2.2.2.1 u_4.2.2.2.2.1 u_4.2.2.2.2.2.1 u_4.2.2.2.2.2.2 u_4.2.1 ta tp tl cu bl pf sh) := hD
          rw [hQ]
          exact sf_xiret (0, u_4.1, u_4.2.1, u_4.2.2.1, u_4.2.2.2.1, u_4.2.2.2.2.1, u_4.2.2.2.2.2.1, u_4.2.2.2.2.2.2) hx hb hr hlk hS rfl rfl rfl (by simp only [f_SF_told, ← hu_4, eq_false c_1, eq_true c_2, eq_true c_3, eq_true hw, ↓reduceIte]) hP d_SF_told_77
        · rw [hw]
          have hw0 : ¬ wt = 0 := by rw [hw]; decide
          refine lv_tableIn (tgt := 78) (off := 36) hx hb d_SF_told_42 (by decide) (by decide) (by decide) (by decide) ?_
          refine lv_aload_n hx hb d_SF_told_78 rfl (lv_at hl 0 rfl) ?_
          refine lv_iconst (v := 1) hx hb d_SF_told_79 (by decide) ?_
          refine sf_callVw (S := (Int32 × (Nat → Int32) × (Nat → Int32) × Int32 × Int32 × Int32 × Int32)) (rest := []) ⟨hx, hb, hml, hown, hts⟩ (c_SF_countFree_1 l D cI cZ cJ q fl sl tb np nt cp cc cb ch cm mp mc mb mh mm us ta tp tl cu bl pf sh) (sf_cwV lk_SF_175 hts (fun _ h => h) (by rw [hR]; exact ⟨Nat.le_of_ble_eq_true rfl, Nat.le_of_ble_eq_true rfl⟩)) hK hP hD hS hA (fun _ => by simp only [sf_w_fst]) (ci := 2) (q0 := 0) rfl rfl rfl rfl rfl hl.1 (Nat.le_of_ble_eq_true rfl) d_SF_told_80 ⟨Nat.zero_le _, Nat.zero_le _⟩ (fun u_5 H locs hu_5 hP hD hS => ?_)
          have hP : va_P D classes (sf_w q cI cZ fl sl tb np nt cp cc cb ch cm u_5.2.2.1 u_5.2.2.2.1 u_5.2.2.2.2.1 u_5.2.2.2.2.2.1 u_5.2.2.2.2.2.2 u_5.2.1 ta tp tl cu bl pf sh) H := hP
          have hD : va_D A (sf_w q cI cZ fl sl tb np nt cp cc cb ch cm u_5.2.2.1 u_5.2.2.2.1 u_5.2.2.2.2.1 u_5.2.2.2.2.2.1 u_5.2.2.2.2.2.2 u_5.2.1 ta tp tl cu bl pf sh) := hD
          rw [hQ]
          exact sf_xiret (0, u_5.1, u_5.2.1, u_5.2.2.1, u_5.2.2.2.1, u_5.2.2.2.2.1, u_5.2.2.2.2.2.1, u_5.2.2.2.2.2.2) hx hb hr hlk hS rfl rfl rfl (by simp only [f_SF_told, ← hu_5, eq_false c_1, eq_true c_2, eq_true c_3, eq_false hw0, eq_true hw, ↓reduceIte]) hP d_SF_told_83
        · rw [hw]
          have hw0 : ¬ wt = 0 := by rw [hw]; decide
          have hw1 : ¬ wt = 1 := by rw [hw]; decide
          refine lv_tableIn (tgt := 84) (off := 42) hx hb d_SF_told_42 (by decide) (by decide) (by decide) (by decide) ?_
          refine lv_aload_n hx hb d_SF_told_84 rfl (lv_at hl 0 rfl) ?_
          refine lv_aload_n hx hb d_SF_told_85 rfl (lv_at hl 0 rfl) ?_
          refine sf_callVw (S := Int32) (rest := [.ref (q 0)]) ⟨hx, hb, hml, hown, hts⟩ (c_SF_countingTable l D cI cZ cJ q fl sl tb np nt cp cc cb ch cm mp mc mb mh mm us ta tp tl cu bl pf sh) (sf_cwV lk_SF_179 hts (fun _ h => h) (by rw [hR]; exact ⟨Nat.le_of_ble_eq_true rfl, Nat.le_of_ble_eq_true rfl⟩)) hK hP hD hS hA (fun _ => by simp only [sf_w_fst]) (ci := 2) (q0 := 0) rfl rfl rfl rfl rfl hl.1 (Nat.le_of_ble_eq_true rfl) d_SF_told_86 ⟨Nat.zero_le _, Nat.zero_le _⟩ (fun u_6 H locs hu_6 hP hD hS => ?_)
          have hP : va_P D classes (sf_w q cI cZ fl sl tb np nt cp cc cb ch cm mp mc mb mh mm us ta tp tl cu bl pf sh) H := hP
          have hD : va_D A (sf_w q cI cZ fl sl tb np nt cp cc cb ch cm mp mc mb mh mm us ta tp tl cu bl pf sh) := hD
          refine sf_callVw (S := Int32) (rest := []) ⟨hx, hb, hml, hown, hts⟩ (c_SF_numberOf l D cI cZ cJ q fl sl tb np nt cp cc cb ch cm mp mc mb mh mm us ta tp tl cu bl pf sh u_6) (sf_cwV lk_SF_182 hts (fun _ h => h) (by rw [hR]; exact ⟨Nat.le_of_ble_eq_true rfl, Nat.le_of_ble_eq_true rfl⟩)) hK hP hD hS hA (fun _ => by simp only [sf_w_fst]) (ci := 2) (q0 := 0) rfl rfl rfl rfl rfl hl.1 (Nat.le_of_ble_eq_true rfl) d_SF_told_89 ⟨Nat.zero_le _, Nat.zero_le _⟩ (fun u_7 H locs hu_7 hP hD hS => ?_)
          have hP : va_P D classes (sf_w q cI cZ fl sl tb np nt cp cc cb ch cm mp mc mb mh mm us ta tp tl cu bl pf sh) H := hP
          have hD : va_D A (sf_w q cI cZ fl sl tb np nt cp cc cb ch cm mp mc mb mh mm us ta tp tl cu bl pf sh) := hD
          rw [hQ]
          exact sf_xiret (0, u_7, us, mp, mc, mb, mh, mm) hx hb hr hlk hS rfl rfl rfl (by simp only [f_SF_told, ← hu_6, ← hu_7, eq_false c_1, eq_true c_2, eq_true c_3, eq_false hw0, eq_false hw1, eq_true hw, ↓reduceIte]) hP d_SF_told_92
        · rw [hw]
          have hw0 : ¬ wt = 0 := by rw [hw]; decide
          have hw1 : ¬ wt = 1 := by rw [hw]; decide
          have hw2 : ¬ wt = 2 := by rw [hw]; decide
          refine lv_tableIn (tgt := 93) (off := 51) hx hb d_SF_told_42 (by decide) (by decide) (by decide) (by decide) ?_
          refine lv_aload_n hx hb d_SF_told_93 rfl (lv_at hl 0 rfl) ?_
          refine sf_callVw (S := Int32) (rest := []) ⟨hx, hb, hml, hown, hts⟩ (c_SF_countingTable l D cI cZ cJ q fl sl tb np nt cp cc cb ch cm mp mc mb mh mm us ta tp tl cu bl pf sh) (sf_cwV lk_SF_179 hts (fun _ h => h) (by rw [hR]; exact ⟨Nat.le_of_ble_eq_true rfl, Nat.le_of_ble_eq_true rfl⟩)) hK hP hD hS hA (fun _ => by simp only [sf_w_fst]) (ci := 2) (q0 := 0) rfl rfl rfl rfl rfl hl.1 (Nat.le_of_ble_eq_true rfl) d_SF_told_94 ⟨Nat.zero_le _, Nat.zero_le _⟩ (fun u_8 H locs hu_8 hP hD hS => ?_)
          have hP : va_P D classes (sf_w q cI cZ fl sl tb np nt cp cc cb ch cm mp mc mb mh mm us ta tp tl cu bl pf sh) H := hP
          have hD : va_D A (sf_w q cI cZ fl sl tb np nt cp cc cb ch cm mp mc mb mh mm us ta tp tl cu bl pf sh) := hD
          rw [hQ]
          exact sf_xiret (0, u_8, us, mp, mc, mb, mh, mm) hx hb hr hlk hS rfl rfl rfl (by simp only [f_SF_told, ← hu_8, eq_false c_1, eq_true c_2, eq_true c_3, eq_false hw0, eq_false hw1, eq_false hw2, eq_true hw, ↓reduceIte]) hP d_SF_told_97
        · rw [hw]
          have hw0 : ¬ wt = 0 := by rw [hw]; decide
          have hw1 : ¬ wt = 1 := by rw [hw]; decide
          have hw2 : ¬ wt = 2 := by rw [hw]; decide
          have hw3 : ¬ wt = 3 := by rw [hw]; decide
          refine lv_tableOut (tgt := 98) hx hb d_SF_told_42 (Or.inr (by decide)) (by decide) ?_
          refine lv_aload_n hx hb d_SF_told_98 rfl (lv_at hl 0 rfl) ?_
          refine va_get (D := D) (ci := 2) (v := .int tl) (C := R_SF) (T := F_SF) (N := 15) hx hb hts i_SF hown hK hP 0 rfl rfl 10 (by decide) (hts _ wd_120) (fun _ h9 => h9) rfl d_SF_told_99 ?_
          rw [hQ]
          exact sf_xiret (0, tl, us, mp, mc, mb, mh, mm) hx hb hr hlk hS rfl rfl rfl (by simp only [f_SF_told, eq_false c_1, eq_true c_2, eq_true c_3, eq_false hw0, eq_false hw1, eq_false hw2, eq_false hw3, ↓reduceIte]) hP d_SF_told_102
      · refine lv_iload_n hx hb d_SF_told_26 rfl (lv_at hl 1 rfl) ?_
        refine lv_iconst (v := 4) hx hb d_SF_told_27 (by decide) ?_
        refine lv_icmp_eq (tgt := 41) hx hb d_SF_told_28 (by decide) (fun c_9 => ?_) (fun c_9 => ?_)
        · refine lv_iload_n hx hb d_SF_told_41 rfl (lv_at hl 1 rfl) ?_
          rcases sf_five c_1 c_2 with hw | hw | hw | hw | hw
          · rw [hw]
            refine lv_tableIn (tgt := 72) (off := 30) hx hb d_SF_told_42 (by decide) (by decide) (by decide) (by decide) ?_
            refine lv_aload_n hx hb d_SF_told_72 rfl (lv_at hl 0 rfl) ?_
            refine lv_iconst (v := 0) hx hb d_SF_told_73 (by decide) ?_
            refine sf_callVw (S := (Int32 × (Nat → Int32) × (Nat → Int32) × Int32 × Int32 × Int32 × Int32)) (rest := []) ⟨hx, hb, hml, hown, hts⟩ (c_SF_countFree_0 l D cI cZ cJ q fl sl tb np nt cp cc cb ch cm mp mc mb mh mm us ta tp tl cu bl pf sh) (sf_cwV lk_SF_175 hts (fun _ h => h) (by rw [hR]; exact ⟨Nat.le_of_ble_eq_true rfl, Nat.le_of_ble_eq_true rfl⟩)) hK hP hD hS hA (fun _ => by simp only [sf_w_fst]) (ci := 2) (q0 := 0) rfl rfl rfl rfl rfl hl.1 (Nat.le_of_ble_eq_true rfl) d_SF_told_74 ⟨Nat.zero_le _, Nat.zero_le _⟩ (fun u_10 H locs hu_10 hP hD hS => ?_)
            have hP : va_P D classes (sf_w q cI cZ fl sl tb np nt cp cc cb ch cm u_10.2.2.1 u_10.2.2.2.1 u_10.2.2.2.2.1 u_10.2.2.2.2.2.1 u_10.2.2.2.2.2.2 u_10.2.1 ta tp tl cu bl pf sh) H := hP
            have hD : va_D A (sf_w q cI cZ fl sl tb np nt cp cc cb ch cm u_10.2.2.1 u_10.2.2.2.1 u_10.2.2.2.2.1 u_10.2.2.2.2.2.1 u_10.2.2.2.2.2.2 u_10.2.1 ta tp tl cu bl pf sh) := hD
            rw [hQ]
            exact sf_xiret (0, u_10.1, u_10.2.1, u_10.2.2.1, u_10.2.2.2.1, u_10.2.2.2.2.1, u_10.2.2.2.2.2.1, u_10.2.2.2.2.2.2) hx hb hr hlk hS rfl rfl rfl (by simp only [f_SF_told, ← hu_10, eq_false c_1, eq_true c_2, eq_false c_3, eq_true c_9, eq_true hw, ↓reduceIte]) hP d_SF_told_77
          · rw [hw]
            have hw0 : ¬ wt = 0 := by rw [hw]; decide
            refine lv_tableIn (tgt := 78) (off := 36) hx hb d_SF_told_42 (by decide) (by decide) (by decide) (by decide) ?_
            refine lv_aload_n hx hb d_SF_told_78 rfl (lv_at hl 0 rfl) ?_
            refine lv_iconst (v := 1) hx hb d_SF_told_79 (by decide) ?_
            refine sf_callVw (S := (Int32 × (Nat → Int32) × (Nat → Int32) × Int32 × Int32 × Int32 × Int32)) (rest := []) ⟨hx, hb, hml, hown, hts⟩ (c_SF_countFree_1 l D cI cZ cJ q fl sl tb np nt cp cc cb ch cm mp mc mb mh mm us ta tp tl cu bl pf sh) (sf_cwV lk_SF_175 hts (fun _ h => h) (by rw [hR]; exact ⟨Nat.le_of_ble_eq_true rfl, Nat.le_of_ble_eq_true rfl⟩)) hK hP hD hS hA (fun _ => by simp only [sf_w_fst]) (ci := 2) (q0 := 0) rfl rfl rfl rfl rfl hl.1 (Nat.le_of_ble_eq_true rfl) d_SF_told_80 ⟨Nat.zero_le _, Nat.zero_le _⟩ (fun u_11 H locs hu_11 hP hD hS => ?_)
            have hP : va_P D classes (sf_w q cI cZ fl sl tb np nt cp cc cb ch cm u_11.2.2.1 u_11.2.2.2.1 u_11.2.2.2.2.1 u_11.2.2.2.2.2.1 u_11.2.2.2.2.2.2 u_11.2.1 ta tp tl cu bl pf sh) H := hP
            have hD : va_D A (sf_w q cI cZ fl sl tb np nt cp cc cb ch cm u_11.2.2.1 u_11.2.2.2.1 u_11.2.2.2.2.1 u_11.2.2.2.2.2.1 u_11.2.2.2.2.2.2 u_11.2.1 ta tp tl cu bl pf sh) := hD
            rw [hQ]
            exact sf_xiret (0, u_11.1, u_11.2.1, u_11.2.2.1, u_11.2.2.2.1, u_11.2.2.2.2.1, u_11.2.2.2.2.2.1, u_11.2.2.2.2.2.2) hx hb hr hlk hS rfl rfl rfl (by simp only [f_SF_told, ← hu_11, eq_false c_1, eq_true c_2, eq_false c_3, eq_true c_9, eq_false hw0, eq_true hw, ↓reduceIte]) hP d_SF_told_83
          · rw [hw]
            have hw0 : ¬ wt = 0 := by rw [hw]; decide
            have hw1 : ¬ wt = 1 := by rw [hw]; decide
            refine lv_tableIn (tgt := 84) (off := 42) hx hb d_SF_told_42 (by decide) (by decide) (by decide) (by decide) ?_
            refine lv_aload_n hx hb d_SF_told_84 rfl (lv_at hl 0 rfl) ?_
            refine lv_aload_n hx hb d_SF_told_85 rfl (lv_at hl 0 rfl) ?_
            refine sf_callVw (S := Int32) (rest := [.ref (q 0)]) ⟨hx, hb, hml, hown, hts⟩ (c_SF_countingTable l D cI cZ cJ q fl sl tb np nt cp cc cb ch cm mp mc mb mh mm us ta tp tl cu bl pf sh) (sf_cwV lk_SF_179 hts (fun _ h => h) (by rw [hR]; exact ⟨Nat.le_of_ble_eq_true rfl, Nat.le_of_ble_eq_true rfl⟩)) hK hP hD hS hA (fun _ => by simp only [sf_w_fst]) (ci := 2) (q0 := 0) rfl rfl rfl rfl rfl hl.1 (Nat.le_of_ble_eq_true rfl) d_SF_told_86 ⟨Nat.zero_le _, Nat.zero_le _⟩ (fun u_12 H locs hu_12 hP hD hS => ?_)
            have hP : va_P D classes (sf_w q cI cZ fl sl tb np nt cp cc cb ch cm mp mc mb mh mm us ta tp tl cu bl pf sh) H := hP
            have hD : va_D A (sf_w q cI cZ fl sl tb np nt cp cc cb ch cm mp mc mb mh mm us ta tp tl cu bl pf sh) := hD
            refine sf_callVw (S := Int32) (rest := []) ⟨hx, hb, hml, hown, hts⟩ (c_SF_numberOf l D cI cZ cJ q fl sl tb np nt cp cc cb ch cm mp mc mb mh mm us ta tp tl cu bl pf sh u_12) (sf_cwV lk_SF_182 hts (fun _ h => h) (by rw [hR]; exact ⟨Nat.le_of_ble_eq_true rfl, Nat.le_of_ble_eq_true rfl⟩)) hK hP hD hS hA (fun _ => by simp only [sf_w_fst]) (ci := 2) (q0 := 0) rfl rfl rfl rfl rfl hl.1 (Nat.le_of_ble_eq_true rfl) d_SF_told_89 ⟨Nat.zero_le _, Nat.zero_le _⟩ (fun u_13 H locs hu_13 hP hD hS => ?_)
            have hP : va_P D classes (sf_w q cI cZ fl sl tb np nt cp cc cb ch cm mp mc mb mh mm us ta tp tl cu bl pf sh) H := hP
            have hD : va_D A (sf_w q cI cZ fl sl tb np nt cp cc cb ch cm mp mc mb mh mm us ta tp tl cu bl pf sh) := hD
            rw [hQ]
            exact sf_xiret (0, u_13, us, mp, mc, mb, mh, mm) hx hb hr hlk hS rfl rfl rfl (by simp only [f_SF_told, ← hu_12, ← hu_13, eq_false c_1, eq_true c_2, eq_false c_3, eq_true c_9, eq_false hw0, eq_false hw1, eq_true hw, ↓reduceIte]) hP d_SF_told_92
          · rw [hw]
            have hw0 : ¬ wt = 0 := by rw [hw]; decide
            have hw1 : ¬ wt = 1 := by rw [hw]; decide
            have hw2 : ¬ wt = 2 := by rw [hw]; decide
            refine lv_tableIn (tgt := 93) (off := 51) hx hb d_SF_told_42 (by decide) (by decide) (by decide) (by decide) ?_
            refine lv_aload_n hx hb d_SF_told_93 rfl (lv_at hl 0 rfl) ?_
            refine sf_callVw (S := Int32) (rest := []) ⟨hx, hb, hml, hown, hts⟩ (c_SF_countingTable l D cI cZ cJ q fl sl tb np nt cp cc cb ch cm mp mc mb mh mm us ta tp tl cu bl pf sh) (sf_cwV lk_SF_179 hts (fun _ h => h) (by rw [hR]; exact ⟨Nat.le_of_ble_eq_true rfl, Nat.le_of_ble_eq_true rfl⟩)) hK hP hD hS hA (fun _ => by simp only [sf_w_fst]) (ci := 2) (q0 := 0) rfl rfl rfl rfl rfl hl.1 (Nat.le_of_ble_eq_true rfl) d_SF_told_94 ⟨Nat.zero_le _, Nat.zero_le _⟩ (fun u_14 H locs hu_14 hP hD hS => ?_)
            have hP : va_P D classes (sf_w q cI cZ fl sl tb np nt cp cc cb ch cm mp mc mb mh mm us ta tp tl cu bl pf sh) H := hP
            have hD : va_D A (sf_w q cI cZ fl sl tb np nt cp cc cb ch cm mp mc mb mh mm us ta tp tl cu bl pf sh) := hD
            rw [hQ]
            exact sf_xiret (0, u_14, us, mp, mc, mb, mh, mm) hx hb hr hlk hS rfl rfl rfl (by simp only [f_SF_told, ← hu_14, eq_false c_1, eq_true c_2, eq_false c_3, eq_true c_9, eq_false hw0, eq_false hw1, eq_false hw2, eq_true hw, ↓reduceIte]) hP d_SF_told_97
          · rw [hw]
            have hw0 : ¬ wt = 0 := by rw [hw]; decide
            have hw1 : ¬ wt = 1 := by rw [hw]; decide
            have hw2 : ¬ wt = 2 := by rw [hw]; decide
            have hw3 : ¬ wt = 3 := by rw [hw]; decide
            refine lv_tableOut (tgt := 98) hx hb d_SF_told_42 (Or.inr (by decide)) (by decide) ?_
            refine lv_aload_n hx hb d_SF_told_98 rfl (lv_at hl 0 rfl) ?_
            refine va_get (D := D) (ci := 2) (v := .int tl) (C := R_SF) (T := F_SF) (N := 15) hx hb hts i_SF hown hK hP 0 rfl rfl 10 (by decide) (hts _ wd_120) (fun _ h9 => h9) rfl d_SF_told_99 ?_
            rw [hQ]
            exact sf_xiret (0, tl, us, mp, mc, mb, mh, mm) hx hb hr hlk hS rfl rfl rfl (by simp only [f_SF_told, eq_false c_1, eq_true c_2, eq_false c_3, eq_true c_9, eq_false hw0, eq_false hw1, eq_false hw2, eq_false hw3, ↓reduceIte]) hP d_SF_told_102
        · rw [hQ]
          exact sf_xthrow (text := "the file is shut") (u := (2, 0, us, mp, mc, mb, mh, mm)) hx hb hst hml hown hts hE hex xk_87_91 xs_130 hlk hS (show ¬ (2 : Int32) = 0 by decide) (show _ = sf_en 2 by decide) (by simp only [f_SF_told, eq_false c_1, eq_true c_2, eq_false c_3, eq_false c_9, ↓reduceIte]) hP hl.1 (by rw [hR]; exact ⟨Nat.le_of_ble_eq_true rfl, Nat.le_of_ble_eq_true rfl, Nat.le_refl _, Nat.le_refl _⟩) d_SF_told_31 d_SF_told_34 d_SF_told_35 d_SF_told_37 d_SF_told_40
    · rw [hQ]
      exact sf_xthrow (text := "no such what") (u := (1, 0, us, mp, mc, mb, mh, mm)) hx hb hst hml hown hts hE hex xk_78_82 xs_173 hlk hS (show ¬ (1 : Int32) = 0 by decide) (show _ = sf_en 1 by decide) (by simp only [f_SF_told, eq_false c_1, eq_false c_2, ↓reduceIte]) hP hl.1 (by rw [hR]; exact ⟨Nat.le_of_ble_eq_true rfl, Nat.le_of_ble_eq_true rfl, Nat.le_refl _, Nat.le_refl _⟩) d_SF_told_9 d_SF_told_12 d_SF_told_13 d_SF_told_15 d_SF_told_18
def f_SF_wrong (fl : Nat → Int32) (sl : Nat → Int32) (tb : Nat → Int32) (mp : Nat → Int32) (mc : Int32) (mb : Int32) (mh : Int32) (mm : Int32) (us : Nat → Int32) (wt : Int32) (wk : Int32) : (Int32 × Int32 × (Nat → Int32) × (Nat → Int32) × Int32 × Int32 × Int32 × Int32) :=
  if wt < 0 then
    (1, 0, us, mp, mc, mb, mh, mm)
  else
    if 2 < wt then
      (1, 0, us, mp, mc, mb, mh, mm)
    else
      if 0 ≤ wk then
        if wt = 2 then
          (0, (f_SF_wrongTable tb wk), us, mp, mc, mb, mh, mm)
        else
          if wt = 1 then
            (0, (f_SF_wrongPlace_1 sl tb mp mc mb mh mm us wk).1, (f_SF_wrongPlace_1 sl tb mp mc mb mh mm us wk).2.1, (f_SF_wrongPlace_1 sl tb mp mc mb mh mm us wk).2.2.1, (f_SF_wrongPlace_1 sl tb mp mc mb mh mm us wk).2.2.2.1, (f_SF_wrongPlace_1 sl tb mp mc mb mh mm us wk).2.2.2.2.1, (f_SF_wrongPlace_1 sl tb mp mc mb mh mm us wk).2.2.2.2.2.1, (f_SF_wrongPlace_1 sl tb mp mc mb mh mm us wk).2.2.2.2.2.2)
          else
            (0, (f_SF_wrongPlace_0 fl tb mp mc mb mh mm us wk).1, (f_SF_wrongPlace_0 fl tb mp mc mb mh mm us wk).2.1, (f_SF_wrongPlace_0 fl tb mp mc mb mh mm us wk).2.2.1, (f_SF_wrongPlace_0 fl tb mp mc mb mh mm us wk).2.2.2.1, (f_SF_wrongPlace_0 fl tb mp mc mb mh mm us wk).2.2.2.2.1, (f_SF_wrongPlace_0 fl tb mp mc mb mh mm us wk).2.2.2.2.2.1, (f_SF_wrongPlace_0 fl tb mp mc mb mh mm us wk).2.2.2.2.2.2)
      else
        (1, 0, us, mp, mc, mb, mh, mm)
set_option maxHeartbeats 1000000 in
set_option maxRecDepth 100000 in
/-- wrong -/
theorem c_SF_wrong (l : Launch) (D : va_G) (cI cZ cJ : ClassId) (hst : l.stackTraces = false) (q : Nat → Nat) (fl : Nat → Int32) (sl : Nat → Int32) (tb : Nat → Int32) (np : Nat → Int32) (nt : Nat → Int32) (cp : Nat → Int32) (cc : Int32) (cb : Int32) (ch : Int32) (cm : Int32) (mp : Nat → Int32) (mc : Int32) (mb : Int32) (mh : Int32) (mm : Int32) (us : Nat → Int32) (ta : Nat → Int32) (tp : Nat → Int32) (tl : Int32) (cu : Int32) (bl : Int32) (pf : Int32) (sh : Int32) (wt : Int32) (wk : Int32) : sf_XM (S := (Int32 × Int32 × (Nat → Int32) × (Nat → Int32) × Int32 × Int32 × Int32 × Int32)) l D classes (sf_tys cI cZ cJ) y_SF_wrong (sf_ws y_SF_wrong b_SF_wrong 3 (some .int)) 6 146 [.ref (q 0), .int wt, .int wk] (sf_w q cI cZ fl sl tb np nt cp cc cb ch cm mp mc mb mh mm us ta tp tl cu bl pf sh) (fun r => r.1) (fun r => some (.int r.2.1)) (fun r => r = f_SF_wrong fl sl tb mp mc mb mh mm us wt wk) (fun r => (sf_w q cI cZ fl sl tb np nt cp cc cb ch cm r.2.2.2.1 r.2.2.2.2.1 r.2.2.2.2.2.1 r.2.2.2.2.2.2.1 r.2.2.2.2.2.2.2 r.2.2.1 ta tp tl cu bl pf sh)) := by
  refine sf_xofW (S := (Int32 × Int32 × (Nat → Int32) × (Nat → Int32) × Int32 × Int32 × Int32 × Int32)) (by decide) (Nat.le_of_ble_eq_true rfl) ?_
  intro p e s m below meth c A ls R args Q hR hArgs hQ hC0 hr hex hE hK hP hD hl
  obtain ⟨hx, hb, hml, hown, hts, hA, hlk⟩ := hC0
  have hS : va_S A s.heap s.heap [] := va_S.rf
  have hl : lv_has ls 3 [(0, .ref (q 0)), (1, .int wt), (2, .int wk)] := hl
  refine lv_iload_n hx hb d_SF_wrong_0 rfl (lv_at hl 1 rfl) ?_
  refine lv_if_lt (tgt := 13) hx hb d_SF_wrong_1 (by decide) (fun c_1 => ?_) (fun c_1 => ?_)
  · rw [hQ]
    exact sf_xthrow (text := "no such what, or k is below 0") (u := (1, 0, us, mp, mc, mb, mh, mm)) hx hb hst hml hown hts hE hex xk_78_82 xs_185 hlk hS (show ¬ (1 : Int32) = 0 by decide) (show _ = sf_en 1 by decide) (by simp only [f_SF_wrong, eq_true c_1, ↓reduceIte]) hP hl.1 (by rw [hR]; exact ⟨Nat.le_of_ble_eq_true rfl, Nat.le_of_ble_eq_true rfl, Nat.le_refl _, Nat.le_refl _⟩) d_SF_wrong_13 d_SF_wrong_16 d_SF_wrong_17 d_SF_wrong_19 d_SF_wrong_22
  · refine lv_iload_n hx hb d_SF_wrong_4 rfl (lv_at hl 1 rfl) ?_
    refine lv_iconst (v := 2) hx hb d_SF_wrong_5 (by decide) ?_
    refine lv_icmp_gt (tgt := 13) hx hb d_SF_wrong_6 (by decide) (fun c_2 => ?_) (fun c_2 => ?_)
    · rw [hQ]
      exact sf_xthrow (text := "no such what, or k is below 0") (u := (1, 0, us, mp, mc, mb, mh, mm)) hx hb hst hml hown hts hE hex xk_78_82 xs_185 hlk hS (show ¬ (1 : Int32) = 0 by decide) (show _ = sf_en 1 by decide) (by simp only [f_SF_wrong, eq_false c_1, eq_true c_2, ↓reduceIte]) hP hl.1 (by rw [hR]; exact ⟨Nat.le_of_ble_eq_true rfl, Nat.le_of_ble_eq_true rfl, Nat.le_refl _, Nat.le_refl _⟩) d_SF_wrong_13 d_SF_wrong_16 d_SF_wrong_17 d_SF_wrong_19 d_SF_wrong_22
    · refine lv_iload_n hx hb d_SF_wrong_9 rfl (lv_at hl 2 rfl) ?_
      refine lv_if_ge (tgt := 23) hx hb d_SF_wrong_10 (by decide) (fun c_3 => ?_) (fun c_3 => ?_)
      · refine lv_iload_n hx hb d_SF_wrong_23 rfl (lv_at hl 1 rfl) ?_
        refine lv_iconst (v := 2) hx hb d_SF_wrong_24 (by decide) ?_
        refine lv_icmp_ne (tgt := 36) hx hb d_SF_wrong_25 (by decide) (fun c_4 => ?_) (fun c_4 => ?_)
        · refine lv_aload_n hx hb d_SF_wrong_36 rfl (lv_at hl 0 rfl) ?_
          refine lv_iload_n hx hb d_SF_wrong_37 rfl (lv_at hl 1 rfl) ?_
          refine lv_iconst (v := 1) hx hb d_SF_wrong_38 (by decide) ?_
          refine lv_icmp_ne (tgt := 46) hx hb d_SF_wrong_39 (by decide) (fun c_5 => ?_) (fun c_5 => ?_)
          · refine lv_iconst (v := 0) hx hb d_SF_wrong_46 (by decide) ?_
            refine lv_iload_n hx hb d_SF_wrong_47 rfl (lv_at hl 2 rfl) ?_
            refine sf_callVw (S := (Int32 × (Nat → Int32) × (Nat → Int32) × Int32 × Int32 × Int32 × Int32)) (rest := []) ⟨hx, hb, hml, hown, hts⟩ (c_SF_wrongPlace_0 l D cI cZ cJ q fl sl tb np nt cp cc cb ch cm mp mc mb mh mm us ta tp tl cu bl pf sh wk) (sf_cwV lk_SF_190 hts (fun _ h => h) (by rw [hR]; exact ⟨Nat.le_of_ble_eq_true rfl, Nat.le_of_ble_eq_true rfl⟩)) hK hP hD hS hA (fun _ => by simp only [sf_w_fst]) (ci := 2) (q0 := 0) rfl rfl rfl rfl rfl hl.1 (Nat.le_of_ble_eq_true rfl) d_SF_wrong_48 ⟨Nat.zero_le _, Nat.zero_le _⟩ (fun u_6 H locs hu_6 hP hD hS => ?_)
            have hP : va_P D classes (sf_w q cI cZ fl sl tb np nt cp cc cb ch cm u_6.2.2.1 u_6.2.2.2.1 u_6.2.2.2.2.1 u_6.2.2.2.2.2.1 u_6.2.2.2.2.2.2 u_6.2.1 ta tp tl cu bl pf sh) H := hP
            have hD : va_D A (sf_w q cI cZ fl sl tb np nt cp cc cb ch cm u_6.2.2.1 u_6.2.2.2.1 u_6.2.2.2.2.1 u_6.2.2.2.2.2.1 u_6.2.2.2.2.2.2 u_6.2.1 ta tp tl cu bl pf sh) := hD
            rw [hQ]
            exact sf_xiret (0, u_6.1, u_6.2.1, u_6.2.2.1, u_6.2.2.2.1, u_6.2.2.2.2.1, u_6.2.2.2.2.2.1, u_6.2.2.2.2.2.2) hx hb hr hlk hS rfl rfl rfl (by simp only [f_SF_wrong, ← hu_6, eq_false c_1, eq_false c_2, eq_true c_3, eq_false c_4, eq_false c_5, ↓reduceIte]) hP d_SF_wrong_51
          · refine lv_iconst (v := 1) hx hb d_SF_wrong_42 (by decide) ?_
            refine lv_goto (tgt := 47) hx hb d_SF_wrong_43 (by decide) ?_
            refine lv_iload_n hx hb d_SF_wrong_47 rfl (lv_at hl 2 rfl) ?_
            refine sf_callVw (S := (Int32 × (Nat → Int32) × (Nat → Int32) × Int32 × Int32 × Int32 × Int32)) (rest := []) ⟨hx, hb, hml, hown, hts⟩ (c_SF_wrongPlace_1 l D cI cZ cJ q fl sl tb np nt cp cc cb ch cm mp mc mb mh mm us ta tp tl cu bl pf sh wk) (sf_cwV lk_SF_190 hts (fun _ h => h) (by rw [hR]; exact ⟨Nat.le_of_ble_eq_true rfl, Nat.le_of_ble_eq_true rfl⟩)) hK hP hD hS hA (fun _ => by simp only [sf_w_fst]) (ci := 2) (q0 := 0) rfl rfl rfl rfl rfl hl.1 (Nat.le_of_ble_eq_true rfl) d_SF_wrong_48 ⟨Nat.zero_le _, Nat.zero_le _⟩ (fun u_7 H locs hu_7 hP hD hS => ?_)
            have hP : va_P D classes (sf_w q cI cZ fl sl tb np nt cp cc cb ch cm u_7.2.2.1 u_7.2.2.2.1 u_7.2.2.2.2.1 u_7.2.2.2.2.2.1 u_7.2.2.2.2.2.2 u_7.2.1 ta tp tl cu bl pf sh) H := hP
            have hD : va_D A (sf_w q cI cZ fl sl tb np nt cp cc cb ch cm u_7.2.2.1 u_7.2.2.2.1 u_7.2.2.2.2.1 u_7.2.2.2.2.2.1 u_7.2.2.2.2.2.2 u_7.2.1 ta tp tl cu bl pf sh) := hD
            rw [hQ]
            exact sf_xiret (0, u_7.1, u_7.2.1, u_7.2.2.1, u_7.2.2.2.1, u_7.2.2.2.2.1, u_7.2.2.2.2.2.1, u_7.2.2.2.2.2.2) hx hb hr hlk hS rfl rfl rfl (by simp only [f_SF_wrong, ← hu_7, eq_false c_1, eq_false c_2, eq_true c_3, eq_false c_4, eq_true c_5, ↓reduceIte]) hP d_SF_wrong_51
        · refine lv_aload_n hx hb d_SF_wrong_28 rfl (lv_at hl 0 rfl) ?_
          refine lv_iload_n hx hb d_SF_wrong_29 rfl (lv_at hl 2 rfl) ?_
          refine sf_callVw (S := Int32) (rest := []) ⟨hx, hb, hml, hown, hts⟩ (c_SF_wrongTable l D cI cZ cJ q fl sl tb np nt cp cc cb ch cm mp mc mb mh mm us ta tp tl cu bl pf sh wk) (sf_cwV lk_SF_187 hts (fun _ h => h) (by rw [hR]; exact ⟨Nat.le_of_ble_eq_true rfl, Nat.le_of_ble_eq_true rfl⟩)) hK hP hD hS hA (fun _ => by simp only [sf_w_fst]) (ci := 2) (q0 := 0) rfl rfl rfl rfl rfl hl.1 (Nat.le_of_ble_eq_true rfl) d_SF_wrong_30 ⟨Nat.zero_le _, Nat.zero_le _⟩ (fun u_8 H locs hu_8 hP hD hS => ?_)
          have hP : va_P D classes (sf_w q cI cZ fl sl tb np nt cp cc cb ch cm mp mc mb mh mm us ta tp tl cu bl pf sh) H := hP
          have hD : va_D A (sf_w q cI cZ fl sl tb np nt cp cc cb ch cm mp mc mb mh mm us ta tp tl cu bl pf sh) := hD
          refine lv_goto (tgt := 51) hx hb d_SF_wrong_33 (by decide) ?_
          rw [hQ]
          exact sf_xiret (0, u_8, us, mp, mc, mb, mh, mm) hx hb hr hlk hS rfl rfl rfl (by simp only [f_SF_wrong, ← hu_8, eq_false c_1, eq_false c_2, eq_true c_3, eq_true c_4, ↓reduceIte]) hP d_SF_wrong_51
      · rw [hQ]
        exact sf_xthrow (text := "no such what, or k is below 0") (u := (1, 0, us, mp, mc, mb, mh, mm)) hx hb hst hml hown hts hE hex xk_78_82 xs_185 hlk hS (show ¬ (1 : Int32) = 0 by decide) (show _ = sf_en 1 by decide) (by simp only [f_SF_wrong, eq_false c_1, eq_false c_2, eq_false c_3, ↓reduceIte]) hP hl.1 (by rw [hR]; exact ⟨Nat.le_of_ble_eq_true rfl, Nat.le_of_ble_eq_true rfl, Nat.le_refl _, Nat.le_refl _⟩) d_SF_wrong_13 d_SF_wrong_16 d_SF_wrong_17 d_SF_wrong_19 d_SF_wrong_22
def f_SF_byteAt (fl : Nat → Int32) (sl : Nat → Int32) (tb : Nat → Int32) (wt : Int32) (i : Int32) : (Int32 × Int32) :=
  if (f_SF_hasByte wt i) = 0 then
    (1, 0)
  else
    if wt = 0 then
      (0, (f_Bl_get 768 fl (nI 32) 0 i))
    else
      if wt = 1 then
        (0, (f_Bl_get 512 sl (nI 32) 0 i))
      else
        (0, (f_Bl_get 80 tb (nI 40) 0 i))
set_option maxHeartbeats 1000000 in
set_option maxRecDepth 100000 in
/-- byteAt -/
theorem c_SF_byteAt (l : Launch) (D : va_G) (cI cZ cJ : ClassId) (hst : l.stackTraces = false) (q : Nat → Nat) (fl : Nat → Int32) (sl : Nat → Int32) (tb : Nat → Int32) (np : Nat → Int32) (nt : Nat → Int32) (cp : Nat → Int32) (cc : Int32) (cb : Int32) (ch : Int32) (cm : Int32) (mp : Nat → Int32) (mc : Int32) (mb : Int32) (mh : Int32) (mm : Int32) (us : Nat → Int32) (ta : Nat → Int32) (tp : Nat → Int32) (tl : Int32) (cu : Int32) (bl : Int32) (pf : Int32) (sh : Int32) (wt : Int32) (i : Int32) : sf_XM (S := (Int32 × Int32)) l D classes (sf_tys cI cZ cJ) y_SF_byteAt (sf_ws y_SF_byteAt b_SF_byteAt 3 (some .int)) 6 90 [.ref (q 0), .int wt, .int i] (sf_w q cI cZ fl sl tb np nt cp cc cb ch cm mp mc mb mh mm us ta tp tl cu bl pf sh) (fun r => r.1) (fun r => some (.int r.2)) (fun r => r = f_SF_byteAt fl sl tb wt i) (fun r => (sf_w q cI cZ fl sl tb np nt cp cc cb ch cm mp mc mb mh mm us ta tp tl cu bl pf sh)) := by
  refine sf_xofW (S := (Int32 × Int32)) (by decide) (Nat.le_of_ble_eq_true rfl) ?_
  intro p e s m below meth c A ls R args Q hR hArgs hQ hC0 hr hex hE hK hP hD hl
  obtain ⟨hx, hb, hml, hown, hts, hA, hlk⟩ := hC0
  have hS : va_S A s.heap s.heap [] := va_S.rf
  have hl : lv_has ls 3 [(0, .ref (q 0)), (1, .int wt), (2, .int i)] := hl
  refine lv_aload_n hx hb d_SF_byteAt_0 rfl (lv_at hl 0 rfl) ?_
  refine lv_iload_n hx hb d_SF_byteAt_1 rfl (lv_at hl 1 rfl) ?_
  refine lv_iload_n hx hb d_SF_byteAt_2 rfl (lv_at hl 2 rfl) ?_
  refine sf_callVw (S := Int32) (rest := []) ⟨hx, hb, hml, hown, hts⟩ (c_SF_hasByte l D cI cZ cJ q fl sl tb np nt cp cc cb ch cm mp mc mb mh mm us ta tp tl cu bl pf sh wt i) (sf_cwV lk_SF_194 hts (fun _ h => h) (by rw [hR]; exact ⟨Nat.le_of_ble_eq_true rfl, Nat.le_of_ble_eq_true rfl⟩)) hK hP hD hS hA (fun _ => by simp only [sf_w_fst]) (ci := 2) (q0 := 0) rfl rfl rfl rfl rfl hl.1 (Nat.le_of_ble_eq_true rfl) d_SF_byteAt_3 ⟨Nat.zero_le _, Nat.zero_le _⟩ (fun u_1 H locs hu_1 hP hD hS => ?_)
  have hP : va_P D classes (sf_w q cI cZ fl sl tb np nt cp cc cb ch cm mp mc mb mh mm us ta tp tl cu bl pf sh) H := hP
  have hD : va_D A (sf_w q cI cZ fl sl tb np nt cp cc cb ch cm mp mc mb mh mm us ta tp tl cu bl pf sh) := hD
  refine lv_if_ne (tgt := 19) hx hb d_SF_byteAt_6 (by decide) (fun c_2 => ?_) (fun c_2 => ?_)
  · refine lv_aload_n hx hb d_SF_byteAt_19 rfl (lv_at hl 0 rfl) ?_
    refine lv_iload_n hx hb d_SF_byteAt_20 rfl (lv_at hl 1 rfl) ?_
    rcases f_SF_hasByte_3 (by rw [← hu_1]; exact c_2) with hw | hw | hw
    · rw [hw]
      refine sf_callVw (S := Unit) (rest := []) ⟨hx, hb, hml, hown, hts⟩ (c_SF_partOf_0 l D cI cZ cJ q fl sl tb np nt cp cc cb ch cm mp mc mb mh mm us ta tp tl cu bl pf sh) (sf_cwV lk_SF_199 hts (fun _ h => h) (by rw [hR]; exact ⟨Nat.le_of_ble_eq_true rfl, Nat.le_of_ble_eq_true rfl⟩)) hK hP hD hS hA (fun _ => by simp only [sf_w_fst]) (ci := 2) (q0 := 0) rfl rfl rfl rfl rfl hl.1 (Nat.le_of_ble_eq_true rfl) d_SF_byteAt_21 ⟨Nat.zero_le _, Nat.zero_le _⟩ (fun u H locs hu hP hD hS => ?_)
      have hP : va_P D classes (sf_w q cI cZ fl sl tb np nt cp cc cb ch cm mp mc mb mh mm us ta tp tl cu bl pf sh) H := hP
      have hD : va_D A (sf_w q cI cZ fl sl tb np nt cp cc cb ch cm mp mc mb mh mm us ta tp tl cu bl pf sh) := hD
      refine lv_iconst (v := 0) hx hb d_SF_byteAt_24 (by decide) ?_
      refine lv_iload_n hx hb d_SF_byteAt_25 rfl (lv_at hl 2 rfl) ?_
      refine sf_callVr (S := Int32) (rest := []) ⟨hx, hb, hml, hown, hts⟩ (c_Bl_get l D cI cZ cJ (q 1) (q 2) 768 fl (nI 32) 0 i (by omega)) (sf_cwV lk_SF_203 hts (fun _ h => h) (by rw [hR]; exact ⟨Nat.le_of_ble_eq_true rfl, Nat.le_of_ble_eq_true rfl⟩)) hK hP hD hS hA [1, 2] rfl rfl (fun _ => rfl) (ci := 0) (q0 := 0) rfl rfl rfl rfl rfl hl.1 (Nat.le_of_ble_eq_true rfl) d_SF_byteAt_26 ⟨Nat.zero_le _, Nat.zero_le _⟩ (fun u_3 H locs hu_3 hP hS => ?_)
      rw [hQ]
      exact sf_xiret (0, u_3) hx hb hr hlk hS rfl rfl rfl (by simp only [f_SF_byteAt, ← hu_1, ← hu_3, eq_false c_2, eq_true hw, ↓reduceIte]) hP d_SF_byteAt_29
    · rw [hw]
      have hw0 : ¬ wt = 0 := by rw [hw]; decide
      refine sf_callVw (S := Unit) (rest := []) ⟨hx, hb, hml, hown, hts⟩ (c_SF_partOf_1 l D cI cZ cJ q fl sl tb np nt cp cc cb ch cm mp mc mb mh mm us ta tp tl cu bl pf sh) (sf_cwV lk_SF_199 hts (fun _ h => h) (by rw [hR]; exact ⟨Nat.le_of_ble_eq_true rfl, Nat.le_of_ble_eq_true rfl⟩)) hK hP hD hS hA (fun _ => by simp only [sf_w_fst]) (ci := 2) (q0 := 0) rfl rfl rfl rfl rfl hl.1 (Nat.le_of_ble_eq_true rfl) d_SF_byteAt_21 ⟨Nat.zero_le _, Nat.zero_le _⟩ (fun u H locs hu hP hD hS => ?_)
      have hP : va_P D classes (sf_w q cI cZ fl sl tb np nt cp cc cb ch cm mp mc mb mh mm us ta tp tl cu bl pf sh) H := hP
      have hD : va_D A (sf_w q cI cZ fl sl tb np nt cp cc cb ch cm mp mc mb mh mm us ta tp tl cu bl pf sh) := hD
      refine lv_iconst (v := 0) hx hb d_SF_byteAt_24 (by decide) ?_
      refine lv_iload_n hx hb d_SF_byteAt_25 rfl (lv_at hl 2 rfl) ?_
      refine sf_callVr (S := Int32) (rest := []) ⟨hx, hb, hml, hown, hts⟩ (c_Bl_get l D cI cZ cJ (q 3) (q 4) 512 sl (nI 32) 0 i (by omega)) (sf_cwV lk_SF_203 hts (fun _ h => h) (by rw [hR]; exact ⟨Nat.le_of_ble_eq_true rfl, Nat.le_of_ble_eq_true rfl⟩)) hK hP hD hS hA [3, 4] rfl rfl (fun _ => rfl) (ci := 0) (q0 := 0) rfl rfl rfl rfl rfl hl.1 (Nat.le_of_ble_eq_true rfl) d_SF_byteAt_26 ⟨Nat.zero_le _, Nat.zero_le _⟩ (fun u_4 H locs hu_4 hP hS => ?_)
      rw [hQ]
      exact sf_xiret (0, u_4) hx hb hr hlk hS rfl rfl rfl (by simp only [f_SF_byteAt, ← hu_1, ← hu_4, eq_false c_2, eq_false hw0, eq_true hw, ↓reduceIte]) hP d_SF_byteAt_29
    · rw [hw]
      have hw0 : ¬ wt = 0 := by rw [hw]; decide
      have hw1 : ¬ wt = 1 := by rw [hw]; decide
      refine sf_callVw (S := Unit) (rest := []) ⟨hx, hb, hml, hown, hts⟩ (c_SF_partOf_2 l D cI cZ cJ q fl sl tb np nt cp cc cb ch cm mp mc mb mh mm us ta tp tl cu bl pf sh) (sf_cwV lk_SF_199 hts (fun _ h => h) (by rw [hR]; exact ⟨Nat.le_of_ble_eq_true rfl, Nat.le_of_ble_eq_true rfl⟩)) hK hP hD hS hA (fun _ => by simp only [sf_w_fst]) (ci := 2) (q0 := 0) rfl rfl rfl rfl rfl hl.1 (Nat.le_of_ble_eq_true rfl) d_SF_byteAt_21 ⟨Nat.zero_le _, Nat.zero_le _⟩ (fun u H locs hu hP hD hS => ?_)
      have hP : va_P D classes (sf_w q cI cZ fl sl tb np nt cp cc cb ch cm mp mc mb mh mm us ta tp tl cu bl pf sh) H := hP
      have hD : va_D A (sf_w q cI cZ fl sl tb np nt cp cc cb ch cm mp mc mb mh mm us ta tp tl cu bl pf sh) := hD
      refine lv_iconst (v := 0) hx hb d_SF_byteAt_24 (by decide) ?_
      refine lv_iload_n hx hb d_SF_byteAt_25 rfl (lv_at hl 2 rfl) ?_
      refine sf_callVr (S := Int32) (rest := []) ⟨hx, hb, hml, hown, hts⟩ (c_Bl_get l D cI cZ cJ (q 5) (q 6) 80 tb (nI 40) 0 i (by omega)) (sf_cwV lk_SF_203 hts (fun _ h => h) (by rw [hR]; exact ⟨Nat.le_of_ble_eq_true rfl, Nat.le_of_ble_eq_true rfl⟩)) hK hP hD hS hA [5, 6] rfl rfl (fun _ => rfl) (ci := 0) (q0 := 0) rfl rfl rfl rfl rfl hl.1 (Nat.le_of_ble_eq_true rfl) d_SF_byteAt_26 ⟨Nat.zero_le _, Nat.zero_le _⟩ (fun u_5 H locs hu_5 hP hS => ?_)
      rw [hQ]
      exact sf_xiret (0, u_5) hx hb hr hlk hS rfl rfl rfl (by simp only [f_SF_byteAt, ← hu_1, ← hu_5, eq_false c_2, eq_false hw0, eq_false hw1, ↓reduceIte]) hP d_SF_byteAt_29
  · rw [hQ]
    exact sf_xthrow (text := "no such byte") (u := (1, 0)) hx hb hst hml hown hts hE hex xk_78_82 xs_197 hlk hS (show ¬ (1 : Int32) = 0 by decide) (show _ = sf_en 1 by decide) (by simp only [f_SF_byteAt, ← hu_1, eq_true c_2, ↓reduceIte]) hP hl.1 (by rw [hR]; exact ⟨Nat.le_of_ble_eq_true rfl, Nat.le_of_ble_eq_true rfl, Nat.le_refl _, Nat.le_refl _⟩) d_SF_byteAt_9 d_SF_byteAt_12 d_SF_byteAt_13 d_SF_byteAt_15 d_SF_byteAt_18
def f_SF_poke (fl : Nat → Int32) (sl : Nat → Int32) (tb : Nat → Int32) (sh : Int32) (wt : Int32) (i : Int32) (ma : Int32) : (Int32 × (Nat → Int32) × (Nat → Int32) × (Nat → Int32) × Int32) :=
  if (f_SF_hasByte wt i) = 0 then
    (1, fl, sl, tb, sh)
  else
    if ma < 1 then
      (3, fl, sl, tb, sh)
    else
      if ma ≤ 255 then
        if wt = 0 then
          (0, (f_Bl_set 768 fl (nI 32) 0 i ((f_Bl_get 768 fl (nI 32) 0 i) ^^^ ma)), sl, tb, 1)
        else
          if wt = 1 then
            (0, fl, (f_Bl_set 512 sl (nI 32) 0 i ((f_Bl_get 512 sl (nI 32) 0 i) ^^^ ma)), tb, 1)
          else
            (0, fl, sl, (f_Bl_set 80 tb (nI 40) 0 i ((f_Bl_get 80 tb (nI 40) 0 i) ^^^ ma)), 1)
      else
        (3, fl, sl, tb, sh)
set_option maxHeartbeats 1000000 in
set_option maxRecDepth 100000 in
/-- poke -/
theorem c_SF_poke (l : Launch) (D : va_G) (cI cZ cJ : ClassId) (hst : l.stackTraces = false) (q : Nat → Nat) (fl : Nat → Int32) (sl : Nat → Int32) (tb : Nat → Int32) (np : Nat → Int32) (nt : Nat → Int32) (cp : Nat → Int32) (cc : Int32) (cb : Int32) (ch : Int32) (cm : Int32) (mp : Nat → Int32) (mc : Int32) (mb : Int32) (mh : Int32) (mm : Int32) (us : Nat → Int32) (ta : Nat → Int32) (tp : Nat → Int32) (tl : Int32) (cu : Int32) (bl : Int32) (pf : Int32) (sh : Int32) (wt : Int32) (i : Int32) (ma : Int32) : sf_XM (S := (Int32 × (Nat → Int32) × (Nat → Int32) × (Nat → Int32) × Int32)) l D classes (sf_tys cI cZ cJ) y_SF_poke (sf_ws y_SF_poke b_SF_poke 5 none) 6 90 [.ref (q 0), .int wt, .int i, .int ma] (sf_w q cI cZ fl sl tb np nt cp cc cb ch cm mp mc mb mh mm us ta tp tl cu bl pf sh) (fun r => r.1) (fun _ => none) (fun r => r = f_SF_poke fl sl tb sh wt i ma) (fun r => (sf_w q cI cZ r.2.1 r.2.2.1 r.2.2.2.1 np nt cp cc cb ch cm mp mc mb mh mm us ta tp tl cu bl pf r.2.2.2.2)) := by
  refine sf_xofW (S := (Int32 × (Nat → Int32) × (Nat → Int32) × (Nat → Int32) × Int32)) (by decide) (Nat.le_of_ble_eq_true rfl) ?_
  intro p e s m below meth c A ls R args Q hR hArgs hQ hC0 hr hex hE hK hP hD hl
  obtain ⟨hx, hb, hml, hown, hts, hA, hlk⟩ := hC0
  have hS : va_S A s.heap s.heap [] := va_S.rf
  have hl : lv_has ls 5 [(0, .ref (q 0)), (1, .int wt), (2, .int i), (3, .int ma)] := hl
  refine lv_aload_n hx hb d_SF_poke_0 rfl (lv_at hl 0 rfl) ?_
  refine lv_iload_n hx hb d_SF_poke_1 rfl (lv_at hl 1 rfl) ?_
  refine lv_iload_n hx hb d_SF_poke_2 rfl (lv_at hl 2 rfl) ?_
  refine sf_callVw (S := Int32) (rest := []) ⟨hx, hb, hml, hown, hts⟩ (c_SF_hasByte l D cI cZ cJ q fl sl tb np nt cp cc cb ch cm mp mc mb mh mm us ta tp tl cu bl pf sh wt i) (sf_cwV lk_SF_194 hts (fun _ h => h) (by rw [hR]; exact ⟨Nat.le_of_ble_eq_true rfl, Nat.le_of_ble_eq_true rfl⟩)) hK hP hD hS hA (fun _ => by simp only [sf_w_fst]) (ci := 2) (q0 := 0) rfl rfl rfl rfl rfl hl.1 (Nat.le_of_ble_eq_true rfl) d_SF_poke_3 ⟨Nat.zero_le _, Nat.zero_le _⟩ (fun u_1 H locs hu_1 hP hD hS => ?_)
  have hP : va_P D classes (sf_w q cI cZ fl sl tb np nt cp cc cb ch cm mp mc mb mh mm us ta tp tl cu bl pf sh) H := hP
  have hD : va_D A (sf_w q cI cZ fl sl tb np nt cp cc cb ch cm mp mc mb mh mm us ta tp tl cu bl pf sh) := hD
  refine lv_if_ne (tgt := 19) hx hb d_SF_poke_6 (by decide) (fun c_2 => ?_) (fun c_2 => ?_)
  · refine lv_iload_n hx hb d_SF_poke_19 rfl (lv_at hl 3 rfl) ?_
    refine lv_iconst (v := 1) hx hb d_SF_poke_20 (by decide) ?_
    refine lv_icmp_lt (tgt := 31) hx hb d_SF_poke_21 (by decide) (fun c_3 => ?_) (fun c_3 => ?_)
    · rw [hQ]
      exact sf_xthrow (text := "a mask is 1 to 255") (u := (3, fl, sl, tb, sh)) hx hb hst hml hown hts hE hex xk_55_59 xs_207 hlk hS (show ¬ (3 : Int32) = 0 by decide) (show _ = sf_en 3 by decide) (by simp only [f_SF_poke, ← hu_1, eq_false c_2, eq_true c_3, ↓reduceIte]) hP hl.1 (by rw [hR]; exact ⟨Nat.le_of_ble_eq_true rfl, Nat.le_of_ble_eq_true rfl, Nat.le_refl _, Nat.le_refl _⟩) d_SF_poke_31 d_SF_poke_34 d_SF_poke_35 d_SF_poke_37 d_SF_poke_40
    · refine lv_iload_n hx hb d_SF_poke_24 rfl (lv_at hl 3 rfl) ?_
      refine lv_sipush (v := 255) hx hb d_SF_poke_25 (by decide) ?_
      refine lv_icmp_le (tgt := 41) hx hb d_SF_poke_28 (by decide) (fun c_4 => ?_) (fun c_4 => ?_)
      · refine lv_aload_n hx hb d_SF_poke_41 rfl (lv_at hl 0 rfl) ?_
        refine lv_iload_n hx hb d_SF_poke_42 rfl (lv_at hl 1 rfl) ?_
        rcases f_SF_hasByte_3 (by rw [← hu_1]; exact c_2) with hw | hw | hw
        · rw [hw]
          refine sf_callVw (S := Unit) (rest := []) ⟨hx, hb, hml, hown, hts⟩ (c_SF_partOf_0 l D cI cZ cJ q fl sl tb np nt cp cc cb ch cm mp mc mb mh mm us ta tp tl cu bl pf sh) (sf_cwV lk_SF_199 hts (fun _ h => h) (by rw [hR]; exact ⟨Nat.le_of_ble_eq_true rfl, Nat.le_of_ble_eq_true rfl⟩)) hK hP hD hS hA (fun _ => by simp only [sf_w_fst]) (ci := 2) (q0 := 0) rfl rfl rfl rfl rfl hl.1 (Nat.le_of_ble_eq_true rfl) d_SF_poke_43 ⟨Nat.zero_le _, Nat.zero_le _⟩ (fun u H locs hu hP hD hS => ?_)
          have hP : va_P D classes (sf_w q cI cZ fl sl tb np nt cp cc cb ch cm mp mc mb mh mm us ta tp tl cu bl pf sh) H := hP
          have hD : va_D A (sf_w q cI cZ fl sl tb np nt cp cc cb ch cm mp mc mb mh mm us ta tp tl cu bl pf sh) := hD
          refine lv_astore (lv' := [(4, .ref (q 1)), (0, .ref (q 0)), (1, .int wt), (2, .int i), (3, .int ma)]) hx hb d_SF_poke_46 hl (by decide) rfl (fun ls hl => ?_)
          refine lv_aload hx hb d_SF_poke_48 (lv_at hl 0 rfl) ?_
          refine lv_iconst (v := 0) hx hb d_SF_poke_50 (by decide) ?_
          refine lv_iload_n hx hb d_SF_poke_51 rfl (lv_at hl 3 rfl) ?_
          refine lv_aload hx hb d_SF_poke_52 (lv_at hl 0 rfl) ?_
          refine lv_iconst (v := 0) hx hb d_SF_poke_54 (by decide) ?_
          refine lv_iload_n hx hb d_SF_poke_55 rfl (lv_at hl 3 rfl) ?_
          refine sf_callVr (S := Int32) (rest := [.int i, .int 0, .ref (q 1)]) ⟨hx, hb, hml, hown, hts⟩ (c_Bl_get l D cI cZ cJ (q 1) (q 2) 768 fl (nI 32) 0 i (by omega)) (sf_cwV lk_SF_203 hts (fun _ h => h) (by rw [hR]; exact ⟨Nat.le_of_ble_eq_true rfl, Nat.le_of_ble_eq_true rfl⟩)) hK hP hD hS hA [1, 2] rfl rfl (fun _ => rfl) (ci := 0) (q0 := 0) rfl rfl rfl rfl rfl hl.1 (Nat.le_of_ble_eq_true rfl) d_SF_poke_56 ⟨Nat.zero_le _, Nat.zero_le _⟩ (fun u_5 H locs hu_5 hP hS => ?_)
          refine lv_iload_n hx hb d_SF_poke_59 rfl (lv_at hl 4 rfl) ?_
          refine lv_ixor hx hb d_SF_poke_60 ?_
          refine sf_callV (S := (Nat → Int32)) (rest := []) ⟨hx, hb, hml, hown, hts⟩ (c_Bl_set l D cI cZ cJ (q 1) (q 2) 768 fl (nI 32) 0 i (u_5 ^^^ ma) (by omega)) (sf_cwV lk_SF_209 hts (fun _ h => h) (by rw [hR]; exact ⟨Nat.le_of_ble_eq_true rfl, Nat.le_of_ble_eq_true rfl⟩)) hK hP hD hS hA [1, 2] rfl rfl (fun _ => rfl) (ci := 0) (q0 := 0) rfl rfl rfl rfl rfl hl.1 (Nat.le_of_ble_eq_true rfl) d_SF_poke_61 ⟨Nat.zero_le _, Nat.zero_le _⟩ (fun u_6 H locs hu_6 hP hD hS => ?_)
          have hP : va_P D classes (sf_w q cI cZ u_6 sl tb np nt cp cc cb ch cm mp mc mb mh mm us ta tp tl cu bl pf sh) H := hP
          have hD : va_D A (sf_w q cI cZ u_6 sl tb np nt cp cc cb ch cm mp mc mb mh mm us ta tp tl cu bl pf sh) := hD
          refine lv_aload_n hx hb d_SF_poke_64 rfl (lv_at hl 1 rfl) ?_
          refine lv_iconst (v := 1) hx hb d_SF_poke_65 (by decide) ?_
          refine va_put (D := D) (ci := 2) (v := .int 1) (ty := .boolean) (C := R_SF) (T := F_SF) (N := 15) hx hb hts i_SF t_SF t_SF_ok n_SF hown hK hP hD hS 0 rfl rfl 14 (by decide) (hts _ wd_124) (fun _ h9 => h9) rfl (by decide +kernel) (sf_bp1).1 (sf_bp1).2 (Nat.le_of_ble_eq_true rfl) d_SF_poke_66 (fun H locs hP hD hS => ?_)
          have hP : va_P D classes (sf_w q cI cZ u_6 sl tb np nt cp cc cb ch cm mp mc mb mh mm us ta tp tl cu bl pf 1) H := hP
          have hD : va_D A (sf_w q cI cZ u_6 sl tb np nt cp cc cb ch cm mp mc mb mh mm us ta tp tl cu bl pf 1) := hD
          rw [hQ]
          exact sf_xvret (0, u_6, sl, tb, 1) hx hb hr hlk hS rfl rfl (by simp only [f_SF_poke, ← hu_1, ← hu_5, ← hu_6, eq_false c_2, eq_false c_3, eq_true c_4, eq_true hw, ↓reduceIte]) hP d_SF_poke_69
        · rw [hw]
          have hw0 : ¬ wt = 0 := by rw [hw]; decide
          refine sf_callVw (S := Unit) (rest := []) ⟨hx, hb, hml, hown, hts⟩ (c_SF_partOf_1 l D cI cZ cJ q fl sl tb np nt cp cc cb ch cm mp mc mb mh mm us ta tp tl cu bl pf sh) (sf_cwV lk_SF_199 hts (fun _ h => h) (by rw [hR]; exact ⟨Nat.le_of_ble_eq_true rfl, Nat.le_of_ble_eq_true rfl⟩)) hK hP hD hS hA (fun _ => by simp only [sf_w_fst]) (ci := 2) (q0 := 0) rfl rfl rfl rfl rfl hl.1 (Nat.le_of_ble_eq_true rfl) d_SF_poke_43 ⟨Nat.zero_le _, Nat.zero_le _⟩ (fun u H locs hu hP hD hS => ?_)
          have hP : va_P D classes (sf_w q cI cZ fl sl tb np nt cp cc cb ch cm mp mc mb mh mm us ta tp tl cu bl pf sh) H := hP
          have hD : va_D A (sf_w q cI cZ fl sl tb np nt cp cc cb ch cm mp mc mb mh mm us ta tp tl cu bl pf sh) := hD
          refine lv_astore (lv' := [(4, .ref (q 3)), (0, .ref (q 0)), (1, .int wt), (2, .int i), (3, .int ma)]) hx hb d_SF_poke_46 hl (by decide) rfl (fun ls hl => ?_)
          refine lv_aload hx hb d_SF_poke_48 (lv_at hl 0 rfl) ?_
          refine lv_iconst (v := 0) hx hb d_SF_poke_50 (by decide) ?_
          refine lv_iload_n hx hb d_SF_poke_51 rfl (lv_at hl 3 rfl) ?_
          refine lv_aload hx hb d_SF_poke_52 (lv_at hl 0 rfl) ?_
          refine lv_iconst (v := 0) hx hb d_SF_poke_54 (by decide) ?_
          refine lv_iload_n hx hb d_SF_poke_55 rfl (lv_at hl 3 rfl) ?_
          refine sf_callVr (S := Int32) (rest := [.int i, .int 0, .ref (q 3)]) ⟨hx, hb, hml, hown, hts⟩ (c_Bl_get l D cI cZ cJ (q 3) (q 4) 512 sl (nI 32) 0 i (by omega)) (sf_cwV lk_SF_203 hts (fun _ h => h) (by rw [hR]; exact ⟨Nat.le_of_ble_eq_true rfl, Nat.le_of_ble_eq_true rfl⟩)) hK hP hD hS hA [3, 4] rfl rfl (fun _ => rfl) (ci := 0) (q0 := 0) rfl rfl rfl rfl rfl hl.1 (Nat.le_of_ble_eq_true rfl) d_SF_poke_56 ⟨Nat.zero_le _, Nat.zero_le _⟩ (fun u_7 H locs hu_7 hP hS => ?_)
          refine lv_iload_n hx hb d_SF_poke_59 rfl (lv_at hl 4 rfl) ?_
          refine lv_ixor hx hb d_SF_poke_60 ?_
          refine sf_callV (S := (Nat → Int32)) (rest := []) ⟨hx, hb, hml, hown, hts⟩ (c_Bl_set l D cI cZ cJ (q 3) (q 4) 512 sl (nI 32) 0 i (u_7 ^^^ ma) (by omega)) (sf_cwV lk_SF_209 hts (fun _ h => h) (by rw [hR]; exact ⟨Nat.le_of_ble_eq_true rfl, Nat.le_of_ble_eq_true rfl⟩)) hK hP hD hS hA [3, 4] rfl rfl (fun _ => rfl) (ci := 0) (q0 := 0) rfl rfl rfl rfl rfl hl.1 (Nat.le_of_ble_eq_true rfl) d_SF_poke_61 ⟨Nat.zero_le _, Nat.zero_le _⟩ (fun u_8 H locs hu_8 hP hD hS => ?_)
          have hP : va_P D classes (sf_w q cI cZ fl u_8 tb np nt cp cc cb ch cm mp mc mb mh mm us ta tp tl cu bl pf sh) H := hP
          have hD : va_D A (sf_w q cI cZ fl u_8 tb np nt cp cc cb ch cm mp mc mb mh mm us ta tp tl cu bl pf sh) := hD
          refine lv_aload_n hx hb d_SF_poke_64 rfl (lv_at hl 1 rfl) ?_
          refine lv_iconst (v := 1) hx hb d_SF_poke_65 (by decide) ?_
          refine va_put (D := D) (ci := 2) (v := .int 1) (ty := .boolean) (C := R_SF) (T := F_SF) (N := 15) hx hb hts i_SF t_SF t_SF_ok n_SF hown hK hP hD hS 0 rfl rfl 14 (by decide) (hts _ wd_124) (fun _ h9 => h9) rfl (by decide +kernel) (sf_bp1).1 (sf_bp1).2 (Nat.le_of_ble_eq_true rfl) d_SF_poke_66 (fun H locs hP hD hS => ?_)
          have hP : va_P D classes (sf_w q cI cZ fl u_8 tb np nt cp cc cb ch cm mp mc mb mh mm us ta tp tl cu bl pf 1) H := hP
          have hD : va_D A (sf_w q cI cZ fl u_8 tb np nt cp cc cb ch cm mp mc mb mh mm us ta tp tl cu bl pf 1) := hD
          rw [hQ]
          exact sf_xvret (0, fl, u_8, tb, 1) hx hb hr hlk hS rfl rfl (by simp only [f_SF_poke, ← hu_1, ← hu_7, ← hu_8, eq_false c_2, eq_false c_3, eq_true c_4, eq_false hw0, eq_true hw, ↓reduceIte]) hP d_SF_poke_69
        · rw [hw]
          have hw0 : ¬ wt = 0 := by rw [hw]; decide
          have hw1 : ¬ wt = 1 := by rw [hw]; decide
          refine sf_callVw (S := Unit) (rest := []) ⟨hx, hb, hml, hown, hts⟩ (c_SF_partOf_2 l D cI cZ cJ q fl sl tb np nt cp cc cb ch cm mp mc mb mh mm us ta tp tl cu bl pf sh) (sf_cwV lk_SF_199 hts (fun _ h => h) (by rw [hR]; exact ⟨Nat.le_of_ble_eq_true rfl, Nat.le_of_ble_eq_true rfl⟩)) hK hP hD hS hA (fun _ => by simp only [sf_w_fst]) (ci := 2) (q0 := 0) rfl rfl rfl rfl rfl hl.1 (Nat.le_of_ble_eq_true rfl) d_SF_poke_43 ⟨Nat.zero_le _, Nat.zero_le _⟩ (fun u H locs hu hP hD hS => ?_)
          have hP : va_P D classes (sf_w q cI cZ fl sl tb np nt cp cc cb ch cm mp mc mb mh mm us ta tp tl cu bl pf sh) H := hP
          have hD : va_D A (sf_w q cI cZ fl sl tb np nt cp cc cb ch cm mp mc mb mh mm us ta tp tl cu bl pf sh) := hD
          refine lv_astore (lv' := [(4, .ref (q 5)), (0, .ref (q 0)), (1, .int wt), (2, .int i), (3, .int ma)]) hx hb d_SF_poke_46 hl (by decide) rfl (fun ls hl => ?_)
          refine lv_aload hx hb d_SF_poke_48 (lv_at hl 0 rfl) ?_
          refine lv_iconst (v := 0) hx hb d_SF_poke_50 (by decide) ?_
          refine lv_iload_n hx hb d_SF_poke_51 rfl (lv_at hl 3 rfl) ?_
          refine lv_aload hx hb d_SF_poke_52 (lv_at hl 0 rfl) ?_
          refine lv_iconst (v := 0) hx hb d_SF_poke_54 (by decide) ?_
          refine lv_iload_n hx hb d_SF_poke_55 rfl (lv_at hl 3 rfl) ?_
          refine sf_callVr (S := Int32) (rest := [.int i, .int 0, .ref (q 5)]) ⟨hx, hb, hml, hown, hts⟩ (c_Bl_get l D cI cZ cJ (q 5) (q 6) 80 tb (nI 40) 0 i (by omega)) (sf_cwV lk_SF_203 hts (fun _ h => h) (by rw [hR]; exact ⟨Nat.le_of_ble_eq_true rfl, Nat.le_of_ble_eq_true rfl⟩)) hK hP hD hS hA [5, 6] rfl rfl (fun _ => rfl) (ci := 0) (q0 := 0) rfl rfl rfl rfl rfl hl.1 (Nat.le_of_ble_eq_true rfl) d_SF_poke_56 ⟨Nat.zero_le _, Nat.zero_le _⟩ (fun u_9 H locs hu_9 hP hS => ?_)
          refine lv_iload_n hx hb d_SF_poke_59 rfl (lv_at hl 4 rfl) ?_
          refine lv_ixor hx hb d_SF_poke_60 ?_
          refine sf_callV (S := (Nat → Int32)) (rest := []) ⟨hx, hb, hml, hown, hts⟩ (c_Bl_set l D cI cZ cJ (q 5) (q 6) 80 tb (nI 40) 0 i (u_9 ^^^ ma) (by omega)) (sf_cwV lk_SF_209 hts (fun _ h => h) (by rw [hR]; exact ⟨Nat.le_of_ble_eq_true rfl, Nat.le_of_ble_eq_true rfl⟩)) hK hP hD hS hA [5, 6] rfl rfl (fun _ => rfl) (ci := 0) (q0 := 0) rfl rfl rfl rfl rfl hl.1 (Nat.le_of_ble_eq_true rfl) d_SF_poke_61 ⟨Nat.zero_le _, Nat.zero_le _⟩ (fun u_10 H locs hu_10 hP hD hS => ?_)
          have hP : va_P D classes (sf_w q cI cZ fl sl u_10 np nt cp cc cb ch cm mp mc mb mh mm us ta tp tl cu bl pf sh) H := hP
          have hD : va_D A (sf_w q cI cZ fl sl u_10 np nt cp cc cb ch cm mp mc mb mh mm us ta tp tl cu bl pf sh) := hD
          refine lv_aload_n hx hb d_SF_poke_64 rfl (lv_at hl 1 rfl) ?_
          refine lv_iconst (v := 1) hx hb d_SF_poke_65 (by decide) ?_
          refine va_put (D := D) (ci := 2) (v := .int 1) (ty := .boolean) (C := R_SF) (T := F_SF) (N := 15) hx hb hts i_SF t_SF t_SF_ok n_SF hown hK hP hD hS 0 rfl rfl 14 (by decide) (hts _ wd_124) (fun _ h9 => h9) rfl (by decide +kernel) (sf_bp1).1 (sf_bp1).2 (Nat.le_of_ble_eq_true rfl) d_SF_poke_66 (fun H locs hP hD hS => ?_)
          have hP : va_P D classes (sf_w q cI cZ fl sl u_10 np nt cp cc cb ch cm mp mc mb mh mm us ta tp tl cu bl pf 1) H := hP
          have hD : va_D A (sf_w q cI cZ fl sl u_10 np nt cp cc cb ch cm mp mc mb mh mm us ta tp tl cu bl pf 1) := hD
          rw [hQ]
          exact sf_xvret (0, fl, sl, u_10, 1) hx hb hr hlk hS rfl rfl (by simp only [f_SF_poke, ← hu_1, ← hu_9, ← hu_10, eq_false c_2, eq_false c_3, eq_true c_4, eq_false hw0, eq_false hw1, ↓reduceIte]) hP d_SF_poke_69
      · rw [hQ]
        exact sf_xthrow (text := "a mask is 1 to 255") (u := (3, fl, sl, tb, sh)) hx hb hst hml hown hts hE hex xk_55_59 xs_207 hlk hS (show ¬ (3 : Int32) = 0 by decide) (show _ = sf_en 3 by decide) (by simp only [f_SF_poke, ← hu_1, eq_false c_2, eq_false c_3, eq_false c_4, ↓reduceIte]) hP hl.1 (by rw [hR]; exact ⟨Nat.le_of_ble_eq_true rfl, Nat.le_of_ble_eq_true rfl, Nat.le_refl _, Nat.le_refl _⟩) d_SF_poke_31 d_SF_poke_34 d_SF_poke_35 d_SF_poke_37 d_SF_poke_40
  · rw [hQ]
    exact sf_xthrow (text := "no such byte") (u := (1, fl, sl, tb, sh)) hx hb hst hml hown hts hE hex xk_78_82 xs_197 hlk hS (show ¬ (1 : Int32) = 0 by decide) (show _ = sf_en 1 by decide) (by simp only [f_SF_poke, ← hu_1, eq_true c_2, ↓reduceIte]) hP hl.1 (by rw [hR]; exact ⟨Nat.le_of_ble_eq_true rfl, Nat.le_of_ble_eq_true rfl, Nat.le_refl _, Nat.le_refl _⟩) d_SF_poke_9 d_SF_poke_12 d_SF_poke_13 d_SF_poke_15 d_SF_poke_18
def f_SF_move_l38 (fl : Nat → Int32) (mo : Int32) : Nat → Nat → Int32 → (Nat → Int32) → (Nat → Int32) → (Nat → Int32) → (Nat → Int32) → (Nat → Int32) → Int32 → Int32 → Int32 → Int32 → (Nat → Int32) → (Nat → Int32) → Int32 → Int32 → Int32 → Int32 → (Nat → Int32) → Int32 → Int32 → Int32 → Int32 → (Int32 × Int32 × (Nat → Int32) × (Nat → Int32) × (Nat → Int32) × (Nat → Int32) × (Nat → Int32) × Int32 × Int32 × Int32 × Int32 × (Nat → Int32) × (Nat → Int32) × Int32 × Int32 × Int32 × Int32 × (Nat → Int32) × Int32 × Int32 × Int32 × Int32)
  | 0, _, _, _, _, _, _, _, _, _, _, _, _, _, _, _, _, _, _, _, _, _, _ => (0, 0, (fun _ => 0), (fun _ => 0), (fun _ => 0), (fun _ => 0), (fun _ => 0), 0, 0, 0, 0, (fun _ => 0), (fun _ => 0), 0, 0, 0, 0, (fun _ => 0), 0, 0, 0, 0)
  | fu + 1, k, vmo, xsl, xtb, xnp, xnt, xcp, xcc, xcb, xch, xcm, xus, xmp, xmc, xmb, xmh, xmm, xta, xcu, xbl, xpf, xsh =>
    if 12 ≤ (nI k) then
      (0, vmo, xsl, xtb, xnp, xnt, xcp, xcc, xcb, xch, xcm, xus, xmp, xmc, xmb, xmh, xmm, xta, xcu, xbl, xpf, xsh)
    else
      if (f_SF_followToMove fl xsl xtb xcp xcc xcb xch xcm (nI k) mo).1 = 0 then
        f_SF_move_l38 fl mo fu (k + 1) vmo xsl xtb xnp xnt (f_SF_followToMove fl xsl xtb xcp xcc xcb xch xcm (nI k) mo).2.1 (f_SF_followToMove fl xsl xtb xcp xcc xcb xch xcm (nI k) mo).2.2.1 (f_SF_followToMove fl xsl xtb xcp xcc xcb xch xcm (nI k) mo).2.2.2.1 (f_SF_followToMove fl xsl xtb xcp xcc xcb xch xcm (nI k) mo).2.2.2.2.1 (f_SF_followToMove fl xsl xtb xcp xcc xcb xch xcm (nI k) mo).2.2.2.2.2 xus xmp xmc xmb xmh xmm xta xcu xbl xpf xsh
      else
        if (f_SF_takePlaces_1 xsl xtb xmp xmc xmb xmh xmm xus xta (f_SF_followToMove fl xsl xtb xcp xcc xcb xch xcm (nI k) mo).2.2.1).1 = 0 then
          (4, 0, xsl, xtb, xnp, xnt, (f_SF_followToMove fl xsl xtb xcp xcc xcb xch xcm (nI k) mo).2.1, (f_SF_followToMove fl xsl xtb xcp xcc xcb xch xcm (nI k) mo).2.2.1, (f_SF_followToMove fl xsl xtb xcp xcc xcb xch xcm (nI k) mo).2.2.2.1, (f_SF_followToMove fl xsl xtb xcp xcc xcb xch xcm (nI k) mo).2.2.2.2.1, (f_SF_followToMove fl xsl xtb xcp xcc xcb xch xcm (nI k) mo).2.2.2.2.2, (f_SF_takePlaces_1 xsl xtb xmp xmc xmb xmh xmm xus xta (f_SF_followToMove fl xsl xtb xcp xcc xcb xch xcm (nI k) mo).2.2.1).2.1, (f_SF_takePlaces_1 xsl xtb xmp xmc xmb xmh xmm xus xta (f_SF_followToMove fl xsl xtb xcp xcc xcb xch xcm (nI k) mo).2.2.1).2.2.1, (f_SF_takePlaces_1 xsl xtb xmp xmc xmb xmh xmm xus xta (f_SF_followToMove fl xsl xtb xcp xcc xcb xch xcm (nI k) mo).2.2.1).2.2.2.1, (f_SF_takePlaces_1 xsl xtb xmp xmc xmb xmh xmm xus xta (f_SF_followToMove fl xsl xtb xcp xcc xcb xch xcm (nI k) mo).2.2.1).2.2.2.2.1, (f_SF_takePlaces_1 xsl xtb xmp xmc xmb xmh xmm xus xta (f_SF_followToMove fl xsl xtb xcp xcc xcb xch xcm (nI k) mo).2.2.1).2.2.2.2.2.1, (f_SF_takePlaces_1 xsl xtb xmp xmc xmb xmh xmm xus xta (f_SF_followToMove fl xsl xtb xcp xcc xcb xch xcm (nI k) mo).2.2.1).2.2.2.2.2.2.1, (f_SF_takePlaces_1 xsl xtb xmp xmc xmb xmh xmm xus xta (f_SF_followToMove fl xsl xtb xcp xcc xcb xch xcm (nI k) mo).2.2.1).2.2.2.2.2.2.2, xcu, xbl, xpf, xsh)
        else
          if (f_SF_moveFollowed fl xsl xtb xnp xnt (f_SF_followToMove fl xsl xtb xcp xcc xcb xch xcm (nI k) mo).2.1 (f_SF_followToMove fl xsl xtb xcp xcc xcb xch xcm (nI k) mo).2.2.1 (f_SF_takePlaces_1 xsl xtb xmp xmc xmb xmh xmm xus xta (f_SF_followToMove fl xsl xtb xcp xcc xcb xch xcm (nI k) mo).2.2.1).2.2.2.2.2.2.2 xcu xsh (nI k)).1 = 0 then
            (0, (-1), (f_SF_moveFollowed fl xsl xtb xnp xnt (f_SF_followToMove fl xsl xtb xcp xcc xcb xch xcm (nI k) mo).2.1 (f_SF_followToMove fl xsl xtb xcp xcc xcb xch xcm (nI k) mo).2.2.1 (f_SF_takePlaces_1 xsl xtb xmp xmc xmb xmh xmm xus xta (f_SF_followToMove fl xsl xtb xcp xcc xcb xch xcm (nI k) mo).2.2.1).2.2.2.2.2.2.2 xcu xsh (nI k)).2.1, (f_SF_moveFollowed fl xsl xtb xnp xnt (f_SF_followToMove fl xsl xtb xcp xcc xcb xch xcm (nI k) mo).2.1 (f_SF_followToMove fl xsl xtb xcp xcc xcb xch xcm (nI k) mo).2.2.1 (f_SF_takePlaces_1 xsl xtb xmp xmc xmb xmh xmm xus xta (f_SF_followToMove fl xsl xtb xcp xcc xcb xch xcm (nI k) mo).2.2.1).2.2.2.2.2.2.2 xcu xsh (nI k)).2.2.1, (f_SF_moveFollowed fl xsl xtb xnp xnt (f_SF_followToMove fl xsl xtb xcp xcc xcb xch xcm (nI k) mo).2.1 (f_SF_followToMove fl xsl xtb xcp xcc xcb xch xcm (nI k) mo).2.2.1 (f_SF_takePlaces_1 xsl xtb xmp xmc xmb xmh xmm xus xta (f_SF_followToMove fl xsl xtb xcp xcc xcb xch xcm (nI k) mo).2.2.1).2.2.2.2.2.2.2 xcu xsh (nI k)).2.2.2.1, (f_SF_moveFollowed fl xsl xtb xnp xnt (f_SF_followToMove fl xsl xtb xcp xcc xcb xch xcm (nI k) mo).2.1 (f_SF_followToMove fl xsl xtb xcp xcc xcb xch xcm (nI k) mo).2.2.1 (f_SF_takePlaces_1 xsl xtb xmp xmc xmb xmh xmm xus xta (f_SF_followToMove fl xsl xtb xcp xcc xcb xch xcm (nI k) mo).2.2.1).2.2.2.2.2.2.2 xcu xsh (nI k)).2.2.2.2.1, (f_SF_followToMove fl xsl xtb xcp xcc xcb xch xcm (nI k) mo).2.1, (f_SF_followToMove fl xsl xtb xcp xcc xcb xch xcm (nI k) mo).2.2.1, (f_SF_followToMove fl xsl xtb xcp xcc xcb xch xcm (nI k) mo).2.2.2.1, (f_SF_followToMove fl xsl xtb xcp xcc xcb xch xcm (nI k) mo).2.2.2.2.1, (f_SF_followToMove fl xsl xtb xcp xcc xcb xch xcm (nI k) mo).2.2.2.2.2, (f_SF_takePlaces_1 xsl xtb xmp xmc xmb xmh xmm xus xta (f_SF_followToMove fl xsl xtb xcp xcc xcb xch xcm (nI k) mo).2.2.1).2.1, (f_SF_takePlaces_1 xsl xtb xmp xmc xmb xmh xmm xus xta (f_SF_followToMove fl xsl xtb xcp xcc xcb xch xcm (nI k) mo).2.2.1).2.2.1, (f_SF_takePlaces_1 xsl xtb xmp xmc xmb xmh xmm xus xta (f_SF_followToMove fl xsl xtb xcp xcc xcb xch xcm (nI k) mo).2.2.1).2.2.2.1, (f_SF_takePlaces_1 xsl xtb xmp xmc xmb xmh xmm xus xta (f_SF_followToMove fl xsl xtb xcp xcc xcb xch xcm (nI k) mo).2.2.1).2.2.2.2.1, (f_SF_takePlaces_1 xsl xtb xmp xmc xmb xmh xmm xus xta (f_SF_followToMove fl xsl xtb xcp xcc xcb xch xcm (nI k) mo).2.2.1).2.2.2.2.2.1, (f_SF_takePlaces_1 xsl xtb xmp xmc xmb xmh xmm xus xta (f_SF_followToMove fl xsl xtb xcp xcc xcb xch xcm (nI k) mo).2.2.1).2.2.2.2.2.2.1, (f_SF_takePlaces_1 xsl xtb xmp xmc xmb xmh xmm xus xta (f_SF_followToMove fl xsl xtb xcp xcc xcb xch xcm (nI k) mo).2.2.1).2.2.2.2.2.2.2, (f_SF_moveFollowed fl xsl xtb xnp xnt (f_SF_followToMove fl xsl xtb xcp xcc xcb xch xcm (nI k) mo).2.1 (f_SF_followToMove fl xsl xtb xcp xcc xcb xch xcm (nI k) mo).2.2.1 (f_SF_takePlaces_1 xsl xtb xmp xmc xmb xmh xmm xus xta (f_SF_followToMove fl xsl xtb xcp xcc xcb xch xcm (nI k) mo).2.2.1).2.2.2.2.2.2.2 xcu xsh (nI k)).2.2.2.2.2.1, (f_SF_moveFollowed fl xsl xtb xnp xnt (f_SF_followToMove fl xsl xtb xcp xcc xcb xch xcm (nI k) mo).2.1 (f_SF_followToMove fl xsl xtb xcp xcc xcb xch xcm (nI k) mo).2.2.1 (f_SF_takePlaces_1 xsl xtb xmp xmc xmb xmh xmm xus xta (f_SF_followToMove fl xsl xtb xcp xcc xcb xch xcm (nI k) mo).2.2.1).2.2.2.2.2.2.2 xcu xsh (nI k)).2.2.2.2.2.2.1, (f_SF_moveFollowed fl xsl xtb xnp xnt (f_SF_followToMove fl xsl xtb xcp xcc xcb xch xcm (nI k) mo).2.1 (f_SF_followToMove fl xsl xtb xcp xcc xcb xch xcm (nI k) mo).2.2.1 (f_SF_takePlaces_1 xsl xtb xmp xmc xmb xmh xmm xus xta (f_SF_followToMove fl xsl xtb xcp xcc xcb xch xcm (nI k) mo).2.2.1).2.2.2.2.2.2.2 xcu xsh (nI k)).2.2.2.2.2.2.2.1, (f_SF_moveFollowed fl xsl xtb xnp xnt (f_SF_followToMove fl xsl xtb xcp xcc xcb xch xcm (nI k) mo).2.1 (f_SF_followToMove fl xsl xtb xcp xcc xcb xch xcm (nI k) mo).2.2.1 (f_SF_takePlaces_1 xsl xtb xmp xmc xmb xmh xmm xus xta (f_SF_followToMove fl xsl xtb xcp xcc xcb xch xcm (nI k) mo).2.2.1).2.2.2.2.2.2.2 xcu xsh (nI k)).2.2.2.2.2.2.2.2)
          else
            f_SF_move_l38 fl mo fu (k + 1) (vmo + 1) (f_SF_moveFollowed fl xsl xtb xnp xnt (f_SF_followToMove fl xsl xtb xcp xcc xcb xch xcm (nI k) mo).2.1 (f_SF_followToMove fl xsl xtb xcp xcc xcb xch xcm (nI k) mo).2.2.1 (f_SF_takePlaces_1 xsl xtb xmp xmc xmb xmh xmm xus xta (f_SF_followToMove fl xsl xtb xcp xcc xcb xch xcm (nI k) mo).2.2.1).2.2.2.2.2.2.2 xcu xsh (nI k)).2.1 (f_SF_moveFollowed fl xsl xtb xnp xnt (f_SF_followToMove fl xsl xtb xcp xcc xcb xch xcm (nI k) mo).2.1 (f_SF_followToMove fl xsl xtb xcp xcc xcb xch xcm (nI k) mo).2.2.1 (f_SF_takePlaces_1 xsl xtb xmp xmc xmb xmh xmm xus xta (f_SF_followToMove fl xsl xtb xcp xcc xcb xch xcm (nI k) mo).2.2.1).2.2.2.2.2.2.2 xcu xsh (nI k)).2.2.1 (f_SF_moveFollowed fl xsl xtb xnp xnt (f_SF_followToMove fl xsl xtb xcp xcc xcb xch xcm (nI k) mo).2.1 (f_SF_followToMove fl xsl xtb xcp xcc xcb xch xcm (nI k) mo).2.2.1 (f_SF_takePlaces_1 xsl xtb xmp xmc xmb xmh xmm xus xta (f_SF_followToMove fl xsl xtb xcp xcc xcb xch xcm (nI k) mo).2.2.1).2.2.2.2.2.2.2 xcu xsh (nI k)).2.2.2.1 (f_SF_moveFollowed fl xsl xtb xnp xnt (f_SF_followToMove fl xsl xtb xcp xcc xcb xch xcm (nI k) mo).2.1 (f_SF_followToMove fl xsl xtb xcp xcc xcb xch xcm (nI k) mo).2.2.1 (f_SF_takePlaces_1 xsl xtb xmp xmc xmb xmh xmm xus xta (f_SF_followToMove fl xsl xtb xcp xcc xcb xch xcm (nI k) mo).2.2.1).2.2.2.2.2.2.2 xcu xsh (nI k)).2.2.2.2.1 (f_SF_followToMove fl xsl xtb xcp xcc xcb xch xcm (nI k) mo).2.1 (f_SF_followToMove fl xsl xtb xcp xcc xcb xch xcm (nI k) mo).2.2.1 (f_SF_followToMove fl xsl xtb xcp xcc xcb xch xcm (nI k) mo).2.2.2.1 (f_SF_followToMove fl xsl xtb xcp xcc xcb xch xcm (nI k) mo).2.2.2.2.1 (f_SF_followToMove fl xsl xtb xcp xcc xcb xch xcm (nI k) mo).2.2.2.2.2 (f_SF_takePlaces_1 xsl xtb xmp xmc xmb xmh xmm xus xta (f_SF_followToMove fl xsl xtb xcp xcc xcb xch xcm (nI k) mo).2.2.1).2.1 (f_SF_takePlaces_1 xsl xtb xmp xmc xmb xmh xmm xus xta (f_SF_followToMove fl xsl xtb xcp xcc xcb xch xcm (nI k) mo).2.2.1).2.2.1 (f_SF_takePlaces_1 xsl xtb xmp xmc xmb xmh xmm xus xta (f_SF_followToMove fl xsl xtb xcp xcc xcb xch xcm (nI k) mo).2.2.1).2.2.2.1 (f_SF_takePlaces_1 xsl xtb xmp xmc xmb xmh xmm xus xta (f_SF_followToMove fl xsl xtb xcp xcc xcb xch xcm (nI k) mo).2.2.1).2.2.2.2.1 (f_SF_takePlaces_1 xsl xtb xmp xmc xmb xmh xmm xus xta (f_SF_followToMove fl xsl xtb xcp xcc xcb xch xcm (nI k) mo).2.2.1).2.2.2.2.2.1 (f_SF_takePlaces_1 xsl xtb xmp xmc xmb xmh xmm xus xta (f_SF_followToMove fl xsl xtb xcp xcc xcb xch xcm (nI k) mo).2.2.1).2.2.2.2.2.2.1 (f_SF_takePlaces_1 xsl xtb xmp xmc xmb xmh xmm xus xta (f_SF_followToMove fl xsl xtb xcp xcc xcb xch xcm (nI k) mo).2.2.1).2.2.2.2.2.2.2 (f_SF_moveFollowed fl xsl xtb xnp xnt (f_SF_followToMove fl xsl xtb xcp xcc xcb xch xcm (nI k) mo).2.1 (f_SF_followToMove fl xsl xtb xcp xcc xcb xch xcm (nI k) mo).2.2.1 (f_SF_takePlaces_1 xsl xtb xmp xmc xmb xmh xmm xus xta (f_SF_followToMove fl xsl xtb xcp xcc xcb xch xcm (nI k) mo).2.2.1).2.2.2.2.2.2.2 xcu xsh (nI k)).2.2.2.2.2.1 (f_SF_moveFollowed fl xsl xtb xnp xnt (f_SF_followToMove fl xsl xtb xcp xcc xcb xch xcm (nI k) mo).2.1 (f_SF_followToMove fl xsl xtb xcp xcc xcb xch xcm (nI k) mo).2.2.1 (f_SF_takePlaces_1 xsl xtb xmp xmc xmb xmh xmm xus xta (f_SF_followToMove fl xsl xtb xcp xcc xcb xch xcm (nI k) mo).2.2.1).2.2.2.2.2.2.2 xcu xsh (nI k)).2.2.2.2.2.2.1 (f_SF_moveFollowed fl xsl xtb xnp xnt (f_SF_followToMove fl xsl xtb xcp xcc xcb xch xcm (nI k) mo).2.1 (f_SF_followToMove fl xsl xtb xcp xcc xcb xch xcm (nI k) mo).2.2.1 (f_SF_takePlaces_1 xsl xtb xmp xmc xmb xmh xmm xus xta (f_SF_followToMove fl xsl xtb xcp xcc xcb xch xcm (nI k) mo).2.2.1).2.2.2.2.2.2.2 xcu xsh (nI k)).2.2.2.2.2.2.2.1 (f_SF_moveFollowed fl xsl xtb xnp xnt (f_SF_followToMove fl xsl xtb xcp xcc xcb xch xcm (nI k) mo).2.1 (f_SF_followToMove fl xsl xtb xcp xcc xcb xch xcm (nI k) mo).2.2.1 (f_SF_takePlaces_1 xsl xtb xmp xmc xmb xmh xmm xus xta (f_SF_followToMove fl xsl xtb xcp xcc xcb xch xcm (nI k) mo).2.2.1).2.2.2.2.2.2.2 xcu xsh (nI k)).2.2.2.2.2.2.2.2
def f_SF_move (fl : Nat → Int32) (sl : Nat → Int32) (tb : Nat → Int32) (np : Nat → Int32) (nt : Nat → Int32) (cp : Nat → Int32) (cc : Int32) (cb : Int32) (ch : Int32) (cm : Int32) (mp : Nat → Int32) (mc : Int32) (mb : Int32) (mh : Int32) (mm : Int32) (us : Nat → Int32) (ta : Nat → Int32) (cu : Int32) (bl : Int32) (pf : Int32) (sh : Int32) (mo : Int32) : (Int32 × Int32 × (Nat → Int32) × (Nat → Int32) × (Nat → Int32) × (Nat → Int32) × (Nat → Int32) × Int32 × Int32 × Int32 × Int32 × (Nat → Int32) × (Nat → Int32) × Int32 × Int32 × Int32 × Int32 × (Nat → Int32) × Int32 × Int32 × Int32 × Int32) :=
  if sh = 0 then
    if (f_SF_isMonth mo) = 0 then
      (3, 0, sl, tb, np, nt, cp, cc, cb, ch, cm, us, mp, mc, mb, mh, mm, ta, cu, bl, pf, sh)
    else
      f_SF_move_l38 fl mo (12 + 1) 0 0 sl tb np nt cp cc cb ch cm us mp mc mb mh mm ta cu bl pf sh
  else
    (2, 0, sl, tb, np, nt, cp, cc, cb, ch, cm, us, mp, mc, mb, mh, mm, ta, cu, bl, pf, sh)
set_option maxHeartbeats 1000000 in
set_option maxRecDepth 100000 in
/-- move -/
theorem c_SF_move (l : Launch) (D : va_G) (cI cZ cJ : ClassId) (hst : l.stackTraces = false) (q : Nat → Nat) (fl : Nat → Int32) (sl : Nat → Int32) (tb : Nat → Int32) (np : Nat → Int32) (nt : Nat → Int32) (cp : Nat → Int32) (cc : Int32) (cb : Int32) (ch : Int32) (cm : Int32) (mp : Nat → Int32) (mc : Int32) (mb : Int32) (mh : Int32) (mm : Int32) (us : Nat → Int32) (ta : Nat → Int32) (tp : Nat → Int32) (tl : Int32) (cu : Int32) (bl : Int32) (pf : Int32) (sh : Int32) (mo : Int32) : sf_XM (S := (Int32 × Int32 × (Nat → Int32) × (Nat → Int32) × (Nat → Int32) × (Nat → Int32) × (Nat → Int32) × Int32 × Int32 × Int32 × Int32 × (Nat → Int32) × (Nat → Int32) × Int32 × Int32 × Int32 × Int32 × (Nat → Int32) × Int32 × Int32 × Int32 × Int32)) l D classes (sf_tys cI cZ cJ) y_SF_move (sf_ws y_SF_move b_SF_move 4 (some .int)) 6 145 [.ref (q 0), .int mo] (sf_w q cI cZ fl sl tb np nt cp cc cb ch cm mp mc mb mh mm us ta tp tl cu bl pf sh) (fun r => r.1) (fun r => some (.int r.2.1)) (fun r => r = f_SF_move fl sl tb np nt cp cc cb ch cm mp mc mb mh mm us ta cu bl pf sh mo) (fun r => (sf_w q cI cZ fl r.2.2.1 r.2.2.2.1 r.2.2.2.2.1 r.2.2.2.2.2.1 r.2.2.2.2.2.2.1 r.2.2.2.2.2.2.2.1 r.2.2.2.2.2.2.2.2.1 r.2.2.2.2.2.2.2.2.2.1 r.2.2.2.2.2.2.2.2.2.2.1 r.2.2.2.2.2.2.2.2.2.2.2.2.1 r.2.2.2.2.2.2.2.2.2.2.2.2.2.1 r.2.2.2.2.2.2.2.2.2.2.2.2.2.2.1 r.2.2.2.2.2.2.2.2.2.2.2.2.2.2.2.1 r.2.2.2.2.2.2.2.2.2.2.2.2.2.2.2.2.1 r.2.2.2.2.2.2.2.2.2.2.2.1 r.2.2.2.2.2.2.2.2.2.2.2.2.2.2.2.2.2.1 tp tl r.2.2.2.2.2.2.2.2.2.2.2.2.2.2.2.2.2.2.1 r.2.2.2.2.2.2.2.2.2.2.2.2.2.2.2.2.2.2.2.1 r.2.2.2.2.2.2.2.2.2.2.2.2.2.2.2.2.2.2.2.2.1 r.2.2.2.2.2.2.2.2.2.2.2.2.2.2.2.2.2.2.2.2.2)) := by
  refine sf_xofW (S := (Int32 × Int32 × (Nat → Int32) × (Nat → Int32) × (Nat → Int32) × (Nat → Int32) × (Nat → Int32) × Int32 × Int32 × Int32 × Int32 × (Nat → Int32) × (Nat → Int32) × Int32 × Int32 × Int32 × Int32 × (Nat → Int32) × Int32 × Int32 × Int32 × Int32)) (by decide) (Nat.le_of_ble_eq_true rfl) ?_
  intro p e s m below meth c A ls R args Q hR hArgs hQ hC0 hr hex hE hK hP hD hl
  obtain ⟨hx, hb, hml, hown, hts, hA, hlk⟩ := hC0
  have hS : va_S A s.heap s.heap [] := va_S.rf
  have hl : lv_has ls 4 [(0, .ref (q 0)), (1, .int mo)] := hl
  refine lv_aload_n hx hb d_SF_move_0 rfl (lv_at hl 0 rfl) ?_
  refine va_get (D := D) (ci := 2) (v := .int sh) (C := R_SF) (T := F_SF) (N := 15) hx hb hts i_SF hown hK hP 0 rfl rfl 14 (by decide) (hts _ wd_124) (fun _ h9 => h9) rfl d_SF_move_1 ?_
  refine lv_if_eq (tgt := 17) hx hb d_SF_move_4 (by decide) (fun c_1 => ?_) (fun c_1 => ?_)
  · refine lv_iload_n hx hb d_SF_move_17 rfl (lv_at hl 1 rfl) ?_
    refine sf_callSr (S := Int32) (rest := []) ⟨hx, hb, hml, hown, hts⟩ (c_SF_isMonth l D cI cZ cJ mo) (sf_cwS lk_SF_92 hts (fun _ h => h) (by rw [hR]; exact ⟨Nat.le_of_ble_eq_true rfl, Nat.le_of_ble_eq_true rfl⟩)) hK hP hD hS hA [] rfl rfl (fun _ => rfl) rfl rfl hl.1 (Nat.le_of_ble_eq_true rfl) d_SF_move_18 ⟨Nat.zero_le _, Nat.zero_le _⟩ (fun u_2 H locs hu_2 hP hS => ?_)
    refine lv_if_ne (tgt := 34) hx hb d_SF_move_21 (by decide) (fun c_3 => ?_) (fun c_3 => ?_)
    · refine lv_iconst (v := 0) hx hb d_SF_move_34 (by decide) ?_
      refine lv_istore_n (lv' := [(2, .int 0), (0, .ref (q 0)), (1, .int mo)]) hx hb d_SF_move_35 rfl hl (by decide) rfl (fun ls hl => ?_)
      refine lv_iconst (v := 0) hx hb d_SF_move_36 (by decide) ?_
      refine lv_istore_n (lv' := [(3, .int 0), (2, .int 0), (0, .ref (q 0)), (1, .int mo)]) hx hb d_SF_move_37 rfl hl (by decide) rfl (fun ls hl => ?_)
      have loop38 : ∀ (fu k : Nat) (vmo : Int32) (xsl : (Nat → Int32)) (xtb : (Nat → Int32)) (xnp : (Nat → Int32)) (xnt : (Nat → Int32)) (xcp : (Nat → Int32)) (xcc : Int32) (xcb : Int32) (xch : Int32) (xcm : Int32) (xus : (Nat → Int32)) (xmp : (Nat → Int32)) (xmc : Int32) (xmb : Int32) (xmh : Int32) (xmm : Int32) (xta : (Nat → Int32)) (xcu : Int32) (xbl : Int32) (xpf : Int32) (xsh : Int32), k ≤ 12 → k + fu = 12 + 1 → f_SF_move_l38 fl mo fu k vmo xsl xtb xnp xnt xcp xcc xcb xch xcm xus xmp xmc xmb xmh xmm xta xcu xbl xpf xsh = f_SF_move fl sl tb np nt cp cc cb ch cm mp mc mb mh mm us ta cu bl pf sh mo → ∀ (H : Heap) (locs : List Loc), va_P D classes (sf_w q cI cZ fl xsl xtb xnp xnt xcp xcc xcb xch xcm xmp xmc xmb xmh xmm xus xta tp tl xcu xbl xpf xsh) H → va_D A (sf_w q cI cZ fl xsl xtb xnp xnt xcp xcc xcb xch xcm xmp xmc xmb xmh xmm xus xta tp tl xcu xbl xpf xsh) → va_S A s.heap H locs → ∀ (ls : Array Slot), lv_has ls 4 [(0, .ref (q 0)), (1, .int mo), (2, .int vmo), (3, .int (nI k))] → W p l e R s m args below meth c H locs 0 0 Q (F0 m 38 ls []) := by
        intro fu
        induction fu with
        | zero =>
          intro k vmo xsl xtb xnp xnt xcp xcc xcb xch xcm xus xmp xmc xmb xmh xmm xta xcu xbl xpf xsh h1 h2
          exact absurd h2 (by omega)
        | succ fu ih38 =>
          intro k vmo xsl xtb xnp xnt xcp xcc xcb xch xcm xus xmp xmc xmb xmh xmm xta xcu xbl xpf xsh hk38 hkn38 heq38 H locs hP hD hS ls hl
          refine lv_iload_n hx hb d_SF_move_38 rfl (lv_at hl 3 rfl) ?_
          refine lv_bipush (v := 12) hx hb d_SF_move_39 (by decide) ?_
          refine lv_icmp_ge (tgt := 100) hx hb d_SF_move_41 (by decide) (fun c_4 => ?_) (fun c_4 => ?_)
          · refine lv_iload_n hx hb d_SF_move_100 rfl (lv_at hl 2 rfl) ?_
            rw [hQ]
            exact sf_xiret (0, vmo, xsl, xtb, xnp, xnt, xcp, xcc, xcb, xch, xcm, xus, xmp, xmc, xmb, xmh, xmm, xta, xcu, xbl, xpf, xsh) hx hb hr hlk hS rfl rfl rfl (by rw [← heq38]; simp only [f_SF_move_l38, ← hu_2, eq_true c_4, ↓reduceIte]) hP d_SF_move_101
          · have hlt : k < 12 := sf_lt_of (N := 12) (by omega) (by omega) c_4
            refine lv_aload_n hx hb d_SF_move_44 rfl (lv_at hl 0 rfl) ?_
            refine lv_iload_n hx hb d_SF_move_45 rfl (lv_at hl 3 rfl) ?_
            refine lv_iload_n hx hb d_SF_move_46 rfl (lv_at hl 1 rfl) ?_
            refine sf_callVw (S := (Int32 × (Nat → Int32) × Int32 × Int32 × Int32 × Int32)) (rest := []) ⟨hx, hb, hml, hown, hts⟩ (c_SF_followToMove l D cI cZ cJ q fl xsl xtb xnp xnt xcp xcc xcb xch xcm xmp xmc xmb xmh xmm xus xta tp tl xcu xbl xpf xsh (nI k) mo) (sf_cwV lk_SF_132 hts (fun _ h => h) (by rw [hR]; exact ⟨Nat.le_of_ble_eq_true rfl, Nat.le_of_ble_eq_true rfl⟩)) hK hP hD hS hA (fun _ => by simp only [sf_w_fst]) (ci := 2) (q0 := 0) rfl rfl rfl rfl rfl hl.1 (Nat.le_of_ble_eq_true rfl) d_SF_move_47 ⟨Nat.zero_le _, Nat.zero_le _⟩ (fun u_5 H locs hu_5 hP hD hS => ?_)
            have hP : va_P D classes (sf_w q cI cZ fl xsl xtb xnp xnt u_5.2.1 u_5.2.2.1 u_5.2.2.2.1 u_5.2.2.2.2.1 u_5.2.2.2.2.2 xmp xmc xmb xmh xmm xus xta tp tl xcu xbl xpf xsh) H := hP
            have hD : va_D A (sf_w q cI cZ fl xsl xtb xnp xnt u_5.2.1 u_5.2.2.1 u_5.2.2.2.1 u_5.2.2.2.2.1 u_5.2.2.2.2.2 xmp xmc xmb xmh xmm xus xta tp tl xcu xbl xpf xsh) := hD
            refine lv_if_ne (tgt := 56) hx hb d_SF_move_50 (by decide) (fun c_6 => ?_) (fun c_6 => ?_)
            · refine lv_aload_n hx hb d_SF_move_56 rfl (lv_at hl 0 rfl) ?_
              refine lv_iconst (v := 1) hx hb d_SF_move_57 (by decide) ?_
              refine lv_aload_n hx hb d_SF_move_58 rfl (lv_at hl 0 rfl) ?_
              refine va_get (D := D) (ci := 2) (v := .ref (q 11)) (C := R_SF) (T := F_SF) (N := 15) hx hb hts i_SF hown hK hP 0 rfl rfl 5 (by decide) (hts _ wd_115) (fun _ h9 => h9) rfl d_SF_move_59 ?_
              refine va_get (D := D) (ci := 1) (v := .int u_5.2.2.1) (C := R_Ch) (T := F_Ch) (N := 5) hx hb hts i_Ch hown hK hP 11 rfl rfl 1 (by decide) (hts _ wd_95) (fun _ h9 => h9) rfl d_SF_move_62 ?_
              refine sf_callVw (S := (Int32 × (Nat → Int32) × (Nat → Int32) × Int32 × Int32 × Int32 × Int32 × (Nat → Int32))) (rest := []) ⟨hx, hb, hml, hown, hts⟩ (c_SF_takePlaces_1 l D cI cZ cJ q fl xsl xtb xnp xnt u_5.2.1 u_5.2.2.1 u_5.2.2.2.1 u_5.2.2.2.2.1 u_5.2.2.2.2.2 xmp xmc xmb xmh xmm xus xta tp tl xcu xbl xpf xsh u_5.2.2.1) (sf_cwV lk_SF_97 hts (fun _ h => h) (by rw [hR]; exact ⟨Nat.le_of_ble_eq_true rfl, Nat.le_of_ble_eq_true rfl⟩)) hK hP hD hS hA (fun _ => by simp only [sf_w_fst]) (ci := 2) (q0 := 0) rfl rfl rfl rfl rfl hl.1 (Nat.le_of_ble_eq_true rfl) d_SF_move_65 ⟨Nat.zero_le _, Nat.zero_le _⟩ (fun u_7 H locs hu_7 hP hD hS => ?_)
              have hP : va_P D classes (sf_w q cI cZ fl xsl xtb xnp xnt u_5.2.1 u_5.2.2.1 u_5.2.2.2.1 u_5.2.2.2.2.1 u_5.2.2.2.2.2 u_7.2.2.1 u_7.2.2.2.1 u_7.2.2.2.2.1 u_7.2.2.2.2.2.1 u_7.2.2.2.2.2.2.1 u_7.2.1 u_7.2.2.2.2.2.2.2 tp tl xcu xbl xpf xsh) H := hP
              have hD : va_D A (sf_w q cI cZ fl xsl xtb xnp xnt u_5.2.1 u_5.2.2.1 u_5.2.2.2.1 u_5.2.2.2.2.1 u_5.2.2.2.2.2 u_7.2.2.1 u_7.2.2.2.1 u_7.2.2.2.2.1 u_7.2.2.2.2.2.1 u_7.2.2.2.2.2.2.1 u_7.2.1 u_7.2.2.2.2.2.2.2 tp tl xcu xbl xpf xsh) := hD
              refine lv_if_ne (tgt := 81) hx hb d_SF_move_68 (by decide) (fun c_8 => ?_) (fun c_8 => ?_)
              · refine lv_aload_n hx hb d_SF_move_81 rfl (lv_at hl 0 rfl) ?_
                refine lv_iload_n hx hb d_SF_move_82 rfl (lv_at hl 3 rfl) ?_
                refine sf_callVw (S := (Int32 × (Nat → Int32) × (Nat → Int32) × (Nat → Int32) × (Nat → Int32) × Int32 × Int32 × Int32 × Int32)) (rest := []) ⟨hx, hb, hml, hown, hts⟩ (c_SF_moveFollowed l D cI cZ cJ q fl xsl xtb xnp xnt u_5.2.1 u_5.2.2.1 u_5.2.2.2.1 u_5.2.2.2.2.1 u_5.2.2.2.2.2 u_7.2.2.1 u_7.2.2.2.1 u_7.2.2.2.2.1 u_7.2.2.2.2.2.1 u_7.2.2.2.2.2.2.1 u_7.2.1 u_7.2.2.2.2.2.2.2 tp tl xcu xbl xpf xsh (nI k)) (sf_cwV lk_SF_141 hts (fun _ h => h) (by rw [hR]; exact ⟨Nat.le_of_ble_eq_true rfl, Nat.le_of_ble_eq_true rfl⟩)) hK hP hD hS hA (fun _ => by simp only [sf_w_fst]) (ci := 2) (q0 := 0) rfl rfl rfl rfl rfl hl.1 (Nat.le_of_ble_eq_true rfl) d_SF_move_83 ⟨Nat.zero_le _, Nat.zero_le _⟩ (fun u_9 H locs hu_9 hP hD hS => ?_)
                have hP : va_P D classes (sf_w q cI cZ fl u_9.2.1 u_9.2.2.1 u_9.2.2.2.1 u_9.2.2.2.2.1 u_5.2.1 u_5.2.2.1 u_5.2.2.2.1 u_5.2.2.2.2.1 u_5.2.2.2.2.2 u_7.2.2.1 u_7.2.2.2.1 u_7.2.2.2.2.1 u_7.2.2.2.2.2.1 u_7.2.2.2.2.2.2.1 u_7.2.1 u_7.2.2.2.2.2.2.2 tp tl u_9.2.2.2.2.2.1 u_9.2.2.2.2.2.2.1 u_9.2.2.2.2.2.2.2.1 u_9.2.2.2.2.2.2.2.2) H := hP
                have hD : va_D A (sf_w q cI cZ fl u_9.2.1 u_9.2.2.1 u_9.2.2.2.1 u_9.2.2.2.2.1 u_5.2.1 u_5.2.2.1 u_5.2.2.2.1 u_5.2.2.2.2.1 u_5.2.2.2.2.2 u_7.2.2.1 u_7.2.2.2.1 u_7.2.2.2.2.1 u_7.2.2.2.2.2.1 u_7.2.2.2.2.2.2.1 u_7.2.1 u_7.2.2.2.2.2.2.2 tp tl u_9.2.2.2.2.2.1 u_9.2.2.2.2.2.2.1 u_9.2.2.2.2.2.2.2.1 u_9.2.2.2.2.2.2.2.2) := hD
                refine lv_if_ne (tgt := 91) hx hb d_SF_move_86 (by decide) (fun c_10 => ?_) (fun c_10 => ?_)
                · refine lv_iinc (v := (vmo + 1)) (lv' := [(2, .int (vmo + 1)), (0, .ref (q 0)), (1, .int mo), (3, .int (nI k))]) hx hb d_SF_move_91 hl (k := 2) rfl rfl (by decide) rfl (fun ls hl => ?_)
                  refine lv_iinc (v := (nI (k + 1))) (lv' := [(3, .int (nI (k + 1))), (2, .int (vmo + 1)), (0, .ref (q 0)), (1, .int mo)]) hx hb d_SF_move_94 hl (k := 3) rfl (nI_1 k) (by decide) rfl (fun ls hl => ?_)
                  refine lv_goto (tgt := 38) hx hb d_SF_move_97 (by decide) ?_
                  exact ih38 (k + 1) (vmo + 1) u_9.2.1 u_9.2.2.1 u_9.2.2.2.1 u_9.2.2.2.2.1 u_5.2.1 u_5.2.2.1 u_5.2.2.2.1 u_5.2.2.2.2.1 u_5.2.2.2.2.2 u_7.2.1 u_7.2.2.1 u_7.2.2.2.1 u_7.2.2.2.2.1 u_7.2.2.2.2.2.1 u_7.2.2.2.2.2.2.1 u_7.2.2.2.2.2.2.2 u_9.2.2.2.2.2.1 u_9.2.2.2.2.2.2.1 u_9.2.2.2.2.2.2.2.1 u_9.2.2.2.2.2.2.2.2 (by omega) (by omega) (by rw [← heq38]; simp only [f_SF_move_l38, ← hu_2, ← hu_5, ← hu_7, ← hu_9, eq_false c_4, eq_false c_6, eq_false c_8, eq_false c_10, ↓reduceIte]) _ _ hP hD hS ls (lv_sub hl [2, 3, 1, 0] rfl)
                · refine lv_iconst (v := (-1)) hx hb d_SF_move_89 (by decide) ?_
                  rw [hQ]
                  exact sf_xiret (0, (-1), u_9.2.1, u_9.2.2.1, u_9.2.2.2.1, u_9.2.2.2.2.1, u_5.2.1, u_5.2.2.1, u_5.2.2.2.1, u_5.2.2.2.2.1, u_5.2.2.2.2.2, u_7.2.1, u_7.2.2.1, u_7.2.2.2.1, u_7.2.2.2.2.1, u_7.2.2.2.2.2.1, u_7.2.2.2.2.2.2.1, u_7.2.2.2.2.2.2.2, u_9.2.2.2.2.2.1, u_9.2.2.2.2.2.2.1, u_9.2.2.2.2.2.2.2.1, u_9.2.2.2.2.2.2.2.2) hx hb hr hlk hS rfl rfl rfl (by rw [← heq38]; simp only [f_SF_move_l38, ← hu_2, ← hu_5, ← hu_7, ← hu_9, eq_false c_4, eq_false c_6, eq_false c_8, eq_true c_10, ↓reduceIte]) hP d_SF_move_90
              · rw [hQ]
                exact sf_xthrow (text := "no room in the slow file") (u := (4, 0, xsl, xtb, xnp, xnt, u_5.2.1, u_5.2.2.1, u_5.2.2.2.1, u_5.2.2.2.2.1, u_5.2.2.2.2.2, u_7.2.1, u_7.2.2.1, u_7.2.2.2.1, u_7.2.2.2.2.1, u_7.2.2.2.2.2.1, u_7.2.2.2.2.2.2.1, u_7.2.2.2.2.2.2.2, xcu, xbl, xpf, xsh)) hx hb hst hml hown hts hE hex xk_65_69 xs_139 hlk hS (show ¬ (4 : Int32) = 0 by decide) (show _ = sf_en 4 by decide) (by rw [← heq38]; simp only [f_SF_move_l38, ← hu_2, ← hu_5, ← hu_7, eq_false c_4, eq_false c_6, eq_true c_8, ↓reduceIte]) hP hl.1 (by rw [hR]; exact ⟨Nat.le_of_ble_eq_true rfl, Nat.le_of_ble_eq_true rfl, Nat.le_refl _, Nat.le_refl _⟩) d_SF_move_71 d_SF_move_74 d_SF_move_75 d_SF_move_77 d_SF_move_80
            · refine lv_goto (tgt := 94) hx hb d_SF_move_53 (by decide) ?_
              refine lv_iinc (v := (nI (k + 1))) (lv' := [(3, .int (nI (k + 1))), (0, .ref (q 0)), (1, .int mo), (2, .int vmo)]) hx hb d_SF_move_94 hl (k := 3) rfl (nI_1 k) (by decide) rfl (fun ls hl => ?_)
              refine lv_goto (tgt := 38) hx hb d_SF_move_97 (by decide) ?_
              exact ih38 (k + 1) vmo xsl xtb xnp xnt u_5.2.1 u_5.2.2.1 u_5.2.2.2.1 u_5.2.2.2.2.1 u_5.2.2.2.2.2 xus xmp xmc xmb xmh xmm xta xcu xbl xpf xsh (by omega) (by omega) (by rw [← heq38]; simp only [f_SF_move_l38, ← hu_2, ← hu_5, eq_false c_4, eq_true c_6, ↓reduceIte]) _ _ hP hD hS ls (lv_sub hl [1, 2, 3, 0] rfl)
      exact loop38 (12 + 1) 0 0 sl tb np nt cp cc cb ch cm us mp mc mb mh mm ta cu bl pf sh (by omega) (by omega) (by simp only [f_SF_move, ← hu_2, eq_true c_1, eq_false c_3, ↓reduceIte]) _ _ hP hD hS ls (lv_sub hl [2, 3, 1, 0] rfl)
    · rw [hQ]
      exact sf_xthrow (text := "no such month") (u := (3, 0, sl, tb, np, nt, cp, cc, cb, ch, cm, us, mp, mc, mb, mh, mm, ta, cu, bl, pf, sh)) hx hb hst hml hown hts hE hex xk_55_59 xs_95 hlk hS (show ¬ (3 : Int32) = 0 by decide) (show _ = sf_en 3 by decide) (by simp only [f_SF_move, ← hu_2, eq_true c_1, eq_true c_3, ↓reduceIte]) hP hl.1 (by rw [hR]; exact ⟨Nat.le_of_ble_eq_true rfl, Nat.le_of_ble_eq_true rfl, Nat.le_refl _, Nat.le_refl _⟩) d_SF_move_24 d_SF_move_27 d_SF_move_28 d_SF_move_30 d_SF_move_33
  · rw [hQ]
    exact sf_xthrow (text := "the file is shut") (u := (2, 0, sl, tb, np, nt, cp, cc, cb, ch, cm, us, mp, mc, mb, mh, mm, ta, cu, bl, pf, sh)) hx hb hst hml hown hts hE hex xk_87_91 xs_130 hlk hS (show ¬ (2 : Int32) = 0 by decide) (show _ = sf_en 2 by decide) (by simp only [f_SF_move, eq_false c_1, ↓reduceIte]) hP hl.1 (by rw [hR]; exact ⟨Nat.le_of_ble_eq_true rfl, Nat.le_of_ble_eq_true rfl, Nat.le_refl _, Nat.le_refl _⟩) d_SF_move_7 d_SF_move_10 d_SF_move_11 d_SF_move_13 d_SF_move_16
