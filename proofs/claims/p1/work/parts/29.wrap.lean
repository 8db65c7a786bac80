/-! wrap: contracts, with the pure functions that they speak of (printed by wip/gen) -/
set_option maxRecDepth 20000 in
theorem wd_201 : Cond.classLink R_LW 13 "java/lang/IllegalArgumentException" ∈ sf_tb := sf_tb_in 201 rfl rfl
set_option maxRecDepth 20000 in
theorem wd_202 : Cond.classLink R_LW 15 "java/lang/UnsupportedOperationException" ∈ sf_tb := sf_tb_in 202 rfl rfl
set_option maxRecDepth 20000 in
theorem wd_299 : Cond.classLink R_LW 21 "java/lang/IndexOutOfBoundsException" ∈ sf_tb := sf_tb_in 299 rfl rfl
set_option maxRecDepth 20000 in
theorem wd_300 : Cond.classLink R_LW 23 "java/lang/IllegalStateException" ∈ sf_tb := sf_tb_in 300 rfl rfl
set_option maxRecDepth 20000 in
theorem wd_203 : Cond.methodLink R_LW 7 y_SF_feed ∈ sf_tb := sf_tb_in 203 rfl rfl
set_option maxRecDepth 20000 in
theorem wd_206 : Cond.code y_SF_feed b_SF_feed 5 (some .int) ∈ sf_tb := sf_tb_in 206 rfl rfl
set_option maxRecDepth 20000 in
theorem wd_204 : Cond.instanceMethod y_SF_feed ∈ sf_tb := sf_tb_in 204 rfl rfl
set_option maxRecDepth 20000 in
theorem wd_205 : Cond.selects R_SF y_SF_feed y_SF_feed ∈ sf_tb := sf_tb_in 205 rfl rfl
set_option maxRecDepth 20000 in
theorem wd_301 : Cond.methodLink R_LW 17 y_SF_write ∈ sf_tb := sf_tb_in 301 rfl rfl
set_option maxRecDepth 20000 in
theorem wd_304 : Cond.code y_SF_write b_SF_write 5 (some .int) ∈ sf_tb := sf_tb_in 304 rfl rfl
set_option maxRecDepth 20000 in
theorem wd_302 : Cond.instanceMethod y_SF_write ∈ sf_tb := sf_tb_in 302 rfl rfl
set_option maxRecDepth 20000 in
theorem wd_303 : Cond.selects R_SF y_SF_write y_SF_write ∈ sf_tb := sf_tb_in 303 rfl rfl
set_option maxRecDepth 20000 in
theorem wd_444 : Cond.methodLink R_LW 25 y_SF_remove ∈ sf_tb := sf_tb_in 444 rfl rfl
set_option maxRecDepth 20000 in
theorem wd_447 : Cond.code y_SF_remove b_SF_remove 2 (some .int) ∈ sf_tb := sf_tb_in 447 rfl rfl
set_option maxRecDepth 20000 in
theorem wd_445 : Cond.instanceMethod y_SF_remove ∈ sf_tb := sf_tb_in 445 rfl rfl
set_option maxRecDepth 20000 in
theorem wd_446 : Cond.selects R_SF y_SF_remove y_SF_remove ∈ sf_tb := sf_tb_in 446 rfl rfl
set_option maxRecDepth 20000 in
theorem wd_452 : Cond.methodLink R_LW 29 y_SF_move ∈ sf_tb := sf_tb_in 452 rfl rfl
set_option maxRecDepth 20000 in
theorem wd_455 : Cond.code y_SF_move b_SF_move 4 (some .int) ∈ sf_tb := sf_tb_in 455 rfl rfl
set_option maxRecDepth 20000 in
theorem wd_453 : Cond.instanceMethod y_SF_move ∈ sf_tb := sf_tb_in 453 rfl rfl
set_option maxRecDepth 20000 in
theorem wd_454 : Cond.selects R_SF y_SF_move y_SF_move ∈ sf_tb := sf_tb_in 454 rfl rfl
set_option maxRecDepth 20000 in
theorem wd_485 : Cond.methodLink R_LW 32 y_SF_cut ∈ sf_tb := sf_tb_in 485 rfl rfl
set_option maxRecDepth 20000 in
theorem wd_488 : Cond.code y_SF_cut b_SF_cut 2 none ∈ sf_tb := sf_tb_in 488 rfl rfl
set_option maxRecDepth 20000 in
theorem wd_486 : Cond.instanceMethod y_SF_cut ∈ sf_tb := sf_tb_in 486 rfl rfl
set_option maxRecDepth 20000 in
theorem wd_487 : Cond.selects R_SF y_SF_cut y_SF_cut ∈ sf_tb := sf_tb_in 487 rfl rfl
set_option maxRecDepth 20000 in
theorem wd_493 : Cond.methodLink R_LW 36 y_SF_row ∈ sf_tb := sf_tb_in 493 rfl rfl
set_option maxRecDepth 20000 in
theorem wd_496 : Cond.code y_SF_row b_SF_row 3 (some .int) ∈ sf_tb := sf_tb_in 496 rfl rfl
set_option maxRecDepth 20000 in
theorem wd_494 : Cond.instanceMethod y_SF_row ∈ sf_tb := sf_tb_in 494 rfl rfl
set_option maxRecDepth 20000 in
theorem wd_495 : Cond.selects R_SF y_SF_row y_SF_row ∈ sf_tb := sf_tb_in 495 rfl rfl
set_option maxRecDepth 20000 in
theorem wd_511 : Cond.methodLink R_LW 39 y_SF_at ∈ sf_tb := sf_tb_in 511 rfl rfl
set_option maxRecDepth 20000 in
theorem wd_514 : Cond.code y_SF_at b_SF_at 3 (some .int) ∈ sf_tb := sf_tb_in 514 rfl rfl
set_option maxRecDepth 20000 in
theorem wd_512 : Cond.instanceMethod y_SF_at ∈ sf_tb := sf_tb_in 512 rfl rfl
set_option maxRecDepth 20000 in
theorem wd_513 : Cond.selects R_SF y_SF_at y_SF_at ∈ sf_tb := sf_tb_in 513 rfl rfl
set_option maxRecDepth 20000 in
theorem wd_519 : Cond.methodLink R_LW 42 y_SF_told ∈ sf_tb := sf_tb_in 519 rfl rfl
set_option maxRecDepth 20000 in
theorem wd_522 : Cond.code y_SF_told b_SF_told 2 (some .int) ∈ sf_tb := sf_tb_in 522 rfl rfl
set_option maxRecDepth 20000 in
theorem wd_520 : Cond.instanceMethod y_SF_told ∈ sf_tb := sf_tb_in 520 rfl rfl
set_option maxRecDepth 20000 in
theorem wd_521 : Cond.selects R_SF y_SF_told y_SF_told ∈ sf_tb := sf_tb_in 521 rfl rfl
set_option maxRecDepth 20000 in
theorem wd_531 : Cond.methodLink R_LW 45 y_SF_wrong ∈ sf_tb := sf_tb_in 531 rfl rfl
set_option maxRecDepth 20000 in
theorem wd_534 : Cond.code y_SF_wrong b_SF_wrong 3 (some .int) ∈ sf_tb := sf_tb_in 534 rfl rfl
set_option maxRecDepth 20000 in
theorem wd_532 : Cond.instanceMethod y_SF_wrong ∈ sf_tb := sf_tb_in 532 rfl rfl
set_option maxRecDepth 20000 in
theorem wd_533 : Cond.selects R_SF y_SF_wrong y_SF_wrong ∈ sf_tb := sf_tb_in 533 rfl rfl
set_option maxRecDepth 20000 in
theorem wd_547 : Cond.methodLink R_LW 48 y_SF_byteAt ∈ sf_tb := sf_tb_in 547 rfl rfl
set_option maxRecDepth 20000 in
theorem wd_550 : Cond.code y_SF_byteAt b_SF_byteAt 3 (some .int) ∈ sf_tb := sf_tb_in 550 rfl rfl
set_option maxRecDepth 20000 in
theorem wd_548 : Cond.instanceMethod y_SF_byteAt ∈ sf_tb := sf_tb_in 548 rfl rfl
set_option maxRecDepth 20000 in
theorem wd_549 : Cond.selects R_SF y_SF_byteAt y_SF_byteAt ∈ sf_tb := sf_tb_in 549 rfl rfl
set_option maxRecDepth 20000 in
theorem wd_564 : Cond.methodLink R_LW 51 y_SF_poke ∈ sf_tb := sf_tb_in 564 rfl rfl
set_option maxRecDepth 20000 in
theorem wd_567 : Cond.code y_SF_poke b_SF_poke 5 none ∈ sf_tb := sf_tb_in 567 rfl rfl
set_option maxRecDepth 20000 in
theorem wd_565 : Cond.instanceMethod y_SF_poke ∈ sf_tb := sf_tb_in 565 rfl rfl
set_option maxRecDepth 20000 in
theorem wd_566 : Cond.selects R_SF y_SF_poke y_SF_poke ∈ sf_tb := sf_tb_in 566 rfl rfl
theorem lk_LW_7 : sf_LV R_LW 7 y_SF_feed b_SF_feed 5 (some .int) 2 := ⟨wd_206, wd_203, wd_204, wd_205, wd_52, by decide +kernel⟩
theorem lk_LW_17 : sf_LV R_LW 17 y_SF_write b_SF_write 5 (some .int) 2 := ⟨wd_304, wd_301, wd_302, wd_303, wd_52, by decide +kernel⟩
theorem lk_LW_25 : sf_LV R_LW 25 y_SF_remove b_SF_remove 2 (some .int) 1 := ⟨wd_447, wd_444, wd_445, wd_446, wd_52, by decide +kernel⟩
theorem lk_LW_29 : sf_LV R_LW 29 y_SF_move b_SF_move 4 (some .int) 1 := ⟨wd_455, wd_452, wd_453, wd_454, wd_52, by decide +kernel⟩
theorem lk_LW_32 : sf_LV R_LW 32 y_SF_cut b_SF_cut 2 none 1 := ⟨wd_488, wd_485, wd_486, wd_487, wd_52, by decide +kernel⟩
theorem lk_LW_36 : sf_LV R_LW 36 y_SF_row b_SF_row 3 (some .int) 2 := ⟨wd_496, wd_493, wd_494, wd_495, wd_52, by decide +kernel⟩
theorem lk_LW_39 : sf_LV R_LW 39 y_SF_at b_SF_at 3 (some .int) 2 := ⟨wd_514, wd_511, wd_512, wd_513, wd_52, by decide +kernel⟩
theorem lk_LW_42 : sf_LV R_LW 42 y_SF_told b_SF_told 2 (some .int) 1 := ⟨wd_522, wd_519, wd_520, wd_521, wd_52, by decide +kernel⟩
theorem lk_LW_45 : sf_LV R_LW 45 y_SF_wrong b_SF_wrong 3 (some .int) 2 := ⟨wd_534, wd_531, wd_532, wd_533, wd_52, by decide +kernel⟩
theorem lk_LW_48 : sf_LV R_LW 48 y_SF_byteAt b_SF_byteAt 3 (some .int) 2 := ⟨wd_550, wd_547, wd_548, wd_549, wd_52, by decide +kernel⟩
theorem lk_LW_51 : sf_LV R_LW 51 y_SF_poke b_SF_poke 5 none 3 := ⟨wd_567, wd_564, wd_565, wd_566, wd_52, by decide +kernel⟩
theorem d_LW_feed_0 : decode b_LW_feed 0 = .ok (.aload 4, 2) := by decide +kernel
theorem d_LW_feed_2 : decode b_LW_feed 2 = .ok (.iconst 0, 1) := by decide +kernel
theorem d_LW_feed_3 : decode b_LW_feed 3 = .ok (.aload_n 0, 1) := by decide +kernel
theorem d_LW_feed_4 : decode b_LW_feed 4 = .ok (.lload_n 1, 1) := by decide +kernel
theorem d_LW_feed_5 : decode b_LW_feed 5 = .ok (.iload_n 3, 1) := by decide +kernel
theorem d_LW_feed_6 : decode b_LW_feed 6 = .ok (.invokevirtual 7, 3) := by decide +kernel
theorem d_LW_feed_9 : decode b_LW_feed 9 = .ok (.i2l, 1) := by decide +kernel
theorem d_LW_feed_10 : decode b_LW_feed 10 = .ok (.lastore, 1) := by decide +kernel
theorem d_LW_feed_11 : decode b_LW_feed 11 = .ok (.goto 11, 3) := by decide +kernel
theorem d_LW_feed_14 : decode b_LW_feed 14 = .ok (.astore 5, 2) := by decide +kernel
theorem d_LW_feed_16 : decode b_LW_feed 16 = .ok (.iconst 1, 1) := by decide +kernel
theorem d_LW_feed_17 : decode b_LW_feed 17 = .ok (.ireturn, 1) := by decide +kernel
theorem d_LW_feed_18 : decode b_LW_feed 18 = .ok (.astore 5, 2) := by decide +kernel
theorem d_LW_feed_20 : decode b_LW_feed 20 = .ok (.iconst 2, 1) := by decide +kernel
theorem d_LW_feed_21 : decode b_LW_feed 21 = .ok (.ireturn, 1) := by decide +kernel
theorem d_LW_feed_22 : decode b_LW_feed 22 = .ok (.iconst 0, 1) := by decide +kernel
theorem d_LW_feed_23 : decode b_LW_feed 23 = .ok (.ireturn, 1) := by decide +kernel
theorem d_LW_write_0 : decode b_LW_write 0 = .ok (.aload_n 3, 1) := by decide +kernel
theorem d_LW_write_1 : decode b_LW_write 1 = .ok (.iconst 0, 1) := by decide +kernel
theorem d_LW_write_2 : decode b_LW_write 2 = .ok (.aload_n 0, 1) := by decide +kernel
theorem d_LW_write_3 : decode b_LW_write 3 = .ok (.iload_n 1, 1) := by decide +kernel
theorem d_LW_write_4 : decode b_LW_write 4 = .ok (.iload_n 2, 1) := by decide +kernel
theorem d_LW_write_5 : decode b_LW_write 5 = .ok (.invokevirtual 17, 3) := by decide +kernel
theorem d_LW_write_8 : decode b_LW_write 8 = .ok (.i2l, 1) := by decide +kernel
theorem d_LW_write_9 : decode b_LW_write 9 = .ok (.lastore, 1) := by decide +kernel
theorem d_LW_write_10 : decode b_LW_write 10 = .ok (.goto 19, 3) := by decide +kernel
theorem d_LW_write_13 : decode b_LW_write 13 = .ok (.astore 4, 2) := by decide +kernel
theorem d_LW_write_15 : decode b_LW_write 15 = .ok (.iconst 1, 1) := by decide +kernel
theorem d_LW_write_16 : decode b_LW_write 16 = .ok (.ireturn, 1) := by decide +kernel
theorem d_LW_write_17 : decode b_LW_write 17 = .ok (.astore 4, 2) := by decide +kernel
theorem d_LW_write_19 : decode b_LW_write 19 = .ok (.iconst 2, 1) := by decide +kernel
theorem d_LW_write_20 : decode b_LW_write 20 = .ok (.ireturn, 1) := by decide +kernel
theorem d_LW_write_21 : decode b_LW_write 21 = .ok (.astore 4, 2) := by decide +kernel
theorem d_LW_write_23 : decode b_LW_write 23 = .ok (.iconst 3, 1) := by decide +kernel
theorem d_LW_write_24 : decode b_LW_write 24 = .ok (.ireturn, 1) := by decide +kernel
theorem d_LW_write_25 : decode b_LW_write 25 = .ok (.astore 4, 2) := by decide +kernel
theorem d_LW_write_27 : decode b_LW_write 27 = .ok (.iconst 4, 1) := by decide +kernel
theorem d_LW_write_28 : decode b_LW_write 28 = .ok (.ireturn, 1) := by decide +kernel
theorem d_LW_write_29 : decode b_LW_write 29 = .ok (.iconst 0, 1) := by decide +kernel
theorem d_LW_write_30 : decode b_LW_write 30 = .ok (.ireturn, 1) := by decide +kernel
theorem d_LW_remove_0 : decode b_LW_remove 0 = .ok (.aload_n 2, 1) := by decide +kernel
theorem d_LW_remove_1 : decode b_LW_remove 1 = .ok (.iconst 0, 1) := by decide +kernel
theorem d_LW_remove_2 : decode b_LW_remove 2 = .ok (.aload_n 0, 1) := by decide +kernel
theorem d_LW_remove_3 : decode b_LW_remove 3 = .ok (.iload_n 1, 1) := by decide +kernel
theorem d_LW_remove_4 : decode b_LW_remove 4 = .ok (.invokevirtual 25, 3) := by decide +kernel
theorem d_LW_remove_7 : decode b_LW_remove 7 = .ok (.i2l, 1) := by decide +kernel
theorem d_LW_remove_8 : decode b_LW_remove 8 = .ok (.lastore, 1) := by decide +kernel
theorem d_LW_remove_9 : decode b_LW_remove 9 = .ok (.goto 9, 3) := by decide +kernel
theorem d_LW_remove_12 : decode b_LW_remove 12 = .ok (.astore_n 3, 1) := by decide +kernel
theorem d_LW_remove_13 : decode b_LW_remove 13 = .ok (.iconst 1, 1) := by decide +kernel
theorem d_LW_remove_14 : decode b_LW_remove 14 = .ok (.ireturn, 1) := by decide +kernel
theorem d_LW_remove_15 : decode b_LW_remove 15 = .ok (.astore_n 3, 1) := by decide +kernel
theorem d_LW_remove_16 : decode b_LW_remove 16 = .ok (.iconst 2, 1) := by decide +kernel
theorem d_LW_remove_17 : decode b_LW_remove 17 = .ok (.ireturn, 1) := by decide +kernel
theorem d_LW_remove_18 : decode b_LW_remove 18 = .ok (.iconst 0, 1) := by decide +kernel
theorem d_LW_remove_19 : decode b_LW_remove 19 = .ok (.ireturn, 1) := by decide +kernel
theorem d_LW_move_0 : decode b_LW_move 0 = .ok (.aload_n 2, 1) := by decide +kernel
theorem d_LW_move_1 : decode b_LW_move 1 = .ok (.iconst 0, 1) := by decide +kernel
theorem d_LW_move_2 : decode b_LW_move 2 = .ok (.aload_n 0, 1) := by decide +kernel
theorem d_LW_move_3 : decode b_LW_move 3 = .ok (.iload_n 1, 1) := by decide +kernel
theorem d_LW_move_4 : decode b_LW_move 4 = .ok (.invokevirtual 29, 3) := by decide +kernel
theorem d_LW_move_7 : decode b_LW_move 7 = .ok (.i2l, 1) := by decide +kernel
theorem d_LW_move_8 : decode b_LW_move 8 = .ok (.lastore, 1) := by decide +kernel
theorem d_LW_move_9 : decode b_LW_move 9 = .ok (.goto 12, 3) := by decide +kernel
theorem d_LW_move_12 : decode b_LW_move 12 = .ok (.astore_n 3, 1) := by decide +kernel
theorem d_LW_move_13 : decode b_LW_move 13 = .ok (.iconst 1, 1) := by decide +kernel
theorem d_LW_move_14 : decode b_LW_move 14 = .ok (.ireturn, 1) := by decide +kernel
theorem d_LW_move_15 : decode b_LW_move 15 = .ok (.astore_n 3, 1) := by decide +kernel
theorem d_LW_move_16 : decode b_LW_move 16 = .ok (.iconst 2, 1) := by decide +kernel
theorem d_LW_move_17 : decode b_LW_move 17 = .ok (.ireturn, 1) := by decide +kernel
theorem d_LW_move_18 : decode b_LW_move 18 = .ok (.astore_n 3, 1) := by decide +kernel
theorem d_LW_move_19 : decode b_LW_move 19 = .ok (.iconst 3, 1) := by decide +kernel
theorem d_LW_move_20 : decode b_LW_move 20 = .ok (.ireturn, 1) := by decide +kernel
theorem d_LW_move_21 : decode b_LW_move 21 = .ok (.iconst 0, 1) := by decide +kernel
theorem d_LW_move_22 : decode b_LW_move 22 = .ok (.ireturn, 1) := by decide +kernel
theorem d_LW_cut_0 : decode b_LW_cut 0 = .ok (.aload_n 0, 1) := by decide +kernel
theorem d_LW_cut_1 : decode b_LW_cut 1 = .ok (.iload_n 1, 1) := by decide +kernel
theorem d_LW_cut_2 : decode b_LW_cut 2 = .ok (.invokevirtual 32, 3) := by decide +kernel
theorem d_LW_cut_5 : decode b_LW_cut 5 = .ok (.goto 6, 3) := by decide +kernel
theorem d_LW_cut_8 : decode b_LW_cut 8 = .ok (.astore_n 2, 1) := by decide +kernel
theorem d_LW_cut_9 : decode b_LW_cut 9 = .ok (.iconst 1, 1) := by decide +kernel
theorem d_LW_cut_10 : decode b_LW_cut 10 = .ok (.ireturn, 1) := by decide +kernel
theorem d_LW_cut_11 : decode b_LW_cut 11 = .ok (.iconst 0, 1) := by decide +kernel
theorem d_LW_cut_12 : decode b_LW_cut 12 = .ok (.ireturn, 1) := by decide +kernel
theorem d_LW_row_0 : decode b_LW_row 0 = .ok (.aload_n 3, 1) := by decide +kernel
theorem d_LW_row_1 : decode b_LW_row 1 = .ok (.iconst 0, 1) := by decide +kernel
theorem d_LW_row_2 : decode b_LW_row 2 = .ok (.aload_n 0, 1) := by decide +kernel
theorem d_LW_row_3 : decode b_LW_row 3 = .ok (.iload_n 1, 1) := by decide +kernel
theorem d_LW_row_4 : decode b_LW_row 4 = .ok (.iload_n 2, 1) := by decide +kernel
theorem d_LW_row_5 : decode b_LW_row 5 = .ok (.invokevirtual 36, 3) := by decide +kernel
theorem d_LW_row_8 : decode b_LW_row 8 = .ok (.i2l, 1) := by decide +kernel
theorem d_LW_row_9 : decode b_LW_row 9 = .ok (.lastore, 1) := by decide +kernel
theorem d_LW_row_10 : decode b_LW_row 10 = .ok (.goto 11, 3) := by decide +kernel
theorem d_LW_row_13 : decode b_LW_row 13 = .ok (.astore 4, 2) := by decide +kernel
theorem d_LW_row_15 : decode b_LW_row 15 = .ok (.iconst 1, 1) := by decide +kernel
theorem d_LW_row_16 : decode b_LW_row 16 = .ok (.ireturn, 1) := by decide +kernel
theorem d_LW_row_17 : decode b_LW_row 17 = .ok (.astore 4, 2) := by decide +kernel
theorem d_LW_row_19 : decode b_LW_row 19 = .ok (.iconst 2, 1) := by decide +kernel
theorem d_LW_row_20 : decode b_LW_row 20 = .ok (.ireturn, 1) := by decide +kernel
theorem d_LW_row_21 : decode b_LW_row 21 = .ok (.iconst 0, 1) := by decide +kernel
theorem d_LW_row_22 : decode b_LW_row 22 = .ok (.ireturn, 1) := by decide +kernel
theorem d_LW_at_0 : decode b_LW_at 0 = .ok (.aload_n 3, 1) := by decide +kernel
theorem d_LW_at_1 : decode b_LW_at 1 = .ok (.iconst 0, 1) := by decide +kernel
theorem d_LW_at_2 : decode b_LW_at 2 = .ok (.aload_n 0, 1) := by decide +kernel
theorem d_LW_at_3 : decode b_LW_at 3 = .ok (.iload_n 1, 1) := by decide +kernel
theorem d_LW_at_4 : decode b_LW_at 4 = .ok (.iload_n 2, 1) := by decide +kernel
theorem d_LW_at_5 : decode b_LW_at 5 = .ok (.invokevirtual 39, 3) := by decide +kernel
theorem d_LW_at_8 : decode b_LW_at 8 = .ok (.i2l, 1) := by decide +kernel
theorem d_LW_at_9 : decode b_LW_at 9 = .ok (.lastore, 1) := by decide +kernel
theorem d_LW_at_10 : decode b_LW_at 10 = .ok (.goto 11, 3) := by decide +kernel
theorem d_LW_at_13 : decode b_LW_at 13 = .ok (.astore 4, 2) := by decide +kernel
theorem d_LW_at_15 : decode b_LW_at 15 = .ok (.iconst 1, 1) := by decide +kernel
theorem d_LW_at_16 : decode b_LW_at 16 = .ok (.ireturn, 1) := by decide +kernel
theorem d_LW_at_17 : decode b_LW_at 17 = .ok (.astore 4, 2) := by decide +kernel
theorem d_LW_at_19 : decode b_LW_at 19 = .ok (.iconst 2, 1) := by decide +kernel
theorem d_LW_at_20 : decode b_LW_at 20 = .ok (.ireturn, 1) := by decide +kernel
theorem d_LW_at_21 : decode b_LW_at 21 = .ok (.iconst 0, 1) := by decide +kernel
theorem d_LW_at_22 : decode b_LW_at 22 = .ok (.ireturn, 1) := by decide +kernel
theorem d_LW_told_0 : decode b_LW_told 0 = .ok (.aload_n 2, 1) := by decide +kernel
theorem d_LW_told_1 : decode b_LW_told 1 = .ok (.iconst 0, 1) := by decide +kernel
theorem d_LW_told_2 : decode b_LW_told 2 = .ok (.aload_n 0, 1) := by decide +kernel
theorem d_LW_told_3 : decode b_LW_told 3 = .ok (.iload_n 1, 1) := by decide +kernel
theorem d_LW_told_4 : decode b_LW_told 4 = .ok (.invokevirtual 42, 3) := by decide +kernel
theorem d_LW_told_7 : decode b_LW_told 7 = .ok (.i2l, 1) := by decide +kernel
theorem d_LW_told_8 : decode b_LW_told 8 = .ok (.lastore, 1) := by decide +kernel
theorem d_LW_told_9 : decode b_LW_told 9 = .ok (.goto 9, 3) := by decide +kernel
theorem d_LW_told_12 : decode b_LW_told 12 = .ok (.astore_n 3, 1) := by decide +kernel
theorem d_LW_told_13 : decode b_LW_told 13 = .ok (.iconst 1, 1) := by decide +kernel
theorem d_LW_told_14 : decode b_LW_told 14 = .ok (.ireturn, 1) := by decide +kernel
theorem d_LW_told_15 : decode b_LW_told 15 = .ok (.astore_n 3, 1) := by decide +kernel
theorem d_LW_told_16 : decode b_LW_told 16 = .ok (.iconst 2, 1) := by decide +kernel
theorem d_LW_told_17 : decode b_LW_told 17 = .ok (.ireturn, 1) := by decide +kernel
theorem d_LW_told_18 : decode b_LW_told 18 = .ok (.iconst 0, 1) := by decide +kernel
theorem d_LW_told_19 : decode b_LW_told 19 = .ok (.ireturn, 1) := by decide +kernel
theorem d_LW_wrong_0 : decode b_LW_wrong 0 = .ok (.aload_n 3, 1) := by decide +kernel
theorem d_LW_wrong_1 : decode b_LW_wrong 1 = .ok (.iconst 0, 1) := by decide +kernel
theorem d_LW_wrong_2 : decode b_LW_wrong 2 = .ok (.aload_n 0, 1) := by decide +kernel
theorem d_LW_wrong_3 : decode b_LW_wrong 3 = .ok (.iload_n 1, 1) := by decide +kernel
theorem d_LW_wrong_4 : decode b_LW_wrong 4 = .ok (.iload_n 2, 1) := by decide +kernel
theorem d_LW_wrong_5 : decode b_LW_wrong 5 = .ok (.invokevirtual 45, 3) := by decide +kernel
theorem d_LW_wrong_8 : decode b_LW_wrong 8 = .ok (.i2l, 1) := by decide +kernel
theorem d_LW_wrong_9 : decode b_LW_wrong 9 = .ok (.lastore, 1) := by decide +kernel
theorem d_LW_wrong_10 : decode b_LW_wrong 10 = .ok (.goto 7, 3) := by decide +kernel
theorem d_LW_wrong_13 : decode b_LW_wrong 13 = .ok (.astore 4, 2) := by decide +kernel
theorem d_LW_wrong_15 : decode b_LW_wrong 15 = .ok (.iconst 1, 1) := by decide +kernel
theorem d_LW_wrong_16 : decode b_LW_wrong 16 = .ok (.ireturn, 1) := by decide +kernel
theorem d_LW_wrong_17 : decode b_LW_wrong 17 = .ok (.iconst 0, 1) := by decide +kernel
theorem d_LW_wrong_18 : decode b_LW_wrong 18 = .ok (.ireturn, 1) := by decide +kernel
theorem d_LW_byteAt_0 : decode b_LW_byteAt 0 = .ok (.aload_n 3, 1) := by decide +kernel
theorem d_LW_byteAt_1 : decode b_LW_byteAt 1 = .ok (.iconst 0, 1) := by decide +kernel
theorem d_LW_byteAt_2 : decode b_LW_byteAt 2 = .ok (.aload_n 0, 1) := by decide +kernel
theorem d_LW_byteAt_3 : decode b_LW_byteAt 3 = .ok (.iload_n 1, 1) := by decide +kernel
theorem d_LW_byteAt_4 : decode b_LW_byteAt 4 = .ok (.iload_n 2, 1) := by decide +kernel
theorem d_LW_byteAt_5 : decode b_LW_byteAt 5 = .ok (.invokevirtual 48, 3) := by decide +kernel
theorem d_LW_byteAt_8 : decode b_LW_byteAt 8 = .ok (.i2l, 1) := by decide +kernel
theorem d_LW_byteAt_9 : decode b_LW_byteAt 9 = .ok (.lastore, 1) := by decide +kernel
theorem d_LW_byteAt_10 : decode b_LW_byteAt 10 = .ok (.goto 7, 3) := by decide +kernel
theorem d_LW_byteAt_13 : decode b_LW_byteAt 13 = .ok (.astore 4, 2) := by decide +kernel
theorem d_LW_byteAt_15 : decode b_LW_byteAt 15 = .ok (.iconst 1, 1) := by decide +kernel
theorem d_LW_byteAt_16 : decode b_LW_byteAt 16 = .ok (.ireturn, 1) := by decide +kernel
theorem d_LW_byteAt_17 : decode b_LW_byteAt 17 = .ok (.iconst 0, 1) := by decide +kernel
theorem d_LW_byteAt_18 : decode b_LW_byteAt 18 = .ok (.ireturn, 1) := by decide +kernel
theorem d_LW_poke_0 : decode b_LW_poke 0 = .ok (.aload_n 0, 1) := by decide +kernel
theorem d_LW_poke_1 : decode b_LW_poke 1 = .ok (.iload_n 1, 1) := by decide +kernel
theorem d_LW_poke_2 : decode b_LW_poke 2 = .ok (.iload_n 2, 1) := by decide +kernel
theorem d_LW_poke_3 : decode b_LW_poke 3 = .ok (.iload_n 3, 1) := by decide +kernel
theorem d_LW_poke_4 : decode b_LW_poke 4 = .ok (.invokevirtual 51, 3) := by decide +kernel
theorem d_LW_poke_7 : decode b_LW_poke 7 = .ok (.goto 11, 3) := by decide +kernel
theorem d_LW_poke_10 : decode b_LW_poke 10 = .ok (.astore 4, 2) := by decide +kernel
theorem d_LW_poke_12 : decode b_LW_poke 12 = .ok (.iconst 1, 1) := by decide +kernel
theorem d_LW_poke_13 : decode b_LW_poke 13 = .ok (.ireturn, 1) := by decide +kernel
theorem d_LW_poke_14 : decode b_LW_poke 14 = .ok (.astore 4, 2) := by decide +kernel
theorem d_LW_poke_16 : decode b_LW_poke 16 = .ok (.iconst 2, 1) := by decide +kernel
theorem d_LW_poke_17 : decode b_LW_poke 17 = .ok (.ireturn, 1) := by decide +kernel
theorem d_LW_poke_18 : decode b_LW_poke 18 = .ok (.iconst 0, 1) := by decide +kernel
theorem d_LW_poke_19 : decode b_LW_poke 19 = .ok (.ireturn, 1) := by decide +kernel
theorem sf_xw1 {s : State} {args : Array Value} {w : Cond} (hts : ∀ w ∈ sf_tb, w.before args s = true) (hxw : sf_XW s) (h : w ∈ lw_tbl ∧ (goodWord w || sf_xg w) = true) : w.before args s = true := sf_xhat hts hxw (L := [w]) (fun x hx => by rw [List.mem_singleton.mp hx]; exact h) w List.mem_cons_self
/-- the class's cells and the law's own array -/
def lw_x (q : Nat → Nat) (a : Nat) (cI cZ cJ : ClassId) (fl : Nat → Int32) (sl : Nat → Int32) (tb : Nat → Int32) (np : Nat → Int32) (nt : Nat → Int32) (cp : Nat → Int32) (cc : Int32) (cb : Int32) (ch : Int32) (cm : Int32) (mp : Nat → Int32) (mc : Int32) (mb : Int32) (mh : Int32) (mm : Int32) (us : Nat → Int32) (ta : Nat → Int32) (tp : Nat → Int32) (tl : Int32) (cu : Int32) (bl : Int32) (pf : Int32) (sh : Int32) (fo : Nat → Int64) : va_W := sf_w q cI cZ fl sl tb np nt cp cc cb ch cm mp mc mb mh mm us ta tp tl cu bl pf sh ++ [(a, .inl (cJ, 1, .inr (.inl fo)))]
theorem lw_x_fst (q : Nat → Nat) (a : Nat) (cI cZ cJ : ClassId) (fl : Nat → Int32) (sl : Nat → Int32) (tb : Nat → Int32) (np : Nat → Int32) (nt : Nat → Int32) (cp : Nat → Int32) (cc : Int32) (cb : Int32) (ch : Int32) (cm : Int32) (mp : Nat → Int32) (mc : Int32) (mb : Int32) (mh : Int32) (mm : Int32) (us : Nat → Int32) (ta : Nat → Int32) (tp : Nat → Int32) (tl : Int32) (cu : Int32) (bl : Int32) (pf : Int32) (sh : Int32) (fo : Nat → Int64) : (lw_x q a cI cZ cJ fl sl tb np nt cp cc cb ch cm mp mc mb mh mm us ta tp tl cu bl pf sh fo).map Prod.fst = [q 0, q 1, q 2, q 3, q 4, q 5, q 6, q 7, q 8, q 9, q 10, q 11, q 12, q 13, q 14, q 15, q 16, q 17, a] := rfl
/-- what a wrapper answers, by the number of what was thrown -/
def lw_c (n1 n2 n3 n4 t : Int32) : Int32 := if t = 1 then n1 else if t = 2 then n2 else if t = 3 then n3 else if t = 4 then n4 else 0
def lw_out (t : Int32) (fo : Nat → Int64) (v : Int64) : Nat → Int64 := if t = 0 then vp_updL fo 0 v else fo
theorem lw_out_n {t : Int32} {fo : Nat → Int64} {v : Int64} (h : ¬ t = 0) : lw_out t fo v = fo := if_neg h
theorem lw_out_0 {t : Int32} {fo : Nat → Int64} {v : Int64} (h : t = 0) : lw_out t fo v = vp_updL fo 0 v := if_pos h
set_option maxRecDepth 20000 in
theorem xw_209 : Cond.castable "java/lang/IllegalArgumentException" "java/lang/IllegalArgumentException" ∈ lw_tbl ∧ (goodWord (Cond.castable "java/lang/IllegalArgumentException" "java/lang/IllegalArgumentException") || sf_xg (Cond.castable "java/lang/IllegalArgumentException" "java/lang/IllegalArgumentException")) = true := ⟨List.mem_of_getElem? (i := 209) rfl, by decide +kernel⟩
set_option maxRecDepth 20000 in
theorem xw_278 : Cond.castable "java/lang/UnsupportedOperationException" "java/lang/UnsupportedOperationException" ∈ lw_tbl ∧ (goodWord (Cond.castable "java/lang/UnsupportedOperationException" "java/lang/UnsupportedOperationException") || sf_xg (Cond.castable "java/lang/UnsupportedOperationException" "java/lang/UnsupportedOperationException")) = true := ⟨List.mem_of_getElem? (i := 278) rfl, by decide +kernel⟩
set_option maxRecDepth 20000 in
theorem xw_310 : Cond.castable "java/lang/IndexOutOfBoundsException" "java/lang/IndexOutOfBoundsException" ∈ lw_tbl ∧ (goodWord (Cond.castable "java/lang/IndexOutOfBoundsException" "java/lang/IndexOutOfBoundsException") || sf_xg (Cond.castable "java/lang/IndexOutOfBoundsException" "java/lang/IndexOutOfBoundsException")) = true := ⟨List.mem_of_getElem? (i := 310) rfl, by decide +kernel⟩
set_option maxRecDepth 20000 in
theorem xw_326 : Cond.castable "java/lang/IllegalStateException" "java/lang/IllegalStateException" ∈ lw_tbl ∧ (goodWord (Cond.castable "java/lang/IllegalStateException" "java/lang/IllegalStateException") || sf_xg (Cond.castable "java/lang/IllegalStateException" "java/lang/IllegalStateException")) = true := ⟨List.mem_of_getElem? (i := 326) rfl, by decide +kernel⟩
set_option maxHeartbeats 2000000 in
set_option maxRecDepth 100000 in
/-- feed -/
theorem c_LW_feed (l : Launch) (D : va_G) (cI cZ cJ : ClassId) (hst : l.stackTraces = false) (q : Nat → Nat) (a : Nat) (fl : Nat → Int32) (sl : Nat → Int32) (tb : Nat → Int32) (np : Nat → Int32) (nt : Nat → Int32) (cp : Nat → Int32) (cc : Int32) (cb : Int32) (ch : Int32) (cm : Int32) (mp : Nat → Int32) (mc : Int32) (mb : Int32) (mh : Int32) (mm : Int32) (us : Nat → Int32) (ta : Nat → Int32) (tp : Nat → Int32) (tl : Int32) (cu : Int32) (bl : Int32) (pf : Int32) (sh : Int32) (fo : Nat → Int64) (by0 : Int64) (nn : Int32) : sf_N (S := (Int32 × Int32 × (Nat → Int32) × Int32)) l D classes (sf_tys cI cZ cJ) y_LW_feed (sf_wsH y_LW_feed b_LW_feed 6 (some .int) [(0, 11, 14, 13), (0, 11, 18, 15)]) 7 114 [.ref (q 0), .long by0, .int nn, .ref a] (lw_x q a cI cZ cJ fl sl tb np nt cp cc cb ch cm mp mc mb mh mm us ta tp tl cu bl pf sh fo) (fun r => some (.int (lw_c 0 0 1 2 r.1))) (fun r => r = f_SF_feed tp tl by0 nn) (fun r => (lw_x q a cI cZ cJ fl sl tb np nt cp cc cb ch cm mp mc mb mh mm us ta r.2.2.1 r.2.2.2 cu bl pf sh (lw_out r.1 fo r.2.1.toInt64))) := by
  refine sf_ofWN (S := (Int32 × Int32 × (Nat → Int32) × Int32)) (by decide) (Nat.le_of_ble_eq_true rfl) ?_
  intro p e s m below meth c A ls R args Q hR hArgs hQ hC0 hr htab hE hN hK hP hD hl
  obtain ⟨hx, hb, hml, hown, hts, hA, hlk⟩ := hC0
  have hS : va_S A s.heap s.heap [] := va_S.rf
  have hl : lv_has ls 6 [(0, .ref (q 0)), (1, .long by0), (3, .int nn), (4, .ref a)] := hl
  refine lv_aload hx hb d_LW_feed_0 (lv_at hl 3 rfl) ?_
  refine lv_iconst (v := 0) hx hb d_LW_feed_2 (by decide) ?_
  refine lv_aload_n hx hb d_LW_feed_3 rfl (lv_at hl 0 rfl) ?_
  refine lv_lload_n hx hb d_LW_feed_4 rfl (lv_at hl 1 rfl) ?_
  refine lv_iload_n hx hb d_LW_feed_5 rfl (lv_at hl 2 rfl) ?_
  refine sf_xcallV (S := (Int32 × Int32 × (Nat → Int32) × Int32)) (rest := [.int 0, .ref a]) ⟨hx, hb, hml, hown, hts⟩ (c_SF_feed l D cI cZ cJ hst q fl sl tb np nt cp cc cb ch cm mp mc mb mh mm us ta tp tl cu bl pf sh by0 nn) (sf_cwVX lk_LW_7 hts (fun _ h => h) (by rw [hR]; exact ⟨Nat.le_of_ble_eq_true rfl, Nat.le_of_ble_eq_true rfl⟩)) hK hE hP hD hS hA (fun _ => rfl) (ci := 2) (q0 := 0) rfl rfl rfl rfl rfl hl.1 (Nat.le_of_ble_eq_true rfl) d_LW_feed_6 ⟨by rw [hR]; exact Nat.le_of_ble_eq_true rfl, by rw [hR]; exact Nat.le_of_ble_eq_true rfl⟩ (fun u H locs q9 ce hne hu hP hD hS hce hcv hcl => ?_) (fun u H locs ht0 hu hP hD hS => ?_)
  · have hP : va_P D classes (lw_x q a cI cZ cJ fl sl tb np nt cp cc cb ch cm mp mc mb mh mm us ta u.2.2.1 u.2.2.2 cu bl pf sh fo) H := hP
    rcases sf_TC3 (show sf_TC [0, 3, 4] u by rw [hu]; exact t_SF_feed _ _ _ _) with ht | ht | ht
    · exact absurd ht hne
    · rw [ht] at hcl
      have hcl : s.vm.findClass "java/lang/IllegalArgumentException" = some ce.cls := hcl
      refine vx_catch (own := R_LW) (name := "java/lang/IllegalArgumentException") (E := "java/lang/IllegalArgumentException") hown [] ⟨0, 11, 14, 13⟩ [⟨0, 11, 18, 15⟩] (by rw [htab]; rfl) (fun _ h => absurd h List.not_mem_nil) rfl (by decide) (hts _ wd_201) (sf_xw1 hts hE.1 xw_209) hce hcv hcl ?_
      refine lv_astore (lv' := [(5, .ref q9), (0, .ref (q 0)), (1, .long by0), (3, .int nn), (4, .ref a)]) hx hb d_LW_feed_14 hl (by decide) rfl (fun ls hl => ?_)
      refine lv_iconst (v := 1) hx hb d_LW_feed_16 (by decide) ?_
      rw [hQ]
      exact sf_niret u hx hb hr hlk hS (show some (Value.int (lw_c 0 0 1 2 u.1)) = some (.int 1) by rw [show u.1 = 3 from ht]; rfl) hu (show va_P D classes (lw_x q a cI cZ cJ fl sl tb np nt cp cc cb ch cm mp mc mb mh mm us ta u.2.2.1 u.2.2.2 cu bl pf sh (lw_out u.1 fo u.2.1.toInt64)) _ by rw [lw_out_n hne]; exact hP) d_LW_feed_17
    · rw [ht] at hcl
      have hcl : s.vm.findClass "java/lang/UnsupportedOperationException" = some ce.cls := hcl
      refine vx_catch (own := R_LW) (name := "java/lang/UnsupportedOperationException") (E := "java/lang/UnsupportedOperationException") hown [⟨0, 11, 14, 13⟩] ⟨0, 11, 18, 15⟩ [] (by rw [htab]; rfl) (List.forall_mem_cons.mpr ⟨Or.inr ⟨by decide, "java/lang/IllegalArgumentException", hts _ wd_201, hN ("java/lang/UnsupportedOperationException", "java/lang/IllegalArgumentException") (by decide +kernel)⟩, (fun _ h => absurd h List.not_mem_nil)⟩) rfl (by decide) (hts _ wd_202) (sf_xw1 hts hE.1 xw_278) hce hcv hcl ?_
      refine lv_astore (lv' := [(5, .ref q9), (0, .ref (q 0)), (1, .long by0), (3, .int nn), (4, .ref a)]) hx hb d_LW_feed_18 hl (by decide) rfl (fun ls hl => ?_)
      refine lv_iconst (v := 2) hx hb d_LW_feed_20 (by decide) ?_
      rw [hQ]
      exact sf_niret u hx hb hr hlk hS (show some (Value.int (lw_c 0 0 1 2 u.1)) = some (.int 2) by rw [show u.1 = 4 from ht]; rfl) hu (show va_P D classes (lw_x q a cI cZ cJ fl sl tb np nt cp cc cb ch cm mp mc mb mh mm us ta u.2.2.1 u.2.2.2 cu bl pf sh (lw_out u.1 fo u.2.1.toInt64)) _ by rw [lw_out_n hne]; exact hP) d_LW_feed_21
  · have hP : va_P D classes (lw_x q a cI cZ cJ fl sl tb np nt cp cc cb ch cm mp mc mb mh mm us ta u.2.2.1 u.2.2.2 cu bl pf sh fo) H := hP
    have hD : va_D A (lw_x q a cI cZ cJ fl sl tb np nt cp cc cb ch cm mp mc mb mh mm us ta u.2.2.1 u.2.2.2 cu bl pf sh fo) := hD
    refine lv_i2l (v := (u.2.1).toInt64) hx hb d_LW_feed_9 rfl ?_
    refine va_last hx hb hK hP hD hS 18 2 rfl rfl (show vp_in 0 1 from vp_in_nI (n := 0) (by omega) (by omega)) d_LW_feed_10 (fun H locs hP hD hS => ?_)
    have hP : va_P D classes (lw_x q a cI cZ cJ fl sl tb np nt cp cc cb ch cm mp mc mb mh mm us ta u.2.2.1 u.2.2.2 cu bl pf sh (vp_updL fo 0 ((u.2.1).toInt64))) H := hP
    have hD : va_D A (lw_x q a cI cZ cJ fl sl tb np nt cp cc cb ch cm mp mc mb mh mm us ta u.2.2.1 u.2.2.2 cu bl pf sh (vp_updL fo 0 ((u.2.1).toInt64))) := hD
    refine lv_goto (tgt := 22) hx hb d_LW_feed_11 (by decide) ?_
    refine lv_iconst (v := 0) hx hb d_LW_feed_22 (by decide) ?_
    rw [hQ]
    exact sf_niret u hx hb hr hlk hS (show some (Value.int (lw_c 0 0 1 2 u.1)) = some (.int 0) by rw [show u.1 = 0 from ht0]; rfl) hu (show va_P D classes (lw_x q a cI cZ cJ fl sl tb np nt cp cc cb ch cm mp mc mb mh mm us ta u.2.2.1 u.2.2.2 cu bl pf sh (lw_out u.1 fo u.2.1.toInt64)) _ by rw [lw_out_0 ht0]; exact hP) d_LW_feed_23
set_option maxHeartbeats 2000000 in
set_option maxRecDepth 100000 in
/-- write -/
theorem c_LW_write (l : Launch) (D : va_G) (cI cZ cJ : ClassId) (hst : l.stackTraces = false) (q : Nat → Nat) (a : Nat) (fl : Nat → Int32) (sl : Nat → Int32) (tb : Nat → Int32) (np : Nat → Int32) (nt : Nat → Int32) (cp : Nat → Int32) (cc : Int32) (cb : Int32) (ch : Int32) (cm : Int32) (mp : Nat → Int32) (mc : Int32) (mb : Int32) (mh : Int32) (mm : Int32) (us : Nat → Int32) (ta : Nat → Int32) (tp : Nat → Int32) (tl : Int32) (cu : Int32) (bl : Int32) (pf : Int32) (sh : Int32) (fo : Nat → Int64) (ro : Int32) (mo : Int32) : sf_N (S := (Int32 × Int32 × (Nat → Int32) × (Nat → Int32) × (Nat → Int32) × (Nat → Int32) × (Nat → Int32) × (Nat → Int32) × Int32 × Int32 × Int32 × Int32 × (Nat → Int32) × Int32 × Int32 × Int32 × Int32 × Int32)) l D classes (sf_tys cI cZ cJ) y_LW_write (sf_wsH y_LW_write b_LW_write 5 (some .int) [(0, 10, 13, 21), (0, 10, 17, 23), (0, 10, 21, 13), (0, 10, 25, 15)]) 7 169 [.ref (q 0), .int ro, .int mo, .ref a] (lw_x q a cI cZ cJ fl sl tb np nt cp cc cb ch cm mp mc mb mh mm us ta tp tl cu bl pf sh fo) (fun r => some (.int (lw_c 1 2 3 4 r.1))) (fun r => r = f_SF_write fl tb np nt mp mc mb mh mm us ta tp tl cu bl pf sh ro mo) (fun r => (lw_x q a cI cZ cJ r.2.2.1 sl r.2.2.2.1 r.2.2.2.2.1 r.2.2.2.2.2.1 cp cc cb ch cm r.2.2.2.2.2.2.2.1 r.2.2.2.2.2.2.2.2.1 r.2.2.2.2.2.2.2.2.2.1 r.2.2.2.2.2.2.2.2.2.2.1 r.2.2.2.2.2.2.2.2.2.2.2.1 r.2.2.2.2.2.2.1 r.2.2.2.2.2.2.2.2.2.2.2.2.1 tp r.2.2.2.2.2.2.2.2.2.2.2.2.2.1 r.2.2.2.2.2.2.2.2.2.2.2.2.2.2.1 r.2.2.2.2.2.2.2.2.2.2.2.2.2.2.2.1 r.2.2.2.2.2.2.2.2.2.2.2.2.2.2.2.2.1 r.2.2.2.2.2.2.2.2.2.2.2.2.2.2.2.2.2 (lw_out r.1 fo r.2.1.toInt64))) := by
  refine sf_ofWN (S := (Int32 × Int32 × (Nat → Int32) × (Nat → Int32) × (Nat → Int32) × (Nat → Int32) × (Nat → Int32) × (Nat → Int32) × Int32 × Int32 × Int32 × Int32 × (Nat → Int32) × Int32 × Int32 × Int32 × Int32 × Int32)) (by decide) (Nat.le_of_ble_eq_true rfl) ?_
  intro p e s m below meth c A ls R args Q hR hArgs hQ hC0 hr htab hE hN hK hP hD hl
  obtain ⟨hx, hb, hml, hown, hts, hA, hlk⟩ := hC0
  have hS : va_S A s.heap s.heap [] := va_S.rf
  have hl : lv_has ls 5 [(0, .ref (q 0)), (1, .int ro), (2, .int mo), (3, .ref a)] := hl
  refine lv_aload_n hx hb d_LW_write_0 rfl (lv_at hl 3 rfl) ?_
  refine lv_iconst (v := 0) hx hb d_LW_write_1 (by decide) ?_
  refine lv_aload_n hx hb d_LW_write_2 rfl (lv_at hl 0 rfl) ?_
  refine lv_iload_n hx hb d_LW_write_3 rfl (lv_at hl 1 rfl) ?_
  refine lv_iload_n hx hb d_LW_write_4 rfl (lv_at hl 2 rfl) ?_
  refine sf_xcallV (S := (Int32 × Int32 × (Nat → Int32) × (Nat → Int32) × (Nat → Int32) × (Nat → Int32) × (Nat → Int32) × (Nat → Int32) × Int32 × Int32 × Int32 × Int32 × (Nat → Int32) × Int32 × Int32 × Int32 × Int32 × Int32)) (rest := [.int 0, .ref a]) ⟨hx, hb, hml, hown, hts⟩ (c_SF_write l D cI cZ cJ hst q fl sl tb np nt cp cc cb ch cm mp mc mb mh mm us ta tp tl cu bl pf sh ro mo) (sf_cwVX lk_LW_17 hts (fun _ h => h) (by rw [hR]; exact ⟨Nat.le_of_ble_eq_true rfl, Nat.le_of_ble_eq_true rfl⟩)) hK hE hP hD hS hA (fun _ => rfl) (ci := 2) (q0 := 0) rfl rfl rfl rfl rfl hl.1 (Nat.le_of_ble_eq_true rfl) d_LW_write_5 ⟨by rw [hR]; exact Nat.le_of_ble_eq_true rfl, by rw [hR]; exact Nat.le_of_ble_eq_true rfl⟩ (fun u H locs q9 ce hne hu hP hD hS hce hcv hcl => ?_) (fun u H locs ht0 hu hP hD hS => ?_)
  · have hP : va_P D classes (lw_x q a cI cZ cJ u.2.2.1 sl u.2.2.2.1 u.2.2.2.2.1 u.2.2.2.2.2.1 cp cc cb ch cm u.2.2.2.2.2.2.2.1 u.2.2.2.2.2.2.2.2.1 u.2.2.2.2.2.2.2.2.2.1 u.2.2.2.2.2.2.2.2.2.2.1 u.2.2.2.2.2.2.2.2.2.2.2.1 u.2.2.2.2.2.2.1 u.2.2.2.2.2.2.2.2.2.2.2.2.1 tp u.2.2.2.2.2.2.2.2.2.2.2.2.2.1 u.2.2.2.2.2.2.2.2.2.2.2.2.2.2.1 u.2.2.2.2.2.2.2.2.2.2.2.2.2.2.2.1 u.2.2.2.2.2.2.2.2.2.2.2.2.2.2.2.2.1 u.2.2.2.2.2.2.2.2.2.2.2.2.2.2.2.2.2 fo) H := hP
    rcases sf_TC5 (show sf_TC [0, 1, 2, 3, 4] u by rw [hu]; exact t_SF_write _ _ _ _ _ _ _ _ _ _ _ _ _ _ _ _ _ _ _) with ht | ht | ht | ht | ht
    · exact absurd ht hne
    · rw [ht] at hcl
      have hcl : s.vm.findClass "java/lang/IndexOutOfBoundsException" = some ce.cls := hcl
      refine vx_catch (own := R_LW) (name := "java/lang/IndexOutOfBoundsException") (E := "java/lang/IndexOutOfBoundsException") hown [] ⟨0, 10, 13, 21⟩ [⟨0, 10, 17, 23⟩, ⟨0, 10, 21, 13⟩, ⟨0, 10, 25, 15⟩] (by rw [htab]; rfl) (fun _ h => absurd h List.not_mem_nil) rfl (by decide) (hts _ wd_299) (sf_xw1 hts hE.1 xw_310) hce hcv hcl ?_
      refine lv_astore (lv' := [(4, .ref q9), (0, .ref (q 0)), (1, .int ro), (2, .int mo), (3, .ref a)]) hx hb d_LW_write_13 hl (by decide) rfl (fun ls hl => ?_)
      refine lv_iconst (v := 1) hx hb d_LW_write_15 (by decide) ?_
      rw [hQ]
      exact sf_niret u hx hb hr hlk hS (show some (Value.int (lw_c 1 2 3 4 u.1)) = some (.int 1) by rw [show u.1 = 1 from ht]; rfl) hu (show va_P D classes (lw_x q a cI cZ cJ u.2.2.1 sl u.2.2.2.1 u.2.2.2.2.1 u.2.2.2.2.2.1 cp cc cb ch cm u.2.2.2.2.2.2.2.1 u.2.2.2.2.2.2.2.2.1 u.2.2.2.2.2.2.2.2.2.1 u.2.2.2.2.2.2.2.2.2.2.1 u.2.2.2.2.2.2.2.2.2.2.2.1 u.2.2.2.2.2.2.1 u.2.2.2.2.2.2.2.2.2.2.2.2.1 tp u.2.2.2.2.2.2.2.2.2.2.2.2.2.1 u.2.2.2.2.2.2.2.2.2.2.2.2.2.2.1 u.2.2.2.2.2.2.2.2.2.2.2.2.2.2.2.1 u.2.2.2.2.2.2.2.2.2.2.2.2.2.2.2.2.1 u.2.2.2.2.2.2.2.2.2.2.2.2.2.2.2.2.2 (lw_out u.1 fo u.2.1.toInt64)) _ by rw [lw_out_n hne]; exact hP) d_LW_write_16
    · rw [ht] at hcl
      have hcl : s.vm.findClass "java/lang/IllegalStateException" = some ce.cls := hcl
      refine vx_catch (own := R_LW) (name := "java/lang/IllegalStateException") (E := "java/lang/IllegalStateException") hown [⟨0, 10, 13, 21⟩] ⟨0, 10, 17, 23⟩ [⟨0, 10, 21, 13⟩, ⟨0, 10, 25, 15⟩] (by rw [htab]; rfl) (List.forall_mem_cons.mpr ⟨Or.inr ⟨by decide, "java/lang/IndexOutOfBoundsException", hts _ wd_299, hN ("java/lang/IllegalStateException", "java/lang/IndexOutOfBoundsException") (by decide +kernel)⟩, (fun _ h => absurd h List.not_mem_nil)⟩) rfl (by decide) (hts _ wd_300) (sf_xw1 hts hE.1 xw_326) hce hcv hcl ?_
      refine lv_astore (lv' := [(4, .ref q9), (0, .ref (q 0)), (1, .int ro), (2, .int mo), (3, .ref a)]) hx hb d_LW_write_17 hl (by decide) rfl (fun ls hl => ?_)
      refine lv_iconst (v := 2) hx hb d_LW_write_19 (by decide) ?_
      rw [hQ]
      exact sf_niret u hx hb hr hlk hS (show some (Value.int (lw_c 1 2 3 4 u.1)) = some (.int 2) by rw [show u.1 = 2 from ht]; rfl) hu (show va_P D classes (lw_x q a cI cZ cJ u.2.2.1 sl u.2.2.2.1 u.2.2.2.2.1 u.2.2.2.2.2.1 cp cc cb ch cm u.2.2.2.2.2.2.2.1 u.2.2.2.2.2.2.2.2.1 u.2.2.2.2.2.2.2.2.2.1 u.2.2.2.2.2.2.2.2.2.2.1 u.2.2.2.2.2.2.2.2.2.2.2.1 u.2.2.2.2.2.2.1 u.2.2.2.2.2.2.2.2.2.2.2.2.1 tp u.2.2.2.2.2.2.2.2.2.2.2.2.2.1 u.2.2.2.2.2.2.2.2.2.2.2.2.2.2.1 u.2.2.2.2.2.2.2.2.2.2.2.2.2.2.2.1 u.2.2.2.2.2.2.2.2.2.2.2.2.2.2.2.2.1 u.2.2.2.2.2.2.2.2.2.2.2.2.2.2.2.2.2 (lw_out u.1 fo u.2.1.toInt64)) _ by rw [lw_out_n hne]; exact hP) d_LW_write_20
    · rw [ht] at hcl
      have hcl : s.vm.findClass "java/lang/IllegalArgumentException" = some ce.cls := hcl
      refine vx_catch (own := R_LW) (name := "java/lang/IllegalArgumentException") (E := "java/lang/IllegalArgumentException") hown [⟨0, 10, 13, 21⟩, ⟨0, 10, 17, 23⟩] ⟨0, 10, 21, 13⟩ [⟨0, 10, 25, 15⟩] (by rw [htab]; rfl) (List.forall_mem_cons.mpr ⟨Or.inr ⟨by decide, "java/lang/IndexOutOfBoundsException", hts _ wd_299, hN ("java/lang/IllegalArgumentException", "java/lang/IndexOutOfBoundsException") (by decide +kernel)⟩, (List.forall_mem_cons.mpr ⟨Or.inr ⟨by decide, "java/lang/IllegalStateException", hts _ wd_300, hN ("java/lang/IllegalArgumentException", "java/lang/IllegalStateException") (by decide +kernel)⟩, (fun _ h => absurd h List.not_mem_nil)⟩)⟩) rfl (by decide) (hts _ wd_201) (sf_xw1 hts hE.1 xw_209) hce hcv hcl ?_
      refine lv_astore (lv' := [(4, .ref q9), (0, .ref (q 0)), (1, .int ro), (2, .int mo), (3, .ref a)]) hx hb d_LW_write_21 hl (by decide) rfl (fun ls hl => ?_)
      refine lv_iconst (v := 3) hx hb d_LW_write_23 (by decide) ?_
      rw [hQ]
      exact sf_niret u hx hb hr hlk hS (show some (Value.int (lw_c 1 2 3 4 u.1)) = some (.int 3) by rw [show u.1 = 3 from ht]; rfl) hu (show va_P D classes (lw_x q a cI cZ cJ u.2.2.1 sl u.2.2.2.1 u.2.2.2.2.1 u.2.2.2.2.2.1 cp cc cb ch cm u.2.2.2.2.2.2.2.1 u.2.2.2.2.2.2.2.2.1 u.2.2.2.2.2.2.2.2.2.1 u.2.2.2.2.2.2.2.2.2.2.1 u.2.2.2.2.2.2.2.2.2.2.2.1 u.2.2.2.2.2.2.1 u.2.2.2.2.2.2.2.2.2.2.2.2.1 tp u.2.2.2.2.2.2.2.2.2.2.2.2.2.1 u.2.2.2.2.2.2.2.2.2.2.2.2.2.2.1 u.2.2.2.2.2.2.2.2.2.2.2.2.2.2.2.1 u.2.2.2.2.2.2.2.2.2.2.2.2.2.2.2.2.1 u.2.2.2.2.2.2.2.2.2.2.2.2.2.2.2.2.2 (lw_out u.1 fo u.2.1.toInt64)) _ by rw [lw_out_n hne]; exact hP) d_LW_write_24
    · rw [ht] at hcl
      have hcl : s.vm.findClass "java/lang/UnsupportedOperationException" = some ce.cls := hcl
      refine vx_catch (own := R_LW) (name := "java/lang/UnsupportedOperationException") (E := "java/lang/UnsupportedOperationException") hown [⟨0, 10, 13, 21⟩, ⟨0, 10, 17, 23⟩, ⟨0, 10, 21, 13⟩] ⟨0, 10, 25, 15⟩ [] (by rw [htab]; rfl) (List.forall_mem_cons.mpr ⟨Or.inr ⟨by decide, "java/lang/IndexOutOfBoundsException", hts _ wd_299, hN ("java/lang/UnsupportedOperationException", "java/lang/IndexOutOfBoundsException") (by decide +kernel)⟩, (List.forall_mem_cons.mpr ⟨Or.inr ⟨by decide, "java/lang/IllegalStateException", hts _ wd_300, hN ("java/lang/UnsupportedOperationException", "java/lang/IllegalStateException") (by decide +kernel)⟩, (List.forall_mem_cons.mpr ⟨Or.inr ⟨by decide, "java/lang/IllegalArgumentException", hts _ wd_201, hN ("java/lang/UnsupportedOperationException", "java/lang/IllegalArgumentException") (by decide +kernel)⟩, (fun _ h => absurd h List.not_mem_nil)⟩)⟩)⟩) rfl (by decide) (hts _ wd_202) (sf_xw1 hts hE.1 xw_278) hce hcv hcl ?_
      refine lv_astore (lv' := [(4, .ref q9), (0, .ref (q 0)), (1, .int ro), (2, .int mo), (3, .ref a)]) hx hb d_LW_write_25 hl (by decide) rfl (fun ls hl => ?_)
      refine lv_iconst (v := 4) hx hb d_LW_write_27 (by decide) ?_
      rw [hQ]
      exact sf_niret u hx hb hr hlk hS (show some (Value.int (lw_c 1 2 3 4 u.1)) = some (.int 4) by rw [show u.1 = 4 from ht]; rfl) hu (show va_P D classes (lw_x q a cI cZ cJ u.2.2.1 sl u.2.2.2.1 u.2.2.2.2.1 u.2.2.2.2.2.1 cp cc cb ch cm u.2.2.2.2.2.2.2.1 u.2.2.2.2.2.2.2.2.1 u.2.2.2.2.2.2.2.2.2.1 u.2.2.2.2.2.2.2.2.2.2.1 u.2.2.2.2.2.2.2.2.2.2.2.1 u.2.2.2.2.2.2.1 u.2.2.2.2.2.2.2.2.2.2.2.2.1 tp u.2.2.2.2.2.2.2.2.2.2.2.2.2.1 u.2.2.2.2.2.2.2.2.2.2.2.2.2.2.1 u.2.2.2.2.2.2.2.2.2.2.2.2.2.2.2.1 u.2.2.2.2.2.2.2.2.2.2.2.2.2.2.2.2.1 u.2.2.2.2.2.2.2.2.2.2.2.2.2.2.2.2.2 (lw_out u.1 fo u.2.1.toInt64)) _ by rw [lw_out_n hne]; exact hP) d_LW_write_28
  · have hP : va_P D classes (lw_x q a cI cZ cJ u.2.2.1 sl u.2.2.2.1 u.2.2.2.2.1 u.2.2.2.2.2.1 cp cc cb ch cm u.2.2.2.2.2.2.2.1 u.2.2.2.2.2.2.2.2.1 u.2.2.2.2.2.2.2.2.2.1 u.2.2.2.2.2.2.2.2.2.2.1 u.2.2.2.2.2.2.2.2.2.2.2.1 u.2.2.2.2.2.2.1 u.2.2.2.2.2.2.2.2.2.2.2.2.1 tp u.2.2.2.2.2.2.2.2.2.2.2.2.2.1 u.2.2.2.2.2.2.2.2.2.2.2.2.2.2.1 u.2.2.2.2.2.2.2.2.2.2.2.2.2.2.2.1 u.2.2.2.2.2.2.2.2.2.2.2.2.2.2.2.2.1 u.2.2.2.2.2.2.2.2.2.2.2.2.2.2.2.2.2 fo) H := hP
    have hD : va_D A (lw_x q a cI cZ cJ u.2.2.1 sl u.2.2.2.1 u.2.2.2.2.1 u.2.2.2.2.2.1 cp cc cb ch cm u.2.2.2.2.2.2.2.1 u.2.2.2.2.2.2.2.2.1 u.2.2.2.2.2.2.2.2.2.1 u.2.2.2.2.2.2.2.2.2.2.1 u.2.2.2.2.2.2.2.2.2.2.2.1 u.2.2.2.2.2.2.1 u.2.2.2.2.2.2.2.2.2.2.2.2.1 tp u.2.2.2.2.2.2.2.2.2.2.2.2.2.1 u.2.2.2.2.2.2.2.2.2.2.2.2.2.2.1 u.2.2.2.2.2.2.2.2.2.2.2.2.2.2.2.1 u.2.2.2.2.2.2.2.2.2.2.2.2.2.2.2.2.1 u.2.2.2.2.2.2.2.2.2.2.2.2.2.2.2.2.2 fo) := hD
    refine lv_i2l (v := (u.2.1).toInt64) hx hb d_LW_write_8 rfl ?_
    refine va_last hx hb hK hP hD hS 18 2 rfl rfl (show vp_in 0 1 from vp_in_nI (n := 0) (by omega) (by omega)) d_LW_write_9 (fun H locs hP hD hS => ?_)
    have hP : va_P D classes (lw_x q a cI cZ cJ u.2.2.1 sl u.2.2.2.1 u.2.2.2.2.1 u.2.2.2.2.2.1 cp cc cb ch cm u.2.2.2.2.2.2.2.1 u.2.2.2.2.2.2.2.2.1 u.2.2.2.2.2.2.2.2.2.1 u.2.2.2.2.2.2.2.2.2.2.1 u.2.2.2.2.2.2.2.2.2.2.2.1 u.2.2.2.2.2.2.1 u.2.2.2.2.2.2.2.2.2.2.2.2.1 tp u.2.2.2.2.2.2.2.2.2.2.2.2.2.1 u.2.2.2.2.2.2.2.2.2.2.2.2.2.2.1 u.2.2.2.2.2.2.2.2.2.2.2.2.2.2.2.1 u.2.2.2.2.2.2.2.2.2.2.2.2.2.2.2.2.1 u.2.2.2.2.2.2.2.2.2.2.2.2.2.2.2.2.2 (vp_updL fo 0 ((u.2.1).toInt64))) H := hP
    have hD : va_D A (lw_x q a cI cZ cJ u.2.2.1 sl u.2.2.2.1 u.2.2.2.2.1 u.2.2.2.2.2.1 cp cc cb ch cm u.2.2.2.2.2.2.2.1 u.2.2.2.2.2.2.2.2.1 u.2.2.2.2.2.2.2.2.2.1 u.2.2.2.2.2.2.2.2.2.2.1 u.2.2.2.2.2.2.2.2.2.2.2.1 u.2.2.2.2.2.2.1 u.2.2.2.2.2.2.2.2.2.2.2.2.1 tp u.2.2.2.2.2.2.2.2.2.2.2.2.2.1 u.2.2.2.2.2.2.2.2.2.2.2.2.2.2.1 u.2.2.2.2.2.2.2.2.2.2.2.2.2.2.2.1 u.2.2.2.2.2.2.2.2.2.2.2.2.2.2.2.2.1 u.2.2.2.2.2.2.2.2.2.2.2.2.2.2.2.2.2 (vp_updL fo 0 ((u.2.1).toInt64))) := hD
    refine lv_goto (tgt := 29) hx hb d_LW_write_10 (by decide) ?_
    refine lv_iconst (v := 0) hx hb d_LW_write_29 (by decide) ?_
    rw [hQ]
    exact sf_niret u hx hb hr hlk hS (show some (Value.int (lw_c 1 2 3 4 u.1)) = some (.int 0) by rw [show u.1 = 0 from ht0]; rfl) hu (show va_P D classes (lw_x q a cI cZ cJ u.2.2.1 sl u.2.2.2.1 u.2.2.2.2.1 u.2.2.2.2.2.1 cp cc cb ch cm u.2.2.2.2.2.2.2.1 u.2.2.2.2.2.2.2.2.1 u.2.2.2.2.2.2.2.2.2.1 u.2.2.2.2.2.2.2.2.2.2.1 u.2.2.2.2.2.2.2.2.2.2.2.1 u.2.2.2.2.2.2.1 u.2.2.2.2.2.2.2.2.2.2.2.2.1 tp u.2.2.2.2.2.2.2.2.2.2.2.2.2.1 u.2.2.2.2.2.2.2.2.2.2.2.2.2.2.1 u.2.2.2.2.2.2.2.2.2.2.2.2.2.2.2.1 u.2.2.2.2.2.2.2.2.2.2.2.2.2.2.2.2.1 u.2.2.2.2.2.2.2.2.2.2.2.2.2.2.2.2.2 (lw_out u.1 fo u.2.1.toInt64)) _ by rw [lw_out_0 ht0]; exact hP) d_LW_write_30
set_option maxHeartbeats 2000000 in
set_option maxRecDepth 100000 in
/-- remove -/
theorem c_LW_remove (l : Launch) (D : va_G) (cI cZ cJ : ClassId) (hst : l.stackTraces = false) (q : Nat → Nat) (a : Nat) (fl : Nat → Int32) (sl : Nat → Int32) (tb : Nat → Int32) (np : Nat → Int32) (nt : Nat → Int32) (cp : Nat → Int32) (cc : Int32) (cb : Int32) (ch : Int32) (cm : Int32) (mp : Nat → Int32) (mc : Int32) (mb : Int32) (mh : Int32) (mm : Int32) (us : Nat → Int32) (ta : Nat → Int32) (tp : Nat → Int32) (tl : Int32) (cu : Int32) (bl : Int32) (pf : Int32) (sh : Int32) (fo : Nat → Int64) (ro : Int32) : sf_N (S := (Int32 × Int32 × (Nat → Int32) × (Nat → Int32) × Int32 × Int32 × Int32 × Int32)) l D classes (sf_tys cI cZ cJ) y_LW_remove (sf_wsH y_LW_remove b_LW_remove 4 (some .int) [(0, 9, 12, 21), (0, 9, 15, 23)]) 7 139 [.ref (q 0), .int ro, .ref a] (lw_x q a cI cZ cJ fl sl tb np nt cp cc cb ch cm mp mc mb mh mm us ta tp tl cu bl pf sh fo) (fun r => some (.int (lw_c 1 2 0 0 r.1))) (fun r => r = f_SF_remove tb nt cu bl pf sh ro) (fun r => (lw_x q a cI cZ cJ fl sl r.2.2.1 np r.2.2.2.1 cp cc cb ch cm mp mc mb mh mm us ta tp tl r.2.2.2.2.1 r.2.2.2.2.2.1 r.2.2.2.2.2.2.1 r.2.2.2.2.2.2.2 (lw_out r.1 fo r.2.1.toInt64))) := by
  refine sf_ofWN (S := (Int32 × Int32 × (Nat → Int32) × (Nat → Int32) × Int32 × Int32 × Int32 × Int32)) (by decide) (Nat.le_of_ble_eq_true rfl) ?_
  intro p e s m below meth c A ls R args Q hR hArgs hQ hC0 hr htab hE hN hK hP hD hl
  obtain ⟨hx, hb, hml, hown, hts, hA, hlk⟩ := hC0
  have hS : va_S A s.heap s.heap [] := va_S.rf
  have hl : lv_has ls 4 [(0, .ref (q 0)), (1, .int ro), (2, .ref a)] := hl
  refine lv_aload_n hx hb d_LW_remove_0 rfl (lv_at hl 2 rfl) ?_
  refine lv_iconst (v := 0) hx hb d_LW_remove_1 (by decide) ?_
  refine lv_aload_n hx hb d_LW_remove_2 rfl (lv_at hl 0 rfl) ?_
  refine lv_iload_n hx hb d_LW_remove_3 rfl (lv_at hl 1 rfl) ?_
  refine sf_xcallV (S := (Int32 × Int32 × (Nat → Int32) × (Nat → Int32) × Int32 × Int32 × Int32 × Int32)) (rest := [.int 0, .ref a]) ⟨hx, hb, hml, hown, hts⟩ (c_SF_remove l D cI cZ cJ hst q fl sl tb np nt cp cc cb ch cm mp mc mb mh mm us ta tp tl cu bl pf sh ro) (sf_cwVX lk_LW_25 hts (fun _ h => h) (by rw [hR]; exact ⟨Nat.le_of_ble_eq_true rfl, Nat.le_of_ble_eq_true rfl⟩)) hK hE hP hD hS hA (fun _ => rfl) (ci := 2) (q0 := 0) rfl rfl rfl rfl rfl hl.1 (Nat.le_of_ble_eq_true rfl) d_LW_remove_4 ⟨by rw [hR]; exact Nat.le_of_ble_eq_true rfl, by rw [hR]; exact Nat.le_of_ble_eq_true rfl⟩ (fun u H locs q9 ce hne hu hP hD hS hce hcv hcl => ?_) (fun u H locs ht0 hu hP hD hS => ?_)
  · have hP : va_P D classes (lw_x q a cI cZ cJ fl sl u.2.2.1 np u.2.2.2.1 cp cc cb ch cm mp mc mb mh mm us ta tp tl u.2.2.2.2.1 u.2.2.2.2.2.1 u.2.2.2.2.2.2.1 u.2.2.2.2.2.2.2 fo) H := hP
    rcases sf_TC3 (show sf_TC [0, 1, 2] u by rw [hu]; exact t_SF_remove _ _ _ _ _ _ _) with ht | ht | ht
    · exact absurd ht hne
    · rw [ht] at hcl
      have hcl : s.vm.findClass "java/lang/IndexOutOfBoundsException" = some ce.cls := hcl
      refine vx_catch (own := R_LW) (name := "java/lang/IndexOutOfBoundsException") (E := "java/lang/IndexOutOfBoundsException") hown [] ⟨0, 9, 12, 21⟩ [⟨0, 9, 15, 23⟩] (by rw [htab]; rfl) (fun _ h => absurd h List.not_mem_nil) rfl (by decide) (hts _ wd_299) (sf_xw1 hts hE.1 xw_310) hce hcv hcl ?_
      refine lv_astore_n (lv' := [(3, .ref q9), (0, .ref (q 0)), (1, .int ro), (2, .ref a)]) hx hb d_LW_remove_12 rfl hl (by decide) rfl (fun ls hl => ?_)
      refine lv_iconst (v := 1) hx hb d_LW_remove_13 (by decide) ?_
      rw [hQ]
      exact sf_niret u hx hb hr hlk hS (show some (Value.int (lw_c 1 2 0 0 u.1)) = some (.int 1) by rw [show u.1 = 1 from ht]; rfl) hu (show va_P D classes (lw_x q a cI cZ cJ fl sl u.2.2.1 np u.2.2.2.1 cp cc cb ch cm mp mc mb mh mm us ta tp tl u.2.2.2.2.1 u.2.2.2.2.2.1 u.2.2.2.2.2.2.1 u.2.2.2.2.2.2.2 (lw_out u.1 fo u.2.1.toInt64)) _ by rw [lw_out_n hne]; exact hP) d_LW_remove_14
    · rw [ht] at hcl
      have hcl : s.vm.findClass "java/lang/IllegalStateException" = some ce.cls := hcl
      refine vx_catch (own := R_LW) (name := "java/lang/IllegalStateException") (E := "java/lang/IllegalStateException") hown [⟨0, 9, 12, 21⟩] ⟨0, 9, 15, 23⟩ [] (by rw [htab]; rfl) (List.forall_mem_cons.mpr ⟨Or.inr ⟨by decide, "java/lang/IndexOutOfBoundsException", hts _ wd_299, hN ("java/lang/IllegalStateException", "java/lang/IndexOutOfBoundsException") (by decide +kernel)⟩, (fun _ h => absurd h List.not_mem_nil)⟩) rfl (by decide) (hts _ wd_300) (sf_xw1 hts hE.1 xw_326) hce hcv hcl ?_
      refine lv_astore_n (lv' := [(3, .ref q9), (0, .ref (q 0)), (1, .int ro), (2, .ref a)]) hx hb d_LW_remove_15 rfl hl (by decide) rfl (fun ls hl => ?_)
      refine lv_iconst (v := 2) hx hb d_LW_remove_16 (by decide) ?_
      rw [hQ]
      exact sf_niret u hx hb hr hlk hS (show some (Value.int (lw_c 1 2 0 0 u.1)) = some (.int 2) by rw [show u.1 = 2 from ht]; rfl) hu (show va_P D classes (lw_x q a cI cZ cJ fl sl u.2.2.1 np u.2.2.2.1 cp cc cb ch cm mp mc mb mh mm us ta tp tl u.2.2.2.2.1 u.2.2.2.2.2.1 u.2.2.2.2.2.2.1 u.2.2.2.2.2.2.2 (lw_out u.1 fo u.2.1.toInt64)) _ by rw [lw_out_n hne]; exact hP) d_LW_remove_17
  · have hP : va_P D classes (lw_x q a cI cZ cJ fl sl u.2.2.1 np u.2.2.2.1 cp cc cb ch cm mp mc mb mh mm us ta tp tl u.2.2.2.2.1 u.2.2.2.2.2.1 u.2.2.2.2.2.2.1 u.2.2.2.2.2.2.2 fo) H := hP
    have hD : va_D A (lw_x q a cI cZ cJ fl sl u.2.2.1 np u.2.2.2.1 cp cc cb ch cm mp mc mb mh mm us ta tp tl u.2.2.2.2.1 u.2.2.2.2.2.1 u.2.2.2.2.2.2.1 u.2.2.2.2.2.2.2 fo) := hD
    refine lv_i2l (v := (u.2.1).toInt64) hx hb d_LW_remove_7 rfl ?_
    refine va_last hx hb hK hP hD hS 18 2 rfl rfl (show vp_in 0 1 from vp_in_nI (n := 0) (by omega) (by omega)) d_LW_remove_8 (fun H locs hP hD hS => ?_)
    have hP : va_P D classes (lw_x q a cI cZ cJ fl sl u.2.2.1 np u.2.2.2.1 cp cc cb ch cm mp mc mb mh mm us ta tp tl u.2.2.2.2.1 u.2.2.2.2.2.1 u.2.2.2.2.2.2.1 u.2.2.2.2.2.2.2 (vp_updL fo 0 ((u.2.1).toInt64))) H := hP
    have hD : va_D A (lw_x q a cI cZ cJ fl sl u.2.2.1 np u.2.2.2.1 cp cc cb ch cm mp mc mb mh mm us ta tp tl u.2.2.2.2.1 u.2.2.2.2.2.1 u.2.2.2.2.2.2.1 u.2.2.2.2.2.2.2 (vp_updL fo 0 ((u.2.1).toInt64))) := hD
    refine lv_goto (tgt := 18) hx hb d_LW_remove_9 (by decide) ?_
    refine lv_iconst (v := 0) hx hb d_LW_remove_18 (by decide) ?_
    rw [hQ]
    exact sf_niret u hx hb hr hlk hS (show some (Value.int (lw_c 1 2 0 0 u.1)) = some (.int 0) by rw [show u.1 = 0 from ht0]; rfl) hu (show va_P D classes (lw_x q a cI cZ cJ fl sl u.2.2.1 np u.2.2.2.1 cp cc cb ch cm mp mc mb mh mm us ta tp tl u.2.2.2.2.1 u.2.2.2.2.2.1 u.2.2.2.2.2.2.1 u.2.2.2.2.2.2.2 (lw_out u.1 fo u.2.1.toInt64)) _ by rw [lw_out_0 ht0]; exact hP) d_LW_remove_19
set_option maxHeartbeats 2000000 in
set_option maxRecDepth 100000 in
/-- move -/
theorem c_LW_move (l : Launch) (D : va_G) (cI cZ cJ : ClassId) (hst : l.stackTraces = false) (q : Nat → Nat) (a : Nat) (fl : Nat → Int32) (sl : Nat → Int32) (tb : Nat → Int32) (np : Nat → Int32) (nt : Nat → Int32) (cp : Nat → Int32) (cc : Int32) (cb : Int32) (ch : Int32) (cm : Int32) (mp : Nat → Int32) (mc : Int32) (mb : Int32) (mh : Int32) (mm : Int32) (us : Nat → Int32) (ta : Nat → Int32) (tp : Nat → Int32) (tl : Int32) (cu : Int32) (bl : Int32) (pf : Int32) (sh : Int32) (fo : Nat → Int64) (mo : Int32) : sf_N (S := (Int32 × Int32 × (Nat → Int32) × (Nat → Int32) × (Nat → Int32) × (Nat → Int32) × (Nat → Int32) × Int32 × Int32 × Int32 × Int32 × (Nat → Int32) × (Nat → Int32) × Int32 × Int32 × Int32 × Int32 × (Nat → Int32) × Int32 × Int32 × Int32 × Int32)) l D classes (sf_tys cI cZ cJ) y_LW_move (sf_wsH y_LW_move b_LW_move 4 (some .int) [(0, 9, 12, 23), (0, 9, 15, 13), (0, 9, 18, 15)]) 7 168 [.ref (q 0), .int mo, .ref a] (lw_x q a cI cZ cJ fl sl tb np nt cp cc cb ch cm mp mc mb mh mm us ta tp tl cu bl pf sh fo) (fun r => some (.int (lw_c 0 1 2 3 r.1))) (fun r => r = f_SF_move fl sl tb np nt cp cc cb ch cm mp mc mb mh mm us ta cu bl pf sh mo) (fun r => (lw_x q a cI cZ cJ fl r.2.2.1 r.2.2.2.1 r.2.2.2.2.1 r.2.2.2.2.2.1 r.2.2.2.2.2.2.1 r.2.2.2.2.2.2.2.1 r.2.2.2.2.2.2.2.2.1 r.2.2.2.2.2.2.2.2.2.1 r.2.2.2.2.2.2.2.2.2.2.1 r.2.2.2.2.2.2.2.2.2.2.2.2.1 r.2.2.2.2.2.2.2.2.2.2.2.2.2.1 r.2.2.2.2.2.2.2.2.2.2.2.2.2.2.1 r.2.2.2.2.2.2.2.2.2.2.2.2.2.2.2.1 r.2.2.2.2.2.2.2.2.2.2.2.2.2.2.2.2.1 r.2.2.2.2.2.2.2.2.2.2.2.1 r.2.2.2.2.2.2.2.2.2.2.2.2.2.2.2.2.2.1 tp tl r.2.2.2.2.2.2.2.2.2.2.2.2.2.2.2.2.2.2.1 r.2.2.2.2.2.2.2.2.2.2.2.2.2.2.2.2.2.2.2.1 r.2.2.2.2.2.2.2.2.2.2.2.2.2.2.2.2.2.2.2.2.1 r.2.2.2.2.2.2.2.2.2.2.2.2.2.2.2.2.2.2.2.2.2 (lw_out r.1 fo r.2.1.toInt64))) := by
  refine sf_ofWN (S := (Int32 × Int32 × (Nat → Int32) × (Nat → Int32) × (Nat → Int32) × (Nat → Int32) × (Nat → Int32) × Int32 × Int32 × Int32 × Int32 × (Nat → Int32) × (Nat → Int32) × Int32 × Int32 × Int32 × Int32 × (Nat → Int32) × Int32 × Int32 × Int32 × Int32)) (by decide) (Nat.le_of_ble_eq_true rfl) ?_
  intro p e s m below meth c A ls R args Q hR hArgs hQ hC0 hr htab hE hN hK hP hD hl
  obtain ⟨hx, hb, hml, hown, hts, hA, hlk⟩ := hC0
  have hS : va_S A s.heap s.heap [] := va_S.rf
  have hl : lv_has ls 4 [(0, .ref (q 0)), (1, .int mo), (2, .ref a)] := hl
  refine lv_aload_n hx hb d_LW_move_0 rfl (lv_at hl 2 rfl) ?_
  refine lv_iconst (v := 0) hx hb d_LW_move_1 (by decide) ?_
  refine lv_aload_n hx hb d_LW_move_2 rfl (lv_at hl 0 rfl) ?_
  refine lv_iload_n hx hb d_LW_move_3 rfl (lv_at hl 1 rfl) ?_
  refine sf_xcallV (S := (Int32 × Int32 × (Nat → Int32) × (Nat → Int32) × (Nat → Int32) × (Nat → Int32) × (Nat → Int32) × Int32 × Int32 × Int32 × Int32 × (Nat → Int32) × (Nat → Int32) × Int32 × Int32 × Int32 × Int32 × (Nat → Int32) × Int32 × Int32 × Int32 × Int32)) (rest := [.int 0, .ref a]) ⟨hx, hb, hml, hown, hts⟩ (c_SF_move l D cI cZ cJ hst q fl sl tb np nt cp cc cb ch cm mp mc mb mh mm us ta tp tl cu bl pf sh mo) (sf_cwVX lk_LW_29 hts (fun _ h => h) (by rw [hR]; exact ⟨Nat.le_of_ble_eq_true rfl, Nat.le_of_ble_eq_true rfl⟩)) hK hE hP hD hS hA (fun _ => rfl) (ci := 2) (q0 := 0) rfl rfl rfl rfl rfl hl.1 (Nat.le_of_ble_eq_true rfl) d_LW_move_4 ⟨by rw [hR]; exact Nat.le_of_ble_eq_true rfl, by rw [hR]; exact Nat.le_of_ble_eq_true rfl⟩ (fun u H locs q9 ce hne hu hP hD hS hce hcv hcl => ?_) (fun u H locs ht0 hu hP hD hS => ?_)
  · have hP : va_P D classes (lw_x q a cI cZ cJ fl u.2.2.1 u.2.2.2.1 u.2.2.2.2.1 u.2.2.2.2.2.1 u.2.2.2.2.2.2.1 u.2.2.2.2.2.2.2.1 u.2.2.2.2.2.2.2.2.1 u.2.2.2.2.2.2.2.2.2.1 u.2.2.2.2.2.2.2.2.2.2.1 u.2.2.2.2.2.2.2.2.2.2.2.2.1 u.2.2.2.2.2.2.2.2.2.2.2.2.2.1 u.2.2.2.2.2.2.2.2.2.2.2.2.2.2.1 u.2.2.2.2.2.2.2.2.2.2.2.2.2.2.2.1 u.2.2.2.2.2.2.2.2.2.2.2.2.2.2.2.2.1 u.2.2.2.2.2.2.2.2.2.2.2.1 u.2.2.2.2.2.2.2.2.2.2.2.2.2.2.2.2.2.1 tp tl u.2.2.2.2.2.2.2.2.2.2.2.2.2.2.2.2.2.2.1 u.2.2.2.2.2.2.2.2.2.2.2.2.2.2.2.2.2.2.2.1 u.2.2.2.2.2.2.2.2.2.2.2.2.2.2.2.2.2.2.2.2.1 u.2.2.2.2.2.2.2.2.2.2.2.2.2.2.2.2.2.2.2.2.2 fo) H := hP
    rcases sf_TC4 (show sf_TC [0, 2, 3, 4] u by rw [hu]; exact t_SF_move _ _ _ _ _ _ _ _ _ _ _ _ _ _ _ _ _ _ _ _ _ _) with ht | ht | ht | ht
    · exact absurd ht hne
    · rw [ht] at hcl
      have hcl : s.vm.findClass "java/lang/IllegalStateException" = some ce.cls := hcl
      refine vx_catch (own := R_LW) (name := "java/lang/IllegalStateException") (E := "java/lang/IllegalStateException") hown [] ⟨0, 9, 12, 23⟩ [⟨0, 9, 15, 13⟩, ⟨0, 9, 18, 15⟩] (by rw [htab]; rfl) (fun _ h => absurd h List.not_mem_nil) rfl (by decide) (hts _ wd_300) (sf_xw1 hts hE.1 xw_326) hce hcv hcl ?_
      refine lv_astore_n (lv' := [(3, .ref q9), (0, .ref (q 0)), (1, .int mo), (2, .ref a)]) hx hb d_LW_move_12 rfl hl (by decide) rfl (fun ls hl => ?_)
      refine lv_iconst (v := 1) hx hb d_LW_move_13 (by decide) ?_
      rw [hQ]
      exact sf_niret u hx hb hr hlk hS (show some (Value.int (lw_c 0 1 2 3 u.1)) = some (.int 1) by rw [show u.1 = 2 from ht]; rfl) hu (show va_P D classes (lw_x q a cI cZ cJ fl u.2.2.1 u.2.2.2.1 u.2.2.2.2.1 u.2.2.2.2.2.1 u.2.2.2.2.2.2.1 u.2.2.2.2.2.2.2.1 u.2.2.2.2.2.2.2.2.1 u.2.2.2.2.2.2.2.2.2.1 u.2.2.2.2.2.2.2.2.2.2.1 u.2.2.2.2.2.2.2.2.2.2.2.2.1 u.2.2.2.2.2.2.2.2.2.2.2.2.2.1 u.2.2.2.2.2.2.2.2.2.2.2.2.2.2.1 u.2.2.2.2.2.2.2.2.2.2.2.2.2.2.2.1 u.2.2.2.2.2.2.2.2.2.2.2.2.2.2.2.2.1 u.2.2.2.2.2.2.2.2.2.2.2.1 u.2.2.2.2.2.2.2.2.2.2.2.2.2.2.2.2.2.1 tp tl u.2.2.2.2.2.2.2.2.2.2.2.2.2.2.2.2.2.2.1 u.2.2.2.2.2.2.2.2.2.2.2.2.2.2.2.2.2.2.2.1 u.2.2.2.2.2.2.2.2.2.2.2.2.2.2.2.2.2.2.2.2.1 u.2.2.2.2.2.2.2.2.2.2.2.2.2.2.2.2.2.2.2.2.2 (lw_out u.1 fo u.2.1.toInt64)) _ by rw [lw_out_n hne]; exact hP) d_LW_move_14
    · rw [ht] at hcl
      have hcl : s.vm.findClass "java/lang/IllegalArgumentException" = some ce.cls := hcl
      refine vx_catch (own := R_LW) (name := "java/lang/IllegalArgumentException") (E := "java/lang/IllegalArgumentException") hown [⟨0, 9, 12, 23⟩] ⟨0, 9, 15, 13⟩ [⟨0, 9, 18, 15⟩] (by rw [htab]; rfl) (List.forall_mem_cons.mpr ⟨Or.inr ⟨by decide, "java/lang/IllegalStateException", hts _ wd_300, hN ("java/lang/IllegalArgumentException", "java/lang/IllegalStateException") (by decide +kernel)⟩, (fun _ h => absurd h List.not_mem_nil)⟩) rfl (by decide) (hts _ wd_201) (sf_xw1 hts hE.1 xw_209) hce hcv hcl ?_
      refine lv_astore_n (lv' := [(3, .ref q9), (0, .ref (q 0)), (1, .int mo), (2, .ref a)]) hx hb d_LW_move_15 rfl hl (by decide) rfl (fun ls hl => ?_)
      refine lv_iconst (v := 2) hx hb d_LW_move_16 (by decide) ?_
      rw [hQ]
      exact sf_niret u hx hb hr hlk hS (show some (Value.int (lw_c 0 1 2 3 u.1)) = some (.int 2) by rw [show u.1 = 3 from ht]; rfl) hu (show va_P D classes (lw_x q a cI cZ cJ fl u.2.2.1 u.2.2.2.1 u.2.2.2.2.1 u.2.2.2.2.2.1 u.2.2.2.2.2.2.1 u.2.2.2.2.2.2.2.1 u.2.2.2.2.2.2.2.2.1 u.2.2.2.2.2.2.2.2.2.1 u.2.2.2.2.2.2.2.2.2.2.1 u.2.2.2.2.2.2.2.2.2.2.2.2.1 u.2.2.2.2.2.2.2.2.2.2.2.2.2.1 u.2.2.2.2.2.2.2.2.2.2.2.2.2.2.1 u.2.2.2.2.2.2.2.2.2.2.2.2.2.2.2.1 u.2.2.2.2.2.2.2.2.2.2.2.2.2.2.2.2.1 u.2.2.2.2.2.2.2.2.2.2.2.1 u.2.2.2.2.2.2.2.2.2.2.2.2.2.2.2.2.2.1 tp tl u.2.2.2.2.2.2.2.2.2.2.2.2.2.2.2.2.2.2.1 u.2.2.2.2.2.2.2.2.2.2.2.2.2.2.2.2.2.2.2.1 u.2.2.2.2.2.2.2.2.2.2.2.2.2.2.2.2.2.2.2.2.1 u.2.2.2.2.2.2.2.2.2.2.2.2.2.2.2.2.2.2.2.2.2 (lw_out u.1 fo u.2.1.toInt64)) _ by rw [lw_out_n hne]; exact hP) d_LW_move_17
    · rw [ht] at hcl
      have hcl : s.vm.findClass "java/lang/UnsupportedOperationException" = some ce.cls := hcl
      refine vx_catch (own := R_LW) (name := "java/lang/UnsupportedOperationException") (E := "java/lang/UnsupportedOperationException") hown [⟨0, 9, 12, 23⟩, ⟨0, 9, 15, 13⟩] ⟨0, 9, 18, 15⟩ [] (by rw [htab]; rfl) (List.forall_mem_cons.mpr ⟨Or.inr ⟨by decide, "java/lang/IllegalStateException", hts _ wd_300, hN ("java/lang/UnsupportedOperationException", "java/lang/IllegalStateException") (by decide +kernel)⟩, (List.forall_mem_cons.mpr ⟨Or.inr ⟨by decide, "java/lang/IllegalArgumentException", hts _ wd_201, hN ("java/lang/UnsupportedOperationException", "java/lang/IllegalArgumentException") (by decide +kernel)⟩, (fun _ h => absurd h List.not_mem_nil)⟩)⟩) rfl (by decide) (hts _ wd_202) (sf_xw1 hts hE.1 xw_278) hce hcv hcl ?_
      refine lv_astore_n (lv' := [(3, .ref q9), (0, .ref (q 0)), (1, .int mo), (2, .ref a)]) hx hb d_LW_move_18 rfl hl (by decide) rfl (fun ls hl => ?_)
      refine lv_iconst (v := 3) hx hb d_LW_move_19 (by decide) ?_
      rw [hQ]
      exact sf_niret u hx hb hr hlk hS (show some (Value.int (lw_c 0 1 2 3 u.1)) = some (.int 3) by rw [show u.1 = 4 from ht]; rfl) hu (show va_P D classes (lw_x q a cI cZ cJ fl u.2.2.1 u.2.2.2.1 u.2.2.2.2.1 u.2.2.2.2.2.1 u.2.2.2.2.2.2.1 u.2.2.2.2.2.2.2.1 u.2.2.2.2.2.2.2.2.1 u.2.2.2.2.2.2.2.2.2.1 u.2.2.2.2.2.2.2.2.2.2.1 u.2.2.2.2.2.2.2.2.2.2.2.2.1 u.2.2.2.2.2.2.2.2.2.2.2.2.2.1 u.2.2.2.2.2.2.2.2.2.2.2.2.2.2.1 u.2.2.2.2.2.2.2.2.2.2.2.2.2.2.2.1 u.2.2.2.2.2.2.2.2.2.2.2.2.2.2.2.2.1 u.2.2.2.2.2.2.2.2.2.2.2.1 u.2.2.2.2.2.2.2.2.2.2.2.2.2.2.2.2.2.1 tp tl u.2.2.2.2.2.2.2.2.2.2.2.2.2.2.2.2.2.2.1 u.2.2.2.2.2.2.2.2.2.2.2.2.2.2.2.2.2.2.2.1 u.2.2.2.2.2.2.2.2.2.2.2.2.2.2.2.2.2.2.2.2.1 u.2.2.2.2.2.2.2.2.2.2.2.2.2.2.2.2.2.2.2.2.2 (lw_out u.1 fo u.2.1.toInt64)) _ by rw [lw_out_n hne]; exact hP) d_LW_move_20
  · have hP : va_P D classes (lw_x q a cI cZ cJ fl u.2.2.1 u.2.2.2.1 u.2.2.2.2.1 u.2.2.2.2.2.1 u.2.2.2.2.2.2.1 u.2.2.2.2.2.2.2.1 u.2.2.2.2.2.2.2.2.1 u.2.2.2.2.2.2.2.2.2.1 u.2.2.2.2.2.2.2.2.2.2.1 u.2.2.2.2.2.2.2.2.2.2.2.2.1 u.2.2.2.2.2.2.2.2.2.2.2.2.2.1 u.2.2.2.2.2.2.2.2.2.2.2.2.2.2.1 u.2.2.2.2.2.2.2.2.2.2.2.2.2.2.2.1 u.2.2.2.2.2.2.2.2.2.2.2.2.2.2.2.2.1 u.2.2.2.2.2.2.2.2.2.2.2.1 u.2.2.2.2.2.2.2.2.2.2.2.2.2.2.2.2.2.1 tp tl u.2.2.2.2.2.2.2.2.2.2.2.2.2.2.2.2.2.2.1 u.2.2.2.2.2.2.2.2.2.2.2.2.2.2.2.2.2.2.2.1 u.2.2.2.2.2.2.2.2.2.2.2.2.2.2.2.2.2.2.2.2.1 u.2.2.2.2.2.2.2.2.2.2.2.2.2.2.2.2.2.2.2.2.2 fo) H := hP
    have hD : va_D A (lw_x q a cI cZ cJ fl u.2.2.1 u.2.2.2.1 u.2.2.2.2.1 u.2.2.2.2.2.1 u.2.2.2.2.2.2.1 u.2.2.2.2.2.2.2.1 u.2.2.2.2.2.2.2.2.1 u.2.2.2.2.2.2.2.2.2.1 u.2.2.2.2.2.2.2.2.2.2.1 u.2.2.2.2.2.2.2.2.2.2.2.2.1 u.2.2.2.2.2.2.2.2.2.2.2.2.2.1 u.2.2.2.2.2.2.2.2.2.2.2.2.2.2.1 u.2.2.2.2.2.2.2.2.2.2.2.2.2.2.2.1 u.2.2.2.2.2.2.2.2.2.2.2.2.2.2.2.2.1 u.2.2.2.2.2.2.2.2.2.2.2.1 u.2.2.2.2.2.2.2.2.2.2.2.2.2.2.2.2.2.1 tp tl u.2.2.2.2.2.2.2.2.2.2.2.2.2.2.2.2.2.2.1 u.2.2.2.2.2.2.2.2.2.2.2.2.2.2.2.2.2.2.2.1 u.2.2.2.2.2.2.2.2.2.2.2.2.2.2.2.2.2.2.2.2.1 u.2.2.2.2.2.2.2.2.2.2.2.2.2.2.2.2.2.2.2.2.2 fo) := hD
    refine lv_i2l (v := (u.2.1).toInt64) hx hb d_LW_move_7 rfl ?_
    refine va_last hx hb hK hP hD hS 18 2 rfl rfl (show vp_in 0 1 from vp_in_nI (n := 0) (by omega) (by omega)) d_LW_move_8 (fun H locs hP hD hS => ?_)
    have hP : va_P D classes (lw_x q a cI cZ cJ fl u.2.2.1 u.2.2.2.1 u.2.2.2.2.1 u.2.2.2.2.2.1 u.2.2.2.2.2.2.1 u.2.2.2.2.2.2.2.1 u.2.2.2.2.2.2.2.2.1 u.2.2.2.2.2.2.2.2.2.1 u.2.2.2.2.2.2.2.2.2.2.1 u.2.2.2.2.2.2.2.2.2.2.2.2.1 u.2.2.2.2.2.2.2.2.2.2.2.2.2.1 u.2.2.2.2.2.2.2.2.2.2.2.2.2.2.1 u.2.2.2.2.2.2.2.2.2.2.2.2.2.2.2.1 u.2.2.2.2.2.2.2.2.2.2.2.2.2.2.2.2.1 u.2.2.2.2.2.2.2.2.2.2.2.1 u.2.2.2.2.2.2.2.2.2.2.2.2.2.2.2.2.2.1 tp tl u.2.2.2.2.2.2.2.2.2.2.2.2.2.2.2.2.2.2.1 u.2.2.2.2.2.2.2.2.2.2.2.2.2.2.2.2.2.2.2.1 u.2.2.2.2.2.2.2.2.2.2.2.2.2.2.2.2.2.2.2.2.1 u.2.2.2.2.2.2.2.2.2.2.2.2.2.2.2.2.2.2.2.2.2 (vp_updL fo 0 ((u.2.1).toInt64))) H := hP
    have hD : va_D A (lw_x q a cI cZ cJ fl u.2.2.1 u.2.2.2.1 u.2.2.2.2.1 u.2.2.2.2.2.1 u.2.2.2.2.2.2.1 u.2.2.2.2.2.2.2.1 u.2.2.2.2.2.2.2.2.1 u.2.2.2.2.2.2.2.2.2.1 u.2.2.2.2.2.2.2.2.2.2.1 u.2.2.2.2.2.2.2.2.2.2.2.2.1 u.2.2.2.2.2.2.2.2.2.2.2.2.2.1 u.2.2.2.2.2.2.2.2.2.2.2.2.2.2.1 u.2.2.2.2.2.2.2.2.2.2.2.2.2.2.2.1 u.2.2.2.2.2.2.2.2.2.2.2.2.2.2.2.2.1 u.2.2.2.2.2.2.2.2.2.2.2.1 u.2.2.2.2.2.2.2.2.2.2.2.2.2.2.2.2.2.1 tp tl u.2.2.2.2.2.2.2.2.2.2.2.2.2.2.2.2.2.2.1 u.2.2.2.2.2.2.2.2.2.2.2.2.2.2.2.2.2.2.2.1 u.2.2.2.2.2.2.2.2.2.2.2.2.2.2.2.2.2.2.2.2.1 u.2.2.2.2.2.2.2.2.2.2.2.2.2.2.2.2.2.2.2.2.2 (vp_updL fo 0 ((u.2.1).toInt64))) := hD
    refine lv_goto (tgt := 21) hx hb d_LW_move_9 (by decide) ?_
    refine lv_iconst (v := 0) hx hb d_LW_move_21 (by decide) ?_
    rw [hQ]
    exact sf_niret u hx hb hr hlk hS (show some (Value.int (lw_c 0 1 2 3 u.1)) = some (.int 0) by rw [show u.1 = 0 from ht0]; rfl) hu (show va_P D classes (lw_x q a cI cZ cJ fl u.2.2.1 u.2.2.2.1 u.2.2.2.2.1 u.2.2.2.2.2.1 u.2.2.2.2.2.2.1 u.2.2.2.2.2.2.2.1 u.2.2.2.2.2.2.2.2.1 u.2.2.2.2.2.2.2.2.2.1 u.2.2.2.2.2.2.2.2.2.2.1 u.2.2.2.2.2.2.2.2.2.2.2.2.1 u.2.2.2.2.2.2.2.2.2.2.2.2.2.1 u.2.2.2.2.2.2.2.2.2.2.2.2.2.2.1 u.2.2.2.2.2.2.2.2.2.2.2.2.2.2.2.1 u.2.2.2.2.2.2.2.2.2.2.2.2.2.2.2.2.1 u.2.2.2.2.2.2.2.2.2.2.2.1 u.2.2.2.2.2.2.2.2.2.2.2.2.2.2.2.2.2.1 tp tl u.2.2.2.2.2.2.2.2.2.2.2.2.2.2.2.2.2.2.1 u.2.2.2.2.2.2.2.2.2.2.2.2.2.2.2.2.2.2.2.1 u.2.2.2.2.2.2.2.2.2.2.2.2.2.2.2.2.2.2.2.2.1 u.2.2.2.2.2.2.2.2.2.2.2.2.2.2.2.2.2.2.2.2.2 (lw_out u.1 fo u.2.1.toInt64)) _ by rw [lw_out_0 ht0]; exact hP) d_LW_move_22
set_option maxHeartbeats 2000000 in
set_option maxRecDepth 100000 in
/-- cut -/
theorem c_LW_cut (l : Launch) (D : va_G) (cI cZ cJ : ClassId) (hst : l.stackTraces = false) (q : Nat → Nat) (a : Nat) (fl : Nat → Int32) (sl : Nat → Int32) (tb : Nat → Int32) (np : Nat → Int32) (nt : Nat → Int32) (cp : Nat → Int32) (cc : Int32) (cb : Int32) (ch : Int32) (cm : Int32) (mp : Nat → Int32) (mc : Int32) (mb : Int32) (mh : Int32) (mm : Int32) (us : Nat → Int32) (ta : Nat → Int32) (tp : Nat → Int32) (tl : Int32) (cu : Int32) (bl : Int32) (pf : Int32) (sh : Int32) (fo : Nat → Int64) (bt : Int32) : sf_N (S := (Int32 × Int32)) l D classes (sf_tys cI cZ cJ) y_LW_cut (sf_wsH y_LW_cut b_LW_cut 3 (some .int) [(0, 5, 8, 13)]) 7 111 [.ref (q 0), .int bt] (lw_x q a cI cZ cJ fl sl tb np nt cp cc cb ch cm mp mc mb mh mm us ta tp tl cu bl pf sh fo) (fun r => some (.int (lw_c 0 0 1 0 r.1))) (fun r => r = f_SF_cut cu bt) (fun r => (lw_x q a cI cZ cJ fl sl tb np nt cp cc cb ch cm mp mc mb mh mm us ta tp tl r.2 bl pf sh fo)) := by
  refine sf_ofWN (S := (Int32 × Int32)) (by decide) (Nat.le_of_ble_eq_true rfl) ?_
  intro p e s m below meth c A ls R args Q hR hArgs hQ hC0 hr htab hE hN hK hP hD hl
  obtain ⟨hx, hb, hml, hown, hts, hA, hlk⟩ := hC0
  have hS : va_S A s.heap s.heap [] := va_S.rf
  have hl : lv_has ls 3 [(0, .ref (q 0)), (1, .int bt)] := hl
  refine lv_aload_n hx hb d_LW_cut_0 rfl (lv_at hl 0 rfl) ?_
  refine lv_iload_n hx hb d_LW_cut_1 rfl (lv_at hl 1 rfl) ?_
  refine sf_xcallV (S := (Int32 × Int32)) (rest := []) ⟨hx, hb, hml, hown, hts⟩ (c_SF_cut l D cI cZ cJ hst q fl sl tb np nt cp cc cb ch cm mp mc mb mh mm us ta tp tl cu bl pf sh bt) (sf_cwVX lk_LW_32 hts (fun _ h => h) (by rw [hR]; exact ⟨Nat.le_of_ble_eq_true rfl, Nat.le_of_ble_eq_true rfl⟩)) hK hE hP hD hS hA (fun _ => rfl) (ci := 2) (q0 := 0) rfl rfl rfl rfl rfl hl.1 (Nat.le_of_ble_eq_true rfl) d_LW_cut_2 ⟨by rw [hR]; exact Nat.le_of_ble_eq_true rfl, by rw [hR]; exact Nat.le_of_ble_eq_true rfl⟩ (fun u H locs q9 ce hne hu hP hD hS hce hcv hcl => ?_) (fun u H locs ht0 hu hP hD hS => ?_)
  · have hP : va_P D classes (lw_x q a cI cZ cJ fl sl tb np nt cp cc cb ch cm mp mc mb mh mm us ta tp tl u.2 bl pf sh fo) H := hP
    rcases sf_TC2 (show sf_TC [0, 3] u by rw [hu]; exact t_SF_cut _ _) with ht | ht
    · exact absurd ht hne
    · rw [ht] at hcl
      have hcl : s.vm.findClass "java/lang/IllegalArgumentException" = some ce.cls := hcl
      refine vx_catch (own := R_LW) (name := "java/lang/IllegalArgumentException") (E := "java/lang/IllegalArgumentException") hown [] ⟨0, 5, 8, 13⟩ [] (by rw [htab]; rfl) (fun _ h => absurd h List.not_mem_nil) rfl (by decide) (hts _ wd_201) (sf_xw1 hts hE.1 xw_209) hce hcv hcl ?_
      refine lv_astore_n (lv' := [(2, .ref q9), (0, .ref (q 0)), (1, .int bt)]) hx hb d_LW_cut_8 rfl hl (by decide) rfl (fun ls hl => ?_)
      refine lv_iconst (v := 1) hx hb d_LW_cut_9 (by decide) ?_
      rw [hQ]
      exact sf_niret u hx hb hr hlk hS (show some (Value.int (lw_c 0 0 1 0 u.1)) = some (.int 1) by rw [show u.1 = 3 from ht]; rfl) hu (show va_P D classes (lw_x q a cI cZ cJ fl sl tb np nt cp cc cb ch cm mp mc mb mh mm us ta tp tl u.2 bl pf sh fo) _ by exact hP) d_LW_cut_10
  · have hP : va_P D classes (lw_x q a cI cZ cJ fl sl tb np nt cp cc cb ch cm mp mc mb mh mm us ta tp tl u.2 bl pf sh fo) H := hP
    have hD : va_D A (lw_x q a cI cZ cJ fl sl tb np nt cp cc cb ch cm mp mc mb mh mm us ta tp tl u.2 bl pf sh fo) := hD
    refine lv_goto (tgt := 11) hx hb d_LW_cut_5 (by decide) ?_
    refine lv_iconst (v := 0) hx hb d_LW_cut_11 (by decide) ?_
    rw [hQ]
    exact sf_niret u hx hb hr hlk hS (show some (Value.int (lw_c 0 0 1 0 u.1)) = some (.int 0) by rw [show u.1 = 0 from ht0]; rfl) hu (show va_P D classes (lw_x q a cI cZ cJ fl sl tb np nt cp cc cb ch cm mp mc mb mh mm us ta tp tl u.2 bl pf sh fo) _ by exact hP) d_LW_cut_12
set_option maxHeartbeats 2000000 in
set_option maxRecDepth 100000 in
/-- row -/
theorem c_LW_row (l : Launch) (D : va_G) (cI cZ cJ : ClassId) (hst : l.stackTraces = false) (q : Nat → Nat) (a : Nat) (fl : Nat → Int32) (sl : Nat → Int32) (tb : Nat → Int32) (np : Nat → Int32) (nt : Nat → Int32) (cp : Nat → Int32) (cc : Int32) (cb : Int32) (ch : Int32) (cm : Int32) (mp : Nat → Int32) (mc : Int32) (mb : Int32) (mh : Int32) (mm : Int32) (us : Nat → Int32) (ta : Nat → Int32) (tp : Nat → Int32) (tl : Int32) (cu : Int32) (bl : Int32) (pf : Int32) (sh : Int32) (fo : Nat → Int64) (ro : Int32) (i : Int32) : sf_N (S := (Int32 × Int32 × (Nat → Int32) × Int32 × Int32 × Int32 × Int32)) l D classes (sf_tys cI cZ cJ) y_LW_row (sf_wsH y_LW_row b_LW_row 5 (some .int) [(0, 10, 13, 21), (0, 10, 17, 23)]) 7 142 [.ref (q 0), .int ro, .int i, .ref a] (lw_x q a cI cZ cJ fl sl tb np nt cp cc cb ch cm mp mc mb mh mm us ta tp tl cu bl pf sh fo) (fun r => some (.int (lw_c 1 2 0 0 r.1))) (fun r => r = f_SF_row fl sl tb cp cc cb ch cm sh ro i) (fun r => (lw_x q a cI cZ cJ fl sl tb np nt r.2.2.1 r.2.2.2.1 r.2.2.2.2.1 r.2.2.2.2.2.1 r.2.2.2.2.2.2 mp mc mb mh mm us ta tp tl cu bl pf sh (lw_out r.1 fo r.2.1.toInt64))) := by
  refine sf_ofWN (S := (Int32 × Int32 × (Nat → Int32) × Int32 × Int32 × Int32 × Int32)) (by decide) (Nat.le_of_ble_eq_true rfl) ?_
  intro p e s m below meth c A ls R args Q hR hArgs hQ hC0 hr htab hE hN hK hP hD hl
  obtain ⟨hx, hb, hml, hown, hts, hA, hlk⟩ := hC0
  have hS : va_S A s.heap s.heap [] := va_S.rf
  have hl : lv_has ls 5 [(0, .ref (q 0)), (1, .int ro), (2, .int i), (3, .ref a)] := hl
  refine lv_aload_n hx hb d_LW_row_0 rfl (lv_at hl 3 rfl) ?_
  refine lv_iconst (v := 0) hx hb d_LW_row_1 (by decide) ?_
  refine lv_aload_n hx hb d_LW_row_2 rfl (lv_at hl 0 rfl) ?_
  refine lv_iload_n hx hb d_LW_row_3 rfl (lv_at hl 1 rfl) ?_
  refine lv_iload_n hx hb d_LW_row_4 rfl (lv_at hl 2 rfl) ?_
  refine sf_xcallV (S := (Int32 × Int32 × (Nat → Int32) × Int32 × Int32 × Int32 × Int32)) (rest := [.int 0, .ref a]) ⟨hx, hb, hml, hown, hts⟩ (c_SF_row l D cI cZ cJ hst q fl sl tb np nt cp cc cb ch cm mp mc mb mh mm us ta tp tl cu bl pf sh ro i) (sf_cwVX lk_LW_36 hts (fun _ h => h) (by rw [hR]; exact ⟨Nat.le_of_ble_eq_true rfl, Nat.le_of_ble_eq_true rfl⟩)) hK hE hP hD hS hA (fun _ => rfl) (ci := 2) (q0 := 0) rfl rfl rfl rfl rfl hl.1 (Nat.le_of_ble_eq_true rfl) d_LW_row_5 ⟨by rw [hR]; exact Nat.le_of_ble_eq_true rfl, by rw [hR]; exact Nat.le_of_ble_eq_true rfl⟩ (fun u H locs q9 ce hne hu hP hD hS hce hcv hcl => ?_) (fun u H locs ht0 hu hP hD hS => ?_)
  · have hP : va_P D classes (lw_x q a cI cZ cJ fl sl tb np nt u.2.2.1 u.2.2.2.1 u.2.2.2.2.1 u.2.2.2.2.2.1 u.2.2.2.2.2.2 mp mc mb mh mm us ta tp tl cu bl pf sh fo) H := hP
    rcases sf_TC3 (show sf_TC [0, 1, 2] u by rw [hu]; exact t_SF_row _ _ _ _ _ _ _ _ _ _ _) with ht | ht | ht
    · exact absurd ht hne
    · rw [ht] at hcl
      have hcl : s.vm.findClass "java/lang/IndexOutOfBoundsException" = some ce.cls := hcl
      refine vx_catch (own := R_LW) (name := "java/lang/IndexOutOfBoundsException") (E := "java/lang/IndexOutOfBoundsException") hown [] ⟨0, 10, 13, 21⟩ [⟨0, 10, 17, 23⟩] (by rw [htab]; rfl) (fun _ h => absurd h List.not_mem_nil) rfl (by decide) (hts _ wd_299) (sf_xw1 hts hE.1 xw_310) hce hcv hcl ?_
      refine lv_astore (lv' := [(4, .ref q9), (0, .ref (q 0)), (1, .int ro), (2, .int i), (3, .ref a)]) hx hb d_LW_row_13 hl (by decide) rfl (fun ls hl => ?_)
      refine lv_iconst (v := 1) hx hb d_LW_row_15 (by decide) ?_
      rw [hQ]
      exact sf_niret u hx hb hr hlk hS (show some (Value.int (lw_c 1 2 0 0 u.1)) = some (.int 1) by rw [show u.1 = 1 from ht]; rfl) hu (show va_P D classes (lw_x q a cI cZ cJ fl sl tb np nt u.2.2.1 u.2.2.2.1 u.2.2.2.2.1 u.2.2.2.2.2.1 u.2.2.2.2.2.2 mp mc mb mh mm us ta tp tl cu bl pf sh (lw_out u.1 fo u.2.1.toInt64)) _ by rw [lw_out_n hne]; exact hP) d_LW_row_16
    · rw [ht] at hcl
      have hcl : s.vm.findClass "java/lang/IllegalStateException" = some ce.cls := hcl
      refine vx_catch (own := R_LW) (name := "java/lang/IllegalStateException") (E := "java/lang/IllegalStateException") hown [⟨0, 10, 13, 21⟩] ⟨0, 10, 17, 23⟩ [] (by rw [htab]; rfl) (List.forall_mem_cons.mpr ⟨Or.inr ⟨by decide, "java/lang/IndexOutOfBoundsException", hts _ wd_299, hN ("java/lang/IllegalStateException", "java/lang/IndexOutOfBoundsException") (by decide +kernel)⟩, (fun _ h => absurd h List.not_mem_nil)⟩) rfl (by decide) (hts _ wd_300) (sf_xw1 hts hE.1 xw_326) hce hcv hcl ?_
      refine lv_astore (lv' := [(4, .ref q9), (0, .ref (q 0)), (1, .int ro), (2, .int i), (3, .ref a)]) hx hb d_LW_row_17 hl (by decide) rfl (fun ls hl => ?_)
      refine lv_iconst (v := 2) hx hb d_LW_row_19 (by decide) ?_
      rw [hQ]
      exact sf_niret u hx hb hr hlk hS (show some (Value.int (lw_c 1 2 0 0 u.1)) = some (.int 2) by rw [show u.1 = 2 from ht]; rfl) hu (show va_P D classes (lw_x q a cI cZ cJ fl sl tb np nt u.2.2.1 u.2.2.2.1 u.2.2.2.2.1 u.2.2.2.2.2.1 u.2.2.2.2.2.2 mp mc mb mh mm us ta tp tl cu bl pf sh (lw_out u.1 fo u.2.1.toInt64)) _ by rw [lw_out_n hne]; exact hP) d_LW_row_20
  · have hP : va_P D classes (lw_x q a cI cZ cJ fl sl tb np nt u.2.2.1 u.2.2.2.1 u.2.2.2.2.1 u.2.2.2.2.2.1 u.2.2.2.2.2.2 mp mc mb mh mm us ta tp tl cu bl pf sh fo) H := hP
    have hD : va_D A (lw_x q a cI cZ cJ fl sl tb np nt u.2.2.1 u.2.2.2.1 u.2.2.2.2.1 u.2.2.2.2.2.1 u.2.2.2.2.2.2 mp mc mb mh mm us ta tp tl cu bl pf sh fo) := hD
    refine lv_i2l (v := (u.2.1).toInt64) hx hb d_LW_row_8 rfl ?_
    refine va_last hx hb hK hP hD hS 18 2 rfl rfl (show vp_in 0 1 from vp_in_nI (n := 0) (by omega) (by omega)) d_LW_row_9 (fun H locs hP hD hS => ?_)
    have hP : va_P D classes (lw_x q a cI cZ cJ fl sl tb np nt u.2.2.1 u.2.2.2.1 u.2.2.2.2.1 u.2.2.2.2.2.1 u.2.2.2.2.2.2 mp mc mb mh mm us ta tp tl cu bl pf sh (vp_updL fo 0 ((u.2.1).toInt64))) H := hP
    have hD : va_D A (lw_x q a cI cZ cJ fl sl tb np nt u.2.2.1 u.2.2.2.1 u.2.2.2.2.1 u.2.2.2.2.2.1 u.2.2.2.2.2.2 mp mc mb mh mm us ta tp tl cu bl pf sh (vp_updL fo 0 ((u.2.1).toInt64))) := hD
    refine lv_goto (tgt := 21) hx hb d_LW_row_10 (by decide) ?_
    refine lv_iconst (v := 0) hx hb d_LW_row_21 (by decide) ?_
    rw [hQ]
    exact sf_niret u hx hb hr hlk hS (show some (Value.int (lw_c 1 2 0 0 u.1)) = some (.int 0) by rw [show u.1 = 0 from ht0]; rfl) hu (show va_P D classes (lw_x q a cI cZ cJ fl sl tb np nt u.2.2.1 u.2.2.2.1 u.2.2.2.2.1 u.2.2.2.2.2.1 u.2.2.2.2.2.2 mp mc mb mh mm us ta tp tl cu bl pf sh (lw_out u.1 fo u.2.1.toInt64)) _ by rw [lw_out_0 ht0]; exact hP) d_LW_row_22
set_option maxHeartbeats 2000000 in
set_option maxRecDepth 100000 in
/-- at -/
theorem c_LW_at (l : Launch) (D : va_G) (cI cZ cJ : ClassId) (hst : l.stackTraces = false) (q : Nat → Nat) (a : Nat) (fl : Nat → Int32) (sl : Nat → Int32) (tb : Nat → Int32) (np : Nat → Int32) (nt : Nat → Int32) (cp : Nat → Int32) (cc : Int32) (cb : Int32) (ch : Int32) (cm : Int32) (mp : Nat → Int32) (mc : Int32) (mb : Int32) (mh : Int32) (mm : Int32) (us : Nat → Int32) (ta : Nat → Int32) (tp : Nat → Int32) (tl : Int32) (cu : Int32) (bl : Int32) (pf : Int32) (sh : Int32) (fo : Nat → Int64) (ro : Int32) (wt : Int32) : sf_N (S := (Int32 × Int32 × (Nat → Int32) × Int32 × Int32 × Int32 × Int32)) l D classes (sf_tys cI cZ cJ) y_LW_at (sf_wsH y_LW_at b_LW_at 5 (some .int) [(0, 10, 13, 21), (0, 10, 17, 23)]) 7 142 [.ref (q 0), .int ro, .int wt, .ref a] (lw_x q a cI cZ cJ fl sl tb np nt cp cc cb ch cm mp mc mb mh mm us ta tp tl cu bl pf sh fo) (fun r => some (.int (lw_c 1 2 0 0 r.1))) (fun r => r = f_SF_at fl sl tb cp cc cb ch cm sh ro wt) (fun r => (lw_x q a cI cZ cJ fl sl tb np nt r.2.2.1 r.2.2.2.1 r.2.2.2.2.1 r.2.2.2.2.2.1 r.2.2.2.2.2.2 mp mc mb mh mm us ta tp tl cu bl pf sh (lw_out r.1 fo r.2.1.toInt64))) := by
  refine sf_ofWN (S := (Int32 × Int32 × (Nat → Int32) × Int32 × Int32 × Int32 × Int32)) (by decide) (Nat.le_of_ble_eq_true rfl) ?_
  intro p e s m below meth c A ls R args Q hR hArgs hQ hC0 hr htab hE hN hK hP hD hl
  obtain ⟨hx, hb, hml, hown, hts, hA, hlk⟩ := hC0
  have hS : va_S A s.heap s.heap [] := va_S.rf
  have hl : lv_has ls 5 [(0, .ref (q 0)), (1, .int ro), (2, .int wt), (3, .ref a)] := hl
  refine lv_aload_n hx hb d_LW_at_0 rfl (lv_at hl 3 rfl) ?_
  refine lv_iconst (v := 0) hx hb d_LW_at_1 (by decide) ?_
  refine lv_aload_n hx hb d_LW_at_2 rfl (lv_at hl 0 rfl) ?_
  refine lv_iload_n hx hb d_LW_at_3 rfl (lv_at hl 1 rfl) ?_
  refine lv_iload_n hx hb d_LW_at_4 rfl (lv_at hl 2 rfl) ?_
  refine sf_xcallV (S := (Int32 × Int32 × (Nat → Int32) × Int32 × Int32 × Int32 × Int32)) (rest := [.int 0, .ref a]) ⟨hx, hb, hml, hown, hts⟩ (c_SF_at l D cI cZ cJ hst q fl sl tb np nt cp cc cb ch cm mp mc mb mh mm us ta tp tl cu bl pf sh ro wt) (sf_cwVX lk_LW_39 hts (fun _ h => h) (by rw [hR]; exact ⟨Nat.le_of_ble_eq_true rfl, Nat.le_of_ble_eq_true rfl⟩)) hK hE hP hD hS hA (fun _ => rfl) (ci := 2) (q0 := 0) rfl rfl rfl rfl rfl hl.1 (Nat.le_of_ble_eq_true rfl) d_LW_at_5 ⟨by rw [hR]; exact Nat.le_of_ble_eq_true rfl, by rw [hR]; exact Nat.le_of_ble_eq_true rfl⟩ (fun u H locs q9 ce hne hu hP hD hS hce hcv hcl => ?_) (fun u H locs ht0 hu hP hD hS => ?_)
  · have hP : va_P D classes (lw_x q a cI cZ cJ fl sl tb np nt u.2.2.1 u.2.2.2.1 u.2.2.2.2.1 u.2.2.2.2.2.1 u.2.2.2.2.2.2 mp mc mb mh mm us ta tp tl cu bl pf sh fo) H := hP
    rcases sf_TC3 (show sf_TC [0, 1, 2] u by rw [hu]; exact t_SF_at _ _ _ _ _ _ _ _ _ _ _) with ht | ht | ht
    · exact absurd ht hne
    · rw [ht] at hcl
      have hcl : s.vm.findClass "java/lang/IndexOutOfBoundsException" = some ce.cls := hcl
      refine vx_catch (own := R_LW) (name := "java/lang/IndexOutOfBoundsException") (E := "java/lang/IndexOutOfBoundsException") hown [] ⟨0, 10, 13, 21⟩ [⟨0, 10, 17, 23⟩] (by rw [htab]; rfl) (fun _ h => absurd h List.not_mem_nil) rfl (by decide) (hts _ wd_299) (sf_xw1 hts hE.1 xw_310) hce hcv hcl ?_
      refine lv_astore (lv' := [(4, .ref q9), (0, .ref (q 0)), (1, .int ro), (2, .int wt), (3, .ref a)]) hx hb d_LW_at_13 hl (by decide) rfl (fun ls hl => ?_)
      refine lv_iconst (v := 1) hx hb d_LW_at_15 (by decide) ?_
      rw [hQ]
      exact sf_niret u hx hb hr hlk hS (show some (Value.int (lw_c 1 2 0 0 u.1)) = some (.int 1) by rw [show u.1 = 1 from ht]; rfl) hu (show va_P D classes (lw_x q a cI cZ cJ fl sl tb np nt u.2.2.1 u.2.2.2.1 u.2.2.2.2.1 u.2.2.2.2.2.1 u.2.2.2.2.2.2 mp mc mb mh mm us ta tp tl cu bl pf sh (lw_out u.1 fo u.2.1.toInt64)) _ by rw [lw_out_n hne]; exact hP) d_LW_at_16
    · rw [ht] at hcl
      have hcl : s.vm.findClass "java/lang/IllegalStateException" = some ce.cls := hcl
      refine vx_catch (own := R_LW) (name := "java/lang/IllegalStateException") (E := "java/lang/IllegalStateException") hown [⟨0, 10, 13, 21⟩] ⟨0, 10, 17, 23⟩ [] (by rw [htab]; rfl) (List.forall_mem_cons.mpr ⟨Or.inr ⟨by decide, "java/lang/IndexOutOfBoundsException", hts _ wd_299, hN ("java/lang/IllegalStateException", "java/lang/IndexOutOfBoundsException") (by decide +kernel)⟩, (fun _ h => absurd h List.not_mem_nil)⟩) rfl (by decide) (hts _ wd_300) (sf_xw1 hts hE.1 xw_326) hce hcv hcl ?_
      refine lv_astore (lv' := [(4, .ref q9), (0, .ref (q 0)), (1, .int ro), (2, .int wt), (3, .ref a)]) hx hb d_LW_at_17 hl (by decide) rfl (fun ls hl => ?_)
      refine lv_iconst (v := 2) hx hb d_LW_at_19 (by decide) ?_
      rw [hQ]
      exact sf_niret u hx hb hr hlk hS (show some (Value.int (lw_c 1 2 0 0 u.1)) = some (.int 2) by rw [show u.1 = 2 from ht]; rfl) hu (show va_P D classes (lw_x q a cI cZ cJ fl sl tb np nt u.2.2.1 u.2.2.2.1 u.2.2.2.2.1 u.2.2.2.2.2.1 u.2.2.2.2.2.2 mp mc mb mh mm us ta tp tl cu bl pf sh (lw_out u.1 fo u.2.1.toInt64)) _ by rw [lw_out_n hne]; exact hP) d_LW_at_20
  · have hP : va_P D classes (lw_x q a cI cZ cJ fl sl tb np nt u.2.2.1 u.2.2.2.1 u.2.2.2.2.1 u.2.2.2.2.2.1 u.2.2.2.2.2.2 mp mc mb mh mm us ta tp tl cu bl pf sh fo) H := hP
    have hD : va_D A (lw_x q a cI cZ cJ fl sl tb np nt u.2.2.1 u.2.2.2.1 u.2.2.2.2.1 u.2.2.2.2.2.1 u.2.2.2.2.2.2 mp mc mb mh mm us ta tp tl cu bl pf sh fo) := hD
    refine lv_i2l (v := (u.2.1).toInt64) hx hb d_LW_at_8 rfl ?_
    refine va_last hx hb hK hP hD hS 18 2 rfl rfl (show vp_in 0 1 from vp_in_nI (n := 0) (by omega) (by omega)) d_LW_at_9 (fun H locs hP hD hS => ?_)
    have hP : va_P D classes (lw_x q a cI cZ cJ fl sl tb np nt u.2.2.1 u.2.2.2.1 u.2.2.2.2.1 u.2.2.2.2.2.1 u.2.2.2.2.2.2 mp mc mb mh mm us ta tp tl cu bl pf sh (vp_updL fo 0 ((u.2.1).toInt64))) H := hP
    have hD : va_D A (lw_x q a cI cZ cJ fl sl tb np nt u.2.2.1 u.2.2.2.1 u.2.2.2.2.1 u.2.2.2.2.2.1 u.2.2.2.2.2.2 mp mc mb mh mm us ta tp tl cu bl pf sh (vp_updL fo 0 ((u.2.1).toInt64))) := hD
    refine lv_goto (tgt := 21) hx hb d_LW_at_10 (by decide) ?_
    refine lv_iconst (v := 0) hx hb d_LW_at_21 (by decide) ?_
    rw [hQ]
    exact sf_niret u hx hb hr hlk hS (show some (Value.int (lw_c 1 2 0 0 u.1)) = some (.int 0) by rw [show u.1 = 0 from ht0]; rfl) hu (show va_P D classes (lw_x q a cI cZ cJ fl sl tb np nt u.2.2.1 u.2.2.2.1 u.2.2.2.2.1 u.2.2.2.2.2.1 u.2.2.2.2.2.2 mp mc mb mh mm us ta tp tl cu bl pf sh (lw_out u.1 fo u.2.1.toInt64)) _ by rw [lw_out_0 ht0]; exact hP) d_LW_at_22
set_option maxHeartbeats 2000000 in
set_option maxRecDepth 100000 in
/-- told -/
theorem c_LW_told (l : Launch) (D : va_G) (cI cZ cJ : ClassId) (hst : l.stackTraces = false) (q : Nat → Nat) (a : Nat) (fl : Nat → Int32) (sl : Nat → Int32) (tb : Nat → Int32) (np : Nat → Int32) (nt : Nat → Int32) (cp : Nat → Int32) (cc : Int32) (cb : Int32) (ch : Int32) (cm : Int32) (mp : Nat → Int32) (mc : Int32) (mb : Int32) (mh : Int32) (mm : Int32) (us : Nat → Int32) (ta : Nat → Int32) (tp : Nat → Int32) (tl : Int32) (cu : Int32) (bl : Int32) (pf : Int32) (sh : Int32) (fo : Nat → Int64) (wt : Int32) : sf_N (S := (Int32 × Int32 × (Nat → Int32) × (Nat → Int32) × Int32 × Int32 × Int32 × Int32)) l D classes (sf_tys cI cZ cJ) y_LW_told (sf_wsH y_LW_told b_LW_told 4 (some .int) [(0, 9, 12, 21), (0, 9, 15, 23)]) 7 165 [.ref (q 0), .int wt, .ref a] (lw_x q a cI cZ cJ fl sl tb np nt cp cc cb ch cm mp mc mb mh mm us ta tp tl cu bl pf sh fo) (fun r => some (.int (lw_c 1 2 0 0 r.1))) (fun r => r = f_SF_told fl sl tb mp mc mb mh mm us tl sh wt) (fun r => (lw_x q a cI cZ cJ fl sl tb np nt cp cc cb ch cm r.2.2.2.1 r.2.2.2.2.1 r.2.2.2.2.2.1 r.2.2.2.2.2.2.1 r.2.2.2.2.2.2.2 r.2.2.1 ta tp tl cu bl pf sh (lw_out r.1 fo r.2.1.toInt64))) := by
  refine sf_ofWN (S := (Int32 × Int32 × (Nat → Int32) × (Nat → Int32) × Int32 × Int32 × Int32 × Int32)) (by decide) (Nat.le_of_ble_eq_true rfl) ?_
  intro p e s m below meth c A ls R args Q hR hArgs hQ hC0 hr htab hE hN hK hP hD hl
  obtain ⟨hx, hb, hml, hown, hts, hA, hlk⟩ := hC0
  have hS : va_S A s.heap s.heap [] := va_S.rf
  have hl : lv_has ls 4 [(0, .ref (q 0)), (1, .int wt), (2, .ref a)] := hl
  refine lv_aload_n hx hb d_LW_told_0 rfl (lv_at hl 2 rfl) ?_
  refine lv_iconst (v := 0) hx hb d_LW_told_1 (by decide) ?_
  refine lv_aload_n hx hb d_LW_told_2 rfl (lv_at hl 0 rfl) ?_
  refine lv_iload_n hx hb d_LW_told_3 rfl (lv_at hl 1 rfl) ?_
  refine sf_xcallV (S := (Int32 × Int32 × (Nat → Int32) × (Nat → Int32) × Int32 × Int32 × Int32 × Int32)) (rest := [.int 0, .ref a]) ⟨hx, hb, hml, hown, hts⟩ (c_SF_told l D cI cZ cJ hst q fl sl tb np nt cp cc cb ch cm mp mc mb mh mm us ta tp tl cu bl pf sh wt) (sf_cwVX lk_LW_42 hts (fun _ h => h) (by rw [hR]; exact ⟨Nat.le_of_ble_eq_true rfl, Nat.le_of_ble_eq_true rfl⟩)) hK hE hP hD hS hA (fun _ => rfl) (ci := 2) (q0 := 0) rfl rfl rfl rfl rfl hl.1 (Nat.le_of_ble_eq_true rfl) d_LW_told_4 ⟨by rw [hR]; exact Nat.le_of_ble_eq_true rfl, by rw [hR]; exact Nat.le_of_ble_eq_true rfl⟩ (fun u H locs q9 ce hne hu hP hD hS hce hcv hcl => ?_) (fun u H locs ht0 hu hP hD hS => ?_)
  · have hP : va_P D classes (lw_x q a cI cZ cJ fl sl tb np nt cp cc cb ch cm u.2.2.2.1 u.2.2.2.2.1 u.2.2.2.2.2.1 u.2.2.2.2.2.2.1 u.2.2.2.2.2.2.2 u.2.2.1 ta tp tl cu bl pf sh fo) H := hP
    rcases sf_TC3 (show sf_TC [0, 1, 2] u by rw [hu]; exact t_SF_told _ _ _ _ _ _ _ _ _ _ _ _) with ht | ht | ht
    · exact absurd ht hne
    · rw [ht] at hcl
      have hcl : s.vm.findClass "java/lang/IndexOutOfBoundsException" = some ce.cls := hcl
      refine vx_catch (own := R_LW) (name := "java/lang/IndexOutOfBoundsException") (E := "java/lang/IndexOutOfBoundsException") hown [] ⟨0, 9, 12, 21⟩ [⟨0, 9, 15, 23⟩] (by rw [htab]; rfl) (fun _ h => absurd h List.not_mem_nil) rfl (by decide) (hts _ wd_299) (sf_xw1 hts hE.1 xw_310) hce hcv hcl ?_
      refine lv_astore_n (lv' := [(3, .ref q9), (0, .ref (q 0)), (1, .int wt), (2, .ref a)]) hx hb d_LW_told_12 rfl hl (by decide) rfl (fun ls hl => ?_)
      refine lv_iconst (v := 1) hx hb d_LW_told_13 (by decide) ?_
      rw [hQ]
      exact sf_niret u hx hb hr hlk hS (show some (Value.int (lw_c 1 2 0 0 u.1)) = some (.int 1) by rw [show u.1 = 1 from ht]; rfl) hu (show va_P D classes (lw_x q a cI cZ cJ fl sl tb np nt cp cc cb ch cm u.2.2.2.1 u.2.2.2.2.1 u.2.2.2.2.2.1 u.2.2.2.2.2.2.1 u.2.2.2.2.2.2.2 u.2.2.1 ta tp tl cu bl pf sh (lw_out u.1 fo u.2.1.toInt64)) _ by rw [lw_out_n hne]; exact hP) d_LW_told_14
    · rw [ht] at hcl
      have hcl : s.vm.findClass "java/lang/IllegalStateException" = some ce.cls := hcl
      refine vx_catch (own := R_LW) (name := "java/lang/IllegalStateException") (E := "java/lang/IllegalStateException") hown [⟨0, 9, 12, 21⟩] ⟨0, 9, 15, 23⟩ [] (by rw [htab]; rfl) (List.forall_mem_cons.mpr ⟨Or.inr ⟨by decide, "java/lang/IndexOutOfBoundsException", hts _ wd_299, hN ("java/lang/IllegalStateException", "java/lang/IndexOutOfBoundsException") (by decide +kernel)⟩, (fun _ h => absurd h List.not_mem_nil)⟩) rfl (by decide) (hts _ wd_300) (sf_xw1 hts hE.1 xw_326) hce hcv hcl ?_
      refine lv_astore_n (lv' := [(3, .ref q9), (0, .ref (q 0)), (1, .int wt), (2, .ref a)]) hx hb d_LW_told_15 rfl hl (by decide) rfl (fun ls hl => ?_)
      refine lv_iconst (v := 2) hx hb d_LW_told_16 (by decide) ?_
      rw [hQ]
      exact sf_niret u hx hb hr hlk hS (show some (Value.int (lw_c 1 2 0 0 u.1)) = some (.int 2) by rw [show u.1 = 2 from ht]; rfl) hu (show va_P D classes (lw_x q a cI cZ cJ fl sl tb np nt cp cc cb ch cm u.2.2.2.1 u.2.2.2.2.1 u.2.2.2.2.2.1 u.2.2.2.2.2.2.1 u.2.2.2.2.2.2.2 u.2.2.1 ta tp tl cu bl pf sh (lw_out u.1 fo u.2.1.toInt64)) _ by rw [lw_out_n hne]; exact hP) d_LW_told_17
  · have hP : va_P D classes (lw_x q a cI cZ cJ fl sl tb np nt cp cc cb ch cm u.2.2.2.1 u.2.2.2.2.1 u.2.2.2.2.2.1 u.2.2.2.2.2.2.1 u.2.2.2.2.2.2.2 u.2.2.1 ta tp tl cu bl pf sh fo) H := hP
    have hD : va_D A (lw_x q a cI cZ cJ fl sl tb np nt cp cc cb ch cm u.2.2.2.1 u.2.2.2.2.1 u.2.2.2.2.2.1 u.2.2.2.2.2.2.1 u.2.2.2.2.2.2.2 u.2.2.1 ta tp tl cu bl pf sh fo) := hD
    refine lv_i2l (v := (u.2.1).toInt64) hx hb d_LW_told_7 rfl ?_
    refine va_last hx hb hK hP hD hS 18 2 rfl rfl (show vp_in 0 1 from vp_in_nI (n := 0) (by omega) (by omega)) d_LW_told_8 (fun H locs hP hD hS => ?_)
    have hP : va_P D classes (lw_x q a cI cZ cJ fl sl tb np nt cp cc cb ch cm u.2.2.2.1 u.2.2.2.2.1 u.2.2.2.2.2.1 u.2.2.2.2.2.2.1 u.2.2.2.2.2.2.2 u.2.2.1 ta tp tl cu bl pf sh (vp_updL fo 0 ((u.2.1).toInt64))) H := hP
    have hD : va_D A (lw_x q a cI cZ cJ fl sl tb np nt cp cc cb ch cm u.2.2.2.1 u.2.2.2.2.1 u.2.2.2.2.2.1 u.2.2.2.2.2.2.1 u.2.2.2.2.2.2.2 u.2.2.1 ta tp tl cu bl pf sh (vp_updL fo 0 ((u.2.1).toInt64))) := hD
    refine lv_goto (tgt := 18) hx hb d_LW_told_9 (by decide) ?_
    refine lv_iconst (v := 0) hx hb d_LW_told_18 (by decide) ?_
    rw [hQ]
    exact sf_niret u hx hb hr hlk hS (show some (Value.int (lw_c 1 2 0 0 u.1)) = some (.int 0) by rw [show u.1 = 0 from ht0]; rfl) hu (show va_P D classes (lw_x q a cI cZ cJ fl sl tb np nt cp cc cb ch cm u.2.2.2.1 u.2.2.2.2.1 u.2.2.2.2.2.1 u.2.2.2.2.2.2.1 u.2.2.2.2.2.2.2 u.2.2.1 ta tp tl cu bl pf sh (lw_out u.1 fo u.2.1.toInt64)) _ by rw [lw_out_0 ht0]; exact hP) d_LW_told_19
set_option maxHeartbeats 2000000 in
set_option maxRecDepth 100000 in
/-- wrong -/
theorem c_LW_wrong (l : Launch) (D : va_G) (cI cZ cJ : ClassId) (hst : l.stackTraces = false) (q : Nat → Nat) (a : Nat) (fl : Nat → Int32) (sl : Nat → Int32) (tb : Nat → Int32) (np : Nat → Int32) (nt : Nat → Int32) (cp : Nat → Int32) (cc : Int32) (cb : Int32) (ch : Int32) (cm : Int32) (mp : Nat → Int32) (mc : Int32) (mb : Int32) (mh : Int32) (mm : Int32) (us : Nat → Int32) (ta : Nat → Int32) (tp : Nat → Int32) (tl : Int32) (cu : Int32) (bl : Int32) (pf : Int32) (sh : Int32) (fo : Nat → Int64) (wt : Int32) (wk : Int32) : sf_N (S := (Int32 × Int32 × (Nat → Int32) × (Nat → Int32) × Int32 × Int32 × Int32 × Int32)) l D classes (sf_tys cI cZ cJ) y_LW_wrong (sf_wsH y_LW_wrong b_LW_wrong 5 (some .int) [(0, 10, 13, 21)]) 7 168 [.ref (q 0), .int wt, .int wk, .ref a] (lw_x q a cI cZ cJ fl sl tb np nt cp cc cb ch cm mp mc mb mh mm us ta tp tl cu bl pf sh fo) (fun r => some (.int (lw_c 1 0 0 0 r.1))) (fun r => r = f_SF_wrong fl sl tb mp mc mb mh mm us wt wk) (fun r => (lw_x q a cI cZ cJ fl sl tb np nt cp cc cb ch cm r.2.2.2.1 r.2.2.2.2.1 r.2.2.2.2.2.1 r.2.2.2.2.2.2.1 r.2.2.2.2.2.2.2 r.2.2.1 ta tp tl cu bl pf sh (lw_out r.1 fo r.2.1.toInt64))) := by
  refine sf_ofWN (S := (Int32 × Int32 × (Nat → Int32) × (Nat → Int32) × Int32 × Int32 × Int32 × Int32)) (by decide) (Nat.le_of_ble_eq_true rfl) ?_
  intro p e s m below meth c A ls R args Q hR hArgs hQ hC0 hr htab hE hN hK hP hD hl
  obtain ⟨hx, hb, hml, hown, hts, hA, hlk⟩ := hC0
  have hS : va_S A s.heap s.heap [] := va_S.rf
  have hl : lv_has ls 5 [(0, .ref (q 0)), (1, .int wt), (2, .int wk), (3, .ref a)] := hl
  refine lv_aload_n hx hb d_LW_wrong_0 rfl (lv_at hl 3 rfl) ?_
  refine lv_iconst (v := 0) hx hb d_LW_wrong_1 (by decide) ?_
  refine lv_aload_n hx hb d_LW_wrong_2 rfl (lv_at hl 0 rfl) ?_
  refine lv_iload_n hx hb d_LW_wrong_3 rfl (lv_at hl 1 rfl) ?_
  refine lv_iload_n hx hb d_LW_wrong_4 rfl (lv_at hl 2 rfl) ?_
  refine sf_xcallV (S := (Int32 × Int32 × (Nat → Int32) × (Nat → Int32) × Int32 × Int32 × Int32 × Int32)) (rest := [.int 0, .ref a]) ⟨hx, hb, hml, hown, hts⟩ (c_SF_wrong l D cI cZ cJ hst q fl sl tb np nt cp cc cb ch cm mp mc mb mh mm us ta tp tl cu bl pf sh wt wk) (sf_cwVX lk_LW_45 hts (fun _ h => h) (by rw [hR]; exact ⟨Nat.le_of_ble_eq_true rfl, Nat.le_of_ble_eq_true rfl⟩)) hK hE hP hD hS hA (fun _ => rfl) (ci := 2) (q0 := 0) rfl rfl rfl rfl rfl hl.1 (Nat.le_of_ble_eq_true rfl) d_LW_wrong_5 ⟨by rw [hR]; exact Nat.le_of_ble_eq_true rfl, by rw [hR]; exact Nat.le_of_ble_eq_true rfl⟩ (fun u H locs q9 ce hne hu hP hD hS hce hcv hcl => ?_) (fun u H locs ht0 hu hP hD hS => ?_)
  · have hP : va_P D classes (lw_x q a cI cZ cJ fl sl tb np nt cp cc cb ch cm u.2.2.2.1 u.2.2.2.2.1 u.2.2.2.2.2.1 u.2.2.2.2.2.2.1 u.2.2.2.2.2.2.2 u.2.2.1 ta tp tl cu bl pf sh fo) H := hP
    rcases sf_TC2 (show sf_TC [0, 1] u by rw [hu]; exact t_SF_wrong _ _ _ _ _ _ _ _ _ _ _) with ht | ht
    · exact absurd ht hne
    · rw [ht] at hcl
      have hcl : s.vm.findClass "java/lang/IndexOutOfBoundsException" = some ce.cls := hcl
      refine vx_catch (own := R_LW) (name := "java/lang/IndexOutOfBoundsException") (E := "java/lang/IndexOutOfBoundsException") hown [] ⟨0, 10, 13, 21⟩ [] (by rw [htab]; rfl) (fun _ h => absurd h List.not_mem_nil) rfl (by decide) (hts _ wd_299) (sf_xw1 hts hE.1 xw_310) hce hcv hcl ?_
      refine lv_astore (lv' := [(4, .ref q9), (0, .ref (q 0)), (1, .int wt), (2, .int wk), (3, .ref a)]) hx hb d_LW_wrong_13 hl (by decide) rfl (fun ls hl => ?_)
      refine lv_iconst (v := 1) hx hb d_LW_wrong_15 (by decide) ?_
      rw [hQ]
      exact sf_niret u hx hb hr hlk hS (show some (Value.int (lw_c 1 0 0 0 u.1)) = some (.int 1) by rw [show u.1 = 1 from ht]; rfl) hu (show va_P D classes (lw_x q a cI cZ cJ fl sl tb np nt cp cc cb ch cm u.2.2.2.1 u.2.2.2.2.1 u.2.2.2.2.2.1 u.2.2.2.2.2.2.1 u.2.2.2.2.2.2.2 u.2.2.1 ta tp tl cu bl pf sh (lw_out u.1 fo u.2.1.toInt64)) _ by rw [lw_out_n hne]; exact hP) d_LW_wrong_16
  · have hP : va_P D classes (lw_x q a cI cZ cJ fl sl tb np nt cp cc cb ch cm u.2.2.2.1 u.2.2.2.2.1 u.2.2.2.2.2.1 u.2.2.2.2.2.2.1 u.2.2.2.2.2.2.2 u.2.2.1 ta tp tl cu bl pf sh fo) H := hP
    have hD : va_D A (lw_x q a cI cZ cJ fl sl tb np nt cp cc cb ch cm u.2.2.2.1 u.2.2.2.2.1 u.2.2.2.2.2.1 u.2.2.2.2.2.2.1 u.2.2.2.2.2.2.2 u.2.2.1 ta tp tl cu bl pf sh fo) := hD
    refine lv_i2l (v := (u.2.1).toInt64) hx hb d_LW_wrong_8 rfl ?_
    refine va_last hx hb hK hP hD hS 18 2 rfl rfl (show vp_in 0 1 from vp_in_nI (n := 0) (by omega) (by omega)) d_LW_wrong_9 (fun H locs hP hD hS => ?_)
    have hP : va_P D classes (lw_x q a cI cZ cJ fl sl tb np nt cp cc cb ch cm u.2.2.2.1 u.2.2.2.2.1 u.2.2.2.2.2.1 u.2.2.2.2.2.2.1 u.2.2.2.2.2.2.2 u.2.2.1 ta tp tl cu bl pf sh (vp_updL fo 0 ((u.2.1).toInt64))) H := hP
    have hD : va_D A (lw_x q a cI cZ cJ fl sl tb np nt cp cc cb ch cm u.2.2.2.1 u.2.2.2.2.1 u.2.2.2.2.2.1 u.2.2.2.2.2.2.1 u.2.2.2.2.2.2.2 u.2.2.1 ta tp tl cu bl pf sh (vp_updL fo 0 ((u.2.1).toInt64))) := hD
    refine lv_goto (tgt := 17) hx hb d_LW_wrong_10 (by decide) ?_
    refine lv_iconst (v := 0) hx hb d_LW_wrong_17 (by decide) ?_
    rw [hQ]
    exact sf_niret u hx hb hr hlk hS (show some (Value.int (lw_c 1 0 0 0 u.1)) = some (.int 0) by rw [show u.1 = 0 from ht0]; rfl) hu (show va_P D classes (lw_x q a cI cZ cJ fl sl tb np nt cp cc cb ch cm u.2.2.2.1 u.2.2.2.2.1 u.2.2.2.2.2.1 u.2.2.2.2.2.2.1 u.2.2.2.2.2.2.2 u.2.2.1 ta tp tl cu bl pf sh (lw_out u.1 fo u.2.1.toInt64)) _ by rw [lw_out_0 ht0]; exact hP) d_LW_wrong_18
set_option maxHeartbeats 2000000 in
set_option maxRecDepth 100000 in
/-- byteAt -/
theorem c_LW_byteAt (l : Launch) (D : va_G) (cI cZ cJ : ClassId) (hst : l.stackTraces = false) (q : Nat → Nat) (a : Nat) (fl : Nat → Int32) (sl : Nat → Int32) (tb : Nat → Int32) (np : Nat → Int32) (nt : Nat → Int32) (cp : Nat → Int32) (cc : Int32) (cb : Int32) (ch : Int32) (cm : Int32) (mp : Nat → Int32) (mc : Int32) (mb : Int32) (mh : Int32) (mm : Int32) (us : Nat → Int32) (ta : Nat → Int32) (tp : Nat → Int32) (tl : Int32) (cu : Int32) (bl : Int32) (pf : Int32) (sh : Int32) (fo : Nat → Int64) (wt : Int32) (i : Int32) : sf_N (S := (Int32 × Int32)) l D classes (sf_tys cI cZ cJ) y_LW_byteAt (sf_wsH y_LW_byteAt b_LW_byteAt 5 (some .int) [(0, 10, 13, 21)]) 7 112 [.ref (q 0), .int wt, .int i, .ref a] (lw_x q a cI cZ cJ fl sl tb np nt cp cc cb ch cm mp mc mb mh mm us ta tp tl cu bl pf sh fo) (fun r => some (.int (lw_c 1 0 0 0 r.1))) (fun r => r = f_SF_byteAt fl sl tb wt i) (fun r => (lw_x q a cI cZ cJ fl sl tb np nt cp cc cb ch cm mp mc mb mh mm us ta tp tl cu bl pf sh (lw_out r.1 fo r.2.toInt64))) := by
  refine sf_ofWN (S := (Int32 × Int32)) (by decide) (Nat.le_of_ble_eq_true rfl) ?_
  intro p e s m below meth c A ls R args Q hR hArgs hQ hC0 hr htab hE hN hK hP hD hl
  obtain ⟨hx, hb, hml, hown, hts, hA, hlk⟩ := hC0
  have hS : va_S A s.heap s.heap [] := va_S.rf
  have hl : lv_has ls 5 [(0, .ref (q 0)), (1, .int wt), (2, .int i), (3, .ref a)] := hl
  refine lv_aload_n hx hb d_LW_byteAt_0 rfl (lv_at hl 3 rfl) ?_
  refine lv_iconst (v := 0) hx hb d_LW_byteAt_1 (by decide) ?_
  refine lv_aload_n hx hb d_LW_byteAt_2 rfl (lv_at hl 0 rfl) ?_
  refine lv_iload_n hx hb d_LW_byteAt_3 rfl (lv_at hl 1 rfl) ?_
  refine lv_iload_n hx hb d_LW_byteAt_4 rfl (lv_at hl 2 rfl) ?_
  refine sf_xcallV (S := (Int32 × Int32)) (rest := [.int 0, .ref a]) ⟨hx, hb, hml, hown, hts⟩ (c_SF_byteAt l D cI cZ cJ hst q fl sl tb np nt cp cc cb ch cm mp mc mb mh mm us ta tp tl cu bl pf sh wt i) (sf_cwVX lk_LW_48 hts (fun _ h => h) (by rw [hR]; exact ⟨Nat.le_of_ble_eq_true rfl, Nat.le_of_ble_eq_true rfl⟩)) hK hE hP hD hS hA (fun _ => rfl) (ci := 2) (q0 := 0) rfl rfl rfl rfl rfl hl.1 (Nat.le_of_ble_eq_true rfl) d_LW_byteAt_5 ⟨by rw [hR]; exact Nat.le_of_ble_eq_true rfl, by rw [hR]; exact Nat.le_of_ble_eq_true rfl⟩ (fun u H locs q9 ce hne hu hP hD hS hce hcv hcl => ?_) (fun u H locs ht0 hu hP hD hS => ?_)
  · have hP : va_P D classes (lw_x q a cI cZ cJ fl sl tb np nt cp cc cb ch cm mp mc mb mh mm us ta tp tl cu bl pf sh fo) H := hP
    rcases sf_TC2 (show sf_TC [0, 1] u by rw [hu]; exact t_SF_byteAt _ _ _ _ _) with ht | ht
    · exact absurd ht hne
    · rw [ht] at hcl
      have hcl : s.vm.findClass "java/lang/IndexOutOfBoundsException" = some ce.cls := hcl
      refine vx_catch (own := R_LW) (name := "java/lang/IndexOutOfBoundsException") (E := "java/lang/IndexOutOfBoundsException") hown [] ⟨0, 10, 13, 21⟩ [] (by rw [htab]; rfl) (fun _ h => absurd h List.not_mem_nil) rfl (by decide) (hts _ wd_299) (sf_xw1 hts hE.1 xw_310) hce hcv hcl ?_
      refine lv_astore (lv' := [(4, .ref q9), (0, .ref (q 0)), (1, .int wt), (2, .int i), (3, .ref a)]) hx hb d_LW_byteAt_13 hl (by decide) rfl (fun ls hl => ?_)
      refine lv_iconst (v := 1) hx hb d_LW_byteAt_15 (by decide) ?_
      rw [hQ]
      exact sf_niret u hx hb hr hlk hS (show some (Value.int (lw_c 1 0 0 0 u.1)) = some (.int 1) by rw [show u.1 = 1 from ht]; rfl) hu (show va_P D classes (lw_x q a cI cZ cJ fl sl tb np nt cp cc cb ch cm mp mc mb mh mm us ta tp tl cu bl pf sh (lw_out u.1 fo u.2.toInt64)) _ by rw [lw_out_n hne]; exact hP) d_LW_byteAt_16
  · have hP : va_P D classes (lw_x q a cI cZ cJ fl sl tb np nt cp cc cb ch cm mp mc mb mh mm us ta tp tl cu bl pf sh fo) H := hP
    have hD : va_D A (lw_x q a cI cZ cJ fl sl tb np nt cp cc cb ch cm mp mc mb mh mm us ta tp tl cu bl pf sh fo) := hD
    refine lv_i2l (v := (u.2).toInt64) hx hb d_LW_byteAt_8 rfl ?_
    refine va_last hx hb hK hP hD hS 18 2 rfl rfl (show vp_in 0 1 from vp_in_nI (n := 0) (by omega) (by omega)) d_LW_byteAt_9 (fun H locs hP hD hS => ?_)
    have hP : va_P D classes (lw_x q a cI cZ cJ fl sl tb np nt cp cc cb ch cm mp mc mb mh mm us ta tp tl cu bl pf sh (vp_updL fo 0 ((u.2).toInt64))) H := hP
    have hD : va_D A (lw_x q a cI cZ cJ fl sl tb np nt cp cc cb ch cm mp mc mb mh mm us ta tp tl cu bl pf sh (vp_updL fo 0 ((u.2).toInt64))) := hD
    refine lv_goto (tgt := 17) hx hb d_LW_byteAt_10 (by decide) ?_
    refine lv_iconst (v := 0) hx hb d_LW_byteAt_17 (by decide) ?_
    rw [hQ]
    exact sf_niret u hx hb hr hlk hS (show some (Value.int (lw_c 1 0 0 0 u.1)) = some (.int 0) by rw [show u.1 = 0 from ht0]; rfl) hu (show va_P D classes (lw_x q a cI cZ cJ fl sl tb np nt cp cc cb ch cm mp mc mb mh mm us ta tp tl cu bl pf sh (lw_out u.1 fo u.2.toInt64)) _ by rw [lw_out_0 ht0]; exact hP) d_LW_byteAt_18
set_option maxHeartbeats 2000000 in
set_option maxRecDepth 100000 in
/-- poke -/
theorem c_LW_poke (l : Launch) (D : va_G) (cI cZ cJ : ClassId) (hst : l.stackTraces = false) (q : Nat → Nat) (a : Nat) (fl : Nat → Int32) (sl : Nat → Int32) (tb : Nat → Int32) (np : Nat → Int32) (nt : Nat → Int32) (cp : Nat → Int32) (cc : Int32) (cb : Int32) (ch : Int32) (cm : Int32) (mp : Nat → Int32) (mc : Int32) (mb : Int32) (mh : Int32) (mm : Int32) (us : Nat → Int32) (ta : Nat → Int32) (tp : Nat → Int32) (tl : Int32) (cu : Int32) (bl : Int32) (pf : Int32) (sh : Int32) (fo : Nat → Int64) (wt : Int32) (i : Int32) (ma : Int32) : sf_N (S := (Int32 × (Nat → Int32) × (Nat → Int32) × (Nat → Int32) × Int32)) l D classes (sf_tys cI cZ cJ) y_LW_poke (sf_wsH y_LW_poke b_LW_poke 5 (some .int) [(0, 7, 10, 21), (0, 7, 14, 13)]) 7 114 [.ref (q 0), .int wt, .int i, .int ma] (lw_x q a cI cZ cJ fl sl tb np nt cp cc cb ch cm mp mc mb mh mm us ta tp tl cu bl pf sh fo) (fun r => some (.int (lw_c 1 0 2 0 r.1))) (fun r => r = f_SF_poke fl sl tb sh wt i ma) (fun r => (lw_x q a cI cZ cJ r.2.1 r.2.2.1 r.2.2.2.1 np nt cp cc cb ch cm mp mc mb mh mm us ta tp tl cu bl pf r.2.2.2.2 fo)) := by
  refine sf_ofWN (S := (Int32 × (Nat → Int32) × (Nat → Int32) × (Nat → Int32) × Int32)) (by decide) (Nat.le_of_ble_eq_true rfl) ?_
  intro p e s m below meth c A ls R args Q hR hArgs hQ hC0 hr htab hE hN hK hP hD hl
  obtain ⟨hx, hb, hml, hown, hts, hA, hlk⟩ := hC0
  have hS : va_S A s.heap s.heap [] := va_S.rf
  have hl : lv_has ls 5 [(0, .ref (q 0)), (1, .int wt), (2, .int i), (3, .int ma)] := hl
  refine lv_aload_n hx hb d_LW_poke_0 rfl (lv_at hl 0 rfl) ?_
  refine lv_iload_n hx hb d_LW_poke_1 rfl (lv_at hl 1 rfl) ?_
  refine lv_iload_n hx hb d_LW_poke_2 rfl (lv_at hl 2 rfl) ?_
  refine lv_iload_n hx hb d_LW_poke_3 rfl (lv_at hl 3 rfl) ?_
  refine sf_xcallV (S := (Int32 × (Nat → Int32) × (Nat → Int32) × (Nat → Int32) × Int32)) (rest := []) ⟨hx, hb, hml, hown, hts⟩ (c_SF_poke l D cI cZ cJ hst q fl sl tb np nt cp cc cb ch cm mp mc mb mh mm us ta tp tl cu bl pf sh wt i ma) (sf_cwVX lk_LW_51 hts (fun _ h => h) (by rw [hR]; exact ⟨Nat.le_of_ble_eq_true rfl, Nat.le_of_ble_eq_true rfl⟩)) hK hE hP hD hS hA (fun _ => rfl) (ci := 2) (q0 := 0) rfl rfl rfl rfl rfl hl.1 (Nat.le_of_ble_eq_true rfl) d_LW_poke_4 ⟨by rw [hR]; exact Nat.le_of_ble_eq_true rfl, by rw [hR]; exact Nat.le_of_ble_eq_true rfl⟩ (fun u H locs q9 ce hne hu hP hD hS hce hcv hcl => ?_) (fun u H locs ht0 hu hP hD hS => ?_)
  · have hP : va_P D classes (lw_x q a cI cZ cJ u.2.1 u.2.2.1 u.2.2.2.1 np nt cp cc cb ch cm mp mc mb mh mm us ta tp tl cu bl pf u.2.2.2.2 fo) H := hP
    rcases sf_TC3 (show sf_TC [0, 1, 3] u by rw [hu]; exact t_SF_poke _ _ _ _ _ _ _) with ht | ht | ht
    · exact absurd ht hne
    · rw [ht] at hcl
      have hcl : s.vm.findClass "java/lang/IndexOutOfBoundsException" = some ce.cls := hcl
      refine vx_catch (own := R_LW) (name := "java/lang/IndexOutOfBoundsException") (E := "java/lang/IndexOutOfBoundsException") hown [] ⟨0, 7, 10, 21⟩ [⟨0, 7, 14, 13⟩] (by rw [htab]; rfl) (fun _ h => absurd h List.not_mem_nil) rfl (by decide) (hts _ wd_299) (sf_xw1 hts hE.1 xw_310) hce hcv hcl ?_
      refine lv_astore (lv' := [(4, .ref q9), (0, .ref (q 0)), (1, .int wt), (2, .int i), (3, .int ma)]) hx hb d_LW_poke_10 hl (by decide) rfl (fun ls hl => ?_)
      refine lv_iconst (v := 1) hx hb d_LW_poke_12 (by decide) ?_
      rw [hQ]
      exact sf_niret u hx hb hr hlk hS (show some (Value.int (lw_c 1 0 2 0 u.1)) = some (.int 1) by rw [show u.1 = 1 from ht]; rfl) hu (show va_P D classes (lw_x q a cI cZ cJ u.2.1 u.2.2.1 u.2.2.2.1 np nt cp cc cb ch cm mp mc mb mh mm us ta tp tl cu bl pf u.2.2.2.2 fo) _ by exact hP) d_LW_poke_13
    · rw [ht] at hcl
      have hcl : s.vm.findClass "java/lang/IllegalArgumentException" = some ce.cls := hcl
      refine vx_catch (own := R_LW) (name := "java/lang/IllegalArgumentException") (E := "java/lang/IllegalArgumentException") hown [⟨0, 7, 10, 21⟩] ⟨0, 7, 14, 13⟩ [] (by rw [htab]; rfl) (List.forall_mem_cons.mpr ⟨Or.inr ⟨by decide, "java/lang/IndexOutOfBoundsException", hts _ wd_299, hN ("java/lang/IllegalArgumentException", "java/lang/IndexOutOfBoundsException") (by decide +kernel)⟩, (fun _ h => absurd h List.not_mem_nil)⟩) rfl (by decide) (hts _ wd_201) (sf_xw1 hts hE.1 xw_209) hce hcv hcl ?_
      refine lv_astore (lv' := [(4, .ref q9), (0, .ref (q 0)), (1, .int wt), (2, .int i), (3, .int ma)]) hx hb d_LW_poke_14 hl (by decide) rfl (fun ls hl => ?_)
      refine lv_iconst (v := 2) hx hb d_LW_poke_16 (by decide) ?_
      rw [hQ]
      exact sf_niret u hx hb hr hlk hS (show some (Value.int (lw_c 1 0 2 0 u.1)) = some (.int 2) by rw [show u.1 = 3 from ht]; rfl) hu (show va_P D classes (lw_x q a cI cZ cJ u.2.1 u.2.2.1 u.2.2.2.1 np nt cp cc cb ch cm mp mc mb mh mm us ta tp tl cu bl pf u.2.2.2.2 fo) _ by exact hP) d_LW_poke_17
  · have hP : va_P D classes (lw_x q a cI cZ cJ u.2.1 u.2.2.1 u.2.2.2.1 np nt cp cc cb ch cm mp mc mb mh mm us ta tp tl cu bl pf u.2.2.2.2 fo) H := hP
    have hD : va_D A (lw_x q a cI cZ cJ u.2.1 u.2.2.1 u.2.2.2.1 np nt cp cc cb ch cm mp mc mb mh mm us ta tp tl cu bl pf u.2.2.2.2 fo) := hD
    refine lv_goto (tgt := 18) hx hb d_LW_poke_7 (by decide) ?_
    refine lv_iconst (v := 0) hx hb d_LW_poke_18 (by decide) ?_
    rw [hQ]
    exact sf_niret u hx hb hr hlk hS (show some (Value.int (lw_c 1 0 2 0 u.1)) = some (.int 0) by rw [show u.1 = 0 from ht0]; rfl) hu (show va_P D classes (lw_x q a cI cZ cJ u.2.1 u.2.2.1 u.2.2.2.1 np nt cp cc cb ch cm mp mc mb mh mm us ta tp tl cu bl pf u.2.2.2.2 fo) _ by exact hP) d_LW_poke_19
