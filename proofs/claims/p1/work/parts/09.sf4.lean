/-! sf4: contracts, with the pure functions that they speak of (printed by wip/gen) -/
set_option maxRecDepth 20000 in
theorem wd_394 : Cond.methodLink R_SF 103 y_SF_beginWriting ∈ sf_tb := sf_tb_in 394 rfl rfl
set_option maxRecDepth 20000 in
theorem wd_397 : Cond.code y_SF_beginWriting b_SF_beginWriting 3 none ∈ sf_tb := sf_tb_in 397 rfl rfl
set_option maxRecDepth 20000 in
theorem wd_396 : Cond.instanceMethod y_SF_beginWriting ∈ sf_tb := sf_tb_in 396 rfl rfl
set_option maxRecDepth 20000 in
theorem wd_14 : Cond.selects R_SF y_SF_beginWriting y_SF_beginWriting ∈ sf_tb := sf_tb_in 14 rfl rfl
set_option maxRecDepth 20000 in
theorem wd_421 : Cond.methodLink R_SF 114 y_SF_putPlace ∈ sf_tb := sf_tb_in 421 rfl rfl
set_option maxRecDepth 20000 in
theorem wd_424 : Cond.code y_SF_putPlace b_SF_putPlace 3 none ∈ sf_tb := sf_tb_in 424 rfl rfl
set_option maxRecDepth 20000 in
theorem wd_423 : Cond.instanceMethod y_SF_putPlace ∈ sf_tb := sf_tb_in 423 rfl rfl
set_option maxRecDepth 20000 in
theorem wd_19 : Cond.selects R_SF y_SF_putPlace y_SF_putPlace ∈ sf_tb := sf_tb_in 19 rfl rfl
set_option maxRecDepth 20000 in
theorem wd_433 : Cond.methodLink R_SF 118 y_SF_putTable ∈ sf_tb := sf_tb_in 433 rfl rfl
set_option maxRecDepth 20000 in
theorem wd_436 : Cond.code y_SF_putTable b_SF_putTable 6 none ∈ sf_tb := sf_tb_in 436 rfl rfl
set_option maxRecDepth 20000 in
theorem wd_435 : Cond.instanceMethod y_SF_putTable ∈ sf_tb := sf_tb_in 435 rfl rfl
set_option maxRecDepth 20000 in
theorem wd_21 : Cond.selects R_SF y_SF_putTable y_SF_putTable ∈ sf_tb := sf_tb_in 21 rfl rfl
set_option maxRecDepth 20000 in
theorem wd_437 : Cond.methodLink R_SF 121 y_SF_endWriting ∈ sf_tb := sf_tb_in 437 rfl rfl
set_option maxRecDepth 20000 in
theorem wd_440 : Cond.code y_SF_endWriting b_SF_endWriting 1 (some .boolean) ∈ sf_tb := sf_tb_in 440 rfl rfl
set_option maxRecDepth 20000 in
theorem wd_439 : Cond.instanceMethod y_SF_endWriting ∈ sf_tb := sf_tb_in 439 rfl rfl
set_option maxRecDepth 20000 in
theorem wd_22 : Cond.selects R_SF y_SF_endWriting y_SF_endWriting ∈ sf_tb := sf_tb_in 22 rfl rfl
set_option maxRecDepth 20000 in
theorem wd_161 : Cond.methodLink R_SF 125 y_SF_isThere ∈ sf_tb := sf_tb_in 161 rfl rfl
set_option maxRecDepth 20000 in
theorem wd_164 : Cond.code y_SF_isThere b_SF_isThere 3 (some .boolean) ∈ sf_tb := sf_tb_in 164 rfl rfl
set_option maxRecDepth 20000 in
theorem wd_163 : Cond.instanceMethod y_SF_isThere ∈ sf_tb := sf_tb_in 163 rfl rfl
set_option maxRecDepth 20000 in
theorem wd_0 : Cond.selects R_SF y_SF_isThere y_SF_isThere ∈ sf_tb := sf_tb_in 0 rfl rfl
set_option maxRecDepth 20000 in
theorem wd_465 : Cond.methodLink R_SF 148 y_SF_followRow ∈ sf_tb := sf_tb_in 465 rfl rfl
set_option maxRecDepth 20000 in
theorem wd_468 : Cond.code y_SF_followRow b_SF_followRow 4 none ∈ sf_tb := sf_tb_in 468 rfl rfl
set_option maxRecDepth 20000 in
theorem wd_467 : Cond.instanceMethod y_SF_followRow ∈ sf_tb := sf_tb_in 467 rfl rfl
set_option maxRecDepth 20000 in
theorem wd_25 : Cond.selects R_SF y_SF_followRow y_SF_followRow ∈ sf_tb := sf_tb_in 25 rfl rfl
set_option maxRecDepth 20000 in
theorem wd_461 : Cond.methodLink R_SF 157 y_SF_isSlow ∈ sf_tb := sf_tb_in 461 rfl rfl
set_option maxRecDepth 20000 in
theorem wd_464 : Cond.code y_SF_isSlow b_SF_isSlow 2 (some .boolean) ∈ sf_tb := sf_tb_in 464 rfl rfl
set_option maxRecDepth 20000 in
theorem wd_463 : Cond.instanceMethod y_SF_isSlow ∈ sf_tb := sf_tb_in 463 rfl rfl
set_option maxRecDepth 20000 in
theorem wd_24 : Cond.selects R_SF y_SF_isSlow y_SF_isSlow ∈ sf_tb := sf_tb_in 24 rfl rfl
set_option maxRecDepth 20000 in
theorem wd_469 : Cond.methodLink R_SF 170 y_Ch_monthOrNone ∈ sf_tb := sf_tb_in 469 rfl rfl
set_option maxRecDepth 20000 in
theorem wd_472 : Cond.code y_Ch_monthOrNone b_Ch_monthOrNone 1 (some .int) ∈ sf_tb := sf_tb_in 472 rfl rfl
set_option maxRecDepth 20000 in
theorem wd_470 : Cond.instanceMethod y_Ch_monthOrNone ∈ sf_tb := sf_tb_in 470 rfl rfl
set_option maxRecDepth 20000 in
theorem wd_471 : Cond.selects R_Ch y_Ch_monthOrNone y_Ch_monthOrNone ∈ sf_tb := sf_tb_in 471 rfl rfl
set_option maxRecDepth 20000 in
theorem wd_555 : Cond.methodLink R_SF 199 y_SF_partOf ∈ sf_tb := sf_tb_in 555 rfl rfl
set_option maxRecDepth 20000 in
theorem wd_558 : Cond.code y_SF_partOf b_SF_partOf 2 (some (.object "ShadowFiles$Blocks")) ∈ sf_tb := sf_tb_in 558 rfl rfl
set_option maxRecDepth 20000 in
theorem wd_557 : Cond.instanceMethod y_SF_partOf ∈ sf_tb := sf_tb_in 557 rfl rfl
set_option maxRecDepth 20000 in
theorem wd_32 : Cond.selects R_SF y_SF_partOf y_SF_partOf ∈ sf_tb := sf_tb_in 32 rfl rfl
set_option maxRecDepth 20000 in
theorem wd_559 : Cond.methodLink R_SF 212 y_Bl_hasCell ∈ sf_tb := sf_tb_in 559 rfl rfl
set_option maxRecDepth 20000 in
theorem wd_478 : Cond.methodLink R_SF 278 y_SF_preparePlaceFromChain ∈ sf_tb := sf_tb_in 478 rfl rfl
set_option maxRecDepth 20000 in
theorem wd_481 : Cond.code y_SF_preparePlaceFromChain b_SF_preparePlaceFromChain 3 none ∈ sf_tb := sf_tb_in 481 rfl rfl
set_option maxRecDepth 20000 in
theorem wd_480 : Cond.instanceMethod y_SF_preparePlaceFromChain ∈ sf_tb := sf_tb_in 480 rfl rfl
set_option maxRecDepth 20000 in
theorem wd_27 : Cond.selects R_SF y_SF_preparePlaceFromChain y_SF_preparePlaceFromChain ∈ sf_tb := sf_tb_in 27 rfl rfl
theorem lk_SF_103 : sf_LV R_SF 103 y_SF_beginWriting b_SF_beginWriting 3 none 1 := ⟨wd_397, wd_394, wd_396, wd_14, wd_52, by decide +kernel⟩
theorem lk_SF_114 : sf_LV R_SF 114 y_SF_putPlace b_SF_putPlace 3 none 2 := ⟨wd_424, wd_421, wd_423, wd_19, wd_52, by decide +kernel⟩
theorem lk_SF_118 : sf_LV R_SF 118 y_SF_putTable b_SF_putTable 6 none 3 := ⟨wd_436, wd_433, wd_435, wd_21, wd_52, by decide +kernel⟩
theorem lk_SF_121 : sf_LV R_SF 121 y_SF_endWriting b_SF_endWriting 1 (some .boolean) 0 := ⟨wd_440, wd_437, wd_439, wd_22, wd_52, by decide +kernel⟩
theorem lk_SF_125 : sf_LV R_SF 125 y_SF_isThere b_SF_isThere 3 (some .boolean) 1 := ⟨wd_164, wd_161, wd_163, wd_0, wd_52, by decide +kernel⟩
theorem lk_SF_148 : sf_LV R_SF 148 y_SF_followRow b_SF_followRow 4 none 1 := ⟨wd_468, wd_465, wd_467, wd_25, wd_52, by decide +kernel⟩
theorem lk_SF_157 : sf_LV R_SF 157 y_SF_isSlow b_SF_isSlow 2 (some .boolean) 1 := ⟨wd_464, wd_461, wd_463, wd_24, wd_52, by decide +kernel⟩
theorem lk_SF_170 : sf_LV R_SF 170 y_Ch_monthOrNone b_Ch_monthOrNone 1 (some .int) 0 := ⟨wd_472, wd_469, wd_470, wd_471, wd_54, by decide +kernel⟩
theorem lk_SF_199 : sf_LV R_SF 199 y_SF_partOf b_SF_partOf 2 (some (.object "ShadowFiles$Blocks")) 1 := ⟨wd_558, wd_555, wd_557, wd_32, wd_52, by decide +kernel⟩
theorem lk_SF_212 : sf_LV R_SF 212 y_Bl_hasCell b_Bl_hasCell 2 (some .boolean) 1 := ⟨wd_372, wd_559, wd_370, wd_371, wd_53, by decide +kernel⟩
theorem lk_SF_278 : sf_LV R_SF 278 y_SF_preparePlaceFromChain b_SF_preparePlaceFromChain 3 none 1 := ⟨wd_481, wd_478, wd_480, wd_27, wd_52, by decide +kernel⟩
theorem d_SF_partOf_0 : decode b_SF_partOf 0 = .ok (.iload_n 1, 1) := by decide +kernel
theorem d_SF_partOf_1 : decode b_SF_partOf 1 = .ok (.ifCond .ne 8, 3) := by decide +kernel
theorem d_SF_partOf_4 : decode b_SF_partOf 4 = .ok (.aload_n 0, 1) := by decide +kernel
theorem d_SF_partOf_5 : decode b_SF_partOf 5 = .ok (.getfield 14, 3) := by decide +kernel
theorem d_SF_partOf_8 : decode b_SF_partOf 8 = .ok (.areturn, 1) := by decide +kernel
theorem d_SF_partOf_9 : decode b_SF_partOf 9 = .ok (.iload_n 1, 1) := by decide +kernel
theorem d_SF_partOf_10 : decode b_SF_partOf 10 = .ok (.iconst 1, 1) := by decide +kernel
theorem d_SF_partOf_11 : decode b_SF_partOf 11 = .ok (.if_icmp .ne 10, 3) := by decide +kernel
theorem d_SF_partOf_14 : decode b_SF_partOf 14 = .ok (.aload_n 0, 1) := by decide +kernel
theorem d_SF_partOf_15 : decode b_SF_partOf 15 = .ok (.getfield 18, 3) := by decide +kernel
theorem d_SF_partOf_18 : decode b_SF_partOf 18 = .ok (.goto 7, 3) := by decide +kernel
theorem d_SF_partOf_21 : decode b_SF_partOf 21 = .ok (.aload_n 0, 1) := by decide +kernel
theorem d_SF_partOf_22 : decode b_SF_partOf 22 = .ok (.getfield 21, 3) := by decide +kernel
theorem d_SF_partOf_25 : decode b_SF_partOf 25 = .ok (.areturn, 1) := by decide +kernel
theorem d_SF_hasByte_0 : decode b_SF_hasByte 0 = .ok (.iload_n 1, 1) := by decide +kernel
theorem d_SF_hasByte_1 : decode b_SF_hasByte 1 = .ok (.ifCond .lt 24, 3) := by decide +kernel
theorem d_SF_hasByte_4 : decode b_SF_hasByte 4 = .ok (.iload_n 1, 1) := by decide +kernel
theorem d_SF_hasByte_5 : decode b_SF_hasByte 5 = .ok (.iconst 2, 1) := by decide +kernel
theorem d_SF_hasByte_6 : decode b_SF_hasByte 6 = .ok (.if_icmp .gt 19, 3) := by decide +kernel
theorem d_SF_hasByte_9 : decode b_SF_hasByte 9 = .ok (.aload_n 0, 1) := by decide +kernel
theorem d_SF_hasByte_10 : decode b_SF_hasByte 10 = .ok (.iload_n 1, 1) := by decide +kernel
theorem d_SF_hasByte_11 : decode b_SF_hasByte 11 = .ok (.invokevirtual 199, 3) := by decide +kernel
theorem d_SF_hasByte_14 : decode b_SF_hasByte 14 = .ok (.iload_n 2, 1) := by decide +kernel
theorem d_SF_hasByte_15 : decode b_SF_hasByte 15 = .ok (.invokevirtual 212, 3) := by decide +kernel
theorem d_SF_hasByte_18 : decode b_SF_hasByte 18 = .ok (.ifCond .eq 7, 3) := by decide +kernel
theorem d_SF_hasByte_21 : decode b_SF_hasByte 21 = .ok (.iconst 1, 1) := by decide +kernel
theorem d_SF_hasByte_22 : decode b_SF_hasByte 22 = .ok (.goto 4, 3) := by decide +kernel
theorem d_SF_hasByte_25 : decode b_SF_hasByte 25 = .ok (.iconst 0, 1) := by decide +kernel
theorem d_SF_hasByte_26 : decode b_SF_hasByte 26 = .ok (.ireturn, 1) := by decide +kernel
theorem d_SF_followToMove_0 : decode b_SF_followToMove 0 = .ok (.aload_n 0, 1) := by decide +kernel
theorem d_SF_followToMove_1 : decode b_SF_followToMove 1 = .ok (.iload_n 1, 1) := by decide +kernel
theorem d_SF_followToMove_2 : decode b_SF_followToMove 2 = .ok (.invokevirtual 125, 3) := by decide +kernel
theorem d_SF_followToMove_5 : decode b_SF_followToMove 5 = .ok (.ifCond .eq 11, 3) := by decide +kernel
theorem d_SF_followToMove_8 : decode b_SF_followToMove 8 = .ok (.aload_n 0, 1) := by decide +kernel
theorem d_SF_followToMove_9 : decode b_SF_followToMove 9 = .ok (.iload_n 1, 1) := by decide +kernel
theorem d_SF_followToMove_10 : decode b_SF_followToMove 10 = .ok (.invokevirtual 157, 3) := by decide +kernel
theorem d_SF_followToMove_13 : decode b_SF_followToMove 13 = .ok (.ifCond .eq 5, 3) := by decide +kernel
theorem d_SF_followToMove_16 : decode b_SF_followToMove 16 = .ok (.iconst 0, 1) := by decide +kernel
theorem d_SF_followToMove_17 : decode b_SF_followToMove 17 = .ok (.ireturn, 1) := by decide +kernel
theorem d_SF_followToMove_18 : decode b_SF_followToMove 18 = .ok (.aload_n 0, 1) := by decide +kernel
theorem d_SF_followToMove_19 : decode b_SF_followToMove 19 = .ok (.iload_n 1, 1) := by decide +kernel
theorem d_SF_followToMove_20 : decode b_SF_followToMove 20 = .ok (.invokevirtual 148, 3) := by decide +kernel
theorem d_SF_followToMove_23 : decode b_SF_followToMove 23 = .ok (.aload_n 0, 1) := by decide +kernel
theorem d_SF_followToMove_24 : decode b_SF_followToMove 24 = .ok (.getfield 33, 3) := by decide +kernel
theorem d_SF_followToMove_27 : decode b_SF_followToMove 27 = .ok (.invokevirtual 170, 3) := by decide +kernel
theorem d_SF_followToMove_30 : decode b_SF_followToMove 30 = .ok (.iload_n 2, 1) := by decide +kernel
theorem d_SF_followToMove_31 : decode b_SF_followToMove 31 = .ok (.if_icmp .ne 7, 3) := by decide +kernel
theorem d_SF_followToMove_34 : decode b_SF_followToMove 34 = .ok (.iconst 1, 1) := by decide +kernel
theorem d_SF_followToMove_35 : decode b_SF_followToMove 35 = .ok (.goto 4, 3) := by decide +kernel
theorem d_SF_followToMove_38 : decode b_SF_followToMove 38 = .ok (.iconst 0, 1) := by decide +kernel
theorem d_SF_followToMove_39 : decode b_SF_followToMove 39 = .ok (.ireturn, 1) := by decide +kernel
theorem d_SF_moveFollowed_0 : decode b_SF_moveFollowed 0 = .ok (.aload_n 0, 1) := by decide +kernel
theorem d_SF_moveFollowed_1 : decode b_SF_moveFollowed 1 = .ok (.aload_n 0, 1) := by decide +kernel
theorem d_SF_moveFollowed_2 : decode b_SF_moveFollowed 2 = .ok (.getfield 33, 3) := by decide +kernel
theorem d_SF_moveFollowed_5 : decode b_SF_moveFollowed 5 = .ok (.getfield 136, 3) := by decide +kernel
theorem d_SF_moveFollowed_8 : decode b_SF_moveFollowed 8 = .ok (.invokevirtual 103, 3) := by decide +kernel
theorem d_SF_moveFollowed_11 : decode b_SF_moveFollowed 11 = .ok (.iconst 0, 1) := by decide +kernel
theorem d_SF_moveFollowed_12 : decode b_SF_moveFollowed 12 = .ok (.istore_n 2, 1) := by decide +kernel
theorem d_SF_moveFollowed_13 : decode b_SF_moveFollowed 13 = .ok (.iload_n 2, 1) := by decide +kernel
theorem d_SF_moveFollowed_14 : decode b_SF_moveFollowed 14 = .ok (.aload_n 0, 1) := by decide +kernel
theorem d_SF_moveFollowed_15 : decode b_SF_moveFollowed 15 = .ok (.getfield 33, 3) := by decide +kernel
theorem d_SF_moveFollowed_18 : decode b_SF_moveFollowed 18 = .ok (.getfield 136, 3) := by decide +kernel
theorem d_SF_moveFollowed_21 : decode b_SF_moveFollowed 21 = .ok (.if_icmp .ge 27, 3) := by decide +kernel
theorem d_SF_moveFollowed_24 : decode b_SF_moveFollowed 24 = .ok (.aload_n 0, 1) := by decide +kernel
theorem d_SF_moveFollowed_25 : decode b_SF_moveFollowed 25 = .ok (.iload_n 2, 1) := by decide +kernel
theorem d_SF_moveFollowed_26 : decode b_SF_moveFollowed 26 = .ok (.invokevirtual 278, 3) := by decide +kernel
theorem d_SF_moveFollowed_29 : decode b_SF_moveFollowed 29 = .ok (.aload_n 0, 1) := by decide +kernel
theorem d_SF_moveFollowed_30 : decode b_SF_moveFollowed 30 = .ok (.aload_n 0, 1) := by decide +kernel
theorem d_SF_moveFollowed_31 : decode b_SF_moveFollowed 31 = .ok (.getfield 18, 3) := by decide +kernel
theorem d_SF_moveFollowed_34 : decode b_SF_moveFollowed 34 = .ok (.aload_n 0, 1) := by decide +kernel
theorem d_SF_moveFollowed_35 : decode b_SF_moveFollowed 35 = .ok (.iload_n 2, 1) := by decide +kernel
theorem d_SF_moveFollowed_36 : decode b_SF_moveFollowed 36 = .ok (.invokevirtual 110, 3) := by decide +kernel
theorem d_SF_moveFollowed_39 : decode b_SF_moveFollowed 39 = .ok (.invokevirtual 114, 3) := by decide +kernel
theorem d_SF_moveFollowed_42 : decode b_SF_moveFollowed 42 = .ok (.iinc 2 1, 3) := by decide +kernel
theorem d_SF_moveFollowed_45 : decode b_SF_moveFollowed 45 = .ok (.goto (-32), 3) := by decide +kernel
theorem d_SF_moveFollowed_48 : decode b_SF_moveFollowed 48 = .ok (.aload_n 0, 1) := by decide +kernel
theorem d_SF_moveFollowed_49 : decode b_SF_moveFollowed 49 = .ok (.iload_n 1, 1) := by decide +kernel
theorem d_SF_moveFollowed_50 : decode b_SF_moveFollowed 50 = .ok (.iconst 0, 1) := by decide +kernel
theorem d_SF_moveFollowed_51 : decode b_SF_moveFollowed 51 = .ok (.aload_n 0, 1) := by decide +kernel
theorem d_SF_moveFollowed_52 : decode b_SF_moveFollowed 52 = .ok (.iconst 0, 1) := by decide +kernel
theorem d_SF_moveFollowed_53 : decode b_SF_moveFollowed 53 = .ok (.invokevirtual 110, 3) := by decide +kernel
theorem d_SF_moveFollowed_56 : decode b_SF_moveFollowed 56 = .ok (.iconst 1, 1) := by decide +kernel
theorem d_SF_moveFollowed_57 : decode b_SF_moveFollowed 57 = .ok (.iadd, 1) := by decide +kernel
theorem d_SF_moveFollowed_58 : decode b_SF_moveFollowed 58 = .ok (.invokevirtual 118, 3) := by decide +kernel
theorem d_SF_moveFollowed_61 : decode b_SF_moveFollowed 61 = .ok (.aload_n 0, 1) := by decide +kernel
theorem d_SF_moveFollowed_62 : decode b_SF_moveFollowed 62 = .ok (.invokevirtual 121, 3) := by decide +kernel
theorem d_SF_moveFollowed_65 : decode b_SF_moveFollowed 65 = .ok (.ireturn, 1) := by decide +kernel
theorem d_SF_open_0 : decode b_SF_open 0 = .ok (.aload_n 0, 1) := by decide +kernel
theorem d_SF_open_1 : decode b_SF_open 1 = .ok (.iconst 0, 1) := by decide +kernel
theorem d_SF_open_2 : decode b_SF_open 2 = .ok (.putfield 83, 3) := by decide +kernel
theorem d_SF_open_5 : decode b_SF_open 5 = .ok (.iconst 0, 1) := by decide +kernel
theorem d_SF_open_6 : decode b_SF_open 6 = .ok (.istore_n 1, 1) := by decide +kernel
theorem d_SF_open_7 : decode b_SF_open 7 = .ok (.iconst 0, 1) := by decide +kernel
theorem d_SF_open_8 : decode b_SF_open 8 = .ok (.istore_n 2, 1) := by decide +kernel
theorem d_SF_open_9 : decode b_SF_open 9 = .ok (.iload_n 2, 1) := by decide +kernel
theorem d_SF_open_10 : decode b_SF_open 10 = .ok (.bipush 12, 2) := by decide +kernel
theorem d_SF_open_12 : decode b_SF_open 12 = .ok (.if_icmp .ge 20, 3) := by decide +kernel
theorem d_SF_open_15 : decode b_SF_open 15 = .ok (.aload_n 0, 1) := by decide +kernel
theorem d_SF_open_16 : decode b_SF_open 16 = .ok (.iload_n 2, 1) := by decide +kernel
theorem d_SF_open_17 : decode b_SF_open 17 = .ok (.invokevirtual 125, 3) := by decide +kernel
theorem d_SF_open_20 : decode b_SF_open 20 = .ok (.ifCond .eq 6, 3) := by decide +kernel
theorem d_SF_open_23 : decode b_SF_open 23 = .ok (.iinc 1 1, 3) := by decide +kernel
theorem d_SF_open_26 : decode b_SF_open 26 = .ok (.iinc 2 1, 3) := by decide +kernel
theorem d_SF_open_29 : decode b_SF_open 29 = .ok (.goto (-20), 3) := by decide +kernel
theorem d_SF_open_32 : decode b_SF_open 32 = .ok (.iload_n 1, 1) := by decide +kernel
theorem d_SF_open_33 : decode b_SF_open 33 = .ok (.ireturn, 1) := by decide +kernel
theorem f_SF_endWriting_b (pf sh : Int32) : (f_SF_endWriting pf sh).1 = 0 ∨ (f_SF_endWriting pf sh).1 = 1 := by
  unfold f_SF_endWriting
  split
  · exact Or.inr rfl
  · exact Or.inl rfl
set_option maxHeartbeats 1000000 in
set_option maxRecDepth 100000 in
/-- partOf -/
theorem c_SF_partOf_0 (l : Launch) (D : va_G) (cI cZ cJ : ClassId) (q : Nat → Nat) (fl : Nat → Int32) (sl : Nat → Int32) (tb : Nat → Int32) (np : Nat → Int32) (nt : Nat → Int32) (cp : Nat → Int32) (cc : Int32) (cb : Int32) (ch : Int32) (cm : Int32) (mp : Nat → Int32) (mc : Int32) (mb : Int32) (mh : Int32) (mm : Int32) (us : Nat → Int32) (ta : Nat → Int32) (tp : Nat → Int32) (tl : Int32) (cu : Int32) (bl : Int32) (pf : Int32) (sh : Int32) : sf_M (S := Unit) l D classes (sf_tys cI cZ cJ) y_SF_partOf (sf_ws y_SF_partOf b_SF_partOf 2 (some (.object "ShadowFiles$Blocks"))) 0 0 [.ref (q 0), .int 0] (sf_w q cI cZ fl sl tb np nt cp cc cb ch cm mp mc mb mh mm us ta tp tl cu bl pf sh) (fun _ => some (.ref (q 1))) (fun _ => True) (fun _ => (sf_w q cI cZ fl sl tb np nt cp cc cb ch cm mp mc mb mh mm us ta tp tl cu bl pf sh)) := by
  refine sf_ofW (S := Unit) (by decide) (Nat.le_of_ble_eq_true rfl) ?_
  intro p e s m below meth c A ls R args Q hR hArgs hQ hC0 hr hK hP hD hl
  obtain ⟨hx, hb, hml, hown, hts, hA, hlk⟩ := hC0
  have hS : va_S A s.heap s.heap [] := va_S.rf
  have hl : lv_has ls 2 [(0, .ref (q 0)), (1, .int 0)] := hl
  refine lv_iload_n hx hb d_SF_partOf_0 rfl (lv_at hl 1 rfl) ?_
  refine lv_if_ne (tgt := 9) hx hb d_SF_partOf_1 (by decide) (fun c_1 => absurd (by decide) c_1) (fun c_1 => ?_)
  refine lv_aload_n hx hb d_SF_partOf_4 rfl (lv_at hl 0 rfl) ?_
  refine va_get (D := D) (ci := 2) (v := .ref (q 1)) (C := R_SF) (T := F_SF) (N := 15) hx hb hts i_SF hown hK hP 0 rfl rfl 0 (by decide) (hts _ wd_110) (fun _ h9 => h9) rfl d_SF_partOf_5 ?_
  rw [hQ]
  exact sf_aret () hx hb hr hlk hS rfl trivial hP d_SF_partOf_8
set_option maxHeartbeats 1000000 in
set_option maxRecDepth 100000 in
/-- partOf -/
theorem c_SF_partOf_1 (l : Launch) (D : va_G) (cI cZ cJ : ClassId) (q : Nat → Nat) (fl : Nat → Int32) (sl : Nat → Int32) (tb : Nat → Int32) (np : Nat → Int32) (nt : Nat → Int32) (cp : Nat → Int32) (cc : Int32) (cb : Int32) (ch : Int32) (cm : Int32) (mp : Nat → Int32) (mc : Int32) (mb : Int32) (mh : Int32) (mm : Int32) (us : Nat → Int32) (ta : Nat → Int32) (tp : Nat → Int32) (tl : Int32) (cu : Int32) (bl : Int32) (pf : Int32) (sh : Int32) : sf_M (S := Unit) l D classes (sf_tys cI cZ cJ) y_SF_partOf (sf_ws y_SF_partOf b_SF_partOf 2 (some (.object "ShadowFiles$Blocks"))) 0 0 [.ref (q 0), .int 1] (sf_w q cI cZ fl sl tb np nt cp cc cb ch cm mp mc mb mh mm us ta tp tl cu bl pf sh) (fun _ => some (.ref (q 3))) (fun _ => True) (fun _ => (sf_w q cI cZ fl sl tb np nt cp cc cb ch cm mp mc mb mh mm us ta tp tl cu bl pf sh)) := by
  refine sf_ofW (S := Unit) (by decide) (Nat.le_of_ble_eq_true rfl) ?_
  intro p e s m below meth c A ls R args Q hR hArgs hQ hC0 hr hK hP hD hl
  obtain ⟨hx, hb, hml, hown, hts, hA, hlk⟩ := hC0
  have hS : va_S A s.heap s.heap [] := va_S.rf
  have hl : lv_has ls 2 [(0, .ref (q 0)), (1, .int 1)] := hl
  refine lv_iload_n hx hb d_SF_partOf_0 rfl (lv_at hl 1 rfl) ?_
  refine lv_if_ne (tgt := 9) hx hb d_SF_partOf_1 (by decide) (fun c_1 => ?_) (fun c_1 => absurd c_1 (by decide))
  refine lv_iload_n hx hb d_SF_partOf_9 rfl (lv_at hl 1 rfl) ?_
  refine lv_iconst (v := 1) hx hb d_SF_partOf_10 (by decide) ?_
  refine lv_icmp_ne (tgt := 21) hx hb d_SF_partOf_11 (by decide) (fun c_2 => absurd (by decide) c_2) (fun c_2 => ?_)
  refine lv_aload_n hx hb d_SF_partOf_14 rfl (lv_at hl 0 rfl) ?_
  refine va_get (D := D) (ci := 2) (v := .ref (q 3)) (C := R_SF) (T := F_SF) (N := 15) hx hb hts i_SF hown hK hP 0 rfl rfl 1 (by decide) (hts _ wd_111) (fun _ h9 => h9) rfl d_SF_partOf_15 ?_
  refine lv_goto (tgt := 25) hx hb d_SF_partOf_18 (by decide) ?_
  rw [hQ]
  exact sf_aret () hx hb hr hlk hS rfl trivial hP d_SF_partOf_25
set_option maxHeartbeats 1000000 in
set_option maxRecDepth 100000 in
/-- partOf -/
theorem c_SF_partOf_2 (l : Launch) (D : va_G) (cI cZ cJ : ClassId) (q : Nat → Nat) (fl : Nat → Int32) (sl : Nat → Int32) (tb : Nat → Int32) (np : Nat → Int32) (nt : Nat → Int32) (cp : Nat → Int32) (cc : Int32) (cb : Int32) (ch : Int32) (cm : Int32) (mp : Nat → Int32) (mc : Int32) (mb : Int32) (mh : Int32) (mm : Int32) (us : Nat → Int32) (ta : Nat → Int32) (tp : Nat → Int32) (tl : Int32) (cu : Int32) (bl : Int32) (pf : Int32) (sh : Int32) : sf_M (S := Unit) l D classes (sf_tys cI cZ cJ) y_SF_partOf (sf_ws y_SF_partOf b_SF_partOf 2 (some (.object "ShadowFiles$Blocks"))) 0 0 [.ref (q 0), .int 2] (sf_w q cI cZ fl sl tb np nt cp cc cb ch cm mp mc mb mh mm us ta tp tl cu bl pf sh) (fun _ => some (.ref (q 5))) (fun _ => True) (fun _ => (sf_w q cI cZ fl sl tb np nt cp cc cb ch cm mp mc mb mh mm us ta tp tl cu bl pf sh)) := by
  refine sf_ofW (S := Unit) (by decide) (Nat.le_of_ble_eq_true rfl) ?_
  intro p e s m below meth c A ls R args Q hR hArgs hQ hC0 hr hK hP hD hl
  obtain ⟨hx, hb, hml, hown, hts, hA, hlk⟩ := hC0
  have hS : va_S A s.heap s.heap [] := va_S.rf
  have hl : lv_has ls 2 [(0, .ref (q 0)), (1, .int 2)] := hl
  refine lv_iload_n hx hb d_SF_partOf_0 rfl (lv_at hl 1 rfl) ?_
  refine lv_if_ne (tgt := 9) hx hb d_SF_partOf_1 (by decide) (fun c_1 => ?_) (fun c_1 => absurd c_1 (by decide))
  refine lv_iload_n hx hb d_SF_partOf_9 rfl (lv_at hl 1 rfl) ?_
  refine lv_iconst (v := 1) hx hb d_SF_partOf_10 (by decide) ?_
  refine lv_icmp_ne (tgt := 21) hx hb d_SF_partOf_11 (by decide) (fun c_2 => ?_) (fun c_2 => absurd c_2 (by decide))
  refine lv_aload_n hx hb d_SF_partOf_21 rfl (lv_at hl 0 rfl) ?_
  refine va_get (D := D) (ci := 2) (v := .ref (q 5)) (C := R_SF) (T := F_SF) (N := 15) hx hb hts i_SF hown hK hP 0 rfl rfl 2 (by decide) (hts _ wd_112) (fun _ h9 => h9) rfl d_SF_partOf_22 ?_
  rw [hQ]
  exact sf_aret () hx hb hr hlk hS rfl trivial hP d_SF_partOf_25
def f_SF_hasByte (wt : Int32) (i : Int32) : Int32 :=
  if wt < 0 then
    0
  else
    if 2 < wt then
      0
    else
      if wt = 0 then
        if (f_Bl_hasCell 768 i) = 0 then
          0
        else
          1
      else
        if wt = 1 then
          if (f_Bl_hasCell 512 i) = 0 then
            0
          else
            1
        else
          if (f_Bl_hasCell 80 i) = 0 then
            0
          else
            1
set_option maxHeartbeats 1000000 in
set_option maxRecDepth 100000 in
/-- hasByte -/
theorem c_SF_hasByte (l : Launch) (D : va_G) (cI cZ cJ : ClassId) (q : Nat → Nat) (fl : Nat → Int32) (sl : Nat → Int32) (tb : Nat → Int32) (np : Nat → Int32) (nt : Nat → Int32) (cp : Nat → Int32) (cc : Int32) (cb : Int32) (ch : Int32) (cm : Int32) (mp : Nat → Int32) (mc : Int32) (mb : Int32) (mh : Int32) (mm : Int32) (us : Nat → Int32) (ta : Nat → Int32) (tp : Nat → Int32) (tl : Int32) (cu : Int32) (bl : Int32) (pf : Int32) (sh : Int32) (wt : Int32) (i : Int32) : sf_M (S := Int32) l D classes (sf_tys cI cZ cJ) y_SF_hasByte (sf_ws y_SF_hasByte b_SF_hasByte 3 (some .boolean)) 1 21 [.ref (q 0), .int wt, .int i] (sf_w q cI cZ fl sl tb np nt cp cc cb ch cm mp mc mb mh mm us ta tp tl cu bl pf sh) (fun r => some (.int r)) (fun r => r = f_SF_hasByte wt i) (fun r => (sf_w q cI cZ fl sl tb np nt cp cc cb ch cm mp mc mb mh mm us ta tp tl cu bl pf sh)) := by
  refine sf_ofW (S := Int32) (by decide) (Nat.le_of_ble_eq_true rfl) ?_
  intro p e s m below meth c A ls R args Q hR hArgs hQ hC0 hr hK hP hD hl
  obtain ⟨hx, hb, hml, hown, hts, hA, hlk⟩ := hC0
  have hS : va_S A s.heap s.heap [] := va_S.rf
  have hl : lv_has ls 3 [(0, .ref (q 0)), (1, .int wt), (2, .int i)] := hl
  refine lv_iload_n hx hb d_SF_hasByte_0 rfl (lv_at hl 1 rfl) ?_
  refine lv_if_lt (tgt := 25) hx hb d_SF_hasByte_1 (by decide) (fun c_1 => ?_) (fun c_1 => ?_)
  · refine lv_iconst (v := 0) hx hb d_SF_hasByte_25 (by decide) ?_
    rw [hQ]
    exact sf_iret 0 hx hb hr hlk hS sf_b0 rfl (by simp only [f_SF_hasByte, eq_true c_1, ↓reduceIte]) hP d_SF_hasByte_26
  · refine lv_iload_n hx hb d_SF_hasByte_4 rfl (lv_at hl 1 rfl) ?_
    refine lv_iconst (v := 2) hx hb d_SF_hasByte_5 (by decide) ?_
    refine lv_icmp_gt (tgt := 25) hx hb d_SF_hasByte_6 (by decide) (fun c_2 => ?_) (fun c_2 => ?_)
    · refine lv_iconst (v := 0) hx hb d_SF_hasByte_25 (by decide) ?_
      rw [hQ]
      exact sf_iret 0 hx hb hr hlk hS sf_b0 rfl (by simp only [f_SF_hasByte, eq_false c_1, eq_true c_2, ↓reduceIte]) hP d_SF_hasByte_26
    · refine lv_aload_n hx hb d_SF_hasByte_9 rfl (lv_at hl 0 rfl) ?_
      refine lv_iload_n hx hb d_SF_hasByte_10 rfl (lv_at hl 1 rfl) ?_
      rcases sf_three c_1 c_2 with hw | hw | hw
      · rw [hw]
        refine sf_callVw (S := Unit) (rest := []) ⟨hx, hb, hml, hown, hts⟩ (c_SF_partOf_0 l D cI cZ cJ q fl sl tb np nt cp cc cb ch cm mp mc mb mh mm us ta tp tl cu bl pf sh) (sf_cwV lk_SF_199 hts (fun _ h => h) (by rw [hR]; exact ⟨Nat.le_of_ble_eq_true rfl, Nat.le_of_ble_eq_true rfl⟩)) hK hP hD hS hA (fun _ => by simp only [sf_w_fst]) (ci := 2) (q0 := 0) rfl rfl rfl rfl rfl hl.1 (Nat.le_of_ble_eq_true rfl) d_SF_hasByte_11 ⟨Nat.zero_le _, Nat.zero_le _⟩ (fun u H locs hu hP hD hS => ?_)
        have hP : va_P D classes (sf_w q cI cZ fl sl tb np nt cp cc cb ch cm mp mc mb mh mm us ta tp tl cu bl pf sh) H := hP
        have hD : va_D A (sf_w q cI cZ fl sl tb np nt cp cc cb ch cm mp mc mb mh mm us ta tp tl cu bl pf sh) := hD
        refine lv_iload_n hx hb d_SF_hasByte_14 rfl (lv_at hl 2 rfl) ?_
        refine sf_callVr (S := Int32) (rest := []) ⟨hx, hb, hml, hown, hts⟩ (c_Bl_hasCell l D cI cZ cJ (q 1) (q 2) 768 fl (nI 32) i (by omega)) (sf_cwV lk_SF_212 hts (fun _ h => h) (by rw [hR]; exact ⟨Nat.le_of_ble_eq_true rfl, Nat.le_of_ble_eq_true rfl⟩)) hK hP hD hS hA [1, 2] rfl rfl (fun _ => rfl) (ci := 0) (q0 := 0) rfl rfl rfl rfl rfl hl.1 (Nat.le_of_ble_eq_true rfl) d_SF_hasByte_15 ⟨Nat.zero_le _, Nat.zero_le _⟩ (fun u_3 H locs hu_3 hP hS => ?_)
        refine lv_if_eq (tgt := 25) hx hb d_SF_hasByte_18 (by decide) (fun c_4 => ?_) (fun c_4 => ?_)
        · refine lv_iconst (v := 0) hx hb d_SF_hasByte_25 (by decide) ?_
          rw [hQ]
          exact sf_iret 0 hx hb hr hlk hS sf_b0 rfl (by simp only [f_SF_hasByte, ← hu_3, eq_false c_1, eq_false c_2, eq_true hw, eq_true c_4, ↓reduceIte]) hP d_SF_hasByte_26
        · refine lv_iconst (v := 1) hx hb d_SF_hasByte_21 (by decide) ?_
          refine lv_goto (tgt := 26) hx hb d_SF_hasByte_22 (by decide) ?_
          rw [hQ]
          exact sf_iret 1 hx hb hr hlk hS sf_b1 rfl (by simp only [f_SF_hasByte, ← hu_3, eq_false c_1, eq_false c_2, eq_true hw, eq_false c_4, ↓reduceIte]) hP d_SF_hasByte_26
      · rw [hw]
        have hw0 : ¬ wt = 0 := by rw [hw]; decide
        refine sf_callVw (S := Unit) (rest := []) ⟨hx, hb, hml, hown, hts⟩ (c_SF_partOf_1 l D cI cZ cJ q fl sl tb np nt cp cc cb ch cm mp mc mb mh mm us ta tp tl cu bl pf sh) (sf_cwV lk_SF_199 hts (fun _ h => h) (by rw [hR]; exact ⟨Nat.le_of_ble_eq_true rfl, Nat.le_of_ble_eq_true rfl⟩)) hK hP hD hS hA (fun _ => by simp only [sf_w_fst]) (ci := 2) (q0 := 0) rfl rfl rfl rfl rfl hl.1 (Nat.le_of_ble_eq_true rfl) d_SF_hasByte_11 ⟨Nat.zero_le _, Nat.zero_le _⟩ (fun u H locs hu hP hD hS => ?_)
        have hP : va_P D classes (sf_w q cI cZ fl sl tb np nt cp cc cb ch cm mp mc mb mh mm us ta tp tl cu bl pf sh) H := hP
        have hD : va_D A (sf_w q cI cZ fl sl tb np nt cp cc cb ch cm mp mc mb mh mm us ta tp tl cu bl pf sh) := hD
        refine lv_iload_n hx hb d_SF_hasByte_14 rfl (lv_at hl 2 rfl) ?_
        refine sf_callVr (S := Int32) (rest := []) ⟨hx, hb, hml, hown, hts⟩ (c_Bl_hasCell l D cI cZ cJ (q 3) (q 4) 512 sl (nI 32) i (by omega)) (sf_cwV lk_SF_212 hts (fun _ h => h) (by rw [hR]; exact ⟨Nat.le_of_ble_eq_true rfl, Nat.le_of_ble_eq_true rfl⟩)) hK hP hD hS hA [3, 4] rfl rfl (fun _ => rfl) (ci := 0) (q0 := 0) rfl rfl rfl rfl rfl hl.1 (Nat.le_of_ble_eq_true rfl) d_SF_hasByte_15 ⟨Nat.zero_le _, Nat.zero_le _⟩ (fun u_5 H locs hu_5 hP hS => ?_)
        refine lv_if_eq (tgt := 25) hx hb d_SF_hasByte_18 (by decide) (fun c_6 => ?_) (fun c_6 => ?_)
        · refine lv_iconst (v := 0) hx hb d_SF_hasByte_25 (by decide) ?_
          rw [hQ]
          exact sf_iret 0 hx hb hr hlk hS sf_b0 rfl (by simp only [f_SF_hasByte, ← hu_5, eq_false c_1, eq_false c_2, eq_false hw0, eq_true hw, eq_true c_6, ↓reduceIte]) hP d_SF_hasByte_26
        · refine lv_iconst (v := 1) hx hb d_SF_hasByte_21 (by decide) ?_
          refine lv_goto (tgt := 26) hx hb d_SF_hasByte_22 (by decide) ?_
          rw [hQ]
          exact sf_iret 1 hx hb hr hlk hS sf_b1 rfl (by simp only [f_SF_hasByte, ← hu_5, eq_false c_1, eq_false c_2, eq_false hw0, eq_true hw, eq_false c_6, ↓reduceIte]) hP d_SF_hasByte_26
      · rw [hw]
        have hw0 : ¬ wt = 0 := by rw [hw]; decide
        have hw1 : ¬ wt = 1 := by rw [hw]; decide
        refine sf_callVw (S := Unit) (rest := []) ⟨hx, hb, hml, hown, hts⟩ (c_SF_partOf_2 l D cI cZ cJ q fl sl tb np nt cp cc cb ch cm mp mc mb mh mm us ta tp tl cu bl pf sh) (sf_cwV lk_SF_199 hts (fun _ h => h) (by rw [hR]; exact ⟨Nat.le_of_ble_eq_true rfl, Nat.le_of_ble_eq_true rfl⟩)) hK hP hD hS hA (fun _ => by simp only [sf_w_fst]) (ci := 2) (q0 := 0) rfl rfl rfl rfl rfl hl.1 (Nat.le_of_ble_eq_true rfl) d_SF_hasByte_11 ⟨Nat.zero_le _, Nat.zero_le _⟩ (fun u H locs hu hP hD hS => ?_)
        have hP : va_P D classes (sf_w q cI cZ fl sl tb np nt cp cc cb ch cm mp mc mb mh mm us ta tp tl cu bl pf sh) H := hP
        have hD : va_D A (sf_w q cI cZ fl sl tb np nt cp cc cb ch cm mp mc mb mh mm us ta tp tl cu bl pf sh) := hD
        refine lv_iload_n hx hb d_SF_hasByte_14 rfl (lv_at hl 2 rfl) ?_
        refine sf_callVr (S := Int32) (rest := []) ⟨hx, hb, hml, hown, hts⟩ (c_Bl_hasCell l D cI cZ cJ (q 5) (q 6) 80 tb (nI 40) i (by omega)) (sf_cwV lk_SF_212 hts (fun _ h => h) (by rw [hR]; exact ⟨Nat.le_of_ble_eq_true rfl, Nat.le_of_ble_eq_true rfl⟩)) hK hP hD hS hA [5, 6] rfl rfl (fun _ => rfl) (ci := 0) (q0 := 0) rfl rfl rfl rfl rfl hl.1 (Nat.le_of_ble_eq_true rfl) d_SF_hasByte_15 ⟨Nat.zero_le _, Nat.zero_le _⟩ (fun u_7 H locs hu_7 hP hS => ?_)
        refine lv_if_eq (tgt := 25) hx hb d_SF_hasByte_18 (by decide) (fun c_8 => ?_) (fun c_8 => ?_)
        · refine lv_iconst (v := 0) hx hb d_SF_hasByte_25 (by decide) ?_
          rw [hQ]
          exact sf_iret 0 hx hb hr hlk hS sf_b0 rfl (by simp only [f_SF_hasByte, ← hu_7, eq_false c_1, eq_false c_2, eq_false hw0, eq_false hw1, eq_true c_8, ↓reduceIte]) hP d_SF_hasByte_26
        · refine lv_iconst (v := 1) hx hb d_SF_hasByte_21 (by decide) ?_
          refine lv_goto (tgt := 26) hx hb d_SF_hasByte_22 (by decide) ?_
          rw [hQ]
          exact sf_iret 1 hx hb hr hlk hS sf_b1 rfl (by simp only [f_SF_hasByte, ← hu_7, eq_false c_1, eq_false c_2, eq_false hw0, eq_false hw1, eq_false c_8, ↓reduceIte]) hP d_SF_hasByte_26
def f_SF_followToMove (fl : Nat → Int32) (sl : Nat → Int32) (tb : Nat → Int32) (cp : Nat → Int32) (cc : Int32) (cb : Int32) (ch : Int32) (cm : Int32) (ro : Int32) (mo : Int32) : (Int32 × (Nat → Int32) × Int32 × Int32 × Int32 × Int32) :=
  if (f_SF_isThere tb ro) = 0 then
    (0, cp, cc, cb, ch, cm)
  else
    if (f_SF_isSlow tb ro) = 0 then
      if (f_Ch_monthOrNone (f_SF_followRow fl sl tb cp ro).2.2.1 (f_SF_followRow fl sl tb cp ro).2.2.2.2) = mo then
        (1, (f_SF_followRow fl sl tb cp ro).1, (f_SF_followRow fl sl tb cp ro).2.1, (f_SF_followRow fl sl tb cp ro).2.2.1, (f_SF_followRow fl sl tb cp ro).2.2.2.1, (f_SF_followRow fl sl tb cp ro).2.2.2.2)
      else
        (0, (f_SF_followRow fl sl tb cp ro).1, (f_SF_followRow fl sl tb cp ro).2.1, (f_SF_followRow fl sl tb cp ro).2.2.1, (f_SF_followRow fl sl tb cp ro).2.2.2.1, (f_SF_followRow fl sl tb cp ro).2.2.2.2)
    else
      (0, cp, cc, cb, ch, cm)
set_option maxHeartbeats 1000000 in
set_option maxRecDepth 100000 in
/-- followToMove -/
theorem c_SF_followToMove (l : Launch) (D : va_G) (cI cZ cJ : ClassId) (q : Nat → Nat) (fl : Nat → Int32) (sl : Nat → Int32) (tb : Nat → Int32) (np : Nat → Int32) (nt : Nat → Int32) (cp : Nat → Int32) (cc : Int32) (cb : Int32) (ch : Int32) (cm : Int32) (mp : Nat → Int32) (mc : Int32) (mb : Int32) (mh : Int32) (mm : Int32) (us : Nat → Int32) (ta : Nat → Int32) (tp : Nat → Int32) (tl : Int32) (cu : Int32) (bl : Int32) (pf : Int32) (sh : Int32) (ro : Int32) (mo : Int32) : sf_M (S := (Int32 × (Nat → Int32) × Int32 × Int32 × Int32 × Int32)) l D classes (sf_tys cI cZ cJ) y_SF_followToMove (sf_ws y_SF_followToMove b_SF_followToMove 3 (some .boolean)) 5 120 [.ref (q 0), .int ro, .int mo] (sf_w q cI cZ fl sl tb np nt cp cc cb ch cm mp mc mb mh mm us ta tp tl cu bl pf sh) (fun r => some (.int r.1)) (fun r => r = f_SF_followToMove fl sl tb cp cc cb ch cm ro mo) (fun r => (sf_w q cI cZ fl sl tb np nt r.2.1 r.2.2.1 r.2.2.2.1 r.2.2.2.2.1 r.2.2.2.2.2 mp mc mb mh mm us ta tp tl cu bl pf sh)) := by
  refine sf_ofW (S := (Int32 × (Nat → Int32) × Int32 × Int32 × Int32 × Int32)) (by decide) (Nat.le_of_ble_eq_true rfl) ?_
  intro p e s m below meth c A ls R args Q hR hArgs hQ hC0 hr hK hP hD hl
  obtain ⟨hx, hb, hml, hown, hts, hA, hlk⟩ := hC0
  have hS : va_S A s.heap s.heap [] := va_S.rf
  have hl : lv_has ls 3 [(0, .ref (q 0)), (1, .int ro), (2, .int mo)] := hl
  refine lv_aload_n hx hb d_SF_followToMove_0 rfl (lv_at hl 0 rfl) ?_
  refine lv_iload_n hx hb d_SF_followToMove_1 rfl (lv_at hl 1 rfl) ?_
  refine sf_callVw (S := Int32) (rest := []) ⟨hx, hb, hml, hown, hts⟩ (c_SF_isThere l D cI cZ cJ q fl sl tb np nt cp cc cb ch cm mp mc mb mh mm us ta tp tl cu bl pf sh ro) (sf_cwV lk_SF_125 hts (fun _ h => h) (by rw [hR]; exact ⟨Nat.le_of_ble_eq_true rfl, Nat.le_of_ble_eq_true rfl⟩)) hK hP hD hS hA (fun _ => by simp only [sf_w_fst]) (ci := 2) (q0 := 0) rfl rfl rfl rfl rfl hl.1 (Nat.le_of_ble_eq_true rfl) d_SF_followToMove_2 ⟨Nat.zero_le _, Nat.zero_le _⟩ (fun u_1 H locs hu_1 hP hD hS => ?_)
  have hP : va_P D classes (sf_w q cI cZ fl sl tb np nt cp cc cb ch cm mp mc mb mh mm us ta tp tl cu bl pf sh) H := hP
  have hD : va_D A (sf_w q cI cZ fl sl tb np nt cp cc cb ch cm mp mc mb mh mm us ta tp tl cu bl pf sh) := hD
  refine lv_if_eq (tgt := 16) hx hb d_SF_followToMove_5 (by decide) (fun c_2 => ?_) (fun c_2 => ?_)
  · refine lv_iconst (v := 0) hx hb d_SF_followToMove_16 (by decide) ?_
    rw [hQ]
    exact sf_iret (0, cp, cc, cb, ch, cm) hx hb hr hlk hS sf_b0 rfl (by simp only [f_SF_followToMove, ← hu_1, eq_true c_2, ↓reduceIte]) hP d_SF_followToMove_17
  · refine lv_aload_n hx hb d_SF_followToMove_8 rfl (lv_at hl 0 rfl) ?_
    refine lv_iload_n hx hb d_SF_followToMove_9 rfl (lv_at hl 1 rfl) ?_
    refine sf_callVw (S := Int32) (rest := []) ⟨hx, hb, hml, hown, hts⟩ (c_SF_isSlow l D cI cZ cJ q fl sl tb np nt cp cc cb ch cm mp mc mb mh mm us ta tp tl cu bl pf sh ro) (sf_cwV lk_SF_157 hts (fun _ h => h) (by rw [hR]; exact ⟨Nat.le_of_ble_eq_true rfl, Nat.le_of_ble_eq_true rfl⟩)) hK hP hD hS hA (fun _ => by simp only [sf_w_fst]) (ci := 2) (q0 := 0) rfl rfl rfl rfl rfl hl.1 (Nat.le_of_ble_eq_true rfl) d_SF_followToMove_10 ⟨Nat.zero_le _, Nat.zero_le _⟩ (fun u_3 H locs hu_3 hP hD hS => ?_)
    have hP : va_P D classes (sf_w q cI cZ fl sl tb np nt cp cc cb ch cm mp mc mb mh mm us ta tp tl cu bl pf sh) H := hP
    have hD : va_D A (sf_w q cI cZ fl sl tb np nt cp cc cb ch cm mp mc mb mh mm us ta tp tl cu bl pf sh) := hD
    refine lv_if_eq (tgt := 18) hx hb d_SF_followToMove_13 (by decide) (fun c_4 => ?_) (fun c_4 => ?_)
    · refine lv_aload_n hx hb d_SF_followToMove_18 rfl (lv_at hl 0 rfl) ?_
      refine lv_iload_n hx hb d_SF_followToMove_19 rfl (lv_at hl 1 rfl) ?_
      refine sf_callVw (S := ((Nat → Int32) × Int32 × Int32 × Int32 × Int32)) (rest := []) ⟨hx, hb, hml, hown, hts⟩ (c_SF_followRow l D cI cZ cJ q fl sl tb np nt cp cc cb ch cm mp mc mb mh mm us ta tp tl cu bl pf sh ro) (sf_cwV lk_SF_148 hts (fun _ h => h) (by rw [hR]; exact ⟨Nat.le_of_ble_eq_true rfl, Nat.le_of_ble_eq_true rfl⟩)) hK hP hD hS hA (fun _ => by simp only [sf_w_fst]) (ci := 2) (q0 := 0) rfl rfl rfl rfl rfl hl.1 (Nat.le_of_ble_eq_true rfl) d_SF_followToMove_20 ⟨Nat.zero_le _, Nat.zero_le _⟩ (fun u_5 H locs hu_5 hP hD hS => ?_)
      have hP : va_P D classes (sf_w q cI cZ fl sl tb np nt u_5.1 u_5.2.1 u_5.2.2.1 u_5.2.2.2.1 u_5.2.2.2.2 mp mc mb mh mm us ta tp tl cu bl pf sh) H := hP
      have hD : va_D A (sf_w q cI cZ fl sl tb np nt u_5.1 u_5.2.1 u_5.2.2.1 u_5.2.2.2.1 u_5.2.2.2.2 mp mc mb mh mm us ta tp tl cu bl pf sh) := hD
      refine lv_aload_n hx hb d_SF_followToMove_23 rfl (lv_at hl 0 rfl) ?_
      refine va_get (D := D) (ci := 2) (v := .ref (q 11)) (C := R_SF) (T := F_SF) (N := 15) hx hb hts i_SF hown hK hP 0 rfl rfl 5 (by decide) (hts _ wd_115) (fun _ h9 => h9) rfl d_SF_followToMove_24 ?_
      refine sf_callVr (S := Int32) (rest := []) ⟨hx, hb, hml, hown, hts⟩ (c_Ch_monthOrNone l D cI cZ cJ (q 11) (q 12) u_5.1 u_5.2.1 u_5.2.2.1 u_5.2.2.2.1 u_5.2.2.2.2) (sf_cwV lk_SF_170 hts (fun _ h => h) (by rw [hR]; exact ⟨Nat.le_of_ble_eq_true rfl, Nat.le_of_ble_eq_true rfl⟩)) hK hP hD hS hA [11, 12] rfl rfl (fun _ => rfl) (ci := 1) (q0 := 0) rfl rfl rfl rfl rfl hl.1 (Nat.le_of_ble_eq_true rfl) d_SF_followToMove_27 ⟨Nat.zero_le _, Nat.zero_le _⟩ (fun u_6 H locs hu_6 hP hS => ?_)
      refine lv_iload_n hx hb d_SF_followToMove_30 rfl (lv_at hl 2 rfl) ?_
      refine lv_icmp_ne (tgt := 38) hx hb d_SF_followToMove_31 (by decide) (fun c_7 => ?_) (fun c_7 => ?_)
      · refine lv_iconst (v := 0) hx hb d_SF_followToMove_38 (by decide) ?_
        rw [hQ]
        exact sf_iret (0, u_5.1, u_5.2.1, u_5.2.2.1, u_5.2.2.2.1, u_5.2.2.2.2) hx hb hr hlk hS sf_b0 rfl (by simp only [f_SF_followToMove, ← hu_1, ← hu_3, ← hu_5, ← hu_6, eq_false c_2, eq_true c_4, eq_false c_7, ↓reduceIte]) hP d_SF_followToMove_39
      · refine lv_iconst (v := 1) hx hb d_SF_followToMove_34 (by decide) ?_
        refine lv_goto (tgt := 39) hx hb d_SF_followToMove_35 (by decide) ?_
        rw [hQ]
        exact sf_iret (1, u_5.1, u_5.2.1, u_5.2.2.1, u_5.2.2.2.1, u_5.2.2.2.2) hx hb hr hlk hS sf_b1 rfl (by simp only [f_SF_followToMove, ← hu_1, ← hu_3, ← hu_5, ← hu_6, eq_false c_2, eq_true c_4, eq_true c_7, ↓reduceIte]) hP d_SF_followToMove_39
    · refine lv_iconst (v := 0) hx hb d_SF_followToMove_16 (by decide) ?_
      rw [hQ]
      exact sf_iret (0, cp, cc, cb, ch, cm) hx hb hr hlk hS sf_b0 rfl (by simp only [f_SF_followToMove, ← hu_1, ← hu_3, eq_false c_2, eq_false c_4, ↓reduceIte]) hP d_SF_followToMove_17
def f_SF_moveFollowed_l13 (fl : Nat → Int32) (tb : Nat → Int32) (nt : Nat → Int32) (cp : Nat → Int32) (cc : Int32) (ta : Nat → Int32) (cu : Int32) (sh : Int32) (ro : Int32) : Nat → Nat → (Nat → Int32) → (Nat → Int32) → Int32 → (Int32 × (Nat → Int32) × (Nat → Int32) × (Nat → Int32) × (Nat → Int32) × Int32 × Int32 × Int32 × Int32)
  | 0, _, _, _, _ => (0, (fun _ => 0), (fun _ => 0), (fun _ => 0), (fun _ => 0), 0, 0, 0, 0)
  | fu + 1, k, vn, vs, vb =>
    if cc ≤ (nI k) then
      ((f_SF_endWriting (f_SF_beginWriting cu cc).2.2 sh).1, vs, (f_SF_putTable tb nt vb ro 0 ((f_SF_takenAt ta 0) + 1)).2.1, vn, (f_SF_putTable tb nt vb ro 0 ((f_SF_takenAt ta 0) + 1)).1, (f_SF_beginWriting cu cc).1, (f_SF_putTable tb nt vb ro 0 ((f_SF_takenAt ta 0) + 1)).2.2, (f_SF_beginWriting cu cc).2.2, (f_SF_endWriting (f_SF_beginWriting cu cc).2.2 sh).2)
    else
      f_SF_moveFollowed_l13 fl tb nt cp cc ta cu sh ro fu (k + 1) (f_SF_putPlace_s vs (f_SF_preparePlaceFromChain fl vn cp cc ta (nI k)) vb (f_SF_takenAt ta (nI k))).1 (f_SF_putPlace_s vs (f_SF_preparePlaceFromChain fl vn cp cc ta (nI k)) vb (f_SF_takenAt ta (nI k))).2.1 (f_SF_putPlace_s vs (f_SF_preparePlaceFromChain fl vn cp cc ta (nI k)) vb (f_SF_takenAt ta (nI k))).2.2
def f_SF_moveFollowed (fl : Nat → Int32) (sl : Nat → Int32) (tb : Nat → Int32) (np : Nat → Int32) (nt : Nat → Int32) (cp : Nat → Int32) (cc : Int32) (ta : Nat → Int32) (cu : Int32) (sh : Int32) (ro : Int32) : (Int32 × (Nat → Int32) × (Nat → Int32) × (Nat → Int32) × (Nat → Int32) × Int32 × Int32 × Int32 × Int32) :=
  f_SF_moveFollowed_l13 fl tb nt cp cc ta cu sh ro (cc.toNatClampNeg + 1) 0 np sl (f_SF_beginWriting cu cc).2.1
set_option maxHeartbeats 1000000 in
set_option maxRecDepth 100000 in
/-- moveFollowed -/
theorem c_SF_moveFollowed (l : Launch) (D : va_G) (cI cZ cJ : ClassId) (q : Nat → Nat) (fl : Nat → Int32) (sl : Nat → Int32) (tb : Nat → Int32) (np : Nat → Int32) (nt : Nat → Int32) (cp : Nat → Int32) (cc : Int32) (cb : Int32) (ch : Int32) (cm : Int32) (mp : Nat → Int32) (mc : Int32) (mb : Int32) (mh : Int32) (mm : Int32) (us : Nat → Int32) (ta : Nat → Int32) (tp : Nat → Int32) (tl : Int32) (cu : Int32) (bl : Int32) (pf : Int32) (sh : Int32) (ro : Int32) : sf_M (S := (Int32 × (Nat → Int32) × (Nat → Int32) × (Nat → Int32) × (Nat → Int32) × Int32 × Int32 × Int32 × Int32)) l D classes (sf_tys cI cZ cJ) y_SF_moveFollowed (sf_ws y_SF_moveFollowed b_SF_moveFollowed 3 (some .boolean)) 5 118 [.ref (q 0), .int ro] (sf_w q cI cZ fl sl tb np nt cp cc cb ch cm mp mc mb mh mm us ta tp tl cu bl pf sh) (fun r => some (.int r.1)) (fun r => r = f_SF_moveFollowed fl sl tb np nt cp cc ta cu sh ro) (fun r => (sf_w q cI cZ fl r.2.1 r.2.2.1 r.2.2.2.1 r.2.2.2.2.1 cp cc cb ch cm mp mc mb mh mm us ta tp tl r.2.2.2.2.2.1 r.2.2.2.2.2.2.1 r.2.2.2.2.2.2.2.1 r.2.2.2.2.2.2.2.2)) := by
  refine sf_ofW (S := (Int32 × (Nat → Int32) × (Nat → Int32) × (Nat → Int32) × (Nat → Int32) × Int32 × Int32 × Int32 × Int32)) (by decide) (Nat.le_of_ble_eq_true rfl) ?_
  intro p e s m below meth c A ls R args Q hR hArgs hQ hC0 hr hK hP hD hl
  obtain ⟨hx, hb, hml, hown, hts, hA, hlk⟩ := hC0
  have hS : va_S A s.heap s.heap [] := va_S.rf
  have hl : lv_has ls 3 [(0, .ref (q 0)), (1, .int ro)] := hl
  have hcl := sf_clt cc
  refine lv_aload_n hx hb d_SF_moveFollowed_0 rfl (lv_at hl 0 rfl) ?_
  refine lv_aload_n hx hb d_SF_moveFollowed_1 rfl (lv_at hl 0 rfl) ?_
  refine va_get (D := D) (ci := 2) (v := .ref (q 11)) (C := R_SF) (T := F_SF) (N := 15) hx hb hts i_SF hown hK hP 0 rfl rfl 5 (by decide) (hts _ wd_115) (fun _ h9 => h9) rfl d_SF_moveFollowed_2 ?_
  refine va_get (D := D) (ci := 1) (v := .int cc) (C := R_Ch) (T := F_Ch) (N := 5) hx hb hts i_Ch hown hK hP 11 rfl rfl 1 (by decide) (hts _ wd_95) (fun _ h9 => h9) rfl d_SF_moveFollowed_5 ?_
  refine sf_callVw (S := (Int32 × Int32 × Int32)) (rest := []) ⟨hx, hb, hml, hown, hts⟩ (c_SF_beginWriting l D cI cZ cJ q fl sl tb np nt cp cc cb ch cm mp mc mb mh mm us ta tp tl cu bl pf sh cc) (sf_cwV lk_SF_103 hts (fun _ h => h) (by rw [hR]; exact ⟨Nat.le_of_ble_eq_true rfl, Nat.le_of_ble_eq_true rfl⟩)) hK hP hD hS hA (fun _ => by simp only [sf_w_fst]) (ci := 2) (q0 := 0) rfl rfl rfl rfl rfl hl.1 (Nat.le_of_ble_eq_true rfl) d_SF_moveFollowed_8 ⟨Nat.zero_le _, Nat.zero_le _⟩ (fun u_1 H locs hu_1 hP hD hS => ?_)
  have hP : va_P D classes (sf_w q cI cZ fl sl tb np nt cp cc cb ch cm mp mc mb mh mm us ta tp tl u_1.1 u_1.2.1 u_1.2.2 sh) H := hP
  have hD : va_D A (sf_w q cI cZ fl sl tb np nt cp cc cb ch cm mp mc mb mh mm us ta tp tl u_1.1 u_1.2.1 u_1.2.2 sh) := hD
  refine lv_iconst (v := 0) hx hb d_SF_moveFollowed_11 (by decide) ?_
  refine lv_istore_n (lv' := [(2, .int 0), (0, .ref (q 0)), (1, .int ro)]) hx hb d_SF_moveFollowed_12 rfl hl (by decide) rfl (fun ls hl => ?_)
  have loop13 : ∀ (fu k : Nat) (vn : (Nat → Int32)) (vs : (Nat → Int32)) (vb : Int32), k ≤ cc.toNatClampNeg → k + fu = cc.toNatClampNeg + 1 → f_SF_moveFollowed_l13 fl tb nt cp cc ta cu sh ro fu k vn vs vb = f_SF_moveFollowed fl sl tb np nt cp cc ta cu sh ro → ∀ (H : Heap) (locs : List Loc), va_P D classes (sf_w q cI cZ fl vs tb vn nt cp cc cb ch cm mp mc mb mh mm us ta tp tl u_1.1 vb u_1.2.2 sh) H → va_D A (sf_w q cI cZ fl vs tb vn nt cp cc cb ch cm mp mc mb mh mm us ta tp tl u_1.1 vb u_1.2.2 sh) → va_S A s.heap H locs → ∀ (ls : Array Slot), lv_has ls 3 [(0, .ref (q 0)), (1, .int ro), (2, .int (nI k))] → W p l e R s m args below meth c H locs 0 0 Q (F0 m 13 ls []) := by
    intro fu
    induction fu with
    | zero =>
      intro k vn vs vb h1 h2
      exact absurd h2 (by omega)
    | succ fu ih13 =>
      intro k vn vs vb hk13 hkn13 heq13 H locs hP hD hS ls hl
      have hcl := sf_clt cc
      refine lv_iload_n hx hb d_SF_moveFollowed_13 rfl (lv_at hl 2 rfl) ?_
      refine lv_aload_n hx hb d_SF_moveFollowed_14 rfl (lv_at hl 0 rfl) ?_
      refine va_get (D := D) (ci := 2) (v := .ref (q 11)) (C := R_SF) (T := F_SF) (N := 15) hx hb hts i_SF hown hK hP 0 rfl rfl 5 (by decide) (hts _ wd_115) (fun _ h9 => h9) rfl d_SF_moveFollowed_15 ?_
      refine va_get (D := D) (ci := 1) (v := .int cc) (C := R_Ch) (T := F_Ch) (N := 5) hx hb hts i_Ch hown hK hP 11 rfl rfl 1 (by decide) (hts _ wd_95) (fun _ h9 => h9) rfl d_SF_moveFollowed_18 ?_
      refine lv_icmp_ge (tgt := 48) hx hb d_SF_moveFollowed_21 (by decide) (fun c_2 => ?_) (fun c_2 => ?_)
      · refine lv_aload_n hx hb d_SF_moveFollowed_48 rfl (lv_at hl 0 rfl) ?_
        refine lv_iload_n hx hb d_SF_moveFollowed_49 rfl (lv_at hl 1 rfl) ?_
        refine lv_iconst (v := 0) hx hb d_SF_moveFollowed_50 (by decide) ?_
        refine lv_aload_n hx hb d_SF_moveFollowed_51 rfl (lv_at hl 0 rfl) ?_
        refine lv_iconst (v := 0) hx hb d_SF_moveFollowed_52 (by decide) ?_
        refine sf_callVw (S := Int32) (rest := [.int 0, .int ro, .ref (q 0)]) ⟨hx, hb, hml, hown, hts⟩ (c_SF_takenAt l D cI cZ cJ q fl vs tb vn nt cp cc cb ch cm mp mc mb mh mm us ta tp tl u_1.1 vb u_1.2.2 sh 0) (sf_cwV lk_SF_110 hts (fun _ h => h) (by rw [hR]; exact ⟨Nat.le_of_ble_eq_true rfl, Nat.le_of_ble_eq_true rfl⟩)) hK hP hD hS hA (fun _ => by simp only [sf_w_fst]) (ci := 2) (q0 := 0) rfl rfl rfl rfl rfl hl.1 (Nat.le_of_ble_eq_true rfl) d_SF_moveFollowed_53 ⟨Nat.zero_le _, Nat.zero_le _⟩ (fun u_3 H locs hu_3 hP hD hS => ?_)
        have hP : va_P D classes (sf_w q cI cZ fl vs tb vn nt cp cc cb ch cm mp mc mb mh mm us ta tp tl u_1.1 vb u_1.2.2 sh) H := hP
        have hD : va_D A (sf_w q cI cZ fl vs tb vn nt cp cc cb ch cm mp mc mb mh mm us ta tp tl u_1.1 vb u_1.2.2 sh) := hD
        refine lv_iconst (v := 1) hx hb d_SF_moveFollowed_56 (by decide) ?_
        refine lv_iadd hx hb d_SF_moveFollowed_57 ?_
        refine sf_callVw (S := ((Nat → Int32) × (Nat → Int32) × Int32)) (rest := []) ⟨hx, hb, hml, hown, hts⟩ (c_SF_putTable l D cI cZ cJ q fl vs tb vn nt cp cc cb ch cm mp mc mb mh mm us ta tp tl u_1.1 vb u_1.2.2 sh ro 0 (u_3 + 1)) (sf_cwV lk_SF_118 hts (fun _ h => h) (by rw [hR]; exact ⟨Nat.le_of_ble_eq_true rfl, Nat.le_of_ble_eq_true rfl⟩)) hK hP hD hS hA (fun _ => by simp only [sf_w_fst]) (ci := 2) (q0 := 0) rfl rfl rfl rfl rfl hl.1 (Nat.le_of_ble_eq_true rfl) d_SF_moveFollowed_58 ⟨Nat.zero_le _, Nat.zero_le _⟩ (fun u_4 H locs hu_4 hP hD hS => ?_)
        have hP : va_P D classes (sf_w q cI cZ fl vs u_4.2.1 vn u_4.1 cp cc cb ch cm mp mc mb mh mm us ta tp tl u_1.1 u_4.2.2 u_1.2.2 sh) H := hP
        have hD : va_D A (sf_w q cI cZ fl vs u_4.2.1 vn u_4.1 cp cc cb ch cm mp mc mb mh mm us ta tp tl u_1.1 u_4.2.2 u_1.2.2 sh) := hD
        refine lv_aload_n hx hb d_SF_moveFollowed_61 rfl (lv_at hl 0 rfl) ?_
        refine sf_callVw (S := (Int32 × Int32)) (rest := []) ⟨hx, hb, hml, hown, hts⟩ (c_SF_endWriting l D cI cZ cJ q fl vs u_4.2.1 vn u_4.1 cp cc cb ch cm mp mc mb mh mm us ta tp tl u_1.1 u_4.2.2 u_1.2.2 sh) (sf_cwV lk_SF_121 hts (fun _ h => h) (by rw [hR]; exact ⟨Nat.le_of_ble_eq_true rfl, Nat.le_of_ble_eq_true rfl⟩)) hK hP hD hS hA (fun _ => by simp only [sf_w_fst]) (ci := 2) (q0 := 0) rfl rfl rfl rfl rfl hl.1 (Nat.le_of_ble_eq_true rfl) d_SF_moveFollowed_62 ⟨Nat.zero_le _, Nat.zero_le _⟩ (fun u_5 H locs hu_5 hP hD hS => ?_)
        have hP : va_P D classes (sf_w q cI cZ fl vs u_4.2.1 vn u_4.1 cp cc cb ch cm mp mc mb mh mm us ta tp tl u_1.1 u_4.2.2 u_1.2.2 u_5.2) H := hP
        have hD : va_D A (sf_w q cI cZ fl vs u_4.2.1 vn u_4.1 cp cc cb ch cm mp mc mb mh mm us ta tp tl u_1.1 u_4.2.2 u_1.2.2 u_5.2) := hD
        rw [hQ]
        exact sf_iret (u_5.1, vs, u_4.2.1, vn, u_4.1, u_1.1, u_4.2.2, u_1.2.2, u_5.2) hx hb hr hlk hS (sf_nb (by rw [hu_5]; exact f_SF_endWriting_b _ _)) rfl (by rw [← heq13]; simp only [f_SF_moveFollowed_l13, ← hu_1, ← hu_3, ← hu_4, ← hu_5, eq_true c_2, ↓reduceIte]) hP d_SF_moveFollowed_65
      · have hlt : k < cc.toNatClampNeg := sf_ltc (by omega) c_2
        refine lv_aload_n hx hb d_SF_moveFollowed_24 rfl (lv_at hl 0 rfl) ?_
        refine lv_iload_n hx hb d_SF_moveFollowed_25 rfl (lv_at hl 2 rfl) ?_
        refine sf_callVw (S := (Nat → Int32)) (rest := []) ⟨hx, hb, hml, hown, hts⟩ (c_SF_preparePlaceFromChain l D cI cZ cJ q fl vs tb vn nt cp cc cb ch cm mp mc mb mh mm us ta tp tl u_1.1 vb u_1.2.2 sh (nI k)) (sf_cwV lk_SF_278 hts (fun _ h => h) (by rw [hR]; exact ⟨Nat.le_of_ble_eq_true rfl, Nat.le_of_ble_eq_true rfl⟩)) hK hP hD hS hA (fun _ => by simp only [sf_w_fst]) (ci := 2) (q0 := 0) rfl rfl rfl rfl rfl hl.1 (Nat.le_of_ble_eq_true rfl) d_SF_moveFollowed_26 ⟨Nat.zero_le _, Nat.zero_le _⟩ (fun u_6 H locs hu_6 hP hD hS => ?_)
        have hP : va_P D classes (sf_w q cI cZ fl vs tb u_6 nt cp cc cb ch cm mp mc mb mh mm us ta tp tl u_1.1 vb u_1.2.2 sh) H := hP
        have hD : va_D A (sf_w q cI cZ fl vs tb u_6 nt cp cc cb ch cm mp mc mb mh mm us ta tp tl u_1.1 vb u_1.2.2 sh) := hD
        refine lv_aload_n hx hb d_SF_moveFollowed_29 rfl (lv_at hl 0 rfl) ?_
        refine lv_aload_n hx hb d_SF_moveFollowed_30 rfl (lv_at hl 0 rfl) ?_
        refine va_get (D := D) (ci := 2) (v := .ref (q 3)) (C := R_SF) (T := F_SF) (N := 15) hx hb hts i_SF hown hK hP 0 rfl rfl 1 (by decide) (hts _ wd_111) (fun _ h9 => h9) rfl d_SF_moveFollowed_31 ?_
        refine lv_aload_n hx hb d_SF_moveFollowed_34 rfl (lv_at hl 0 rfl) ?_
        refine lv_iload_n hx hb d_SF_moveFollowed_35 rfl (lv_at hl 2 rfl) ?_
        refine sf_callVw (S := Int32) (rest := [.ref (q 3), .ref (q 0)]) ⟨hx, hb, hml, hown, hts⟩ (c_SF_takenAt l D cI cZ cJ q fl vs tb u_6 nt cp cc cb ch cm mp mc mb mh mm us ta tp tl u_1.1 vb u_1.2.2 sh (nI k)) (sf_cwV lk_SF_110 hts (fun _ h => h) (by rw [hR]; exact ⟨Nat.le_of_ble_eq_true rfl, Nat.le_of_ble_eq_true rfl⟩)) hK hP hD hS hA (fun _ => by simp only [sf_w_fst]) (ci := 2) (q0 := 0) rfl rfl rfl rfl rfl hl.1 (Nat.le_of_ble_eq_true rfl) d_SF_moveFollowed_36 ⟨Nat.zero_le _, Nat.zero_le _⟩ (fun u_7 H locs hu_7 hP hD hS => ?_)
        have hP : va_P D classes (sf_w q cI cZ fl vs tb u_6 nt cp cc cb ch cm mp mc mb mh mm us ta tp tl u_1.1 vb u_1.2.2 sh) H := hP
        have hD : va_D A (sf_w q cI cZ fl vs tb u_6 nt cp cc cb ch cm mp mc mb mh mm us ta tp tl u_1.1 vb u_1.2.2 sh) := hD
        refine sf_callVw (S := ((Nat → Int32) × (Nat → Int32) × Int32)) (rest := []) ⟨hx, hb, hml, hown, hts⟩ (c_SF_putPlace_s l D cI cZ cJ q fl vs tb u_6 nt cp cc cb ch cm mp mc mb mh mm us ta tp tl u_1.1 vb u_1.2.2 sh u_7) (sf_cwV lk_SF_114 hts (fun _ h => h) (by rw [hR]; exact ⟨Nat.le_of_ble_eq_true rfl, Nat.le_of_ble_eq_true rfl⟩)) hK hP hD hS hA (fun _ => by simp only [sf_w_fst]) (ci := 2) (q0 := 0) rfl rfl rfl rfl rfl hl.1 (Nat.le_of_ble_eq_true rfl) d_SF_moveFollowed_39 ⟨Nat.zero_le _, Nat.zero_le _⟩ (fun u_8 H locs hu_8 hP hD hS => ?_)
        have hP : va_P D classes (sf_w q cI cZ fl u_8.2.1 tb u_8.1 nt cp cc cb ch cm mp mc mb mh mm us ta tp tl u_1.1 u_8.2.2 u_1.2.2 sh) H := hP
        have hD : va_D A (sf_w q cI cZ fl u_8.2.1 tb u_8.1 nt cp cc cb ch cm mp mc mb mh mm us ta tp tl u_1.1 u_8.2.2 u_1.2.2 sh) := hD
        refine lv_iinc (v := (nI (k + 1))) (lv' := [(2, .int (nI (k + 1))), (0, .ref (q 0)), (1, .int ro)]) hx hb d_SF_moveFollowed_42 hl (k := 2) rfl (nI_1 k) (by decide) rfl (fun ls hl => ?_)
        refine lv_goto (tgt := 13) hx hb d_SF_moveFollowed_45 (by decide) ?_
        exact ih13 (k + 1) u_8.1 u_8.2.1 u_8.2.2 (by omega) (by omega) (by rw [← heq13]; simp only [f_SF_moveFollowed_l13, ← hu_1, ← hu_6, ← hu_7, ← hu_8, eq_false c_2, ↓reduceIte]) _ _ hP hD hS ls (lv_sub hl [1, 2, 0] rfl)
  exact loop13 (cc.toNatClampNeg + 1) 0 np sl u_1.2.1 (by omega) (by omega) (by simp only [f_SF_moveFollowed, ← hu_1, ↓reduceIte]) _ _ hP hD hS ls (lv_sub hl [1, 2, 0] rfl)
def f_SF_open_l9 (tb : Nat → Int32) : Nat → Nat → Int32 → (Int32 × Int32)
  | 0, _, _ => (0, 0)
  | fu + 1, k, vr =>
    if 12 ≤ (nI k) then
      (vr, 0)
    else
      if (f_SF_isThere tb (nI k)) = 0 then
        f_SF_open_l9 tb fu (k + 1) vr
      else
        f_SF_open_l9 tb fu (k + 1) (vr + 1)
def f_SF_open (tb : Nat → Int32) : (Int32 × Int32) :=
  f_SF_open_l9 tb (12 + 1) 0 0
set_option maxHeartbeats 1000000 in
set_option maxRecDepth 100000 in
/-- open -/
theorem c_SF_open (l : Launch) (D : va_G) (cI cZ cJ : ClassId) (q : Nat → Nat) (fl : Nat → Int32) (sl : Nat → Int32) (tb : Nat → Int32) (np : Nat → Int32) (nt : Nat → Int32) (cp : Nat → Int32) (cc : Int32) (cb : Int32) (ch : Int32) (cm : Int32) (mp : Nat → Int32) (mc : Int32) (mb : Int32) (mh : Int32) (mm : Int32) (us : Nat → Int32) (ta : Nat → Int32) (tp : Nat → Int32) (tl : Int32) (cu : Int32) (bl : Int32) (pf : Int32) (sh : Int32) : sf_M (S := (Int32 × Int32)) l D classes (sf_tys cI cZ cJ) y_SF_open (sf_ws y_SF_open b_SF_open 3 (some .int)) 5 115 [.ref (q 0)] (sf_w q cI cZ fl sl tb np nt cp cc cb ch cm mp mc mb mh mm us ta tp tl cu bl pf sh) (fun r => some (.int r.1)) (fun r => r = f_SF_open tb) (fun r => (sf_w q cI cZ fl sl tb np nt cp cc cb ch cm mp mc mb mh mm us ta tp tl cu bl pf r.2)) := by
  refine sf_ofW (S := (Int32 × Int32)) (by decide) (Nat.le_of_ble_eq_true rfl) ?_
  intro p e s m below meth c A ls R args Q hR hArgs hQ hC0 hr hK hP hD hl
  obtain ⟨hx, hb, hml, hown, hts, hA, hlk⟩ := hC0
  have hS : va_S A s.heap s.heap [] := va_S.rf
  have hl : lv_has ls 3 [(0, .ref (q 0))] := hl
  refine lv_aload_n hx hb d_SF_open_0 rfl (lv_at hl 0 rfl) ?_
  refine lv_iconst (v := 0) hx hb d_SF_open_1 (by decide) ?_
  refine va_put (D := D) (ci := 2) (v := .int 0) (ty := .boolean) (C := R_SF) (T := F_SF) (N := 15) hx hb hts i_SF t_SF t_SF_ok n_SF hown hK hP hD hS 0 rfl rfl 14 (by decide) (hts _ wd_124) (fun _ h9 => h9) rfl (by decide +kernel) (sf_bp0).1 (sf_bp0).2 (Nat.le_of_ble_eq_true rfl) d_SF_open_2 (fun H locs hP hD hS => ?_)
  have hP : va_P D classes (sf_w q cI cZ fl sl tb np nt cp cc cb ch cm mp mc mb mh mm us ta tp tl cu bl pf 0) H := hP
  have hD : va_D A (sf_w q cI cZ fl sl tb np nt cp cc cb ch cm mp mc mb mh mm us ta tp tl cu bl pf 0) := hD
  refine lv_iconst (v := 0) hx hb d_SF_open_5 (by decide) ?_
  refine lv_istore_n (lv' := [(1, .int 0), (0, .ref (q 0))]) hx hb d_SF_open_6 rfl hl (by decide) rfl (fun ls hl => ?_)
  refine lv_iconst (v := 0) hx hb d_SF_open_7 (by decide) ?_
  refine lv_istore_n (lv' := [(2, .int 0), (1, .int 0), (0, .ref (q 0))]) hx hb d_SF_open_8 rfl hl (by decide) rfl (fun ls hl => ?_)
  have loop9 : ∀ (fu k : Nat) (vr : Int32), k ≤ 12 → k + fu = 12 + 1 → f_SF_open_l9 tb fu k vr = f_SF_open tb → ∀ (H : Heap) (locs : List Loc), va_P D classes (sf_w q cI cZ fl sl tb np nt cp cc cb ch cm mp mc mb mh mm us ta tp tl cu bl pf 0) H → va_D A (sf_w q cI cZ fl sl tb np nt cp cc cb ch cm mp mc mb mh mm us ta tp tl cu bl pf 0) → va_S A s.heap H locs → ∀ (ls : Array Slot), lv_has ls 3 [(0, .ref (q 0)), (1, .int vr), (2, .int (nI k))] → W p l e R s m args below meth c H locs 0 0 Q (F0 m 9 ls []) := by
    intro fu
    induction fu with
    | zero =>
      intro k vr h1 h2
      exact absurd h2 (by omega)
    | succ fu ih9 =>
      intro k vr hk9 hkn9 heq9 H locs hP hD hS ls hl
      refine lv_iload_n hx hb d_SF_open_9 rfl (lv_at hl 2 rfl) ?_
      refine lv_bipush (v := 12) hx hb d_SF_open_10 (by decide) ?_
      refine lv_icmp_ge (tgt := 32) hx hb d_SF_open_12 (by decide) (fun c_1 => ?_) (fun c_1 => ?_)
      · refine lv_iload_n hx hb d_SF_open_32 rfl (lv_at hl 1 rfl) ?_
        rw [hQ]
        exact sf_iret (vr, 0) hx hb hr hlk hS rfl rfl (by rw [← heq9]; simp only [f_SF_open_l9, eq_true c_1, ↓reduceIte]) hP d_SF_open_33
      · have hlt : k < 12 := sf_lt_of (N := 12) (by omega) (by omega) c_1
        refine lv_aload_n hx hb d_SF_open_15 rfl (lv_at hl 0 rfl) ?_
        refine lv_iload_n hx hb d_SF_open_16 rfl (lv_at hl 2 rfl) ?_
        refine sf_callVw (S := Int32) (rest := []) ⟨hx, hb, hml, hown, hts⟩ (c_SF_isThere l D cI cZ cJ q fl sl tb np nt cp cc cb ch cm mp mc mb mh mm us ta tp tl cu bl pf 0 (nI k)) (sf_cwV lk_SF_125 hts (fun _ h => h) (by rw [hR]; exact ⟨Nat.le_of_ble_eq_true rfl, Nat.le_of_ble_eq_true rfl⟩)) hK hP hD hS hA (fun _ => by simp only [sf_w_fst]) (ci := 2) (q0 := 0) rfl rfl rfl rfl rfl hl.1 (Nat.le_of_ble_eq_true rfl) d_SF_open_17 ⟨Nat.zero_le _, Nat.zero_le _⟩ (fun u_2 H locs hu_2 hP hD hS => ?_)
        have hP : va_P D classes (sf_w q cI cZ fl sl tb np nt cp cc cb ch cm mp mc mb mh mm us ta tp tl cu bl pf 0) H := hP
        have hD : va_D A (sf_w q cI cZ fl sl tb np nt cp cc cb ch cm mp mc mb mh mm us ta tp tl cu bl pf 0) := hD
        refine lv_if_eq (tgt := 26) hx hb d_SF_open_20 (by decide) (fun c_3 => ?_) (fun c_3 => ?_)
        · refine lv_iinc (v := (nI (k + 1))) (lv' := [(2, .int (nI (k + 1))), (0, .ref (q 0)), (1, .int vr)]) hx hb d_SF_open_26 hl (k := 2) rfl (nI_1 k) (by decide) rfl (fun ls hl => ?_)
          refine lv_goto (tgt := 9) hx hb d_SF_open_29 (by decide) ?_
          exact ih9 (k + 1) vr (by omega) (by omega) (by rw [← heq9]; simp only [f_SF_open_l9, ← hu_2, eq_false c_1, eq_true c_3, ↓reduceIte]) _ _ hP hD hS ls (lv_sub hl [1, 2, 0] rfl)
        · refine lv_iinc (v := (vr + 1)) (lv' := [(1, .int (vr + 1)), (0, .ref (q 0)), (2, .int (nI k))]) hx hb d_SF_open_23 hl (k := 1) rfl rfl (by decide) rfl (fun ls hl => ?_)
          refine lv_iinc (v := (nI (k + 1))) (lv' := [(2, .int (nI (k + 1))), (1, .int (vr + 1)), (0, .ref (q 0))]) hx hb d_SF_open_26 hl (k := 2) rfl (nI_1 k) (by decide) rfl (fun ls hl => ?_)
          refine lv_goto (tgt := 9) hx hb d_SF_open_29 (by decide) ?_
          exact ih9 (k + 1) (vr + 1) (by omega) (by omega) (by rw [← heq9]; simp only [f_SF_open_l9, ← hu_2, eq_false c_1, eq_false c_3, ↓reduceIte]) _ _ hP hD hS ls (lv_sub hl [2, 1, 0] rfl)
  exact loop9 (12 + 1) 0 0 (by omega) (by omega) (by simp only [f_SF_open, ↓reduceIte]) _ _ hP hD hS ls (lv_sub hl [2, 1, 0] rfl)
