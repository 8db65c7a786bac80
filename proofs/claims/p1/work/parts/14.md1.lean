/-! md1: contracts, with the pure functions that they speak of (printed by wip/gen) -/
set_option maxRecDepth 20000 in
theorem wd_575 : Cond.fieldLink R_MD 36 "ShadowFilesModel" "thrown" "I" ∈ sf_tb := sf_tb_in 575 rfl rfl
set_option maxRecDepth 20000 in
theorem wd_668 : Cond.constant R_MD 39 (-1640531535) ∈ sf_tb := sf_tb_in 668 rfl rfl
set_option maxRecDepth 20000 in
theorem wd_576 : Cond.fieldLink R_MD 7 "ShadowFilesModel" "bytes" "[I" ∈ sf_tb := sf_tb_in 576 rfl rfl
set_option maxRecDepth 20000 in
theorem wd_665 : Cond.methodLink R_MD 40 y_MD_stir ∈ sf_tb := sf_tb_in 665 rfl rfl
set_option maxRecDepth 20000 in
theorem wd_667 : Cond.code y_MD_stir b_MD_stir 3 (some .int) ∈ sf_tb := sf_tb_in 667 rfl rfl
set_option maxRecDepth 20000 in
theorem wd_55 : Cond.initialized R_MD ∈ sf_tb := sf_tb_in 55 rfl rfl
set_option maxRecDepth 20000 in
theorem wd_666 : Cond.static y_MD_stir ∈ sf_tb := sf_tb_in 666 rfl rfl
set_option maxRecDepth 20000 in
theorem wd_629 : Cond.methodLink R_MD 44 y_MD_in ∈ sf_tb := sf_tb_in 629 rfl rfl
set_option maxRecDepth 20000 in
theorem wd_631 : Cond.code y_MD_in b_MD_in 3 (some .boolean) ∈ sf_tb := sf_tb_in 631 rfl rfl
set_option maxRecDepth 20000 in
theorem wd_630 : Cond.static y_MD_in ∈ sf_tb := sf_tb_in 630 rfl rfl
set_option maxRecDepth 20000 in
theorem wd_661 : Cond.methodLink R_MD 48 y_MD_isSummed ∈ sf_tb := sf_tb_in 661 rfl rfl
set_option maxRecDepth 20000 in
theorem wd_664 : Cond.code y_MD_isSummed b_MD_isSummed 6 (some .boolean) ∈ sf_tb := sf_tb_in 664 rfl rfl
set_option maxRecDepth 20000 in
theorem wd_663 : Cond.instanceMethod y_MD_isSummed ∈ sf_tb := sf_tb_in 663 rfl rfl
set_option maxRecDepth 20000 in
theorem wd_39 : Cond.selects R_MD y_MD_isSummed y_MD_isSummed ∈ sf_tb := sf_tb_in 39 rfl rfl
set_option maxRecDepth 20000 in
theorem wd_657 : Cond.methodLink R_MD 52 y_MD_isGood ∈ sf_tb := sf_tb_in 657 rfl rfl
set_option maxRecDepth 20000 in
theorem wd_660 : Cond.code y_MD_isGood b_MD_isGood 2 (some .boolean) ∈ sf_tb := sf_tb_in 660 rfl rfl
set_option maxRecDepth 20000 in
theorem wd_659 : Cond.instanceMethod y_MD_isGood ∈ sf_tb := sf_tb_in 659 rfl rfl
set_option maxRecDepth 20000 in
theorem wd_38 : Cond.selects R_MD y_MD_isGood y_MD_isGood ∈ sf_tb := sf_tb_in 38 rfl rfl
set_option maxRecDepth 20000 in
theorem wd_669 : Cond.methodLink R_MD 56 y_MD_next ∈ sf_tb := sf_tb_in 669 rfl rfl
set_option maxRecDepth 20000 in
theorem wd_671 : Cond.code y_MD_next b_MD_next 1 (some .int) ∈ sf_tb := sf_tb_in 671 rfl rfl
set_option maxRecDepth 20000 in
theorem wd_670 : Cond.static y_MD_next ∈ sf_tb := sf_tb_in 670 rfl rfl
set_option maxRecDepth 20000 in
theorem wd_653 : Cond.methodLink R_MD 60 y_MD_counting ∈ sf_tb := sf_tb_in 653 rfl rfl
set_option maxRecDepth 20000 in
theorem wd_656 : Cond.code y_MD_counting b_MD_counting 1 (some .int) ∈ sf_tb := sf_tb_in 656 rfl rfl
set_option maxRecDepth 20000 in
theorem wd_655 : Cond.instanceMethod y_MD_counting ∈ sf_tb := sf_tb_in 655 rfl rfl
set_option maxRecDepth 20000 in
theorem wd_37 : Cond.selects R_MD y_MD_counting y_MD_counting ∈ sf_tb := sf_tb_in 37 rfl rfl
set_option maxRecDepth 20000 in
theorem wd_649 : Cond.methodLink R_MD 64 y_MD_entry ∈ sf_tb := sf_tb_in 649 rfl rfl
set_option maxRecDepth 20000 in
theorem wd_652 : Cond.code y_MD_entry b_MD_entry 3 (some .int) ∈ sf_tb := sf_tb_in 652 rfl rfl
set_option maxRecDepth 20000 in
theorem wd_651 : Cond.instanceMethod y_MD_entry ∈ sf_tb := sf_tb_in 651 rfl rfl
set_option maxRecDepth 20000 in
theorem wd_36 : Cond.selects R_MD y_MD_entry y_MD_entry ∈ sf_tb := sf_tb_in 36 rfl rfl
set_option maxRecDepth 20000 in
theorem wd_672 : Cond.methodLink R_MD 67 y_MD_isSlow ∈ sf_tb := sf_tb_in 672 rfl rfl
set_option maxRecDepth 20000 in
theorem wd_675 : Cond.code y_MD_isSlow b_MD_isSlow 2 (some .boolean) ∈ sf_tb := sf_tb_in 675 rfl rfl
set_option maxRecDepth 20000 in
theorem wd_674 : Cond.instanceMethod y_MD_isSlow ∈ sf_tb := sf_tb_in 674 rfl rfl
set_option maxRecDepth 20000 in
theorem wd_40 : Cond.selects R_MD y_MD_isSlow y_MD_isSlow ∈ sf_tb := sf_tb_in 40 rfl rfl
theorem lk_MD_40 : sf_LS R_MD 40 y_MD_stir b_MD_stir 3 (some .int) 2 := ⟨wd_667, wd_665, wd_666, wd_55, by decide +kernel⟩
theorem lk_MD_44 : sf_LS R_MD 44 y_MD_in b_MD_in 3 (some .boolean) 3 := ⟨wd_631, wd_629, wd_630, wd_55, by decide +kernel⟩
theorem lk_MD_48 : sf_LV R_MD 48 y_MD_isSummed b_MD_isSummed 6 (some .boolean) 2 := ⟨wd_664, wd_661, wd_663, wd_39, wd_55, by decide +kernel⟩
theorem lk_MD_52 : sf_LV R_MD 52 y_MD_isGood b_MD_isGood 2 (some .boolean) 1 := ⟨wd_660, wd_657, wd_659, wd_38, wd_55, by decide +kernel⟩
theorem lk_MD_56 : sf_LS R_MD 56 y_MD_next b_MD_next 1 (some .int) 1 := ⟨wd_671, wd_669, wd_670, wd_55, by decide +kernel⟩
theorem lk_MD_60 : sf_LV R_MD 60 y_MD_counting b_MD_counting 1 (some .int) 0 := ⟨wd_656, wd_653, wd_655, wd_37, wd_55, by decide +kernel⟩
theorem lk_MD_64 : sf_LV R_MD 64 y_MD_entry b_MD_entry 3 (some .int) 1 := ⟨wd_652, wd_649, wd_651, wd_36, wd_55, by decide +kernel⟩
theorem lk_MD_67 : sf_LV R_MD 67 y_MD_isSlow b_MD_isSlow 2 (some .boolean) 1 := ⟨wd_675, wd_672, wd_674, wd_40, wd_55, by decide +kernel⟩
theorem d_MD_thrown_0 : decode b_MD_thrown 0 = .ok (.aload_n 0, 1) := by decide +kernel
theorem d_MD_thrown_1 : decode b_MD_thrown 1 = .ok (.getfield 36, 3) := by decide +kernel
theorem d_MD_thrown_4 : decode b_MD_thrown 4 = .ok (.ireturn, 1) := by decide +kernel
theorem d_MD_throwing_0 : decode b_MD_throwing 0 = .ok (.aload_n 0, 1) := by decide +kernel
theorem d_MD_throwing_1 : decode b_MD_throwing 1 = .ok (.iload_n 1, 1) := by decide +kernel
theorem d_MD_throwing_2 : decode b_MD_throwing 2 = .ok (.ifCond .eq 7, 3) := by decide +kernel
theorem d_MD_throwing_5 : decode b_MD_throwing 5 = .ok (.iconst 1, 1) := by decide +kernel
theorem d_MD_throwing_6 : decode b_MD_throwing 6 = .ok (.goto 29, 3) := by decide +kernel
theorem d_MD_throwing_9 : decode b_MD_throwing 9 = .ok (.iload_n 2, 1) := by decide +kernel
theorem d_MD_throwing_10 : decode b_MD_throwing 10 = .ok (.ifCond .eq 7, 3) := by decide +kernel
theorem d_MD_throwing_13 : decode b_MD_throwing 13 = .ok (.iconst 2, 1) := by decide +kernel
theorem d_MD_throwing_14 : decode b_MD_throwing 14 = .ok (.goto 21, 3) := by decide +kernel
theorem d_MD_throwing_17 : decode b_MD_throwing 17 = .ok (.iload_n 3, 1) := by decide +kernel
theorem d_MD_throwing_18 : decode b_MD_throwing 18 = .ok (.ifCond .eq 7, 3) := by decide +kernel
theorem d_MD_throwing_21 : decode b_MD_throwing 21 = .ok (.iconst 3, 1) := by decide +kernel
theorem d_MD_throwing_22 : decode b_MD_throwing 22 = .ok (.goto 13, 3) := by decide +kernel
theorem d_MD_throwing_25 : decode b_MD_throwing 25 = .ok (.iload 4, 2) := by decide +kernel
theorem d_MD_throwing_27 : decode b_MD_throwing 27 = .ok (.ifCond .eq 7, 3) := by decide +kernel
theorem d_MD_throwing_30 : decode b_MD_throwing 30 = .ok (.iconst 4, 1) := by decide +kernel
theorem d_MD_throwing_31 : decode b_MD_throwing 31 = .ok (.goto 4, 3) := by decide +kernel
theorem d_MD_throwing_34 : decode b_MD_throwing 34 = .ok (.iconst 0, 1) := by decide +kernel
theorem d_MD_throwing_35 : decode b_MD_throwing 35 = .ok (.putfield 36, 3) := by decide +kernel
theorem d_MD_throwing_38 : decode b_MD_throwing 38 = .ok (.aload_n 0, 1) := by decide +kernel
theorem d_MD_throwing_39 : decode b_MD_throwing 39 = .ok (.getfield 36, 3) := by decide +kernel
theorem d_MD_throwing_42 : decode b_MD_throwing 42 = .ok (.ifCond .le 7, 3) := by decide +kernel
theorem d_MD_throwing_45 : decode b_MD_throwing 45 = .ok (.iconst 1, 1) := by decide +kernel
theorem d_MD_throwing_46 : decode b_MD_throwing 46 = .ok (.goto 4, 3) := by decide +kernel
theorem d_MD_throwing_49 : decode b_MD_throwing 49 = .ok (.iconst 0, 1) := by decide +kernel
theorem d_MD_throwing_50 : decode b_MD_throwing 50 = .ok (.ireturn, 1) := by decide +kernel
theorem d_MD_in_0 : decode b_MD_in 0 = .ok (.iload_n 0, 1) := by decide +kernel
theorem d_MD_in_1 : decode b_MD_in 1 = .ok (.iload_n 1, 1) := by decide +kernel
theorem d_MD_in_2 : decode b_MD_in 2 = .ok (.if_icmp .lt 12, 3) := by decide +kernel
theorem d_MD_in_5 : decode b_MD_in 5 = .ok (.iload_n 0, 1) := by decide +kernel
theorem d_MD_in_6 : decode b_MD_in 6 = .ok (.iload_n 2, 1) := by decide +kernel
theorem d_MD_in_7 : decode b_MD_in 7 = .ok (.if_icmp .gt 7, 3) := by decide +kernel
theorem d_MD_in_10 : decode b_MD_in 10 = .ok (.iconst 1, 1) := by decide +kernel
theorem d_MD_in_11 : decode b_MD_in 11 = .ok (.goto 4, 3) := by decide +kernel
theorem d_MD_in_14 : decode b_MD_in 14 = .ok (.iconst 0, 1) := by decide +kernel
theorem d_MD_in_15 : decode b_MD_in 15 = .ok (.ireturn, 1) := by decide +kernel
theorem d_MD_stir_0 : decode b_MD_stir 0 = .ok (.iload_n 0, 1) := by decide +kernel
theorem d_MD_stir_1 : decode b_MD_stir 1 = .ok (.iload_n 1, 1) := by decide +kernel
theorem d_MD_stir_2 : decode b_MD_stir 2 = .ok (.ixor, 1) := by decide +kernel
theorem d_MD_stir_3 : decode b_MD_stir 3 = .ok (.istore_n 2, 1) := by decide +kernel
theorem d_MD_stir_4 : decode b_MD_stir 4 = .ok (.iload_n 2, 1) := by decide +kernel
theorem d_MD_stir_5 : decode b_MD_stir 5 = .ok (.bipush 23, 2) := by decide +kernel
theorem d_MD_stir_7 : decode b_MD_stir 7 = .ok (.ishl, 1) := by decide +kernel
theorem d_MD_stir_8 : decode b_MD_stir 8 = .ok (.iload_n 2, 1) := by decide +kernel
theorem d_MD_stir_9 : decode b_MD_stir 9 = .ok (.bipush 9, 2) := by decide +kernel
theorem d_MD_stir_11 : decode b_MD_stir 11 = .ok (.iushr, 1) := by decide +kernel
theorem d_MD_stir_12 : decode b_MD_stir 12 = .ok (.ior, 1) := by decide +kernel
theorem d_MD_stir_13 : decode b_MD_stir 13 = .ok (.ldc 39, 2) := by decide +kernel
theorem d_MD_stir_15 : decode b_MD_stir 15 = .ok (.imul, 1) := by decide +kernel
theorem d_MD_stir_16 : decode b_MD_stir 16 = .ok (.ireturn, 1) := by decide +kernel
theorem d_MD_next_0 : decode b_MD_next 0 = .ok (.iload_n 0, 1) := by decide +kernel
theorem d_MD_next_1 : decode b_MD_next 1 = .ok (.sipush 250, 3) := by decide +kernel
theorem d_MD_next_4 : decode b_MD_next 4 = .ok (.if_icmp .ne 7, 3) := by decide +kernel
theorem d_MD_next_7 : decode b_MD_next 7 = .ok (.iconst 1, 1) := by decide +kernel
theorem d_MD_next_8 : decode b_MD_next 8 = .ok (.goto 6, 3) := by decide +kernel
theorem d_MD_next_11 : decode b_MD_next 11 = .ok (.iload_n 0, 1) := by decide +kernel
theorem d_MD_next_12 : decode b_MD_next 12 = .ok (.iconst 1, 1) := by decide +kernel
theorem d_MD_next_13 : decode b_MD_next 13 = .ok (.iadd, 1) := by decide +kernel
theorem d_MD_next_14 : decode b_MD_next 14 = .ok (.ireturn, 1) := by decide +kernel
theorem d_MD_places_0 : decode b_MD_places 0 = .ok (.iload_n 0, 1) := by decide +kernel
theorem d_MD_places_1 : decode b_MD_places 1 = .ok (.ifCond .eq 8, 3) := by decide +kernel
theorem d_MD_places_4 : decode b_MD_places 4 = .ok (.bipush 16, 2) := by decide +kernel
theorem d_MD_places_6 : decode b_MD_places 6 = .ok (.goto 5, 3) := by decide +kernel
theorem d_MD_places_9 : decode b_MD_places 9 = .ok (.bipush 24, 2) := by decide +kernel
theorem d_MD_places_11 : decode b_MD_places 11 = .ok (.ireturn, 1) := by decide +kernel
theorem d_MD_begin_0 : decode b_MD_begin 0 = .ok (.iload_n 0, 1) := by decide +kernel
theorem d_MD_begin_1 : decode b_MD_begin 1 = .ok (.ifCond .eq 9, 3) := by decide +kernel
theorem d_MD_begin_4 : decode b_MD_begin 4 = .ok (.sipush 768, 3) := by decide +kernel
theorem d_MD_begin_7 : decode b_MD_begin 7 = .ok (.goto 4, 3) := by decide +kernel
theorem d_MD_begin_10 : decode b_MD_begin 10 = .ok (.iconst 0, 1) := by decide +kernel
theorem d_MD_begin_11 : decode b_MD_begin 11 = .ok (.bipush 32, 2) := by decide +kernel
theorem d_MD_begin_13 : decode b_MD_begin 13 = .ok (.iload_n 1, 1) := by decide +kernel
theorem d_MD_begin_14 : decode b_MD_begin 14 = .ok (.imul, 1) := by decide +kernel
theorem d_MD_begin_15 : decode b_MD_begin 15 = .ok (.iadd, 1) := by decide +kernel
theorem d_MD_begin_16 : decode b_MD_begin 16 = .ok (.ireturn, 1) := by decide +kernel
theorem d_MD_isSummed_0 : decode b_MD_isSummed 0 = .ok (.iconst 0, 1) := by decide +kernel
theorem d_MD_isSummed_1 : decode b_MD_isSummed 1 = .ok (.istore_n 3, 1) := by decide +kernel
theorem d_MD_isSummed_2 : decode b_MD_isSummed 2 = .ok (.iconst 0, 1) := by decide +kernel
theorem d_MD_isSummed_3 : decode b_MD_isSummed 3 = .ok (.istore 4, 2) := by decide +kernel
theorem d_MD_isSummed_5 : decode b_MD_isSummed 5 = .ok (.iload 4, 2) := by decide +kernel
theorem d_MD_isSummed_7 : decode b_MD_isSummed 7 = .ok (.iload_n 2, 1) := by decide +kernel
theorem d_MD_isSummed_8 : decode b_MD_isSummed 8 = .ok (.if_icmp .ge 23, 3) := by decide +kernel
theorem d_MD_isSummed_11 : decode b_MD_isSummed 11 = .ok (.iload_n 3, 1) := by decide +kernel
theorem d_MD_isSummed_12 : decode b_MD_isSummed 12 = .ok (.aload_n 0, 1) := by decide +kernel
theorem d_MD_isSummed_13 : decode b_MD_isSummed 13 = .ok (.getfield 7, 3) := by decide +kernel
theorem d_MD_isSummed_16 : decode b_MD_isSummed 16 = .ok (.iload_n 1, 1) := by decide +kernel
theorem d_MD_isSummed_17 : decode b_MD_isSummed 17 = .ok (.iload 4, 2) := by decide +kernel
theorem d_MD_isSummed_19 : decode b_MD_isSummed 19 = .ok (.iadd, 1) := by decide +kernel
theorem d_MD_isSummed_20 : decode b_MD_isSummed 20 = .ok (.iaload, 1) := by decide +kernel
theorem d_MD_isSummed_21 : decode b_MD_isSummed 21 = .ok (.invokestatic 40, 3) := by decide +kernel
theorem d_MD_isSummed_24 : decode b_MD_isSummed 24 = .ok (.istore_n 3, 1) := by decide +kernel
theorem d_MD_isSummed_25 : decode b_MD_isSummed 25 = .ok (.iinc 4 1, 3) := by decide +kernel
theorem d_MD_isSummed_28 : decode b_MD_isSummed 28 = .ok (.goto (-23), 3) := by decide +kernel
theorem d_MD_isSummed_31 : decode b_MD_isSummed 31 = .ok (.iconst 1, 1) := by decide +kernel
theorem d_MD_isSummed_32 : decode b_MD_isSummed 32 = .ok (.istore 4, 2) := by decide +kernel
theorem d_MD_isSummed_34 : decode b_MD_isSummed 34 = .ok (.iconst 0, 1) := by decide +kernel
theorem d_MD_isSummed_35 : decode b_MD_isSummed 35 = .ok (.istore 5, 2) := by decide +kernel
theorem d_MD_isSummed_37 : decode b_MD_isSummed 37 = .ok (.iload 5, 2) := by decide +kernel
theorem d_MD_isSummed_39 : decode b_MD_isSummed 39 = .ok (.iconst 4, 1) := by decide +kernel
theorem d_MD_isSummed_40 : decode b_MD_isSummed 40 = .ok (.if_icmp .ge 49, 3) := by decide +kernel
theorem d_MD_isSummed_43 : decode b_MD_isSummed 43 = .ok (.iload 4, 2) := by decide +kernel
theorem d_MD_isSummed_45 : decode b_MD_isSummed 45 = .ok (.ifCond .eq 35, 3) := by decide +kernel
theorem d_MD_isSummed_48 : decode b_MD_isSummed 48 = .ok (.aload_n 0, 1) := by decide +kernel
theorem d_MD_isSummed_49 : decode b_MD_isSummed 49 = .ok (.getfield 7, 3) := by decide +kernel
theorem d_MD_isSummed_52 : decode b_MD_isSummed 52 = .ok (.iload_n 1, 1) := by decide +kernel
theorem d_MD_isSummed_53 : decode b_MD_isSummed 53 = .ok (.iload_n 2, 1) := by decide +kernel
theorem d_MD_isSummed_54 : decode b_MD_isSummed 54 = .ok (.iadd, 1) := by decide +kernel
theorem d_MD_isSummed_55 : decode b_MD_isSummed 55 = .ok (.iload 5, 2) := by decide +kernel
theorem d_MD_isSummed_57 : decode b_MD_isSummed 57 = .ok (.iadd, 1) := by decide +kernel
theorem d_MD_isSummed_58 : decode b_MD_isSummed 58 = .ok (.iaload, 1) := by decide +kernel
theorem d_MD_isSummed_59 : decode b_MD_isSummed 59 = .ok (.iload_n 3, 1) := by decide +kernel
theorem d_MD_isSummed_60 : decode b_MD_isSummed 60 = .ok (.bipush 24, 2) := by decide +kernel
theorem d_MD_isSummed_62 : decode b_MD_isSummed 62 = .ok (.bipush 8, 2) := by decide +kernel
theorem d_MD_isSummed_64 : decode b_MD_isSummed 64 = .ok (.iload 5, 2) := by decide +kernel
theorem d_MD_isSummed_66 : decode b_MD_isSummed 66 = .ok (.imul, 1) := by decide +kernel
theorem d_MD_isSummed_67 : decode b_MD_isSummed 67 = .ok (.isub, 1) := by decide +kernel
theorem d_MD_isSummed_68 : decode b_MD_isSummed 68 = .ok (.iushr, 1) := by decide +kernel
theorem d_MD_isSummed_69 : decode b_MD_isSummed 69 = .ok (.sipush 255, 3) := by decide +kernel
theorem d_MD_isSummed_72 : decode b_MD_isSummed 72 = .ok (.iand, 1) := by decide +kernel
theorem d_MD_isSummed_73 : decode b_MD_isSummed 73 = .ok (.if_icmp .ne 7, 3) := by decide +kernel
theorem d_MD_isSummed_76 : decode b_MD_isSummed 76 = .ok (.iconst 1, 1) := by decide +kernel
theorem d_MD_isSummed_77 : decode b_MD_isSummed 77 = .ok (.goto 4, 3) := by decide +kernel
theorem d_MD_isSummed_80 : decode b_MD_isSummed 80 = .ok (.iconst 0, 1) := by decide +kernel
theorem d_MD_isSummed_81 : decode b_MD_isSummed 81 = .ok (.istore 4, 2) := by decide +kernel
theorem d_MD_isSummed_83 : decode b_MD_isSummed 83 = .ok (.iinc 5 1, 3) := by decide +kernel
theorem d_MD_isSummed_86 : decode b_MD_isSummed 86 = .ok (.goto (-49), 3) := by decide +kernel
theorem d_MD_isSummed_89 : decode b_MD_isSummed 89 = .ok (.iload 4, 2) := by decide +kernel
theorem d_MD_isSummed_91 : decode b_MD_isSummed 91 = .ok (.ireturn, 1) := by decide +kernel
theorem d_MD_isGood_0 : decode b_MD_isGood 0 = .ok (.aload_n 0, 1) := by decide +kernel
theorem d_MD_isGood_1 : decode b_MD_isGood 1 = .ok (.getfield 7, 3) := by decide +kernel
theorem d_MD_isGood_4 : decode b_MD_isGood 4 = .ok (.sipush 1280, 3) := by decide +kernel
theorem d_MD_isGood_7 : decode b_MD_isGood 7 = .ok (.bipush 40, 2) := by decide +kernel
theorem d_MD_isGood_9 : decode b_MD_isGood 9 = .ok (.iload_n 1, 1) := by decide +kernel
theorem d_MD_isGood_10 : decode b_MD_isGood 10 = .ok (.imul, 1) := by decide +kernel
theorem d_MD_isGood_11 : decode b_MD_isGood 11 = .ok (.iadd, 1) := by decide +kernel
theorem d_MD_isGood_12 : decode b_MD_isGood 12 = .ok (.iaload, 1) := by decide +kernel
theorem d_MD_isGood_13 : decode b_MD_isGood 13 = .ok (.iconst 1, 1) := by decide +kernel
theorem d_MD_isGood_14 : decode b_MD_isGood 14 = .ok (.sipush 250, 3) := by decide +kernel
theorem d_MD_isGood_17 : decode b_MD_isGood 17 = .ok (.invokestatic 44, 3) := by decide +kernel
theorem d_MD_isGood_20 : decode b_MD_isGood 20 = .ok (.ifCond .eq 24, 3) := by decide +kernel
theorem d_MD_isGood_23 : decode b_MD_isGood 23 = .ok (.aload_n 0, 1) := by decide +kernel
theorem d_MD_isGood_24 : decode b_MD_isGood 24 = .ok (.sipush 1280, 3) := by decide +kernel
theorem d_MD_isGood_27 : decode b_MD_isGood 27 = .ok (.bipush 40, 2) := by decide +kernel
theorem d_MD_isGood_29 : decode b_MD_isGood 29 = .ok (.iload_n 1, 1) := by decide +kernel
theorem d_MD_isGood_30 : decode b_MD_isGood 30 = .ok (.imul, 1) := by decide +kernel
theorem d_MD_isGood_31 : decode b_MD_isGood 31 = .ok (.iadd, 1) := by decide +kernel
theorem d_MD_isGood_32 : decode b_MD_isGood 32 = .ok (.bipush 36, 2) := by decide +kernel
theorem d_MD_isGood_34 : decode b_MD_isGood 34 = .ok (.invokevirtual 48, 3) := by decide +kernel
theorem d_MD_isGood_37 : decode b_MD_isGood 37 = .ok (.ifCond .eq 7, 3) := by decide +kernel
theorem d_MD_isGood_40 : decode b_MD_isGood 40 = .ok (.iconst 1, 1) := by decide +kernel
theorem d_MD_isGood_41 : decode b_MD_isGood 41 = .ok (.goto 4, 3) := by decide +kernel
theorem d_MD_isGood_44 : decode b_MD_isGood 44 = .ok (.iconst 0, 1) := by decide +kernel
theorem d_MD_isGood_45 : decode b_MD_isGood 45 = .ok (.ireturn, 1) := by decide +kernel
theorem d_MD_counting_0 : decode b_MD_counting 0 = .ok (.aload_n 0, 1) := by decide +kernel
theorem d_MD_counting_1 : decode b_MD_counting 1 = .ok (.iconst 0, 1) := by decide +kernel
theorem d_MD_counting_2 : decode b_MD_counting 2 = .ok (.invokevirtual 52, 3) := by decide +kernel
theorem d_MD_counting_5 : decode b_MD_counting 5 = .ok (.ifCond .ne 17, 3) := by decide +kernel
theorem d_MD_counting_8 : decode b_MD_counting 8 = .ok (.aload_n 0, 1) := by decide +kernel
theorem d_MD_counting_9 : decode b_MD_counting 9 = .ok (.iconst 1, 1) := by decide +kernel
theorem d_MD_counting_10 : decode b_MD_counting 10 = .ok (.invokevirtual 52, 3) := by decide +kernel
theorem d_MD_counting_13 : decode b_MD_counting 13 = .ok (.ifCond .eq 7, 3) := by decide +kernel
theorem d_MD_counting_16 : decode b_MD_counting 16 = .ok (.iconst 1, 1) := by decide +kernel
theorem d_MD_counting_17 : decode b_MD_counting 17 = .ok (.goto 4, 3) := by decide +kernel
theorem d_MD_counting_20 : decode b_MD_counting 20 = .ok (.iconst (-1), 1) := by decide +kernel
theorem d_MD_counting_21 : decode b_MD_counting 21 = .ok (.ireturn, 1) := by decide +kernel
theorem d_MD_counting_22 : decode b_MD_counting 22 = .ok (.aload_n 0, 1) := by decide +kernel
theorem d_MD_counting_23 : decode b_MD_counting 23 = .ok (.iconst 1, 1) := by decide +kernel
theorem d_MD_counting_24 : decode b_MD_counting 24 = .ok (.invokevirtual 52, 3) := by decide +kernel
theorem d_MD_counting_27 : decode b_MD_counting 27 = .ok (.ifCond .ne 5, 3) := by decide +kernel
theorem d_MD_counting_30 : decode b_MD_counting 30 = .ok (.iconst 0, 1) := by decide +kernel
theorem d_MD_counting_31 : decode b_MD_counting 31 = .ok (.ireturn, 1) := by decide +kernel
theorem d_MD_counting_32 : decode b_MD_counting 32 = .ok (.aload_n 0, 1) := by decide +kernel
theorem d_MD_counting_33 : decode b_MD_counting 33 = .ok (.getfield 7, 3) := by decide +kernel
theorem d_MD_counting_36 : decode b_MD_counting 36 = .ok (.sipush 1320, 3) := by decide +kernel
theorem d_MD_counting_39 : decode b_MD_counting 39 = .ok (.iaload, 1) := by decide +kernel
theorem d_MD_counting_40 : decode b_MD_counting 40 = .ok (.aload_n 0, 1) := by decide +kernel
theorem d_MD_counting_41 : decode b_MD_counting 41 = .ok (.getfield 7, 3) := by decide +kernel
theorem d_MD_counting_44 : decode b_MD_counting 44 = .ok (.sipush 1280, 3) := by decide +kernel
theorem d_MD_counting_47 : decode b_MD_counting 47 = .ok (.iaload, 1) := by decide +kernel
theorem d_MD_counting_48 : decode b_MD_counting 48 = .ok (.invokestatic 56, 3) := by decide +kernel
theorem d_MD_counting_51 : decode b_MD_counting 51 = .ok (.if_icmp .ne 7, 3) := by decide +kernel
theorem d_MD_counting_54 : decode b_MD_counting 54 = .ok (.iconst 1, 1) := by decide +kernel
theorem d_MD_counting_55 : decode b_MD_counting 55 = .ok (.goto 4, 3) := by decide +kernel
theorem d_MD_counting_58 : decode b_MD_counting 58 = .ok (.iconst 0, 1) := by decide +kernel
theorem d_MD_counting_59 : decode b_MD_counting 59 = .ok (.ireturn, 1) := by decide +kernel
/-- the cells of the reference: where they lie (q), what they hold -/
def md_w (q : Nat → Nat) (cI cZ : ClassId) (xth : Int32) (xB : Nat → Int32) (xsh : Int32) (xcu : Int32) (xtp : Nat → Int32) (xtd : Int32) (xpa : Nat → Int32) (xsp : Int32) (xwh : Int32) (xhe : Nat → Int32) (xho : Int32) (xtk : Nat → Int32) (xto : Nat → Int32) (xwa : Nat → Int32) (xmn : Int32) : va_W :=
  [((q 0), .inr (3, [.int xth, .ref (q 1), .int xsh, .int xcu, .ref (q 2), .int xtd, .ref (q 3), .int xsp, .int xwh, .ref (q 4), .int xho, .ref (q 5), .ref (q 6), .ref (q 7), .int xmn])), ((q 1), .inl (cI, 1360, .inl xB)), ((q 2), .inl (cI, 60, .inl xtp)), ((q 3), .inl (cI, 3, .inl xpa)), ((q 4), .inl (cI, 75, .inl xhe)), ((q 5), .inl (cZ, 24, .inl xtk)), ((q 6), .inl (cI, 136, .inl xto)), ((q 7), .inl (cI, 136, .inl xwa))]
theorem md_w_fst (q : Nat → Nat) (cI cZ : ClassId) (xth : Int32) (xB : Nat → Int32) (xsh : Int32) (xcu : Int32) (xtp : Nat → Int32) (xtd : Int32) (xpa : Nat → Int32) (xsp : Int32) (xwh : Int32) (xhe : Nat → Int32) (xho : Int32) (xtk : Nat → Int32) (xto : Nat → Int32) (xwa : Nat → Int32) (xmn : Int32) : (md_w q cI cZ xth xB xsh xcu xtp xtd xpa xsp xwh xhe xho xtk xto xwa xmn).map Prod.fst = [q 0, q 1, q 2, q 3, q 4, q 5, q 6, q 7] := rfl
def f_MD_thrown (xth : Int32) : Int32 :=
  xth
set_option maxHeartbeats 1000000 in
set_option maxRecDepth 100000 in
/-- thrown -/
theorem c_MD_thrown (l : Launch) (D : va_G) (cI cZ cJ : ClassId) (q : Nat → Nat) (xth : Int32) (xB : Nat → Int32) (xsh : Int32) (xcu : Int32) (xtp : Nat → Int32) (xtd : Int32) (xpa : Nat → Int32) (xsp : Int32) (xwh : Int32) (xhe : Nat → Int32) (xho : Int32) (xtk : Nat → Int32) (xto : Nat → Int32) (xwa : Nat → Int32) (xmn : Int32) : sf_M (S := Int32) l D classes (sf_tys cI cZ cJ) y_MD_thrown (sf_ws y_MD_thrown b_MD_thrown 1 (some .int)) 0 0 [.ref (q 0)] (md_w q cI cZ xth xB xsh xcu xtp xtd xpa xsp xwh xhe xho xtk xto xwa xmn) (fun r => some (.int r)) (fun r => r = f_MD_thrown xth) (fun r => (md_w q cI cZ xth xB xsh xcu xtp xtd xpa xsp xwh xhe xho xtk xto xwa xmn)) := by
  refine sf_ofW (S := Int32) (by decide) (Nat.le_of_ble_eq_true rfl) ?_
  intro p e s m below meth c A ls R args Q hR hArgs hQ hC0 hr hK hP hD hl
  obtain ⟨hx, hb, hml, hown, hts, hA, hlk⟩ := hC0
  have hS : va_S A s.heap s.heap [] := va_S.rf
  have hl : lv_has ls 1 [(0, .ref (q 0))] := hl
  refine lv_aload_n hx hb d_MD_thrown_0 rfl (lv_at hl 0 rfl) ?_
  refine va_get (D := D) (ci := 3) (v := .int xth) (C := R_MD) (T := F_MD) (N := 15) hx hb hts i_MD hown hK hP 0 rfl rfl 0 (by decide) (hts _ wd_575) (fun _ h9 => h9) rfl d_MD_thrown_1 ?_
  rw [hQ]
  exact sf_iret xth hx hb hr hlk hS rfl rfl (by simp only [f_MD_thrown, ↓reduceIte]) hP d_MD_thrown_4
def f_MD_throwing (b1 : Int32) (b2 : Int32) (b3 : Int32) (b4 : Int32) : (Int32 × Int32) :=
  if b1 = 0 then
    if b2 = 0 then
      if b3 = 0 then
        if b4 = 0 then
          (0, 0)
        else
          (1, 4)
      else
        (1, 3)
    else
      (1, 2)
  else
    (1, 1)
set_option maxHeartbeats 1000000 in
set_option maxRecDepth 100000 in
/-- throwing -/
theorem c_MD_throwing (l : Launch) (D : va_G) (cI cZ cJ : ClassId) (q : Nat → Nat) (xth : Int32) (xB : Nat → Int32) (xsh : Int32) (xcu : Int32) (xtp : Nat → Int32) (xtd : Int32) (xpa : Nat → Int32) (xsp : Int32) (xwh : Int32) (xhe : Nat → Int32) (xho : Int32) (xtk : Nat → Int32) (xto : Nat → Int32) (xwa : Nat → Int32) (xmn : Int32) (b1 : Int32) (b2 : Int32) (b3 : Int32) (b4 : Int32) : sf_M (S := (Int32 × Int32)) l D classes (sf_tys cI cZ cJ) y_MD_throwing (sf_ws y_MD_throwing b_MD_throwing 5 (some .boolean)) 0 0 [.ref (q 0), .int b1, .int b2, .int b3, .int b4] (md_w q cI cZ xth xB xsh xcu xtp xtd xpa xsp xwh xhe xho xtk xto xwa xmn) (fun r => some (.int r.1)) (fun r => r = f_MD_throwing b1 b2 b3 b4) (fun r => (md_w q cI cZ r.2 xB xsh xcu xtp xtd xpa xsp xwh xhe xho xtk xto xwa xmn)) := by
  refine sf_ofW (S := (Int32 × Int32)) (by decide) (Nat.le_of_ble_eq_true rfl) ?_
  intro p e s m below meth c A ls R args Q hR hArgs hQ hC0 hr hK hP hD hl
  obtain ⟨hx, hb, hml, hown, hts, hA, hlk⟩ := hC0
  have hS : va_S A s.heap s.heap [] := va_S.rf
  have hl : lv_has ls 5 [(0, .ref (q 0)), (1, .int b1), (2, .int b2), (3, .int b3), (4, .int b4)] := hl
  refine lv_aload_n hx hb d_MD_throwing_0 rfl (lv_at hl 0 rfl) ?_
  refine lv_iload_n hx hb d_MD_throwing_1 rfl (lv_at hl 1 rfl) ?_
  refine lv_if_eq (tgt := 9) hx hb d_MD_throwing_2 (by decide) (fun c_1 => ?_) (fun c_1 => ?_)
  · refine lv_iload_n hx hb d_MD_throwing_9 rfl (lv_at hl 2 rfl) ?_
    refine lv_if_eq (tgt := 17) hx hb d_MD_throwing_10 (by decide) (fun c_2 => ?_) (fun c_2 => ?_)
    · refine lv_iload_n hx hb d_MD_throwing_17 rfl (lv_at hl 3 rfl) ?_
      refine lv_if_eq (tgt := 25) hx hb d_MD_throwing_18 (by decide) (fun c_3 => ?_) (fun c_3 => ?_)
      · refine lv_iload hx hb d_MD_throwing_25 (lv_at hl 4 rfl) ?_
        refine lv_if_eq (tgt := 34) hx hb d_MD_throwing_27 (by decide) (fun c_4 => ?_) (fun c_4 => ?_)
        · refine lv_iconst (v := 0) hx hb d_MD_throwing_34 (by decide) ?_
          refine va_put (D := D) (ci := 3) (v := .int 0) (ty := .int) (C := R_MD) (T := F_MD) (N := 15) hx hb hts i_MD t_MD t_MD_ok n_MD hown hK hP hD hS 0 rfl rfl 0 (by decide) (hts _ wd_575) (fun _ h9 => h9) rfl (by decide +kernel) rfl rfl (Nat.le_of_ble_eq_true rfl) d_MD_throwing_35 (fun H locs hP hD hS => ?_)
          have hP : va_P D classes (md_w q cI cZ 0 xB xsh xcu xtp xtd xpa xsp xwh xhe xho xtk xto xwa xmn) H := hP
          have hD : va_D A (md_w q cI cZ 0 xB xsh xcu xtp xtd xpa xsp xwh xhe xho xtk xto xwa xmn) := hD
          refine lv_aload_n hx hb d_MD_throwing_38 rfl (lv_at hl 0 rfl) ?_
          refine va_get (D := D) (ci := 3) (v := .int 0) (C := R_MD) (T := F_MD) (N := 15) hx hb hts i_MD hown hK hP 0 rfl rfl 0 (by decide) (hts _ wd_575) (fun _ h9 => h9) rfl d_MD_throwing_39 ?_
          refine lv_if_le (tgt := 49) hx hb d_MD_throwing_42 (by decide) (fun c_5 => ?_) (fun c_5 => absurd (by decide) c_5)
          refine lv_iconst (v := 0) hx hb d_MD_throwing_49 (by decide) ?_
          rw [hQ]
          exact sf_iret (0, 0) hx hb hr hlk hS sf_b0 rfl (by simp only [f_MD_throwing, eq_true c_1, eq_true c_2, eq_true c_3, eq_true c_4, ↓reduceIte]) hP d_MD_throwing_50
        · refine lv_iconst (v := 4) hx hb d_MD_throwing_30 (by decide) ?_
          refine lv_goto (tgt := 35) hx hb d_MD_throwing_31 (by decide) ?_
          refine va_put (D := D) (ci := 3) (v := .int 4) (ty := .int) (C := R_MD) (T := F_MD) (N := 15) hx hb hts i_MD t_MD t_MD_ok n_MD hown hK hP hD hS 0 rfl rfl 0 (by decide) (hts _ wd_575) (fun _ h9 => h9) rfl (by decide +kernel) rfl rfl (Nat.le_of_ble_eq_true rfl) d_MD_throwing_35 (fun H locs hP hD hS => ?_)
          have hP : va_P D classes (md_w q cI cZ 4 xB xsh xcu xtp xtd xpa xsp xwh xhe xho xtk xto xwa xmn) H := hP
          have hD : va_D A (md_w q cI cZ 4 xB xsh xcu xtp xtd xpa xsp xwh xhe xho xtk xto xwa xmn) := hD
          refine lv_aload_n hx hb d_MD_throwing_38 rfl (lv_at hl 0 rfl) ?_
          refine va_get (D := D) (ci := 3) (v := .int 4) (C := R_MD) (T := F_MD) (N := 15) hx hb hts i_MD hown hK hP 0 rfl rfl 0 (by decide) (hts _ wd_575) (fun _ h9 => h9) rfl d_MD_throwing_39 ?_
          refine lv_if_le (tgt := 49) hx hb d_MD_throwing_42 (by decide) (fun c_6 => absurd c_6 (by decide)) (fun c_6 => ?_)
          refine lv_iconst (v := 1) hx hb d_MD_throwing_45 (by decide) ?_
          refine lv_goto (tgt := 50) hx hb d_MD_throwing_46 (by decide) ?_
          rw [hQ]
          exact sf_iret (1, 4) hx hb hr hlk hS sf_b1 rfl (by simp only [f_MD_throwing, eq_true c_1, eq_true c_2, eq_true c_3, eq_false c_4, ↓reduceIte]) hP d_MD_throwing_50
      · refine lv_iconst (v := 3) hx hb d_MD_throwing_21 (by decide) ?_
        refine lv_goto (tgt := 35) hx hb d_MD_throwing_22 (by decide) ?_
        refine va_put (D := D) (ci := 3) (v := .int 3) (ty := .int) (C := R_MD) (T := F_MD) (N := 15) hx hb hts i_MD t_MD t_MD_ok n_MD hown hK hP hD hS 0 rfl rfl 0 (by decide) (hts _ wd_575) (fun _ h9 => h9) rfl (by decide +kernel) rfl rfl (Nat.le_of_ble_eq_true rfl) d_MD_throwing_35 (fun H locs hP hD hS => ?_)
        have hP : va_P D classes (md_w q cI cZ 3 xB xsh xcu xtp xtd xpa xsp xwh xhe xho xtk xto xwa xmn) H := hP
        have hD : va_D A (md_w q cI cZ 3 xB xsh xcu xtp xtd xpa xsp xwh xhe xho xtk xto xwa xmn) := hD
        refine lv_aload_n hx hb d_MD_throwing_38 rfl (lv_at hl 0 rfl) ?_
        refine va_get (D := D) (ci := 3) (v := .int 3) (C := R_MD) (T := F_MD) (N := 15) hx hb hts i_MD hown hK hP 0 rfl rfl 0 (by decide) (hts _ wd_575) (fun _ h9 => h9) rfl d_MD_throwing_39 ?_
        refine lv_if_le (tgt := 49) hx hb d_MD_throwing_42 (by decide) (fun c_7 => absurd c_7 (by decide)) (fun c_7 => ?_)
        refine lv_iconst (v := 1) hx hb d_MD_throwing_45 (by decide) ?_
        refine lv_goto (tgt := 50) hx hb d_MD_throwing_46 (by decide) ?_
        rw [hQ]
        exact sf_iret (1, 3) hx hb hr hlk hS sf_b1 rfl (by simp only [f_MD_throwing, eq_true c_1, eq_true c_2, eq_false c_3, ↓reduceIte]) hP d_MD_throwing_50
    · refine lv_iconst (v := 2) hx hb d_MD_throwing_13 (by decide) ?_
      refine lv_goto (tgt := 35) hx hb d_MD_throwing_14 (by decide) ?_
      refine va_put (D := D) (ci := 3) (v := .int 2) (ty := .int) (C := R_MD) (T := F_MD) (N := 15) hx hb hts i_MD t_MD t_MD_ok n_MD hown hK hP hD hS 0 rfl rfl 0 (by decide) (hts _ wd_575) (fun _ h9 => h9) rfl (by decide +kernel) rfl rfl (Nat.le_of_ble_eq_true rfl) d_MD_throwing_35 (fun H locs hP hD hS => ?_)
      have hP : va_P D classes (md_w q cI cZ 2 xB xsh xcu xtp xtd xpa xsp xwh xhe xho xtk xto xwa xmn) H := hP
      have hD : va_D A (md_w q cI cZ 2 xB xsh xcu xtp xtd xpa xsp xwh xhe xho xtk xto xwa xmn) := hD
      refine lv_aload_n hx hb d_MD_throwing_38 rfl (lv_at hl 0 rfl) ?_
      refine va_get (D := D) (ci := 3) (v := .int 2) (C := R_MD) (T := F_MD) (N := 15) hx hb hts i_MD hown hK hP 0 rfl rfl 0 (by decide) (hts _ wd_575) (fun _ h9 => h9) rfl d_MD_throwing_39 ?_
      refine lv_if_le (tgt := 49) hx hb d_MD_throwing_42 (by decide) (fun c_8 => absurd c_8 (by decide)) (fun c_8 => ?_)
      refine lv_iconst (v := 1) hx hb d_MD_throwing_45 (by decide) ?_
      refine lv_goto (tgt := 50) hx hb d_MD_throwing_46 (by decide) ?_
      rw [hQ]
      exact sf_iret (1, 2) hx hb hr hlk hS sf_b1 rfl (by simp only [f_MD_throwing, eq_true c_1, eq_false c_2, ↓reduceIte]) hP d_MD_throwing_50
  · refine lv_iconst (v := 1) hx hb d_MD_throwing_5 (by decide) ?_
    refine lv_goto (tgt := 35) hx hb d_MD_throwing_6 (by decide) ?_
    refine va_put (D := D) (ci := 3) (v := .int 1) (ty := .int) (C := R_MD) (T := F_MD) (N := 15) hx hb hts i_MD t_MD t_MD_ok n_MD hown hK hP hD hS 0 rfl rfl 0 (by decide) (hts _ wd_575) (fun _ h9 => h9) rfl (by decide +kernel) rfl rfl (Nat.le_of_ble_eq_true rfl) d_MD_throwing_35 (fun H locs hP hD hS => ?_)
    have hP : va_P D classes (md_w q cI cZ 1 xB xsh xcu xtp xtd xpa xsp xwh xhe xho xtk xto xwa xmn) H := hP
    have hD : va_D A (md_w q cI cZ 1 xB xsh xcu xtp xtd xpa xsp xwh xhe xho xtk xto xwa xmn) := hD
    refine lv_aload_n hx hb d_MD_throwing_38 rfl (lv_at hl 0 rfl) ?_
    refine va_get (D := D) (ci := 3) (v := .int 1) (C := R_MD) (T := F_MD) (N := 15) hx hb hts i_MD hown hK hP 0 rfl rfl 0 (by decide) (hts _ wd_575) (fun _ h9 => h9) rfl d_MD_throwing_39 ?_
    refine lv_if_le (tgt := 49) hx hb d_MD_throwing_42 (by decide) (fun c_9 => absurd c_9 (by decide)) (fun c_9 => ?_)
    refine lv_iconst (v := 1) hx hb d_MD_throwing_45 (by decide) ?_
    refine lv_goto (tgt := 50) hx hb d_MD_throwing_46 (by decide) ?_
    rw [hQ]
    exact sf_iret (1, 1) hx hb hr hlk hS sf_b1 rfl (by simp only [f_MD_throwing, eq_false c_1, ↓reduceIte]) hP d_MD_throwing_50
def f_MD_in (va : Int32) (lo0 : Int32) (hi0 : Int32) : Int32 :=
  if va < lo0 then
    0
  else
    if hi0 < va then
      0
    else
      1
set_option maxHeartbeats 1000000 in
set_option maxRecDepth 100000 in
/-- in -/
theorem c_MD_in (l : Launch) (D : va_G) (cI cZ cJ : ClassId)  (va : Int32) (lo0 : Int32) (hi0 : Int32) : sf_M (S := Int32) l D classes (sf_tys cI cZ cJ) y_MD_in (sf_ws y_MD_in b_MD_in 3 (some .boolean)) 0 0 [.int va, .int lo0, .int hi0] [] (fun r => some (.int r)) (fun r => r = f_MD_in va lo0 hi0) (fun _ => []) := by
  refine sf_ofW (S := Int32) (by decide) (Nat.le_of_ble_eq_true rfl) ?_
  intro p e s m below meth c A ls R args Q hR hArgs hQ hC0 hr hK hP hD hl
  obtain ⟨hx, hb, hml, hown, hts, hA, hlk⟩ := hC0
  have hS : va_S A s.heap s.heap [] := va_S.rf
  have hl : lv_has ls 3 [(0, .int va), (1, .int lo0), (2, .int hi0)] := hl
  refine lv_iload_n hx hb d_MD_in_0 rfl (lv_at hl 0 rfl) ?_
  refine lv_iload_n hx hb d_MD_in_1 rfl (lv_at hl 1 rfl) ?_
  refine lv_icmp_lt (tgt := 14) hx hb d_MD_in_2 (by decide) (fun c_1 => ?_) (fun c_1 => ?_)
  · refine lv_iconst (v := 0) hx hb d_MD_in_14 (by decide) ?_
    rw [hQ]
    exact sf_iret 0 hx hb hr hlk hS sf_b0 rfl (by simp only [f_MD_in, eq_true c_1, ↓reduceIte]) hP d_MD_in_15
  · refine lv_iload_n hx hb d_MD_in_5 rfl (lv_at hl 0 rfl) ?_
    refine lv_iload_n hx hb d_MD_in_6 rfl (lv_at hl 2 rfl) ?_
    refine lv_icmp_gt (tgt := 14) hx hb d_MD_in_7 (by decide) (fun c_2 => ?_) (fun c_2 => ?_)
    · refine lv_iconst (v := 0) hx hb d_MD_in_14 (by decide) ?_
      rw [hQ]
      exact sf_iret 0 hx hb hr hlk hS sf_b0 rfl (by simp only [f_MD_in, eq_false c_1, eq_true c_2, ↓reduceIte]) hP d_MD_in_15
    · refine lv_iconst (v := 1) hx hb d_MD_in_10 (by decide) ?_
      refine lv_goto (tgt := 15) hx hb d_MD_in_11 (by decide) ?_
      rw [hQ]
      exact sf_iret 1 hx hb hr hlk hS sf_b1 rfl (by simp only [f_MD_in, eq_false c_1, eq_false c_2, ↓reduceIte]) hP d_MD_in_15
def f_MD_stir (sv : Int32) (bv : Int32) : Int32 :=
  ((((sv ^^^ bv) <<< (23 &&& 31)) ||| (sf_ushr (sv ^^^ bv) 9)) * (-1640531535))
set_option maxHeartbeats 1000000 in
set_option maxRecDepth 100000 in
/-- stir -/
theorem c_MD_stir (l : Launch) (D : va_G) (cI cZ cJ : ClassId)  (sv : Int32) (bv : Int32) : sf_M (S := Int32) l D classes (sf_tys cI cZ cJ) y_MD_stir (sf_ws y_MD_stir b_MD_stir 3 (some .int)) 0 0 [.int sv, .int bv] [] (fun r => some (.int r)) (fun r => r = f_MD_stir sv bv) (fun _ => []) := by
  refine sf_ofW (S := Int32) (by decide) (Nat.le_of_ble_eq_true rfl) ?_
  intro p e s m below meth c A ls R args Q hR hArgs hQ hC0 hr hK hP hD hl
  obtain ⟨hx, hb, hml, hown, hts, hA, hlk⟩ := hC0
  have hS : va_S A s.heap s.heap [] := va_S.rf
  have hl : lv_has ls 3 [(0, .int sv), (1, .int bv)] := hl
  refine lv_iload_n hx hb d_MD_stir_0 rfl (lv_at hl 0 rfl) ?_
  refine lv_iload_n hx hb d_MD_stir_1 rfl (lv_at hl 1 rfl) ?_
  refine lv_ixor hx hb d_MD_stir_2 ?_
  refine lv_istore_n (lv' := [(2, .int (sv ^^^ bv)), (0, .int sv), (1, .int bv)]) hx hb d_MD_stir_3 rfl hl (by decide) rfl (fun ls hl => ?_)
  refine lv_iload_n hx hb d_MD_stir_4 rfl (lv_at hl 0 rfl) ?_
  refine lv_bipush (v := 23) hx hb d_MD_stir_5 (by decide) ?_
  refine lv_ishl hx hb d_MD_stir_7 ?_
  refine lv_iload_n hx hb d_MD_stir_8 rfl (lv_at hl 0 rfl) ?_
  refine lv_bipush (v := 9) hx hb d_MD_stir_9 (by decide) ?_
  refine lv_iushr (v := (sf_ushr (sv ^^^ bv) 9)) hx hb d_MD_stir_11 rfl ?_
  refine lv_ior hx hb d_MD_stir_12 ?_
  refine lv_ldc (v := (-1640531535)) hx hb hown (hts _ wd_668) d_MD_stir_13 ?_
  refine lv_imul hx hb d_MD_stir_15 ?_
  rw [hQ]
  exact sf_iret ((((sv ^^^ bv) <<< (23 &&& 31)) ||| (sf_ushr (sv ^^^ bv) 9)) * (-1640531535)) hx hb hr hlk hS rfl rfl (by simp only [f_MD_stir, ↓reduceIte]) hP d_MD_stir_16
def f_MD_next (nu : Int32) : Int32 :=
  if nu = 250 then
    1
  else
    (nu + 1)
set_option maxHeartbeats 1000000 in
set_option maxRecDepth 100000 in
/-- next -/
theorem c_MD_next (l : Launch) (D : va_G) (cI cZ cJ : ClassId)  (nu : Int32) : sf_M (S := Int32) l D classes (sf_tys cI cZ cJ) y_MD_next (sf_ws y_MD_next b_MD_next 1 (some .int)) 0 0 [.int nu] [] (fun r => some (.int r)) (fun r => r = f_MD_next nu) (fun _ => []) := by
  refine sf_ofW (S := Int32) (by decide) (Nat.le_of_ble_eq_true rfl) ?_
  intro p e s m below meth c A ls R args Q hR hArgs hQ hC0 hr hK hP hD hl
  obtain ⟨hx, hb, hml, hown, hts, hA, hlk⟩ := hC0
  have hS : va_S A s.heap s.heap [] := va_S.rf
  have hl : lv_has ls 1 [(0, .int nu)] := hl
  refine lv_iload_n hx hb d_MD_next_0 rfl (lv_at hl 0 rfl) ?_
  refine lv_sipush (v := 250) hx hb d_MD_next_1 (by decide) ?_
  refine lv_icmp_ne (tgt := 11) hx hb d_MD_next_4 (by decide) (fun c_1 => ?_) (fun c_1 => ?_)
  · refine lv_iload_n hx hb d_MD_next_11 rfl (lv_at hl 0 rfl) ?_
    refine lv_iconst (v := 1) hx hb d_MD_next_12 (by decide) ?_
    refine lv_iadd hx hb d_MD_next_13 ?_
    rw [hQ]
    exact sf_iret (nu + 1) hx hb hr hlk hS rfl rfl (by simp only [f_MD_next, eq_false c_1, ↓reduceIte]) hP d_MD_next_14
  · refine lv_iconst (v := 1) hx hb d_MD_next_7 (by decide) ?_
    refine lv_goto (tgt := 14) hx hb d_MD_next_8 (by decide) ?_
    rw [hQ]
    exact sf_iret 1 hx hb hr hlk hS rfl rfl (by simp only [f_MD_next, eq_true c_1, ↓reduceIte]) hP d_MD_next_14
def f_MD_places (sw : Int32) : Int32 :=
  if sw = 0 then
    24
  else
    16
set_option maxHeartbeats 1000000 in
set_option maxRecDepth 100000 in
/-- places -/
theorem c_MD_places (l : Launch) (D : va_G) (cI cZ cJ : ClassId)  (sw : Int32) : sf_M (S := Int32) l D classes (sf_tys cI cZ cJ) y_MD_places (sf_ws y_MD_places b_MD_places 1 (some .int)) 0 0 [.int sw] [] (fun r => some (.int r)) (fun r => r = f_MD_places sw) (fun _ => []) := by
  refine sf_ofW (S := Int32) (by decide) (Nat.le_of_ble_eq_true rfl) ?_
  intro p e s m below meth c A ls R args Q hR hArgs hQ hC0 hr hK hP hD hl
  obtain ⟨hx, hb, hml, hown, hts, hA, hlk⟩ := hC0
  have hS : va_S A s.heap s.heap [] := va_S.rf
  have hl : lv_has ls 1 [(0, .int sw)] := hl
  refine lv_iload_n hx hb d_MD_places_0 rfl (lv_at hl 0 rfl) ?_
  refine lv_if_eq (tgt := 9) hx hb d_MD_places_1 (by decide) (fun c_1 => ?_) (fun c_1 => ?_)
  · refine lv_bipush (v := 24) hx hb d_MD_places_9 (by decide) ?_
    rw [hQ]
    exact sf_iret 24 hx hb hr hlk hS rfl rfl (by simp only [f_MD_places, eq_true c_1, ↓reduceIte]) hP d_MD_places_11
  · refine lv_bipush (v := 16) hx hb d_MD_places_4 (by decide) ?_
    refine lv_goto (tgt := 11) hx hb d_MD_places_6 (by decide) ?_
    rw [hQ]
    exact sf_iret 16 hx hb hr hlk hS rfl rfl (by simp only [f_MD_places, eq_false c_1, ↓reduceIte]) hP d_MD_places_11
def f_MD_begin (sw : Int32) (pp : Nat) : Int32 :=
  if sw = 0 then
    (nI (0 + (32 * pp)))
  else
    (nI (768 + (32 * pp)))
set_option maxHeartbeats 1000000 in
set_option maxRecDepth 100000 in
/-- begin -/
theorem c_MD_begin (l : Launch) (D : va_G) (cI cZ cJ : ClassId)  (sw : Int32) (pp : Nat) : sf_M (S := Int32) l D classes (sf_tys cI cZ cJ) y_MD_begin (sf_ws y_MD_begin b_MD_begin 2 (some .int)) 0 0 [.int sw, .int (nI pp)] [] (fun r => some (.int r)) (fun r => r = f_MD_begin sw pp) (fun _ => []) := by
  refine sf_ofW (S := Int32) (by decide) (Nat.le_of_ble_eq_true rfl) ?_
  intro p e s m below meth c A ls R args Q hR hArgs hQ hC0 hr hK hP hD hl
  obtain ⟨hx, hb, hml, hown, hts, hA, hlk⟩ := hC0
  have hS : va_S A s.heap s.heap [] := va_S.rf
  have hl : lv_has ls 2 [(0, .int sw), (1, .int (nI pp))] := hl
  refine lv_iload_n hx hb d_MD_begin_0 rfl (lv_at hl 0 rfl) ?_
  refine lv_if_eq (tgt := 10) hx hb d_MD_begin_1 (by decide) (fun c_1 => ?_) (fun c_1 => ?_)
  · refine lv_iconst (v := 0) hx hb d_MD_begin_10 (by decide) ?_
    refine lv_bipush (v := 32) hx hb d_MD_begin_11 (by decide) ?_
    refine lv_iload_n hx hb d_MD_begin_13 rfl (lv_at hl 1 rfl) ?_
    refine lv_imul hx hb d_MD_begin_14 ?_
    rw [show ((32 * (nI pp)) : Int32) = (nI (32 * pp)) from pk_mul 32 pp]
    refine lv_iadd hx hb d_MD_begin_15 ?_
    rw [show ((0 + (nI (32 * pp))) : Int32) = (nI (0 + (32 * pp))) from nI_add 0 (32 * pp)]
    rw [hQ]
    exact sf_iret (nI (0 + (32 * pp))) hx hb hr hlk hS rfl rfl (by simp only [f_MD_begin, eq_true c_1, ↓reduceIte]) hP d_MD_begin_16
  · refine lv_sipush (v := 768) hx hb d_MD_begin_4 (by decide) ?_
    refine lv_goto (tgt := 11) hx hb d_MD_begin_7 (by decide) ?_
    refine lv_bipush (v := 32) hx hb d_MD_begin_11 (by decide) ?_
    refine lv_iload_n hx hb d_MD_begin_13 rfl (lv_at hl 1 rfl) ?_
    refine lv_imul hx hb d_MD_begin_14 ?_
    rw [show ((32 * (nI pp)) : Int32) = (nI (32 * pp)) from pk_mul 32 pp]
    refine lv_iadd hx hb d_MD_begin_15 ?_
    rw [show ((768 + (nI (32 * pp))) : Int32) = (nI (768 + (32 * pp))) from nI_add 768 (32 * pp)]
    rw [hQ]
    exact sf_iret (nI (768 + (32 * pp))) hx hb hr hlk hS rfl rfl (by simp only [f_MD_begin, eq_false c_1, ↓reduceIte]) hP d_MD_begin_16
def f_MD_isSummed_l37 (xB : Nat → Int32) (fm : Nat) (nb : Nat) (sm : Int32) : Nat → Nat → Int32 → Int32
  | 0, _, _ => 0
  | fu + 1, kk, rt =>
    if 4 ≤ (nI kk) then
      rt
    else
      if rt = 0 then
        f_MD_isSummed_l37 xB fm nb sm fu (kk + 1) 0
      else
        if (xB ((fm + nb) + kk)) = ((sf_ushr sm (24 - (nI (8 * kk)))) &&& 255) then
          f_MD_isSummed_l37 xB fm nb sm fu (kk + 1) 1
        else
          f_MD_isSummed_l37 xB fm nb sm fu (kk + 1) 0
def f_MD_isSummed_l5 (xB : Nat → Int32) (fm : Nat) (nb : Nat) : Nat → Nat → Int32 → Int32
  | 0, _, _ => 0
  | fu + 1, k, sm =>
    if (nI nb) ≤ (nI k) then
      f_MD_isSummed_l37 xB fm nb sm (4 + 1) 0 1
    else
      f_MD_isSummed_l5 xB fm nb fu (k + 1) (f_MD_stir sm (xB (fm + k)))
def f_MD_isSummed (xB : Nat → Int32) (fm : Nat) (nb : Nat) : Int32 :=
  f_MD_isSummed_l5 xB fm nb (nb + 1) 0 0
set_option maxHeartbeats 1000000 in
set_option maxRecDepth 100000 in
/-- isSummed -/
theorem c_MD_isSummed (l : Launch) (D : va_G) (cI cZ cJ : ClassId) (q : Nat → Nat) (xth : Int32) (xB : Nat → Int32) (xsh : Int32) (xcu : Int32) (xtp : Nat → Int32) (xtd : Int32) (xpa : Nat → Int32) (xsp : Int32) (xwh : Int32) (xhe : Nat → Int32) (xho : Int32) (xtk : Nat → Int32) (xto : Nat → Int32) (xwa : Nat → Int32) (xmn : Int32) (fm : Nat) (nb : Nat) (hf : fm + nb + 4 ≤ 1360) : sf_M (S := Int32) l D classes (sf_tys cI cZ cJ) y_MD_isSummed (sf_ws y_MD_isSummed b_MD_isSummed 6 (some .boolean)) 1 22 [.ref (q 0), .int (nI fm), .int (nI nb)] (md_w q cI cZ xth xB xsh xcu xtp xtd xpa xsp xwh xhe xho xtk xto xwa xmn) (fun r => some (.int r)) (fun r => r = f_MD_isSummed xB fm nb) (fun r => (md_w q cI cZ xth xB xsh xcu xtp xtd xpa xsp xwh xhe xho xtk xto xwa xmn)) := by
  refine sf_ofW (S := Int32) (by decide) (Nat.le_of_ble_eq_true rfl) ?_
  intro p e s m below meth c A ls R args Q hR hArgs hQ hC0 hr hK hP hD hl
  obtain ⟨hx, hb, hml, hown, hts, hA, hlk⟩ := hC0
  have hS : va_S A s.heap s.heap [] := va_S.rf
  have hl : lv_has ls 6 [(0, .ref (q 0)), (1, .int (nI fm)), (2, .int (nI nb))] := hl
  refine lv_iconst (v := 0) hx hb d_MD_isSummed_0 (by decide) ?_
  refine lv_istore_n (lv' := [(3, .int 0), (0, .ref (q 0)), (1, .int (nI fm)), (2, .int (nI nb))]) hx hb d_MD_isSummed_1 rfl hl (by decide) rfl (fun ls hl => ?_)
  refine lv_iconst (v := 0) hx hb d_MD_isSummed_2 (by decide) ?_
  refine lv_istore (lv' := [(4, .int 0), (3, .int 0), (0, .ref (q 0)), (1, .int (nI fm)), (2, .int (nI nb))]) hx hb d_MD_isSummed_3 hl (by decide) rfl (fun ls hl => ?_)
  have loop5 : ∀ (fu k : Nat) (sm : Int32), k ≤ nb → k + fu = nb + 1 → f_MD_isSummed_l5 xB fm nb fu k sm = f_MD_isSummed xB fm nb → ∀ (H : Heap) (locs : List Loc), va_P D classes (md_w q cI cZ xth xB xsh xcu xtp xtd xpa xsp xwh xhe xho xtk xto xwa xmn) H → va_D A (md_w q cI cZ xth xB xsh xcu xtp xtd xpa xsp xwh xhe xho xtk xto xwa xmn) → va_S A s.heap H locs → ∀ (ls : Array Slot), lv_has ls 6 [(0, .ref (q 0)), (1, .int (nI fm)), (2, .int (nI nb)), (3, .int sm), (4, .int (nI k))] → W p l e R s m args below meth c H locs 0 0 Q (F0 m 5 ls []) := by
    intro fu
    induction fu with
    | zero =>
      intro k sm h1 h2
      exact absurd h2 (by omega)
    | succ fu ih5 =>
      intro k sm hk5 hkn5 heq5 H locs hP hD hS ls hl
      refine lv_iload hx hb d_MD_isSummed_5 (lv_at hl 4 rfl) ?_
      refine lv_iload_n hx hb d_MD_isSummed_7 rfl (lv_at hl 2 rfl) ?_
      refine lv_icmp_ge (tgt := 31) hx hb d_MD_isSummed_8 (by decide) (fun c_1 => ?_) (fun c_1 => ?_)
      · refine lv_iconst (v := 1) hx hb d_MD_isSummed_31 (by decide) ?_
        refine lv_istore (lv' := [(4, .int 1), (0, .ref (q 0)), (1, .int (nI fm)), (2, .int (nI nb)), (3, .int sm)]) hx hb d_MD_isSummed_32 hl (by decide) rfl (fun ls hl => ?_)
        refine lv_iconst (v := 0) hx hb d_MD_isSummed_34 (by decide) ?_
        refine lv_istore (lv' := [(5, .int 0), (4, .int 1), (0, .ref (q 0)), (1, .int (nI fm)), (2, .int (nI nb)), (3, .int sm)]) hx hb d_MD_isSummed_35 hl (by decide) rfl (fun ls hl => ?_)
        have loop37 : ∀ (fukk kk : Nat) (rt : Int32), kk ≤ 4 → kk + fukk = 4 + 1 → rt = 0 ∨ rt = 1 → f_MD_isSummed_l37 xB fm nb sm fukk kk rt = f_MD_isSummed xB fm nb → ∀ (H : Heap) (locs : List Loc), va_P D classes (md_w q cI cZ xth xB xsh xcu xtp xtd xpa xsp xwh xhe xho xtk xto xwa xmn) H → va_D A (md_w q cI cZ xth xB xsh xcu xtp xtd xpa xsp xwh xhe xho xtk xto xwa xmn) → va_S A s.heap H locs → ∀ (ls : Array Slot), lv_has ls 6 [(0, .ref (q 0)), (1, .int (nI fm)), (2, .int (nI nb)), (3, .int sm), (4, .int rt), (5, .int (nI kk))] → W p l e R s m args below meth c H locs 0 0 Q (F0 m 37 ls []) := by
          intro fukk
          induction fukk with
          | zero =>
            intro kk rt h1 h2
            exact absurd h2 (by omega)
          | succ fukk ih37 =>
            intro kk rt hk37 hkn37 hi370 heq37 H locs hP hD hS ls hl
            refine lv_iload hx hb d_MD_isSummed_37 (lv_at hl 5 rfl) ?_
            refine lv_iconst (v := 4) hx hb d_MD_isSummed_39 (by decide) ?_
            refine lv_icmp_ge (tgt := 89) hx hb d_MD_isSummed_40 (by decide) (fun c_2 => ?_) (fun c_2 => ?_)
            · refine lv_iload hx hb d_MD_isSummed_89 (lv_at hl 4 rfl) ?_
              rw [hQ]
              exact sf_iret rt hx hb hr hlk hS (sf_nb hi370) rfl (by rw [← heq37]; simp only [f_MD_isSummed_l37, eq_true c_2, ↓reduceIte]) hP d_MD_isSummed_91
            · have hlt : kk < 4 := sf_lt_of (N := 4) (by omega) (by omega) c_2
              refine lv_iload hx hb d_MD_isSummed_43 (lv_at hl 4 rfl) ?_
              refine lv_if_eq (tgt := 80) hx hb d_MD_isSummed_45 (by decide) (fun c_3 => ?_) (fun c_3 => ?_)
              · refine lv_iconst (v := 0) hx hb d_MD_isSummed_80 (by decide) ?_
                refine lv_istore (lv' := [(4, .int 0), (0, .ref (q 0)), (1, .int (nI fm)), (2, .int (nI nb)), (3, .int sm), (5, .int (nI kk))]) hx hb d_MD_isSummed_81 hl (by decide) rfl (fun ls hl => ?_)
                refine lv_iinc (v := (nI (kk + 1))) (lv' := [(5, .int (nI (kk + 1))), (4, .int 0), (0, .ref (q 0)), (1, .int (nI fm)), (2, .int (nI nb)), (3, .int sm)]) hx hb d_MD_isSummed_83 hl (k := 5) rfl (nI_1 kk) (by decide) rfl (fun ls hl => ?_)
                refine lv_goto (tgt := 37) hx hb d_MD_isSummed_86 (by decide) ?_
                exact ih37 (kk + 1) 0 (by omega) (by omega) (Or.inl rfl) (by rw [← heq37]; simp only [f_MD_isSummed_l37, eq_false c_2, eq_true c_3, ↓reduceIte]) _ _ hP hD hS ls (lv_sub hl [2, 3, 4, 5, 1, 0] rfl)
              · refine lv_aload_n hx hb d_MD_isSummed_48 rfl (lv_at hl 0 rfl) ?_
                refine va_get (D := D) (ci := 3) (v := .ref (q 1)) (C := R_MD) (T := F_MD) (N := 15) hx hb hts i_MD hown hK hP 0 rfl rfl 1 (by decide) (hts _ wd_576) (fun _ h9 => h9) rfl d_MD_isSummed_49 ?_
                refine lv_iload_n hx hb d_MD_isSummed_52 rfl (lv_at hl 1 rfl) ?_
                refine lv_iload_n hx hb d_MD_isSummed_53 rfl (lv_at hl 2 rfl) ?_
                refine lv_iadd hx hb d_MD_isSummed_54 ?_
                rw [show (((nI fm) + (nI nb)) : Int32) = (nI (fm + nb)) from nI_add fm nb]
                refine lv_iload hx hb d_MD_isSummed_55 (lv_at hl 5 rfl) ?_
                refine lv_iadd hx hb d_MD_isSummed_57 ?_
                rw [show (((nI (fm + nb)) + (nI kk)) : Int32) = (nI ((fm + nb) + kk)) from nI_add (fm + nb) kk]
                refine va_iald hx hb hK hP 1 0 rfl rfl (show vp_in (nI ((fm + nb) + kk)) 1360 from vp_in_nI (n := ((fm + nb) + kk)) (by omega) (by omega)) d_MD_isSummed_58 ?_
                rw [show ((nI ((fm + nb) + kk)) : Int32).toNatClampNeg = ((fm + nb) + kk) from nI_clamp (n := ((fm + nb) + kk)) (by omega)]
                refine lv_iload_n hx hb d_MD_isSummed_59 rfl (lv_at hl 3 rfl) ?_
                refine lv_bipush (v := 24) hx hb d_MD_isSummed_60 (by decide) ?_
                refine lv_bipush (v := 8) hx hb d_MD_isSummed_62 (by decide) ?_
                refine lv_iload hx hb d_MD_isSummed_64 (lv_at hl 5 rfl) ?_
                refine lv_imul hx hb d_MD_isSummed_66 ?_
                rw [show ((8 * (nI kk)) : Int32) = (nI (8 * kk)) from pk_mul 8 kk]
                refine lv_isub hx hb d_MD_isSummed_67 ?_
                refine lv_iushr (v := (sf_ushr sm (24 - (nI (8 * kk))))) hx hb d_MD_isSummed_68 rfl ?_
                refine lv_sipush (v := 255) hx hb d_MD_isSummed_69 (by decide) ?_
                refine lv_iand hx hb d_MD_isSummed_72 ?_
                refine lv_icmp_ne (tgt := 80) hx hb d_MD_isSummed_73 (by decide) (fun c_4 => ?_) (fun c_4 => ?_)
                · refine lv_iconst (v := 0) hx hb d_MD_isSummed_80 (by decide) ?_
                  refine lv_istore (lv' := [(4, .int 0), (0, .ref (q 0)), (1, .int (nI fm)), (2, .int (nI nb)), (3, .int sm), (5, .int (nI kk))]) hx hb d_MD_isSummed_81 hl (by decide) rfl (fun ls hl => ?_)
                  refine lv_iinc (v := (nI (kk + 1))) (lv' := [(5, .int (nI (kk + 1))), (4, .int 0), (0, .ref (q 0)), (1, .int (nI fm)), (2, .int (nI nb)), (3, .int sm)]) hx hb d_MD_isSummed_83 hl (k := 5) rfl (nI_1 kk) (by decide) rfl (fun ls hl => ?_)
                  refine lv_goto (tgt := 37) hx hb d_MD_isSummed_86 (by decide) ?_
                  exact ih37 (kk + 1) 0 (by omega) (by omega) (Or.inl rfl) (by rw [← heq37]; simp only [f_MD_isSummed_l37, eq_false c_2, eq_false c_3, eq_false c_4, ↓reduceIte]) _ _ hP hD hS ls (lv_sub hl [2, 3, 4, 5, 1, 0] rfl)
                · refine lv_iconst (v := 1) hx hb d_MD_isSummed_76 (by decide) ?_
                  refine lv_goto (tgt := 81) hx hb d_MD_isSummed_77 (by decide) ?_
                  refine lv_istore (lv' := [(4, .int 1), (0, .ref (q 0)), (1, .int (nI fm)), (2, .int (nI nb)), (3, .int sm), (5, .int (nI kk))]) hx hb d_MD_isSummed_81 hl (by decide) rfl (fun ls hl => ?_)
                  refine lv_iinc (v := (nI (kk + 1))) (lv' := [(5, .int (nI (kk + 1))), (4, .int 1), (0, .ref (q 0)), (1, .int (nI fm)), (2, .int (nI nb)), (3, .int sm)]) hx hb d_MD_isSummed_83 hl (k := 5) rfl (nI_1 kk) (by decide) rfl (fun ls hl => ?_)
                  refine lv_goto (tgt := 37) hx hb d_MD_isSummed_86 (by decide) ?_
                  exact ih37 (kk + 1) 1 (by omega) (by omega) (Or.inr rfl) (by rw [← heq37]; simp only [f_MD_isSummed_l37, eq_false c_2, eq_false c_3, eq_true c_4, ↓reduceIte]) _ _ hP hD hS ls (lv_sub hl [2, 3, 4, 5, 1, 0] rfl)
        exact loop37 (4 + 1) 0 1 (by omega) (by omega) (Or.inr rfl) (by rw [← heq5]; simp only [f_MD_isSummed_l5, eq_true c_1, ↓reduceIte]) _ _ hP hD hS ls (lv_sub hl [2, 3, 4, 5, 1, 0] rfl)
      · have hlt : k < nb := sf_lt_of (N := nb) (by omega) (by omega) c_1
        refine lv_iload_n hx hb d_MD_isSummed_11 rfl (lv_at hl 3 rfl) ?_
        refine lv_aload_n hx hb d_MD_isSummed_12 rfl (lv_at hl 0 rfl) ?_
        refine va_get (D := D) (ci := 3) (v := .ref (q 1)) (C := R_MD) (T := F_MD) (N := 15) hx hb hts i_MD hown hK hP 0 rfl rfl 1 (by decide) (hts _ wd_576) (fun _ h9 => h9) rfl d_MD_isSummed_13 ?_
        refine lv_iload_n hx hb d_MD_isSummed_16 rfl (lv_at hl 1 rfl) ?_
        refine lv_iload hx hb d_MD_isSummed_17 (lv_at hl 4 rfl) ?_
        refine lv_iadd hx hb d_MD_isSummed_19 ?_
        rw [show (((nI fm) + (nI k)) : Int32) = (nI (fm + k)) from nI_add fm k]
        refine va_iald hx hb hK hP 1 0 rfl rfl (show vp_in (nI (fm + k)) 1360 from vp_in_nI (n := (fm + k)) (by omega) (by omega)) d_MD_isSummed_20 ?_
        rw [show ((nI (fm + k)) : Int32).toNatClampNeg = (fm + k) from nI_clamp (n := (fm + k)) (by omega)]
        refine sf_callSr (S := Int32) (rest := []) ⟨hx, hb, hml, hown, hts⟩ (c_MD_stir l D cI cZ cJ sm (xB (fm + k))) (sf_cwS lk_MD_40 hts (fun _ h => h) (by rw [hR]; exact ⟨Nat.le_of_ble_eq_true rfl, Nat.le_of_ble_eq_true rfl⟩)) hK hP hD hS hA [] rfl rfl (fun _ => rfl) rfl rfl hl.1 (Nat.le_of_ble_eq_true rfl) d_MD_isSummed_21 ⟨Nat.zero_le _, Nat.zero_le _⟩ (fun u_5 H locs hu_5 hP hS => ?_)
        refine lv_istore_n (lv' := [(3, .int u_5), (0, .ref (q 0)), (1, .int (nI fm)), (2, .int (nI nb)), (4, .int (nI k))]) hx hb d_MD_isSummed_24 rfl hl (by decide) rfl (fun ls hl => ?_)
        refine lv_iinc (v := (nI (k + 1))) (lv' := [(4, .int (nI (k + 1))), (3, .int u_5), (0, .ref (q 0)), (1, .int (nI fm)), (2, .int (nI nb))]) hx hb d_MD_isSummed_25 hl (k := 4) rfl (nI_1 k) (by decide) rfl (fun ls hl => ?_)
        refine lv_goto (tgt := 5) hx hb d_MD_isSummed_28 (by decide) ?_
        exact ih5 (k + 1) u_5 (by omega) (by omega) (by rw [← heq5]; simp only [f_MD_isSummed_l5, ← hu_5, eq_false c_1, ↓reduceIte]) _ _ hP hD hS ls (lv_sub hl [2, 3, 4, 1, 0] rfl)
  exact loop5 (nb + 1) 0 0 (by omega) (by omega) (by simp only [f_MD_isSummed, ↓reduceIte]) _ _ hP hD hS ls (lv_sub hl [2, 3, 4, 1, 0] rfl)
def f_MD_isGood_0 (xB : Nat → Int32) : Int32 :=
  if (f_MD_in (xB 1280) 1 250) = 0 then
    0
  else
    if (f_MD_isSummed xB 1280 36) = 0 then
      0
    else
      1
set_option maxHeartbeats 1000000 in
set_option maxRecDepth 100000 in
/-- isGood -/
theorem c_MD_isGood_0 (l : Launch) (D : va_G) (cI cZ cJ : ClassId) (q : Nat → Nat) (xth : Int32) (xB : Nat → Int32) (xsh : Int32) (xcu : Int32) (xtp : Nat → Int32) (xtd : Int32) (xpa : Nat → Int32) (xsp : Int32) (xwh : Int32) (xhe : Nat → Int32) (xho : Int32) (xtk : Nat → Int32) (xto : Nat → Int32) (xwa : Nat → Int32) (xmn : Int32) : sf_M (S := Int32) l D classes (sf_tys cI cZ cJ) y_MD_isGood (sf_ws y_MD_isGood b_MD_isGood 2 (some .boolean)) 2 47 [.ref (q 0), .int 0] (md_w q cI cZ xth xB xsh xcu xtp xtd xpa xsp xwh xhe xho xtk xto xwa xmn) (fun r => some (.int r)) (fun r => r = f_MD_isGood_0 xB) (fun r => (md_w q cI cZ xth xB xsh xcu xtp xtd xpa xsp xwh xhe xho xtk xto xwa xmn)) := by
  refine sf_ofW (S := Int32) (by decide) (Nat.le_of_ble_eq_true rfl) ?_
  intro p e s m below meth c A ls R args Q hR hArgs hQ hC0 hr hK hP hD hl
  obtain ⟨hx, hb, hml, hown, hts, hA, hlk⟩ := hC0
  have hS : va_S A s.heap s.heap [] := va_S.rf
  have hl : lv_has ls 2 [(0, .ref (q 0)), (1, .int 0)] := hl
  refine lv_aload_n hx hb d_MD_isGood_0 rfl (lv_at hl 0 rfl) ?_
  refine va_get (D := D) (ci := 3) (v := .ref (q 1)) (C := R_MD) (T := F_MD) (N := 15) hx hb hts i_MD hown hK hP 0 rfl rfl 1 (by decide) (hts _ wd_576) (fun _ h9 => h9) rfl d_MD_isGood_1 ?_
  refine lv_sipush (v := 1280) hx hb d_MD_isGood_4 (by decide) ?_
  refine lv_bipush (v := 40) hx hb d_MD_isGood_7 (by decide) ?_
  refine lv_iload_n hx hb d_MD_isGood_9 rfl (lv_at hl 1 rfl) ?_
  refine lv_imul hx hb d_MD_isGood_10 ?_
  rw [show ((40 * 0) : Int32) = 0 from by decide]
  refine lv_iadd hx hb d_MD_isGood_11 ?_
  rw [show ((1280 + 0) : Int32) = 1280 from by decide]
  refine va_iald hx hb hK hP 1 0 rfl rfl (show vp_in 1280 1360 from vp_in_nI (n := 1280) (by omega) (by omega)) d_MD_isGood_12 ?_
  rw [show (1280 : Int32).toNatClampNeg = 1280 from nI_clamp (n := 1280) (by omega)]
  refine lv_iconst (v := 1) hx hb d_MD_isGood_13 (by decide) ?_
  refine lv_sipush (v := 250) hx hb d_MD_isGood_14 (by decide) ?_
  refine sf_callSr (S := Int32) (rest := []) ⟨hx, hb, hml, hown, hts⟩ (c_MD_in l D cI cZ cJ (xB 1280) 1 250) (sf_cwS lk_MD_44 hts (fun _ h => h) (by rw [hR]; exact ⟨Nat.le_of_ble_eq_true rfl, Nat.le_of_ble_eq_true rfl⟩)) hK hP hD hS hA [] rfl rfl (fun _ => rfl) rfl rfl hl.1 (Nat.le_of_ble_eq_true rfl) d_MD_isGood_17 ⟨Nat.zero_le _, Nat.zero_le _⟩ (fun u_1 H locs hu_1 hP hS => ?_)
  refine lv_if_eq (tgt := 44) hx hb d_MD_isGood_20 (by decide) (fun c_2 => ?_) (fun c_2 => ?_)
  · refine lv_iconst (v := 0) hx hb d_MD_isGood_44 (by decide) ?_
    rw [hQ]
    exact sf_iret 0 hx hb hr hlk hS sf_b0 rfl (by simp only [f_MD_isGood_0, ← hu_1, eq_true c_2, ↓reduceIte]) hP d_MD_isGood_45
  · refine lv_aload_n hx hb d_MD_isGood_23 rfl (lv_at hl 0 rfl) ?_
    refine lv_sipush (v := 1280) hx hb d_MD_isGood_24 (by decide) ?_
    refine lv_bipush (v := 40) hx hb d_MD_isGood_27 (by decide) ?_
    refine lv_iload_n hx hb d_MD_isGood_29 rfl (lv_at hl 1 rfl) ?_
    refine lv_imul hx hb d_MD_isGood_30 ?_
    rw [show ((40 * 0) : Int32) = 0 from by decide]
    refine lv_iadd hx hb d_MD_isGood_31 ?_
    rw [show ((1280 + 0) : Int32) = 1280 from by decide]
    refine lv_bipush (v := 36) hx hb d_MD_isGood_32 (by decide) ?_
    refine sf_callVw (S := Int32) (rest := []) ⟨hx, hb, hml, hown, hts⟩ (c_MD_isSummed l D cI cZ cJ q xth xB xsh xcu xtp xtd xpa xsp xwh xhe xho xtk xto xwa xmn 1280 36 (by omega)) (sf_cwV lk_MD_48 hts (fun _ h => h) (by rw [hR]; exact ⟨Nat.le_of_ble_eq_true rfl, Nat.le_of_ble_eq_true rfl⟩)) hK hP hD hS hA (fun _ => by simp only [md_w_fst]) (ci := 3) (q0 := 0) rfl rfl rfl rfl rfl hl.1 (Nat.le_of_ble_eq_true rfl) d_MD_isGood_34 ⟨Nat.zero_le _, Nat.zero_le _⟩ (fun u_3 H locs hu_3 hP hD hS => ?_)
    have hP : va_P D classes (md_w q cI cZ xth xB xsh xcu xtp xtd xpa xsp xwh xhe xho xtk xto xwa xmn) H := hP
    have hD : va_D A (md_w q cI cZ xth xB xsh xcu xtp xtd xpa xsp xwh xhe xho xtk xto xwa xmn) := hD
    refine lv_if_eq (tgt := 44) hx hb d_MD_isGood_37 (by decide) (fun c_4 => ?_) (fun c_4 => ?_)
    · refine lv_iconst (v := 0) hx hb d_MD_isGood_44 (by decide) ?_
      rw [hQ]
      exact sf_iret 0 hx hb hr hlk hS sf_b0 rfl (by simp only [f_MD_isGood_0, ← hu_1, ← hu_3, eq_false c_2, eq_true c_4, ↓reduceIte]) hP d_MD_isGood_45
    · refine lv_iconst (v := 1) hx hb d_MD_isGood_40 (by decide) ?_
      refine lv_goto (tgt := 45) hx hb d_MD_isGood_41 (by decide) ?_
      rw [hQ]
      exact sf_iret 1 hx hb hr hlk hS sf_b1 rfl (by simp only [f_MD_isGood_0, ← hu_1, ← hu_3, eq_false c_2, eq_false c_4, ↓reduceIte]) hP d_MD_isGood_45
def f_MD_isGood_1 (xB : Nat → Int32) : Int32 :=
  if (f_MD_in (xB 1320) 1 250) = 0 then
    0
  else
    if (f_MD_isSummed xB 1320 36) = 0 then
      0
    else
      1
set_option maxHeartbeats 1000000 in
set_option maxRecDepth 100000 in
/-- isGood -/
theorem c_MD_isGood_1 (l : Launch) (D : va_G) (cI cZ cJ : ClassId) (q : Nat → Nat) (xth : Int32) (xB : Nat → Int32) (xsh : Int32) (xcu : Int32) (xtp : Nat → Int32) (xtd : Int32) (xpa : Nat → Int32) (xsp : Int32) (xwh : Int32) (xhe : Nat → Int32) (xho : Int32) (xtk : Nat → Int32) (xto : Nat → Int32) (xwa : Nat → Int32) (xmn : Int32) : sf_M (S := Int32) l D classes (sf_tys cI cZ cJ) y_MD_isGood (sf_ws y_MD_isGood b_MD_isGood 2 (some .boolean)) 2 47 [.ref (q 0), .int 1] (md_w q cI cZ xth xB xsh xcu xtp xtd xpa xsp xwh xhe xho xtk xto xwa xmn) (fun r => some (.int r)) (fun r => r = f_MD_isGood_1 xB) (fun r => (md_w q cI cZ xth xB xsh xcu xtp xtd xpa xsp xwh xhe xho xtk xto xwa xmn)) := by
  refine sf_ofW (S := Int32) (by decide) (Nat.le_of_ble_eq_true rfl) ?_
  intro p e s m below meth c A ls R args Q hR hArgs hQ hC0 hr hK hP hD hl
  obtain ⟨hx, hb, hml, hown, hts, hA, hlk⟩ := hC0
  have hS : va_S A s.heap s.heap [] := va_S.rf
  have hl : lv_has ls 2 [(0, .ref (q 0)), (1, .int 1)] := hl
  refine lv_aload_n hx hb d_MD_isGood_0 rfl (lv_at hl 0 rfl) ?_
  refine va_get (D := D) (ci := 3) (v := .ref (q 1)) (C := R_MD) (T := F_MD) (N := 15) hx hb hts i_MD hown hK hP 0 rfl rfl 1 (by decide) (hts _ wd_576) (fun _ h9 => h9) rfl d_MD_isGood_1 ?_
  refine lv_sipush (v := 1280) hx hb d_MD_isGood_4 (by decide) ?_
  refine lv_bipush (v := 40) hx hb d_MD_isGood_7 (by decide) ?_
  refine lv_iload_n hx hb d_MD_isGood_9 rfl (lv_at hl 1 rfl) ?_
  refine lv_imul hx hb d_MD_isGood_10 ?_
  rw [show ((40 * 1) : Int32) = 40 from by decide]
  refine lv_iadd hx hb d_MD_isGood_11 ?_
  rw [show ((1280 + 40) : Int32) = 1320 from by decide]
  refine va_iald hx hb hK hP 1 0 rfl rfl (show vp_in 1320 1360 from vp_in_nI (n := 1320) (by omega) (by omega)) d_MD_isGood_12 ?_
  rw [show (1320 : Int32).toNatClampNeg = 1320 from nI_clamp (n := 1320) (by omega)]
  refine lv_iconst (v := 1) hx hb d_MD_isGood_13 (by decide) ?_
  refine lv_sipush (v := 250) hx hb d_MD_isGood_14 (by decide) ?_
  refine sf_callSr (S := Int32) (rest := []) ⟨hx, hb, hml, hown, hts⟩ (c_MD_in l D cI cZ cJ (xB 1320) 1 250) (sf_cwS lk_MD_44 hts (fun _ h => h) (by rw [hR]; exact ⟨Nat.le_of_ble_eq_true rfl, Nat.le_of_ble_eq_true rfl⟩)) hK hP hD hS hA [] rfl rfl (fun _ => rfl) rfl rfl hl.1 (Nat.le_of_ble_eq_true rfl) d_MD_isGood_17 ⟨Nat.zero_le _, Nat.zero_le _⟩ (fun u_1 H locs hu_1 hP hS => ?_)
  refine lv_if_eq (tgt := 44) hx hb d_MD_isGood_20 (by decide) (fun c_2 => ?_) (fun c_2 => ?_)
  · refine lv_iconst (v := 0) hx hb d_MD_isGood_44 (by decide) ?_
    rw [hQ]
    exact sf_iret 0 hx hb hr hlk hS sf_b0 rfl (by simp only [f_MD_isGood_1, ← hu_1, eq_true c_2, ↓reduceIte]) hP d_MD_isGood_45
  · refine lv_aload_n hx hb d_MD_isGood_23 rfl (lv_at hl 0 rfl) ?_
    refine lv_sipush (v := 1280) hx hb d_MD_isGood_24 (by decide) ?_
    refine lv_bipush (v := 40) hx hb d_MD_isGood_27 (by decide) ?_
    refine lv_iload_n hx hb d_MD_isGood_29 rfl (lv_at hl 1 rfl) ?_
    refine lv_imul hx hb d_MD_isGood_30 ?_
    rw [show ((40 * 1) : Int32) = 40 from by decide]
    refine lv_iadd hx hb d_MD_isGood_31 ?_
    rw [show ((1280 + 40) : Int32) = 1320 from by decide]
    refine lv_bipush (v := 36) hx hb d_MD_isGood_32 (by decide) ?_
    refine sf_callVw (S := Int32) (rest := []) ⟨hx, hb, hml, hown, hts⟩ (c_MD_isSummed l D cI cZ cJ q xth xB xsh xcu xtp xtd xpa xsp xwh xhe xho xtk xto xwa xmn 1320 36 (by omega)) (sf_cwV lk_MD_48 hts (fun _ h => h) (by rw [hR]; exact ⟨Nat.le_of_ble_eq_true rfl, Nat.le_of_ble_eq_true rfl⟩)) hK hP hD hS hA (fun _ => by simp only [md_w_fst]) (ci := 3) (q0 := 0) rfl rfl rfl rfl rfl hl.1 (Nat.le_of_ble_eq_true rfl) d_MD_isGood_34 ⟨Nat.zero_le _, Nat.zero_le _⟩ (fun u_3 H locs hu_3 hP hD hS => ?_)
    have hP : va_P D classes (md_w q cI cZ xth xB xsh xcu xtp xtd xpa xsp xwh xhe xho xtk xto xwa xmn) H := hP
    have hD : va_D A (md_w q cI cZ xth xB xsh xcu xtp xtd xpa xsp xwh xhe xho xtk xto xwa xmn) := hD
    refine lv_if_eq (tgt := 44) hx hb d_MD_isGood_37 (by decide) (fun c_4 => ?_) (fun c_4 => ?_)
    · refine lv_iconst (v := 0) hx hb d_MD_isGood_44 (by decide) ?_
      rw [hQ]
      exact sf_iret 0 hx hb hr hlk hS sf_b0 rfl (by simp only [f_MD_isGood_1, ← hu_1, ← hu_3, eq_false c_2, eq_true c_4, ↓reduceIte]) hP d_MD_isGood_45
    · refine lv_iconst (v := 1) hx hb d_MD_isGood_40 (by decide) ?_
      refine lv_goto (tgt := 45) hx hb d_MD_isGood_41 (by decide) ?_
      rw [hQ]
      exact sf_iret 1 hx hb hr hlk hS sf_b1 rfl (by simp only [f_MD_isGood_1, ← hu_1, ← hu_3, eq_false c_2, eq_false c_4, ↓reduceIte]) hP d_MD_isGood_45
def f_MD_counting (xB : Nat → Int32) : Int32 :=
  if (f_MD_isGood_0 xB) = 0 then
    if (f_MD_isGood_1 xB) = 0 then
      (-1)
    else
      1
  else
    if (f_MD_isGood_1 xB) = 0 then
      0
    else
      if (xB 1320) = (f_MD_next (xB 1280)) then
        1
      else
        0
set_option maxHeartbeats 1000000 in
set_option maxRecDepth 100000 in
/-- counting -/
theorem c_MD_counting (l : Launch) (D : va_G) (cI cZ cJ : ClassId) (q : Nat → Nat) (xth : Int32) (xB : Nat → Int32) (xsh : Int32) (xcu : Int32) (xtp : Nat → Int32) (xtd : Int32) (xpa : Nat → Int32) (xsp : Int32) (xwh : Int32) (xhe : Nat → Int32) (xho : Int32) (xtk : Nat → Int32) (xto : Nat → Int32) (xwa : Nat → Int32) (xmn : Int32) : sf_M (S := Int32) l D classes (sf_tys cI cZ cJ) y_MD_counting (sf_ws y_MD_counting b_MD_counting 1 (some .int)) 3 68 [.ref (q 0)] (md_w q cI cZ xth xB xsh xcu xtp xtd xpa xsp xwh xhe xho xtk xto xwa xmn) (fun r => some (.int r)) (fun r => r = f_MD_counting xB) (fun r => (md_w q cI cZ xth xB xsh xcu xtp xtd xpa xsp xwh xhe xho xtk xto xwa xmn)) := by
  refine sf_ofW (S := Int32) (by decide) (Nat.le_of_ble_eq_true rfl) ?_
  intro p e s m below meth c A ls R args Q hR hArgs hQ hC0 hr hK hP hD hl
  obtain ⟨hx, hb, hml, hown, hts, hA, hlk⟩ := hC0
  have hS : va_S A s.heap s.heap [] := va_S.rf
  have hl : lv_has ls 1 [(0, .ref (q 0))] := hl
  refine lv_aload_n hx hb d_MD_counting_0 rfl (lv_at hl 0 rfl) ?_
  refine lv_iconst (v := 0) hx hb d_MD_counting_1 (by decide) ?_
  refine sf_callVw (S := Int32) (rest := []) ⟨hx, hb, hml, hown, hts⟩ (c_MD_isGood_0 l D cI cZ cJ q xth xB xsh xcu xtp xtd xpa xsp xwh xhe xho xtk xto xwa xmn) (sf_cwV lk_MD_52 hts (fun _ h => h) (by rw [hR]; exact ⟨Nat.le_of_ble_eq_true rfl, Nat.le_of_ble_eq_true rfl⟩)) hK hP hD hS hA (fun _ => by simp only [md_w_fst]) (ci := 3) (q0 := 0) rfl rfl rfl rfl rfl hl.1 (Nat.le_of_ble_eq_true rfl) d_MD_counting_2 ⟨Nat.zero_le _, Nat.zero_le _⟩ (fun u_1 H locs hu_1 hP hD hS => ?_)
  have hP : va_P D classes (md_w q cI cZ xth xB xsh xcu xtp xtd xpa xsp xwh xhe xho xtk xto xwa xmn) H := hP
  have hD : va_D A (md_w q cI cZ xth xB xsh xcu xtp xtd xpa xsp xwh xhe xho xtk xto xwa xmn) := hD
  refine lv_if_ne (tgt := 22) hx hb d_MD_counting_5 (by decide) (fun c_2 => ?_) (fun c_2 => ?_)
  · refine lv_aload_n hx hb d_MD_counting_22 rfl (lv_at hl 0 rfl) ?_
    refine lv_iconst (v := 1) hx hb d_MD_counting_23 (by decide) ?_
    refine sf_callVw (S := Int32) (rest := []) ⟨hx, hb, hml, hown, hts⟩ (c_MD_isGood_1 l D cI cZ cJ q xth xB xsh xcu xtp xtd xpa xsp xwh xhe xho xtk xto xwa xmn) (sf_cwV lk_MD_52 hts (fun _ h => h) (by rw [hR]; exact ⟨Nat.le_of_ble_eq_true rfl, Nat.le_of_ble_eq_true rfl⟩)) hK hP hD hS hA (fun _ => by simp only [md_w_fst]) (ci := 3) (q0 := 0) rfl rfl rfl rfl rfl hl.1 (Nat.le_of_ble_eq_true rfl) d_MD_counting_24 ⟨Nat.zero_le _, Nat.zero_le _⟩ (fun u_3 H locs hu_3 hP hD hS => ?_)
    have hP : va_P D classes (md_w q cI cZ xth xB xsh xcu xtp xtd xpa xsp xwh xhe xho xtk xto xwa xmn) H := hP
    have hD : va_D A (md_w q cI cZ xth xB xsh xcu xtp xtd xpa xsp xwh xhe xho xtk xto xwa xmn) := hD
    refine lv_if_ne (tgt := 32) hx hb d_MD_counting_27 (by decide) (fun c_4 => ?_) (fun c_4 => ?_)
    · refine lv_aload_n hx hb d_MD_counting_32 rfl (lv_at hl 0 rfl) ?_
      refine va_get (D := D) (ci := 3) (v := .ref (q 1)) (C := R_MD) (T := F_MD) (N := 15) hx hb hts i_MD hown hK hP 0 rfl rfl 1 (by decide) (hts _ wd_576) (fun _ h9 => h9) rfl d_MD_counting_33 ?_
      refine lv_sipush (v := 1320) hx hb d_MD_counting_36 (by decide) ?_
      refine va_iald hx hb hK hP 1 0 rfl rfl (show vp_in 1320 1360 from vp_in_nI (n := 1320) (by omega) (by omega)) d_MD_counting_39 ?_
      rw [show (1320 : Int32).toNatClampNeg = 1320 from nI_clamp (n := 1320) (by omega)]
      refine lv_aload_n hx hb d_MD_counting_40 rfl (lv_at hl 0 rfl) ?_
      refine va_get (D := D) (ci := 3) (v := .ref (q 1)) (C := R_MD) (T := F_MD) (N := 15) hx hb hts i_MD hown hK hP 0 rfl rfl 1 (by decide) (hts _ wd_576) (fun _ h9 => h9) rfl d_MD_counting_41 ?_
      refine lv_sipush (v := 1280) hx hb d_MD_counting_44 (by decide) ?_
      refine va_iald hx hb hK hP 1 0 rfl rfl (show vp_in 1280 1360 from vp_in_nI (n := 1280) (by omega) (by omega)) d_MD_counting_47 ?_
      rw [show (1280 : Int32).toNatClampNeg = 1280 from nI_clamp (n := 1280) (by omega)]
      refine sf_callSr (S := Int32) (rest := [.int (xB 1320)]) ⟨hx, hb, hml, hown, hts⟩ (c_MD_next l D cI cZ cJ (xB 1280)) (sf_cwS lk_MD_56 hts (fun _ h => h) (by rw [hR]; exact ⟨Nat.le_of_ble_eq_true rfl, Nat.le_of_ble_eq_true rfl⟩)) hK hP hD hS hA [] rfl rfl (fun _ => rfl) rfl rfl hl.1 (Nat.le_of_ble_eq_true rfl) d_MD_counting_48 ⟨Nat.zero_le _, Nat.zero_le _⟩ (fun u_5 H locs hu_5 hP hS => ?_)
      refine lv_icmp_ne (tgt := 58) hx hb d_MD_counting_51 (by decide) (fun c_6 => ?_) (fun c_6 => ?_)
      · refine lv_iconst (v := 0) hx hb d_MD_counting_58 (by decide) ?_
        rw [hQ]
        exact sf_iret 0 hx hb hr hlk hS rfl rfl (by simp only [f_MD_counting, ← hu_1, ← hu_3, ← hu_5, eq_false c_2, eq_false c_4, eq_false c_6, ↓reduceIte]) hP d_MD_counting_59
      · refine lv_iconst (v := 1) hx hb d_MD_counting_54 (by decide) ?_
        refine lv_goto (tgt := 59) hx hb d_MD_counting_55 (by decide) ?_
        rw [hQ]
        exact sf_iret 1 hx hb hr hlk hS rfl rfl (by simp only [f_MD_counting, ← hu_1, ← hu_3, ← hu_5, eq_false c_2, eq_false c_4, eq_true c_6, ↓reduceIte]) hP d_MD_counting_59
    · refine lv_iconst (v := 0) hx hb d_MD_counting_30 (by decide) ?_
      rw [hQ]
      exact sf_iret 0 hx hb hr hlk hS rfl rfl (by simp only [f_MD_counting, ← hu_1, ← hu_3, eq_false c_2, eq_true c_4, ↓reduceIte]) hP d_MD_counting_31
  · refine lv_aload_n hx hb d_MD_counting_8 rfl (lv_at hl 0 rfl) ?_
    refine lv_iconst (v := 1) hx hb d_MD_counting_9 (by decide) ?_
    refine sf_callVw (S := Int32) (rest := []) ⟨hx, hb, hml, hown, hts⟩ (c_MD_isGood_1 l D cI cZ cJ q xth xB xsh xcu xtp xtd xpa xsp xwh xhe xho xtk xto xwa xmn) (sf_cwV lk_MD_52 hts (fun _ h => h) (by rw [hR]; exact ⟨Nat.le_of_ble_eq_true rfl, Nat.le_of_ble_eq_true rfl⟩)) hK hP hD hS hA (fun _ => by simp only [md_w_fst]) (ci := 3) (q0 := 0) rfl rfl rfl rfl rfl hl.1 (Nat.le_of_ble_eq_true rfl) d_MD_counting_10 ⟨Nat.zero_le _, Nat.zero_le _⟩ (fun u_7 H locs hu_7 hP hD hS => ?_)
    have hP : va_P D classes (md_w q cI cZ xth xB xsh xcu xtp xtd xpa xsp xwh xhe xho xtk xto xwa xmn) H := hP
    have hD : va_D A (md_w q cI cZ xth xB xsh xcu xtp xtd xpa xsp xwh xhe xho xtk xto xwa xmn) := hD
    refine lv_if_eq (tgt := 20) hx hb d_MD_counting_13 (by decide) (fun c_8 => ?_) (fun c_8 => ?_)
    · refine lv_iconst (v := (-1)) hx hb d_MD_counting_20 (by decide) ?_
      rw [hQ]
      exact sf_iret (-1) hx hb hr hlk hS rfl rfl (by simp only [f_MD_counting, ← hu_1, ← hu_7, eq_true c_2, eq_true c_8, ↓reduceIte]) hP d_MD_counting_21
    · refine lv_iconst (v := 1) hx hb d_MD_counting_16 (by decide) ?_
      refine lv_goto (tgt := 21) hx hb d_MD_counting_17 (by decide) ?_
      rw [hQ]
      exact sf_iret 1 hx hb hr hlk hS rfl rfl (by simp only [f_MD_counting, ← hu_1, ← hu_7, eq_true c_2, eq_false c_8, ↓reduceIte]) hP d_MD_counting_21
