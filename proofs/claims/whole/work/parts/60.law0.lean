/-! the law: its words, its beginning's rows (printed by wip/gen) -/
set_option maxRecDepth 20000 in
theorem wd_765 : Cond.constantLong R_LW 59 (4294967295) ∈ sf_tb := sf_tb_in 765 rfl rfl
set_option maxRecDepth 20000 in
theorem wd_65 : Cond.instantiable R_SF 15 ∈ sf_tb := sf_tb_in 65 rfl rfl
set_option maxRecDepth 20000 in
theorem wd_570 : Cond.instantiable R_MD 15 ∈ sf_tb := sf_tb_in 570 rfl rfl
set_option maxRecDepth 20000 in
theorem wd_766 : Cond.arrayClass .long ∈ sf_tb := sf_tb_in 766 rfl rfl
set_option maxRecDepth 20000 in
theorem wd_64 : Cond.classLink R_LW 8 R_SF ∈ sf_tb := sf_tb_in 64 rfl rfl
set_option maxRecDepth 20000 in
theorem wd_569 : Cond.classLink R_LW 56 R_MD ∈ sf_tb := sf_tb_in 569 rfl rfl
set_option maxRecDepth 20000 in
theorem wd_200 : Cond.codeWith y_LW_feed b_LW_feed 6 (some .int) [(0, 11, 14, 13), (0, 11, 18, 15)] ∈ sf_tb := sf_tb_in 200 rfl rfl
set_option maxRecDepth 20000 in
theorem wd_198 : Cond.methodLink R_LW 61 y_LW_feed ∈ sf_tb := sf_tb_in 198 rfl rfl
set_option maxRecDepth 20000 in
theorem wd_199 : Cond.static y_LW_feed ∈ sf_tb := sf_tb_in 199 rfl rfl
set_option maxRecDepth 20000 in
theorem wd_51 : Cond.initialized R_LW ∈ sf_tb := sf_tb_in 51 rfl rfl
set_option maxRecDepth 20000 in
theorem wd_298 : Cond.codeWith y_LW_write b_LW_write 5 (some .int) [(0, 10, 13, 21), (0, 10, 17, 23), (0, 10, 21, 13), (0, 10, 25, 15)] ∈ sf_tb := sf_tb_in 298 rfl rfl
set_option maxRecDepth 20000 in
theorem wd_296 : Cond.methodLink R_LW 71 y_LW_write ∈ sf_tb := sf_tb_in 296 rfl rfl
set_option maxRecDepth 20000 in
theorem wd_297 : Cond.static y_LW_write ∈ sf_tb := sf_tb_in 297 rfl rfl
set_option maxRecDepth 20000 in
theorem wd_443 : Cond.codeWith y_LW_remove b_LW_remove 4 (some .int) [(0, 9, 12, 21), (0, 9, 15, 23)] ∈ sf_tb := sf_tb_in 443 rfl rfl
set_option maxRecDepth 20000 in
theorem wd_441 : Cond.methodLink R_LW 75 y_LW_remove ∈ sf_tb := sf_tb_in 441 rfl rfl
set_option maxRecDepth 20000 in
theorem wd_442 : Cond.static y_LW_remove ∈ sf_tb := sf_tb_in 442 rfl rfl
set_option maxRecDepth 20000 in
theorem wd_484 : Cond.codeWith y_LW_cut b_LW_cut 3 (some .int) [(0, 5, 8, 13)] ∈ sf_tb := sf_tb_in 484 rfl rfl
set_option maxRecDepth 20000 in
theorem wd_482 : Cond.methodLink R_LW 82 y_LW_cut ∈ sf_tb := sf_tb_in 482 rfl rfl
set_option maxRecDepth 20000 in
theorem wd_483 : Cond.static y_LW_cut ∈ sf_tb := sf_tb_in 483 rfl rfl
set_option maxRecDepth 20000 in
theorem wd_492 : Cond.codeWith y_LW_row b_LW_row 5 (some .int) [(0, 10, 13, 21), (0, 10, 17, 23)] ∈ sf_tb := sf_tb_in 492 rfl rfl
set_option maxRecDepth 20000 in
theorem wd_490 : Cond.methodLink R_LW 90 y_LW_row ∈ sf_tb := sf_tb_in 490 rfl rfl
set_option maxRecDepth 20000 in
theorem wd_491 : Cond.static y_LW_row ∈ sf_tb := sf_tb_in 491 rfl rfl
set_option maxRecDepth 20000 in
theorem wd_510 : Cond.codeWith y_LW_at b_LW_at 5 (some .int) [(0, 10, 13, 21), (0, 10, 17, 23)] ∈ sf_tb := sf_tb_in 510 rfl rfl
set_option maxRecDepth 20000 in
theorem wd_508 : Cond.methodLink R_LW 93 y_LW_at ∈ sf_tb := sf_tb_in 508 rfl rfl
set_option maxRecDepth 20000 in
theorem wd_509 : Cond.static y_LW_at ∈ sf_tb := sf_tb_in 509 rfl rfl
set_option maxRecDepth 20000 in
theorem wd_518 : Cond.codeWith y_LW_told b_LW_told 4 (some .int) [(0, 9, 12, 21), (0, 9, 15, 23)] ∈ sf_tb := sf_tb_in 518 rfl rfl
set_option maxRecDepth 20000 in
theorem wd_516 : Cond.methodLink R_LW 96 y_LW_told ∈ sf_tb := sf_tb_in 516 rfl rfl
set_option maxRecDepth 20000 in
theorem wd_517 : Cond.static y_LW_told ∈ sf_tb := sf_tb_in 517 rfl rfl
set_option maxRecDepth 20000 in
theorem wd_530 : Cond.codeWith y_LW_wrong b_LW_wrong 5 (some .int) [(0, 10, 13, 21)] ∈ sf_tb := sf_tb_in 530 rfl rfl
set_option maxRecDepth 20000 in
theorem wd_528 : Cond.methodLink R_LW 99 y_LW_wrong ∈ sf_tb := sf_tb_in 528 rfl rfl
set_option maxRecDepth 20000 in
theorem wd_529 : Cond.static y_LW_wrong ∈ sf_tb := sf_tb_in 529 rfl rfl
set_option maxRecDepth 20000 in
theorem wd_546 : Cond.codeWith y_LW_byteAt b_LW_byteAt 5 (some .int) [(0, 10, 13, 21)] ∈ sf_tb := sf_tb_in 546 rfl rfl
set_option maxRecDepth 20000 in
theorem wd_544 : Cond.methodLink R_LW 102 y_LW_byteAt ∈ sf_tb := sf_tb_in 544 rfl rfl
set_option maxRecDepth 20000 in
theorem wd_545 : Cond.static y_LW_byteAt ∈ sf_tb := sf_tb_in 545 rfl rfl
set_option maxRecDepth 20000 in
theorem wd_563 : Cond.codeWith y_LW_poke b_LW_poke 5 (some .int) [(0, 7, 10, 21), (0, 7, 14, 13)] ∈ sf_tb := sf_tb_in 563 rfl rfl
set_option maxRecDepth 20000 in
theorem wd_561 : Cond.methodLink R_LW 105 y_LW_poke ∈ sf_tb := sf_tb_in 561 rfl rfl
set_option maxRecDepth 20000 in
theorem wd_562 : Cond.static y_LW_poke ∈ sf_tb := sf_tb_in 562 rfl rfl
set_option maxRecDepth 20000 in
theorem wd_66 : Cond.methodLink R_LW 55 y_SF_init ∈ sf_tb := sf_tb_in 66 rfl rfl
set_option maxRecDepth 20000 in
theorem wd_68 : Cond.code y_SF_init b_SF_init 1 none ∈ sf_tb := sf_tb_in 68 rfl rfl
set_option maxRecDepth 20000 in
theorem wd_67 : Cond.instanceMethod y_SF_init ∈ sf_tb := sf_tb_in 67 rfl rfl
set_option maxRecDepth 20000 in
theorem wd_571 : Cond.methodLink R_LW 58 y_MD_init ∈ sf_tb := sf_tb_in 571 rfl rfl
set_option maxRecDepth 20000 in
theorem wd_573 : Cond.code y_MD_init b_MD_init 1 none ∈ sf_tb := sf_tb_in 573 rfl rfl
set_option maxRecDepth 20000 in
theorem wd_572 : Cond.instanceMethod y_MD_init ∈ sf_tb := sf_tb_in 572 rfl rfl
set_option maxRecDepth 20000 in
theorem wd_625 : Cond.methodLink R_LW 66 y_MD_feed ∈ sf_tb := sf_tb_in 625 rfl rfl
set_option maxRecDepth 20000 in
theorem wd_628 : Cond.code y_MD_feed b_MD_feed 6 (some .int) ∈ sf_tb := sf_tb_in 628 rfl rfl
set_option maxRecDepth 20000 in
theorem wd_626 : Cond.instanceMethod y_MD_feed ∈ sf_tb := sf_tb_in 626 rfl rfl
set_option maxRecDepth 20000 in
theorem wd_627 : Cond.selects R_MD y_MD_feed y_MD_feed ∈ sf_tb := sf_tb_in 627 rfl rfl
set_option maxRecDepth 20000 in
theorem wd_621 : Cond.methodLink R_LW 67 y_MD_thrown ∈ sf_tb := sf_tb_in 621 rfl rfl
set_option maxRecDepth 20000 in
theorem wd_624 : Cond.code y_MD_thrown b_MD_thrown 1 (some .int) ∈ sf_tb := sf_tb_in 624 rfl rfl
set_option maxRecDepth 20000 in
theorem wd_622 : Cond.instanceMethod y_MD_thrown ∈ sf_tb := sf_tb_in 622 rfl rfl
set_option maxRecDepth 20000 in
theorem wd_623 : Cond.selects R_MD y_MD_thrown y_MD_thrown ∈ sf_tb := sf_tb_in 623 rfl rfl
set_option maxRecDepth 20000 in
theorem wd_637 : Cond.methodLink R_LW 74 y_MD_write ∈ sf_tb := sf_tb_in 637 rfl rfl
set_option maxRecDepth 20000 in
theorem wd_640 : Cond.code y_MD_write b_MD_write 6 (some .int) ∈ sf_tb := sf_tb_in 640 rfl rfl
set_option maxRecDepth 20000 in
theorem wd_638 : Cond.instanceMethod y_MD_write ∈ sf_tb := sf_tb_in 638 rfl rfl
set_option maxRecDepth 20000 in
theorem wd_639 : Cond.selects R_MD y_MD_write y_MD_write ∈ sf_tb := sf_tb_in 639 rfl rfl
set_option maxRecDepth 20000 in
theorem wd_714 : Cond.methodLink R_LW 78 y_MD_remove ∈ sf_tb := sf_tb_in 714 rfl rfl
set_option maxRecDepth 20000 in
theorem wd_717 : Cond.code y_MD_remove b_MD_remove 3 (some .int) ∈ sf_tb := sf_tb_in 717 rfl rfl
set_option maxRecDepth 20000 in
theorem wd_715 : Cond.instanceMethod y_MD_remove ∈ sf_tb := sf_tb_in 715 rfl rfl
set_option maxRecDepth 20000 in
theorem wd_716 : Cond.selects R_MD y_MD_remove y_MD_remove ∈ sf_tb := sf_tb_in 716 rfl rfl
set_option maxRecDepth 20000 in
theorem wd_726 : Cond.methodLink R_LW 85 y_MD_cut ∈ sf_tb := sf_tb_in 726 rfl rfl
set_option maxRecDepth 20000 in
theorem wd_729 : Cond.code y_MD_cut b_MD_cut 2 none ∈ sf_tb := sf_tb_in 729 rfl rfl
set_option maxRecDepth 20000 in
theorem wd_727 : Cond.instanceMethod y_MD_cut ∈ sf_tb := sf_tb_in 727 rfl rfl
set_option maxRecDepth 20000 in
theorem wd_728 : Cond.selects R_MD y_MD_cut y_MD_cut ∈ sf_tb := sf_tb_in 728 rfl rfl
set_option maxRecDepth 20000 in
theorem wd_157 : Cond.methodLink R_LW 86 y_SF_open ∈ sf_tb := sf_tb_in 157 rfl rfl
set_option maxRecDepth 20000 in
theorem wd_160 : Cond.code y_SF_open b_SF_open 3 (some .int) ∈ sf_tb := sf_tb_in 160 rfl rfl
set_option maxRecDepth 20000 in
theorem wd_158 : Cond.instanceMethod y_SF_open ∈ sf_tb := sf_tb_in 158 rfl rfl
set_option maxRecDepth 20000 in
theorem wd_159 : Cond.selects R_SF y_SF_open y_SF_open ∈ sf_tb := sf_tb_in 159 rfl rfl
set_option maxRecDepth 20000 in
theorem wd_730 : Cond.methodLink R_LW 89 y_MD_open ∈ sf_tb := sf_tb_in 730 rfl rfl
set_option maxRecDepth 20000 in
theorem wd_733 : Cond.code y_MD_open b_MD_open 3 (some .int) ∈ sf_tb := sf_tb_in 733 rfl rfl
set_option maxRecDepth 20000 in
theorem wd_731 : Cond.instanceMethod y_MD_open ∈ sf_tb := sf_tb_in 731 rfl rfl
set_option maxRecDepth 20000 in
theorem wd_732 : Cond.selects R_MD y_MD_open y_MD_open ∈ sf_tb := sf_tb_in 732 rfl rfl
set_option maxRecDepth 20000 in
theorem wd_734 : Cond.methodLink R_LW 92 y_MD_row ∈ sf_tb := sf_tb_in 734 rfl rfl
set_option maxRecDepth 20000 in
theorem wd_737 : Cond.code y_MD_row b_MD_row 6 (some .int) ∈ sf_tb := sf_tb_in 737 rfl rfl
set_option maxRecDepth 20000 in
theorem wd_735 : Cond.instanceMethod y_MD_row ∈ sf_tb := sf_tb_in 735 rfl rfl
set_option maxRecDepth 20000 in
theorem wd_736 : Cond.selects R_MD y_MD_row y_MD_row ∈ sf_tb := sf_tb_in 736 rfl rfl
set_option maxRecDepth 20000 in
theorem wd_738 : Cond.methodLink R_LW 95 y_MD_at ∈ sf_tb := sf_tb_in 738 rfl rfl
set_option maxRecDepth 20000 in
theorem wd_741 : Cond.code y_MD_at b_MD_at 5 (some .int) ∈ sf_tb := sf_tb_in 741 rfl rfl
set_option maxRecDepth 20000 in
theorem wd_739 : Cond.instanceMethod y_MD_at ∈ sf_tb := sf_tb_in 739 rfl rfl
set_option maxRecDepth 20000 in
theorem wd_740 : Cond.selects R_MD y_MD_at y_MD_at ∈ sf_tb := sf_tb_in 740 rfl rfl
set_option maxRecDepth 20000 in
theorem wd_742 : Cond.methodLink R_LW 98 y_MD_told ∈ sf_tb := sf_tb_in 742 rfl rfl
set_option maxRecDepth 20000 in
theorem wd_745 : Cond.code y_MD_told b_MD_told 2 (some .int) ∈ sf_tb := sf_tb_in 745 rfl rfl
set_option maxRecDepth 20000 in
theorem wd_743 : Cond.instanceMethod y_MD_told ∈ sf_tb := sf_tb_in 743 rfl rfl
set_option maxRecDepth 20000 in
theorem wd_744 : Cond.selects R_MD y_MD_told y_MD_told ∈ sf_tb := sf_tb_in 744 rfl rfl
set_option maxRecDepth 20000 in
theorem wd_746 : Cond.methodLink R_LW 101 y_MD_wrong ∈ sf_tb := sf_tb_in 746 rfl rfl
set_option maxRecDepth 20000 in
theorem wd_749 : Cond.code y_MD_wrong b_MD_wrong 5 (some .int) ∈ sf_tb := sf_tb_in 749 rfl rfl
set_option maxRecDepth 20000 in
theorem wd_747 : Cond.instanceMethod y_MD_wrong ∈ sf_tb := sf_tb_in 747 rfl rfl
set_option maxRecDepth 20000 in
theorem wd_748 : Cond.selects R_MD y_MD_wrong y_MD_wrong ∈ sf_tb := sf_tb_in 748 rfl rfl
set_option maxRecDepth 20000 in
theorem wd_754 : Cond.methodLink R_LW 104 y_MD_byteAt ∈ sf_tb := sf_tb_in 754 rfl rfl
set_option maxRecDepth 20000 in
theorem wd_757 : Cond.code y_MD_byteAt b_MD_byteAt 4 (some .int) ∈ sf_tb := sf_tb_in 757 rfl rfl
set_option maxRecDepth 20000 in
theorem wd_755 : Cond.instanceMethod y_MD_byteAt ∈ sf_tb := sf_tb_in 755 rfl rfl
set_option maxRecDepth 20000 in
theorem wd_756 : Cond.selects R_MD y_MD_byteAt y_MD_byteAt ∈ sf_tb := sf_tb_in 756 rfl rfl
set_option maxRecDepth 20000 in
theorem wd_761 : Cond.methodLink R_LW 108 y_MD_poke ∈ sf_tb := sf_tb_in 761 rfl rfl
set_option maxRecDepth 20000 in
theorem wd_764 : Cond.code y_MD_poke b_MD_poke 5 none ∈ sf_tb := sf_tb_in 764 rfl rfl
set_option maxRecDepth 20000 in
theorem wd_762 : Cond.instanceMethod y_MD_poke ∈ sf_tb := sf_tb_in 762 rfl rfl
set_option maxRecDepth 20000 in
theorem wd_763 : Cond.selects R_MD y_MD_poke y_MD_poke ∈ sf_tb := sf_tb_in 763 rfl rfl
theorem lk_LW_55 : sf_LI R_LW 55 y_SF_init b_SF_init 1 0 := ⟨wd_68, wd_66, wd_67, wd_52, by decide +kernel, rfl⟩
theorem lk_LW_58 : sf_LI R_LW 58 y_MD_init b_MD_init 1 0 := ⟨wd_573, wd_571, wd_572, wd_55, by decide +kernel, rfl⟩
theorem lk_LW_66 : sf_LV R_LW 66 y_MD_feed b_MD_feed 6 (some .int) 2 := ⟨wd_628, wd_625, wd_626, wd_627, wd_55, by decide +kernel⟩
theorem lk_LW_67 : sf_LV R_LW 67 y_MD_thrown b_MD_thrown 1 (some .int) 0 := ⟨wd_624, wd_621, wd_622, wd_623, wd_55, by decide +kernel⟩
theorem lk_LW_74 : sf_LV R_LW 74 y_MD_write b_MD_write 6 (some .int) 2 := ⟨wd_640, wd_637, wd_638, wd_639, wd_55, by decide +kernel⟩
theorem lk_LW_78 : sf_LV R_LW 78 y_MD_remove b_MD_remove 3 (some .int) 1 := ⟨wd_717, wd_714, wd_715, wd_716, wd_55, by decide +kernel⟩
theorem lk_LW_85 : sf_LV R_LW 85 y_MD_cut b_MD_cut 2 none 1 := ⟨wd_729, wd_726, wd_727, wd_728, wd_55, by decide +kernel⟩
theorem lk_LW_86 : sf_LV R_LW 86 y_SF_open b_SF_open 3 (some .int) 0 := ⟨wd_160, wd_157, wd_158, wd_159, wd_52, by decide +kernel⟩
theorem lk_LW_89 : sf_LV R_LW 89 y_MD_open b_MD_open 3 (some .int) 0 := ⟨wd_733, wd_730, wd_731, wd_732, wd_55, by decide +kernel⟩
theorem lk_LW_92 : sf_LV R_LW 92 y_MD_row b_MD_row 6 (some .int) 2 := ⟨wd_737, wd_734, wd_735, wd_736, wd_55, by decide +kernel⟩
theorem lk_LW_95 : sf_LV R_LW 95 y_MD_at b_MD_at 5 (some .int) 2 := ⟨wd_741, wd_738, wd_739, wd_740, wd_55, by decide +kernel⟩
theorem lk_LW_98 : sf_LV R_LW 98 y_MD_told b_MD_told 2 (some .int) 1 := ⟨wd_745, wd_742, wd_743, wd_744, wd_55, by decide +kernel⟩
theorem lk_LW_101 : sf_LV R_LW 101 y_MD_wrong b_MD_wrong 5 (some .int) 2 := ⟨wd_749, wd_746, wd_747, wd_748, wd_55, by decide +kernel⟩
theorem lk_LW_104 : sf_LV R_LW 104 y_MD_byteAt b_MD_byteAt 4 (some .int) 2 := ⟨wd_757, wd_754, wd_755, wd_756, wd_55, by decide +kernel⟩
theorem lk_LW_108 : sf_LV R_LW 108 y_MD_poke b_MD_poke 5 none 3 := ⟨wd_764, wd_761, wd_762, wd_763, wd_55, by decide +kernel⟩
theorem lk_LW_61 : sf_LW R_LW 61 y_LW_feed b_LW_feed 6 (some .int) [(0, 11, 14, 13), (0, 11, 18, 15)] 4 := ⟨wd_200, wd_198, wd_199, wd_51, by decide +kernel⟩
theorem lk_LW_71 : sf_LW R_LW 71 y_LW_write b_LW_write 5 (some .int) [(0, 10, 13, 21), (0, 10, 17, 23), (0, 10, 21, 13), (0, 10, 25, 15)] 4 := ⟨wd_298, wd_296, wd_297, wd_51, by decide +kernel⟩
theorem lk_LW_75 : sf_LW R_LW 75 y_LW_remove b_LW_remove 4 (some .int) [(0, 9, 12, 21), (0, 9, 15, 23)] 3 := ⟨wd_443, wd_441, wd_442, wd_51, by decide +kernel⟩
theorem lk_LW_82 : sf_LW R_LW 82 y_LW_cut b_LW_cut 3 (some .int) [(0, 5, 8, 13)] 2 := ⟨wd_484, wd_482, wd_483, wd_51, by decide +kernel⟩
theorem lk_LW_90 : sf_LW R_LW 90 y_LW_row b_LW_row 5 (some .int) [(0, 10, 13, 21), (0, 10, 17, 23)] 4 := ⟨wd_492, wd_490, wd_491, wd_51, by decide +kernel⟩
theorem lk_LW_93 : sf_LW R_LW 93 y_LW_at b_LW_at 5 (some .int) [(0, 10, 13, 21), (0, 10, 17, 23)] 4 := ⟨wd_510, wd_508, wd_509, wd_51, by decide +kernel⟩
theorem lk_LW_96 : sf_LW R_LW 96 y_LW_told b_LW_told 4 (some .int) [(0, 9, 12, 21), (0, 9, 15, 23)] 3 := ⟨wd_518, wd_516, wd_517, wd_51, by decide +kernel⟩
theorem lk_LW_99 : sf_LW R_LW 99 y_LW_wrong b_LW_wrong 5 (some .int) [(0, 10, 13, 21)] 4 := ⟨wd_530, wd_528, wd_529, wd_51, by decide +kernel⟩
theorem lk_LW_102 : sf_LW R_LW 102 y_LW_byteAt b_LW_byteAt 5 (some .int) [(0, 10, 13, 21)] 4 := ⟨wd_546, wd_544, wd_545, wd_51, by decide +kernel⟩
theorem lk_LW_105 : sf_LW R_LW 105 y_LW_poke b_LW_poke 5 (some .int) [(0, 7, 10, 21), (0, 7, 14, 13)] 4 := ⟨wd_563, wd_561, wd_562, wd_51, by decide +kernel⟩
abbrev b_LW_law : ByteArray := code
theorem d_LW_law_0 : decode b_LW_law 0 = .ok (.new 8, 3) := by decide +kernel
theorem d_LW_law_3 : decode b_LW_law 3 = .ok (.dup, 1) := by decide +kernel
theorem d_LW_law_4 : decode b_LW_law 4 = .ok (.invokespecial 55, 3) := by decide +kernel
theorem d_LW_law_7 : decode b_LW_law 7 = .ok (.astore_n 1, 1) := by decide +kernel
theorem d_LW_law_8 : decode b_LW_law 8 = .ok (.new 56, 3) := by decide +kernel
theorem d_LW_law_11 : decode b_LW_law 11 = .ok (.dup, 1) := by decide +kernel
theorem d_LW_law_12 : decode b_LW_law 12 = .ok (.invokespecial 58, 3) := by decide +kernel
theorem d_LW_law_15 : decode b_LW_law 15 = .ok (.astore_n 2, 1) := by decide +kernel
theorem d_LW_law_16 : decode b_LW_law 16 = .ok (.iconst 1, 1) := by decide +kernel
theorem d_LW_law_17 : decode b_LW_law 17 = .ok (.newarray .long, 2) := by decide +kernel
theorem d_LW_law_19 : decode b_LW_law 19 = .ok (.astore_n 3, 1) := by decide +kernel
theorem d_LW_law_20 : decode b_LW_law 20 = .ok (.iconst 0, 1) := by decide +kernel
theorem d_LW_law_21 : decode b_LW_law 21 = .ok (.istore 4, 2) := by decide +kernel
theorem d_LW_law_23 : decode b_LW_law 23 = .ok (.iload 4, 2) := by decide +kernel
theorem d_LW_law_25 : decode b_LW_law 25 = .ok (.aload_n 0, 1) := by decide +kernel
theorem d_LW_law_26 : decode b_LW_law 26 = .ok (.arraylength, 1) := by decide +kernel
theorem d_LW_law_27 : decode b_LW_law 27 = .ok (.iconst 4, 1) := by decide +kernel
theorem d_LW_law_28 : decode b_LW_law 28 = .ok (.isub, 1) := by decide +kernel
theorem d_LW_law_29 : decode b_LW_law 29 = .ok (.if_icmp .gt 794, 3) := by decide +kernel
theorem d_LW_law_32 : decode b_LW_law 32 = .ok (.aload_n 0, 1) := by decide +kernel
theorem d_LW_law_33 : decode b_LW_law 33 = .ok (.iload 4, 2) := by decide +kernel
theorem d_LW_law_35 : decode b_LW_law 35 = .ok (.iaload, 1) := by decide +kernel
theorem d_LW_law_36 : decode b_LW_law 36 = .ok (.bipush 15, 2) := by decide +kernel
theorem d_LW_law_38 : decode b_LW_law 38 = .ok (.iand, 1) := by decide +kernel
theorem d_LW_law_100 : decode b_LW_law 100 = .ok (.aload_n 1, 1) := by decide +kernel
theorem d_LW_law_101 : decode b_LW_law 101 = .ok (.aload_n 0, 1) := by decide +kernel
theorem d_LW_law_102 : decode b_LW_law 102 = .ok (.iload 4, 2) := by decide +kernel
theorem d_LW_law_104 : decode b_LW_law 104 = .ok (.iconst 1, 1) := by decide +kernel
theorem d_LW_law_105 : decode b_LW_law 105 = .ok (.iadd, 1) := by decide +kernel
theorem d_LW_law_106 : decode b_LW_law 106 = .ok (.iaload, 1) := by decide +kernel
theorem d_LW_law_107 : decode b_LW_law 107 = .ok (.i2l, 1) := by decide +kernel
theorem d_LW_law_108 : decode b_LW_law 108 = .ok (.bipush 32, 2) := by decide +kernel
theorem d_LW_law_110 : decode b_LW_law 110 = .ok (.lshl, 1) := by decide +kernel
theorem d_LW_law_111 : decode b_LW_law 111 = .ok (.aload_n 0, 1) := by decide +kernel
theorem d_LW_law_112 : decode b_LW_law 112 = .ok (.iload 4, 2) := by decide +kernel
theorem d_LW_law_114 : decode b_LW_law 114 = .ok (.iconst 2, 1) := by decide +kernel
theorem d_LW_law_115 : decode b_LW_law 115 = .ok (.iadd, 1) := by decide +kernel
theorem d_LW_law_116 : decode b_LW_law 116 = .ok (.iaload, 1) := by decide +kernel
theorem d_LW_law_117 : decode b_LW_law 117 = .ok (.i2l, 1) := by decide +kernel
theorem d_LW_law_118 : decode b_LW_law 118 = .ok (.ldc2_w 59, 3) := by decide +kernel
theorem d_LW_law_121 : decode b_LW_law 121 = .ok (.land, 1) := by decide +kernel
theorem d_LW_law_122 : decode b_LW_law 122 = .ok (.lor, 1) := by decide +kernel
theorem d_LW_law_123 : decode b_LW_law 123 = .ok (.aload_n 0, 1) := by decide +kernel
theorem d_LW_law_124 : decode b_LW_law 124 = .ok (.iload 4, 2) := by decide +kernel
theorem d_LW_law_126 : decode b_LW_law 126 = .ok (.iconst 3, 1) := by decide +kernel
theorem d_LW_law_127 : decode b_LW_law 127 = .ok (.iadd, 1) := by decide +kernel
theorem d_LW_law_128 : decode b_LW_law 128 = .ok (.iaload, 1) := by decide +kernel
theorem d_LW_law_129 : decode b_LW_law 129 = .ok (.aload_n 3, 1) := by decide +kernel
theorem d_LW_law_130 : decode b_LW_law 130 = .ok (.invokestatic 61, 3) := by decide +kernel
theorem d_LW_law_133 : decode b_LW_law 133 = .ok (.istore 5, 2) := by decide +kernel
theorem d_LW_law_135 : decode b_LW_law 135 = .ok (.aload_n 2, 1) := by decide +kernel
theorem d_LW_law_136 : decode b_LW_law 136 = .ok (.aload_n 0, 1) := by decide +kernel
theorem d_LW_law_137 : decode b_LW_law 137 = .ok (.iload 4, 2) := by decide +kernel
theorem d_LW_law_139 : decode b_LW_law 139 = .ok (.iconst 1, 1) := by decide +kernel
theorem d_LW_law_140 : decode b_LW_law 140 = .ok (.iadd, 1) := by decide +kernel
theorem d_LW_law_141 : decode b_LW_law 141 = .ok (.iaload, 1) := by decide +kernel
theorem d_LW_law_142 : decode b_LW_law 142 = .ok (.i2l, 1) := by decide +kernel
theorem d_LW_law_143 : decode b_LW_law 143 = .ok (.bipush 32, 2) := by decide +kernel
theorem d_LW_law_145 : decode b_LW_law 145 = .ok (.lshl, 1) := by decide +kernel
theorem d_LW_law_146 : decode b_LW_law 146 = .ok (.aload_n 0, 1) := by decide +kernel
theorem d_LW_law_147 : decode b_LW_law 147 = .ok (.iload 4, 2) := by decide +kernel
theorem d_LW_law_149 : decode b_LW_law 149 = .ok (.iconst 2, 1) := by decide +kernel
theorem d_LW_law_150 : decode b_LW_law 150 = .ok (.iadd, 1) := by decide +kernel
theorem d_LW_law_151 : decode b_LW_law 151 = .ok (.iaload, 1) := by decide +kernel
theorem d_LW_law_152 : decode b_LW_law 152 = .ok (.i2l, 1) := by decide +kernel
theorem d_LW_law_153 : decode b_LW_law 153 = .ok (.ldc2_w 59, 3) := by decide +kernel
theorem d_LW_law_156 : decode b_LW_law 156 = .ok (.land, 1) := by decide +kernel
theorem d_LW_law_157 : decode b_LW_law 157 = .ok (.lor, 1) := by decide +kernel
theorem d_LW_law_158 : decode b_LW_law 158 = .ok (.aload_n 0, 1) := by decide +kernel
theorem d_LW_law_159 : decode b_LW_law 159 = .ok (.iload 4, 2) := by decide +kernel
theorem d_LW_law_161 : decode b_LW_law 161 = .ok (.iconst 3, 1) := by decide +kernel
theorem d_LW_law_162 : decode b_LW_law 162 = .ok (.iadd, 1) := by decide +kernel
theorem d_LW_law_163 : decode b_LW_law 163 = .ok (.iaload, 1) := by decide +kernel
theorem d_LW_law_164 : decode b_LW_law 164 = .ok (.invokevirtual 66, 3) := by decide +kernel
theorem d_LW_law_167 : decode b_LW_law 167 = .ok (.istore 6, 2) := by decide +kernel
theorem d_LW_law_169 : decode b_LW_law 169 = .ok (.aload_n 2, 1) := by decide +kernel
theorem d_LW_law_170 : decode b_LW_law 170 = .ok (.invokevirtual 67, 3) := by decide +kernel
theorem d_LW_law_173 : decode b_LW_law 173 = .ok (.iload 5, 2) := by decide +kernel
theorem d_LW_law_175 : decode b_LW_law 175 = .ok (.if_icmp .eq 5, 3) := by decide +kernel
theorem d_LW_law_180 : decode b_LW_law 180 = .ok (.iload 5, 2) := by decide +kernel
theorem d_LW_law_182 : decode b_LW_law 182 = .ok (.ifCond .ne 15, 3) := by decide +kernel
theorem d_LW_law_185 : decode b_LW_law 185 = .ok (.aload_n 3, 1) := by decide +kernel
theorem d_LW_law_186 : decode b_LW_law 186 = .ok (.iconst 0, 1) := by decide +kernel
theorem d_LW_law_187 : decode b_LW_law 187 = .ok (.laload, 1) := by decide +kernel
theorem d_LW_law_188 : decode b_LW_law 188 = .ok (.iload 6, 2) := by decide +kernel
theorem d_LW_law_190 : decode b_LW_law 190 = .ok (.i2l, 1) := by decide +kernel
theorem d_LW_law_191 : decode b_LW_law 191 = .ok (.lcmp, 1) := by decide +kernel
theorem d_LW_law_192 : decode b_LW_law 192 = .ok (.ifCond .eq 5, 3) := by decide +kernel
theorem d_LW_law_197 : decode b_LW_law 197 = .ok (.goto 620, 3) := by decide +kernel
theorem d_LW_law_200 : decode b_LW_law 200 = .ok (.aload_n 1, 1) := by decide +kernel
theorem d_LW_law_201 : decode b_LW_law 201 = .ok (.aload_n 0, 1) := by decide +kernel
theorem d_LW_law_202 : decode b_LW_law 202 = .ok (.iload 4, 2) := by decide +kernel
theorem d_LW_law_204 : decode b_LW_law 204 = .ok (.iconst 1, 1) := by decide +kernel
theorem d_LW_law_205 : decode b_LW_law 205 = .ok (.iadd, 1) := by decide +kernel
theorem d_LW_law_206 : decode b_LW_law 206 = .ok (.iaload, 1) := by decide +kernel
theorem d_LW_law_207 : decode b_LW_law 207 = .ok (.aload_n 0, 1) := by decide +kernel
theorem d_LW_law_208 : decode b_LW_law 208 = .ok (.iload 4, 2) := by decide +kernel
theorem d_LW_law_210 : decode b_LW_law 210 = .ok (.iconst 2, 1) := by decide +kernel
theorem d_LW_law_211 : decode b_LW_law 211 = .ok (.iadd, 1) := by decide +kernel
theorem d_LW_law_212 : decode b_LW_law 212 = .ok (.iaload, 1) := by decide +kernel
theorem d_LW_law_213 : decode b_LW_law 213 = .ok (.aload_n 3, 1) := by decide +kernel
theorem d_LW_law_214 : decode b_LW_law 214 = .ok (.invokestatic 71, 3) := by decide +kernel
theorem d_LW_law_217 : decode b_LW_law 217 = .ok (.istore 5, 2) := by decide +kernel
theorem d_LW_law_219 : decode b_LW_law 219 = .ok (.aload_n 2, 1) := by decide +kernel
theorem d_LW_law_220 : decode b_LW_law 220 = .ok (.aload_n 0, 1) := by decide +kernel
theorem d_LW_law_221 : decode b_LW_law 221 = .ok (.iload 4, 2) := by decide +kernel
theorem d_LW_law_223 : decode b_LW_law 223 = .ok (.iconst 1, 1) := by decide +kernel
theorem d_LW_law_224 : decode b_LW_law 224 = .ok (.iadd, 1) := by decide +kernel
theorem d_LW_law_225 : decode b_LW_law 225 = .ok (.iaload, 1) := by decide +kernel
theorem d_LW_law_226 : decode b_LW_law 226 = .ok (.aload_n 0, 1) := by decide +kernel
theorem d_LW_law_227 : decode b_LW_law 227 = .ok (.iload 4, 2) := by decide +kernel
theorem d_LW_law_229 : decode b_LW_law 229 = .ok (.iconst 2, 1) := by decide +kernel
theorem d_LW_law_230 : decode b_LW_law 230 = .ok (.iadd, 1) := by decide +kernel
theorem d_LW_law_231 : decode b_LW_law 231 = .ok (.iaload, 1) := by decide +kernel
theorem d_LW_law_232 : decode b_LW_law 232 = .ok (.invokevirtual 74, 3) := by decide +kernel
theorem d_LW_law_235 : decode b_LW_law 235 = .ok (.istore 6, 2) := by decide +kernel
theorem d_LW_law_237 : decode b_LW_law 237 = .ok (.aload_n 2, 1) := by decide +kernel
theorem d_LW_law_238 : decode b_LW_law 238 = .ok (.invokevirtual 67, 3) := by decide +kernel
theorem d_LW_law_241 : decode b_LW_law 241 = .ok (.iload 5, 2) := by decide +kernel
theorem d_LW_law_243 : decode b_LW_law 243 = .ok (.if_icmp .eq 5, 3) := by decide +kernel
theorem d_LW_law_248 : decode b_LW_law 248 = .ok (.iload 5, 2) := by decide +kernel
theorem d_LW_law_250 : decode b_LW_law 250 = .ok (.ifCond .ne 15, 3) := by decide +kernel
theorem d_LW_law_253 : decode b_LW_law 253 = .ok (.aload_n 3, 1) := by decide +kernel
theorem d_LW_law_254 : decode b_LW_law 254 = .ok (.iconst 0, 1) := by decide +kernel
theorem d_LW_law_255 : decode b_LW_law 255 = .ok (.laload, 1) := by decide +kernel
theorem d_LW_law_256 : decode b_LW_law 256 = .ok (.iload 6, 2) := by decide +kernel
theorem d_LW_law_258 : decode b_LW_law 258 = .ok (.i2l, 1) := by decide +kernel
theorem d_LW_law_259 : decode b_LW_law 259 = .ok (.lcmp, 1) := by decide +kernel
theorem d_LW_law_260 : decode b_LW_law 260 = .ok (.ifCond .eq 5, 3) := by decide +kernel
theorem d_LW_law_265 : decode b_LW_law 265 = .ok (.goto 552, 3) := by decide +kernel
theorem d_LW_law_268 : decode b_LW_law 268 = .ok (.aload_n 1, 1) := by decide +kernel
theorem d_LW_law_269 : decode b_LW_law 269 = .ok (.aload_n 0, 1) := by decide +kernel
theorem d_LW_law_270 : decode b_LW_law 270 = .ok (.iload 4, 2) := by decide +kernel
theorem d_LW_law_272 : decode b_LW_law 272 = .ok (.iconst 1, 1) := by decide +kernel
theorem d_LW_law_273 : decode b_LW_law 273 = .ok (.iadd, 1) := by decide +kernel
theorem d_LW_law_274 : decode b_LW_law 274 = .ok (.iaload, 1) := by decide +kernel
theorem d_LW_law_275 : decode b_LW_law 275 = .ok (.aload_n 3, 1) := by decide +kernel
theorem d_LW_law_276 : decode b_LW_law 276 = .ok (.invokestatic 75, 3) := by decide +kernel
theorem d_LW_law_279 : decode b_LW_law 279 = .ok (.istore 5, 2) := by decide +kernel
theorem d_LW_law_281 : decode b_LW_law 281 = .ok (.aload_n 2, 1) := by decide +kernel
theorem d_LW_law_282 : decode b_LW_law 282 = .ok (.aload_n 0, 1) := by decide +kernel
theorem d_LW_law_283 : decode b_LW_law 283 = .ok (.iload 4, 2) := by decide +kernel
theorem d_LW_law_285 : decode b_LW_law 285 = .ok (.iconst 1, 1) := by decide +kernel
theorem d_LW_law_286 : decode b_LW_law 286 = .ok (.iadd, 1) := by decide +kernel
theorem d_LW_law_287 : decode b_LW_law 287 = .ok (.iaload, 1) := by decide +kernel
theorem d_LW_law_288 : decode b_LW_law 288 = .ok (.invokevirtual 78, 3) := by decide +kernel
theorem d_LW_law_291 : decode b_LW_law 291 = .ok (.istore 6, 2) := by decide +kernel
theorem d_LW_law_293 : decode b_LW_law 293 = .ok (.aload_n 2, 1) := by decide +kernel
theorem d_LW_law_294 : decode b_LW_law 294 = .ok (.invokevirtual 67, 3) := by decide +kernel
theorem d_LW_law_297 : decode b_LW_law 297 = .ok (.iload 5, 2) := by decide +kernel
theorem d_LW_law_299 : decode b_LW_law 299 = .ok (.if_icmp .eq 5, 3) := by decide +kernel
theorem d_LW_law_304 : decode b_LW_law 304 = .ok (.iload 5, 2) := by decide +kernel
theorem d_LW_law_306 : decode b_LW_law 306 = .ok (.ifCond .ne 15, 3) := by decide +kernel
theorem d_LW_law_309 : decode b_LW_law 309 = .ok (.aload_n 3, 1) := by decide +kernel
theorem d_LW_law_310 : decode b_LW_law 310 = .ok (.iconst 0, 1) := by decide +kernel
theorem d_LW_law_311 : decode b_LW_law 311 = .ok (.laload, 1) := by decide +kernel
theorem d_LW_law_312 : decode b_LW_law 312 = .ok (.iload 6, 2) := by decide +kernel
theorem d_LW_law_314 : decode b_LW_law 314 = .ok (.i2l, 1) := by decide +kernel
theorem d_LW_law_315 : decode b_LW_law 315 = .ok (.lcmp, 1) := by decide +kernel
theorem d_LW_law_316 : decode b_LW_law 316 = .ok (.ifCond .eq 5, 3) := by decide +kernel
theorem d_LW_law_321 : decode b_LW_law 321 = .ok (.goto 496, 3) := by decide +kernel
theorem d_LW_law_380 : decode b_LW_law 380 = .ok (.aload_n 1, 1) := by decide +kernel
theorem d_LW_law_381 : decode b_LW_law 381 = .ok (.aload_n 0, 1) := by decide +kernel
theorem d_LW_law_382 : decode b_LW_law 382 = .ok (.iload 4, 2) := by decide +kernel
theorem d_LW_law_384 : decode b_LW_law 384 = .ok (.iconst 1, 1) := by decide +kernel
theorem d_LW_law_385 : decode b_LW_law 385 = .ok (.iadd, 1) := by decide +kernel
theorem d_LW_law_386 : decode b_LW_law 386 = .ok (.iaload, 1) := by decide +kernel
theorem d_LW_law_387 : decode b_LW_law 387 = .ok (.invokestatic 82, 3) := by decide +kernel
theorem d_LW_law_390 : decode b_LW_law 390 = .ok (.istore 5, 2) := by decide +kernel
theorem d_LW_law_392 : decode b_LW_law 392 = .ok (.aload_n 2, 1) := by decide +kernel
theorem d_LW_law_393 : decode b_LW_law 393 = .ok (.aload_n 0, 1) := by decide +kernel
theorem d_LW_law_394 : decode b_LW_law 394 = .ok (.iload 4, 2) := by decide +kernel
theorem d_LW_law_396 : decode b_LW_law 396 = .ok (.iconst 1, 1) := by decide +kernel
theorem d_LW_law_397 : decode b_LW_law 397 = .ok (.iadd, 1) := by decide +kernel
theorem d_LW_law_398 : decode b_LW_law 398 = .ok (.iaload, 1) := by decide +kernel
theorem d_LW_law_399 : decode b_LW_law 399 = .ok (.invokevirtual 85, 3) := by decide +kernel
theorem d_LW_law_402 : decode b_LW_law 402 = .ok (.aload_n 2, 1) := by decide +kernel
theorem d_LW_law_403 : decode b_LW_law 403 = .ok (.invokevirtual 67, 3) := by decide +kernel
theorem d_LW_law_406 : decode b_LW_law 406 = .ok (.iload 5, 2) := by decide +kernel
theorem d_LW_law_408 : decode b_LW_law 408 = .ok (.if_icmp .eq 5, 3) := by decide +kernel
theorem d_LW_law_413 : decode b_LW_law 413 = .ok (.goto 404, 3) := by decide +kernel
theorem d_LW_law_416 : decode b_LW_law 416 = .ok (.aload_n 1, 1) := by decide +kernel
theorem d_LW_law_417 : decode b_LW_law 417 = .ok (.invokevirtual 86, 3) := by decide +kernel
theorem d_LW_law_420 : decode b_LW_law 420 = .ok (.aload_n 2, 1) := by decide +kernel
theorem d_LW_law_421 : decode b_LW_law 421 = .ok (.invokevirtual 89, 3) := by decide +kernel
theorem d_LW_law_424 : decode b_LW_law 424 = .ok (.if_icmp .eq 393, 3) := by decide +kernel
theorem d_LW_law_429 : decode b_LW_law 429 = .ok (.aload_n 1, 1) := by decide +kernel
theorem d_LW_law_430 : decode b_LW_law 430 = .ok (.aload_n 0, 1) := by decide +kernel
theorem d_LW_law_431 : decode b_LW_law 431 = .ok (.iload 4, 2) := by decide +kernel
theorem d_LW_law_433 : decode b_LW_law 433 = .ok (.iconst 1, 1) := by decide +kernel
theorem d_LW_law_434 : decode b_LW_law 434 = .ok (.iadd, 1) := by decide +kernel
theorem d_LW_law_435 : decode b_LW_law 435 = .ok (.iaload, 1) := by decide +kernel
theorem d_LW_law_436 : decode b_LW_law 436 = .ok (.aload_n 0, 1) := by decide +kernel
theorem d_LW_law_437 : decode b_LW_law 437 = .ok (.iload 4, 2) := by decide +kernel
theorem d_LW_law_439 : decode b_LW_law 439 = .ok (.iconst 2, 1) := by decide +kernel
theorem d_LW_law_440 : decode b_LW_law 440 = .ok (.iadd, 1) := by decide +kernel
theorem d_LW_law_441 : decode b_LW_law 441 = .ok (.iaload, 1) := by decide +kernel
theorem d_LW_law_442 : decode b_LW_law 442 = .ok (.aload_n 3, 1) := by decide +kernel
theorem d_LW_law_443 : decode b_LW_law 443 = .ok (.invokestatic 90, 3) := by decide +kernel
theorem d_LW_law_446 : decode b_LW_law 446 = .ok (.istore 5, 2) := by decide +kernel
theorem d_LW_law_448 : decode b_LW_law 448 = .ok (.aload_n 2, 1) := by decide +kernel
theorem d_LW_law_449 : decode b_LW_law 449 = .ok (.aload_n 0, 1) := by decide +kernel
theorem d_LW_law_450 : decode b_LW_law 450 = .ok (.iload 4, 2) := by decide +kernel
theorem d_LW_law_452 : decode b_LW_law 452 = .ok (.iconst 1, 1) := by decide +kernel
theorem d_LW_law_453 : decode b_LW_law 453 = .ok (.iadd, 1) := by decide +kernel
theorem d_LW_law_454 : decode b_LW_law 454 = .ok (.iaload, 1) := by decide +kernel
theorem d_LW_law_455 : decode b_LW_law 455 = .ok (.aload_n 0, 1) := by decide +kernel
theorem d_LW_law_456 : decode b_LW_law 456 = .ok (.iload 4, 2) := by decide +kernel
theorem d_LW_law_458 : decode b_LW_law 458 = .ok (.iconst 2, 1) := by decide +kernel
theorem d_LW_law_459 : decode b_LW_law 459 = .ok (.iadd, 1) := by decide +kernel
theorem d_LW_law_460 : decode b_LW_law 460 = .ok (.iaload, 1) := by decide +kernel
theorem d_LW_law_461 : decode b_LW_law 461 = .ok (.invokevirtual 92, 3) := by decide +kernel
theorem d_LW_law_464 : decode b_LW_law 464 = .ok (.istore 6, 2) := by decide +kernel
theorem d_LW_law_466 : decode b_LW_law 466 = .ok (.aload_n 2, 1) := by decide +kernel
theorem d_LW_law_467 : decode b_LW_law 467 = .ok (.invokevirtual 67, 3) := by decide +kernel
theorem d_LW_law_470 : decode b_LW_law 470 = .ok (.iload 5, 2) := by decide +kernel
theorem d_LW_law_472 : decode b_LW_law 472 = .ok (.if_icmp .eq 5, 3) := by decide +kernel
theorem d_LW_law_477 : decode b_LW_law 477 = .ok (.iload 5, 2) := by decide +kernel
theorem d_LW_law_479 : decode b_LW_law 479 = .ok (.ifCond .ne 15, 3) := by decide +kernel
theorem d_LW_law_482 : decode b_LW_law 482 = .ok (.aload_n 3, 1) := by decide +kernel
theorem d_LW_law_483 : decode b_LW_law 483 = .ok (.iconst 0, 1) := by decide +kernel
theorem d_LW_law_484 : decode b_LW_law 484 = .ok (.laload, 1) := by decide +kernel
theorem d_LW_law_485 : decode b_LW_law 485 = .ok (.iload 6, 2) := by decide +kernel
theorem d_LW_law_487 : decode b_LW_law 487 = .ok (.i2l, 1) := by decide +kernel
theorem d_LW_law_488 : decode b_LW_law 488 = .ok (.lcmp, 1) := by decide +kernel
theorem d_LW_law_489 : decode b_LW_law 489 = .ok (.ifCond .eq 5, 3) := by decide +kernel
theorem d_LW_law_494 : decode b_LW_law 494 = .ok (.goto 323, 3) := by decide +kernel
theorem d_LW_law_497 : decode b_LW_law 497 = .ok (.aload_n 1, 1) := by decide +kernel
theorem d_LW_law_498 : decode b_LW_law 498 = .ok (.aload_n 0, 1) := by decide +kernel
theorem d_LW_law_499 : decode b_LW_law 499 = .ok (.iload 4, 2) := by decide +kernel
theorem d_LW_law_501 : decode b_LW_law 501 = .ok (.iconst 1, 1) := by decide +kernel
theorem d_LW_law_502 : decode b_LW_law 502 = .ok (.iadd, 1) := by decide +kernel
theorem d_LW_law_503 : decode b_LW_law 503 = .ok (.iaload, 1) := by decide +kernel
theorem d_LW_law_504 : decode b_LW_law 504 = .ok (.aload_n 0, 1) := by decide +kernel
theorem d_LW_law_505 : decode b_LW_law 505 = .ok (.iload 4, 2) := by decide +kernel
theorem d_LW_law_507 : decode b_LW_law 507 = .ok (.iconst 2, 1) := by decide +kernel
theorem d_LW_law_508 : decode b_LW_law 508 = .ok (.iadd, 1) := by decide +kernel
theorem d_LW_law_509 : decode b_LW_law 509 = .ok (.iaload, 1) := by decide +kernel
theorem d_LW_law_510 : decode b_LW_law 510 = .ok (.aload_n 3, 1) := by decide +kernel
theorem d_LW_law_511 : decode b_LW_law 511 = .ok (.invokestatic 93, 3) := by decide +kernel
theorem d_LW_law_514 : decode b_LW_law 514 = .ok (.istore 5, 2) := by decide +kernel
theorem d_LW_law_516 : decode b_LW_law 516 = .ok (.aload_n 2, 1) := by decide +kernel
theorem d_LW_law_517 : decode b_LW_law 517 = .ok (.aload_n 0, 1) := by decide +kernel
theorem d_LW_law_518 : decode b_LW_law 518 = .ok (.iload 4, 2) := by decide +kernel
theorem d_LW_law_520 : decode b_LW_law 520 = .ok (.iconst 1, 1) := by decide +kernel
theorem d_LW_law_521 : decode b_LW_law 521 = .ok (.iadd, 1) := by decide +kernel
theorem d_LW_law_522 : decode b_LW_law 522 = .ok (.iaload, 1) := by decide +kernel
theorem d_LW_law_523 : decode b_LW_law 523 = .ok (.aload_n 0, 1) := by decide +kernel
theorem d_LW_law_524 : decode b_LW_law 524 = .ok (.iload 4, 2) := by decide +kernel
theorem d_LW_law_526 : decode b_LW_law 526 = .ok (.iconst 2, 1) := by decide +kernel
theorem d_LW_law_527 : decode b_LW_law 527 = .ok (.iadd, 1) := by decide +kernel
theorem d_LW_law_528 : decode b_LW_law 528 = .ok (.iaload, 1) := by decide +kernel
theorem d_LW_law_529 : decode b_LW_law 529 = .ok (.invokevirtual 95, 3) := by decide +kernel
theorem d_LW_law_532 : decode b_LW_law 532 = .ok (.istore 6, 2) := by decide +kernel
theorem d_LW_law_534 : decode b_LW_law 534 = .ok (.aload_n 2, 1) := by decide +kernel
theorem d_LW_law_535 : decode b_LW_law 535 = .ok (.invokevirtual 67, 3) := by decide +kernel
theorem d_LW_law_538 : decode b_LW_law 538 = .ok (.iload 5, 2) := by decide +kernel
theorem d_LW_law_540 : decode b_LW_law 540 = .ok (.if_icmp .eq 5, 3) := by decide +kernel
theorem d_LW_law_545 : decode b_LW_law 545 = .ok (.iload 5, 2) := by decide +kernel
theorem d_LW_law_547 : decode b_LW_law 547 = .ok (.ifCond .ne 15, 3) := by decide +kernel
theorem d_LW_law_550 : decode b_LW_law 550 = .ok (.aload_n 3, 1) := by decide +kernel
theorem d_LW_law_551 : decode b_LW_law 551 = .ok (.iconst 0, 1) := by decide +kernel
theorem d_LW_law_552 : decode b_LW_law 552 = .ok (.laload, 1) := by decide +kernel
theorem d_LW_law_553 : decode b_LW_law 553 = .ok (.iload 6, 2) := by decide +kernel
theorem d_LW_law_555 : decode b_LW_law 555 = .ok (.i2l, 1) := by decide +kernel
theorem d_LW_law_556 : decode b_LW_law 556 = .ok (.lcmp, 1) := by decide +kernel
theorem d_LW_law_557 : decode b_LW_law 557 = .ok (.ifCond .eq 5, 3) := by decide +kernel
theorem d_LW_law_562 : decode b_LW_law 562 = .ok (.goto 255, 3) := by decide +kernel
theorem d_LW_law_565 : decode b_LW_law 565 = .ok (.aload_n 1, 1) := by decide +kernel
theorem d_LW_law_566 : decode b_LW_law 566 = .ok (.aload_n 0, 1) := by decide +kernel
theorem d_LW_law_567 : decode b_LW_law 567 = .ok (.iload 4, 2) := by decide +kernel
theorem d_LW_law_569 : decode b_LW_law 569 = .ok (.iconst 1, 1) := by decide +kernel
theorem d_LW_law_570 : decode b_LW_law 570 = .ok (.iadd, 1) := by decide +kernel
theorem d_LW_law_571 : decode b_LW_law 571 = .ok (.iaload, 1) := by decide +kernel
theorem d_LW_law_572 : decode b_LW_law 572 = .ok (.aload_n 3, 1) := by decide +kernel
theorem d_LW_law_573 : decode b_LW_law 573 = .ok (.invokestatic 96, 3) := by decide +kernel
theorem d_LW_law_576 : decode b_LW_law 576 = .ok (.istore 5, 2) := by decide +kernel
theorem d_LW_law_578 : decode b_LW_law 578 = .ok (.aload_n 2, 1) := by decide +kernel
theorem d_LW_law_579 : decode b_LW_law 579 = .ok (.aload_n 0, 1) := by decide +kernel
theorem d_LW_law_580 : decode b_LW_law 580 = .ok (.iload 4, 2) := by decide +kernel
theorem d_LW_law_582 : decode b_LW_law 582 = .ok (.iconst 1, 1) := by decide +kernel
theorem d_LW_law_583 : decode b_LW_law 583 = .ok (.iadd, 1) := by decide +kernel
theorem d_LW_law_584 : decode b_LW_law 584 = .ok (.iaload, 1) := by decide +kernel
theorem d_LW_law_585 : decode b_LW_law 585 = .ok (.invokevirtual 98, 3) := by decide +kernel
theorem d_LW_law_588 : decode b_LW_law 588 = .ok (.istore 6, 2) := by decide +kernel
theorem d_LW_law_590 : decode b_LW_law 590 = .ok (.aload_n 2, 1) := by decide +kernel
theorem d_LW_law_591 : decode b_LW_law 591 = .ok (.invokevirtual 67, 3) := by decide +kernel
theorem d_LW_law_594 : decode b_LW_law 594 = .ok (.iload 5, 2) := by decide +kernel
theorem d_LW_law_596 : decode b_LW_law 596 = .ok (.if_icmp .eq 5, 3) := by decide +kernel
theorem d_LW_law_601 : decode b_LW_law 601 = .ok (.iload 5, 2) := by decide +kernel
theorem d_LW_law_603 : decode b_LW_law 603 = .ok (.ifCond .ne 15, 3) := by decide +kernel
theorem d_LW_law_606 : decode b_LW_law 606 = .ok (.aload_n 3, 1) := by decide +kernel
theorem d_LW_law_607 : decode b_LW_law 607 = .ok (.iconst 0, 1) := by decide +kernel
theorem d_LW_law_608 : decode b_LW_law 608 = .ok (.laload, 1) := by decide +kernel
theorem d_LW_law_609 : decode b_LW_law 609 = .ok (.iload 6, 2) := by decide +kernel
theorem d_LW_law_611 : decode b_LW_law 611 = .ok (.i2l, 1) := by decide +kernel
theorem d_LW_law_612 : decode b_LW_law 612 = .ok (.lcmp, 1) := by decide +kernel
theorem d_LW_law_613 : decode b_LW_law 613 = .ok (.ifCond .eq 5, 3) := by decide +kernel
theorem d_LW_law_618 : decode b_LW_law 618 = .ok (.goto 199, 3) := by decide +kernel
theorem d_LW_law_621 : decode b_LW_law 621 = .ok (.aload_n 1, 1) := by decide +kernel
theorem d_LW_law_622 : decode b_LW_law 622 = .ok (.aload_n 0, 1) := by decide +kernel
theorem d_LW_law_623 : decode b_LW_law 623 = .ok (.iload 4, 2) := by decide +kernel
theorem d_LW_law_625 : decode b_LW_law 625 = .ok (.iconst 1, 1) := by decide +kernel
theorem d_LW_law_626 : decode b_LW_law 626 = .ok (.iadd, 1) := by decide +kernel
theorem d_LW_law_627 : decode b_LW_law 627 = .ok (.iaload, 1) := by decide +kernel
theorem d_LW_law_628 : decode b_LW_law 628 = .ok (.aload_n 0, 1) := by decide +kernel
theorem d_LW_law_629 : decode b_LW_law 629 = .ok (.iload 4, 2) := by decide +kernel
theorem d_LW_law_631 : decode b_LW_law 631 = .ok (.iconst 2, 1) := by decide +kernel
theorem d_LW_law_632 : decode b_LW_law 632 = .ok (.iadd, 1) := by decide +kernel
theorem d_LW_law_633 : decode b_LW_law 633 = .ok (.iaload, 1) := by decide +kernel
theorem d_LW_law_634 : decode b_LW_law 634 = .ok (.aload_n 3, 1) := by decide +kernel
theorem d_LW_law_635 : decode b_LW_law 635 = .ok (.invokestatic 99, 3) := by decide +kernel
theorem d_LW_law_638 : decode b_LW_law 638 = .ok (.istore 5, 2) := by decide +kernel
theorem d_LW_law_640 : decode b_LW_law 640 = .ok (.aload_n 2, 1) := by decide +kernel
theorem d_LW_law_641 : decode b_LW_law 641 = .ok (.aload_n 0, 1) := by decide +kernel
theorem d_LW_law_642 : decode b_LW_law 642 = .ok (.iload 4, 2) := by decide +kernel
theorem d_LW_law_644 : decode b_LW_law 644 = .ok (.iconst 1, 1) := by decide +kernel
theorem d_LW_law_645 : decode b_LW_law 645 = .ok (.iadd, 1) := by decide +kernel
theorem d_LW_law_646 : decode b_LW_law 646 = .ok (.iaload, 1) := by decide +kernel
theorem d_LW_law_647 : decode b_LW_law 647 = .ok (.aload_n 0, 1) := by decide +kernel
theorem d_LW_law_648 : decode b_LW_law 648 = .ok (.iload 4, 2) := by decide +kernel
theorem d_LW_law_650 : decode b_LW_law 650 = .ok (.iconst 2, 1) := by decide +kernel
theorem d_LW_law_651 : decode b_LW_law 651 = .ok (.iadd, 1) := by decide +kernel
theorem d_LW_law_652 : decode b_LW_law 652 = .ok (.iaload, 1) := by decide +kernel
theorem d_LW_law_653 : decode b_LW_law 653 = .ok (.invokevirtual 101, 3) := by decide +kernel
theorem d_LW_law_656 : decode b_LW_law 656 = .ok (.istore 6, 2) := by decide +kernel
theorem d_LW_law_658 : decode b_LW_law 658 = .ok (.aload_n 2, 1) := by decide +kernel
theorem d_LW_law_659 : decode b_LW_law 659 = .ok (.invokevirtual 67, 3) := by decide +kernel
theorem d_LW_law_662 : decode b_LW_law 662 = .ok (.iload 5, 2) := by decide +kernel
theorem d_LW_law_664 : decode b_LW_law 664 = .ok (.if_icmp .eq 5, 3) := by decide +kernel
theorem d_LW_law_669 : decode b_LW_law 669 = .ok (.iload 5, 2) := by decide +kernel
theorem d_LW_law_671 : decode b_LW_law 671 = .ok (.ifCond .ne 15, 3) := by decide +kernel
theorem d_LW_law_674 : decode b_LW_law 674 = .ok (.aload_n 3, 1) := by decide +kernel
theorem d_LW_law_675 : decode b_LW_law 675 = .ok (.iconst 0, 1) := by decide +kernel
theorem d_LW_law_676 : decode b_LW_law 676 = .ok (.laload, 1) := by decide +kernel
theorem d_LW_law_677 : decode b_LW_law 677 = .ok (.iload 6, 2) := by decide +kernel
theorem d_LW_law_679 : decode b_LW_law 679 = .ok (.i2l, 1) := by decide +kernel
theorem d_LW_law_680 : decode b_LW_law 680 = .ok (.lcmp, 1) := by decide +kernel
theorem d_LW_law_681 : decode b_LW_law 681 = .ok (.ifCond .eq 5, 3) := by decide +kernel
theorem d_LW_law_686 : decode b_LW_law 686 = .ok (.goto 131, 3) := by decide +kernel
theorem d_LW_law_689 : decode b_LW_law 689 = .ok (.aload_n 1, 1) := by decide +kernel
theorem d_LW_law_690 : decode b_LW_law 690 = .ok (.aload_n 0, 1) := by decide +kernel
theorem d_LW_law_691 : decode b_LW_law 691 = .ok (.iload 4, 2) := by decide +kernel
theorem d_LW_law_693 : decode b_LW_law 693 = .ok (.iconst 1, 1) := by decide +kernel
theorem d_LW_law_694 : decode b_LW_law 694 = .ok (.iadd, 1) := by decide +kernel
theorem d_LW_law_695 : decode b_LW_law 695 = .ok (.iaload, 1) := by decide +kernel
theorem d_LW_law_696 : decode b_LW_law 696 = .ok (.aload_n 0, 1) := by decide +kernel
theorem d_LW_law_697 : decode b_LW_law 697 = .ok (.iload 4, 2) := by decide +kernel
theorem d_LW_law_699 : decode b_LW_law 699 = .ok (.iconst 2, 1) := by decide +kernel
theorem d_LW_law_700 : decode b_LW_law 700 = .ok (.iadd, 1) := by decide +kernel
theorem d_LW_law_701 : decode b_LW_law 701 = .ok (.iaload, 1) := by decide +kernel
theorem d_LW_law_702 : decode b_LW_law 702 = .ok (.aload_n 3, 1) := by decide +kernel
theorem d_LW_law_703 : decode b_LW_law 703 = .ok (.invokestatic 102, 3) := by decide +kernel
theorem d_LW_law_706 : decode b_LW_law 706 = .ok (.istore 5, 2) := by decide +kernel
theorem d_LW_law_708 : decode b_LW_law 708 = .ok (.aload_n 2, 1) := by decide +kernel
theorem d_LW_law_709 : decode b_LW_law 709 = .ok (.aload_n 0, 1) := by decide +kernel
theorem d_LW_law_710 : decode b_LW_law 710 = .ok (.iload 4, 2) := by decide +kernel
theorem d_LW_law_712 : decode b_LW_law 712 = .ok (.iconst 1, 1) := by decide +kernel
theorem d_LW_law_713 : decode b_LW_law 713 = .ok (.iadd, 1) := by decide +kernel
theorem d_LW_law_714 : decode b_LW_law 714 = .ok (.iaload, 1) := by decide +kernel
theorem d_LW_law_715 : decode b_LW_law 715 = .ok (.aload_n 0, 1) := by decide +kernel
theorem d_LW_law_716 : decode b_LW_law 716 = .ok (.iload 4, 2) := by decide +kernel
theorem d_LW_law_718 : decode b_LW_law 718 = .ok (.iconst 2, 1) := by decide +kernel
theorem d_LW_law_719 : decode b_LW_law 719 = .ok (.iadd, 1) := by decide +kernel
theorem d_LW_law_720 : decode b_LW_law 720 = .ok (.iaload, 1) := by decide +kernel
theorem d_LW_law_721 : decode b_LW_law 721 = .ok (.invokevirtual 104, 3) := by decide +kernel
theorem d_LW_law_724 : decode b_LW_law 724 = .ok (.istore 6, 2) := by decide +kernel
theorem d_LW_law_726 : decode b_LW_law 726 = .ok (.aload_n 2, 1) := by decide +kernel
theorem d_LW_law_727 : decode b_LW_law 727 = .ok (.invokevirtual 67, 3) := by decide +kernel
theorem d_LW_law_730 : decode b_LW_law 730 = .ok (.iload 5, 2) := by decide +kernel
theorem d_LW_law_732 : decode b_LW_law 732 = .ok (.if_icmp .eq 5, 3) := by decide +kernel
theorem d_LW_law_737 : decode b_LW_law 737 = .ok (.iload 5, 2) := by decide +kernel
theorem d_LW_law_739 : decode b_LW_law 739 = .ok (.ifCond .ne 15, 3) := by decide +kernel
theorem d_LW_law_742 : decode b_LW_law 742 = .ok (.aload_n 3, 1) := by decide +kernel
theorem d_LW_law_743 : decode b_LW_law 743 = .ok (.iconst 0, 1) := by decide +kernel
theorem d_LW_law_744 : decode b_LW_law 744 = .ok (.laload, 1) := by decide +kernel
theorem d_LW_law_745 : decode b_LW_law 745 = .ok (.iload 6, 2) := by decide +kernel
theorem d_LW_law_747 : decode b_LW_law 747 = .ok (.i2l, 1) := by decide +kernel
theorem d_LW_law_748 : decode b_LW_law 748 = .ok (.lcmp, 1) := by decide +kernel
theorem d_LW_law_749 : decode b_LW_law 749 = .ok (.ifCond .eq 5, 3) := by decide +kernel
theorem d_LW_law_754 : decode b_LW_law 754 = .ok (.goto 63, 3) := by decide +kernel
theorem d_LW_law_757 : decode b_LW_law 757 = .ok (.aload_n 1, 1) := by decide +kernel
theorem d_LW_law_758 : decode b_LW_law 758 = .ok (.aload_n 0, 1) := by decide +kernel
theorem d_LW_law_759 : decode b_LW_law 759 = .ok (.iload 4, 2) := by decide +kernel
theorem d_LW_law_761 : decode b_LW_law 761 = .ok (.iconst 1, 1) := by decide +kernel
theorem d_LW_law_762 : decode b_LW_law 762 = .ok (.iadd, 1) := by decide +kernel
theorem d_LW_law_763 : decode b_LW_law 763 = .ok (.iaload, 1) := by decide +kernel
theorem d_LW_law_764 : decode b_LW_law 764 = .ok (.aload_n 0, 1) := by decide +kernel
theorem d_LW_law_765 : decode b_LW_law 765 = .ok (.iload 4, 2) := by decide +kernel
theorem d_LW_law_767 : decode b_LW_law 767 = .ok (.iconst 2, 1) := by decide +kernel
theorem d_LW_law_768 : decode b_LW_law 768 = .ok (.iadd, 1) := by decide +kernel
theorem d_LW_law_769 : decode b_LW_law 769 = .ok (.iaload, 1) := by decide +kernel
theorem d_LW_law_770 : decode b_LW_law 770 = .ok (.aload_n 0, 1) := by decide +kernel
theorem d_LW_law_771 : decode b_LW_law 771 = .ok (.iload 4, 2) := by decide +kernel
theorem d_LW_law_773 : decode b_LW_law 773 = .ok (.iconst 3, 1) := by decide +kernel
theorem d_LW_law_774 : decode b_LW_law 774 = .ok (.iadd, 1) := by decide +kernel
theorem d_LW_law_775 : decode b_LW_law 775 = .ok (.iaload, 1) := by decide +kernel
theorem d_LW_law_776 : decode b_LW_law 776 = .ok (.invokestatic 105, 3) := by decide +kernel
theorem d_LW_law_779 : decode b_LW_law 779 = .ok (.istore 5, 2) := by decide +kernel
theorem d_LW_law_781 : decode b_LW_law 781 = .ok (.aload_n 2, 1) := by decide +kernel
theorem d_LW_law_782 : decode b_LW_law 782 = .ok (.aload_n 0, 1) := by decide +kernel
theorem d_LW_law_783 : decode b_LW_law 783 = .ok (.iload 4, 2) := by decide +kernel
theorem d_LW_law_785 : decode b_LW_law 785 = .ok (.iconst 1, 1) := by decide +kernel
theorem d_LW_law_786 : decode b_LW_law 786 = .ok (.iadd, 1) := by decide +kernel
theorem d_LW_law_787 : decode b_LW_law 787 = .ok (.iaload, 1) := by decide +kernel
theorem d_LW_law_788 : decode b_LW_law 788 = .ok (.aload_n 0, 1) := by decide +kernel
theorem d_LW_law_789 : decode b_LW_law 789 = .ok (.iload 4, 2) := by decide +kernel
theorem d_LW_law_791 : decode b_LW_law 791 = .ok (.iconst 2, 1) := by decide +kernel
theorem d_LW_law_792 : decode b_LW_law 792 = .ok (.iadd, 1) := by decide +kernel
theorem d_LW_law_793 : decode b_LW_law 793 = .ok (.iaload, 1) := by decide +kernel
theorem d_LW_law_794 : decode b_LW_law 794 = .ok (.aload_n 0, 1) := by decide +kernel
theorem d_LW_law_795 : decode b_LW_law 795 = .ok (.iload 4, 2) := by decide +kernel
theorem d_LW_law_797 : decode b_LW_law 797 = .ok (.iconst 3, 1) := by decide +kernel
theorem d_LW_law_798 : decode b_LW_law 798 = .ok (.iadd, 1) := by decide +kernel
theorem d_LW_law_799 : decode b_LW_law 799 = .ok (.iaload, 1) := by decide +kernel
theorem d_LW_law_800 : decode b_LW_law 800 = .ok (.invokevirtual 108, 3) := by decide +kernel
theorem d_LW_law_803 : decode b_LW_law 803 = .ok (.aload_n 2, 1) := by decide +kernel
theorem d_LW_law_804 : decode b_LW_law 804 = .ok (.invokevirtual 67, 3) := by decide +kernel
theorem d_LW_law_807 : decode b_LW_law 807 = .ok (.iload 5, 2) := by decide +kernel
theorem d_LW_law_809 : decode b_LW_law 809 = .ok (.if_icmp .eq 5, 3) := by decide +kernel
theorem d_LW_law_814 : decode b_LW_law 814 = .ok (.goto 3, 3) := by decide +kernel
theorem d_LW_law_817 : decode b_LW_law 817 = .ok (.iinc 4 4, 3) := by decide +kernel
theorem d_LW_law_820 : decode b_LW_law 820 = .ok (.goto (-797), 3) := by decide +kernel
theorem d_LW_law_823 : decode b_LW_law 823 = .ok (.iconst 1, 1) := by decide +kernel
theorem d_LW_law_824 : decode b_LW_law 824 = .ok (.ireturn, 1) := by decide +kernel
/-! THE CLAIM OUT OF ONE WALK OF THE LAW'S BODY. Your part is whole_start (and what it stands on); all else here is the same for every law, but numbers. -/
def R_law : String := "ShadowFilesLaw"
def lw_P (b : Addr) (xs : List Int32) (args : Array Value) (s : State) : Prop := args = #[.ref b] ∧ s.IntsAt b xs ∧ xs.length ≤ 2048 ∧ (Jvm.Cond.and given_1 narrow_1).before args s = true
def lw_Q (_ : Array Value) (s : State) (o : Outcome) (t : State) : Prop := o = .returned (some (.int 1)) ∧ Framed s o t [] 601024 7293034
def lw_Z (below : List Frame) (a : Array Value) (s : State) : State → Prop := fun t => ∃ o, t.status = .running ∧ Ended t below o ∧ lw_Q a s o t
/-- the law's own end, with 1 on the stack, nothing written that was there before, its room as the claim has it -/
theorem lw_ret {p : Program} {l : Launch} {e : Env} {s : State} {m : MethodId} {below : List Frame} {meth : Method} {c : Code} {b : Nat} (hx : p.tables.exec = Jvm.exec) (hb : c.code = code) (hr : meth.sig.returnType = ret) (hlocks : meth.locks = false) {pc : Nat} {H : Heap} {ls : Array Slot} (hdg : decode code pc = .ok (.ireturn, 1)) : W p l e room_1 s m #[Value.ref b] below meth c H [] 601024 7293034 (lw_Z below #[Value.ref b] s) (F0 m pc ls [.int 1]) := by
  intro T hT X
  obtain ⟨fs, hret, hrun, hended, hW, hframe⟩ := X.leave (v := some (.int 1)) (hlocks := hlocks) (fun h => by rw [hr] at h; cases h)
  have hmeth' : T.vm.method? m = some meth := X.method'
  refine ⟨T.setFrames fs, ?_, .returned (some (.int 1)), hrun, hended, rfl, ⟨_, rfl⟩, hW, hframe⟩
  jvm_step X.here [X.here.top, hx, hb, hdg, hmeth', hr, ret, narrow_b1]
  (try refine ⟨rfl, ?_⟩); (try refine ⟨rfl, ?_⟩)
  first | (intro acts; rw [hret _ acts rfl rfl rfl]) | rw [hret _ _ rfl rfl rfl]
  exact Steps.refl _
/-- what holds at the law's entry: the machine, the code, the tables' words (any of lw_tbl by 'hts w (by decide +kernel)'), the script of L ints xs at the cell b, what the Statement gives of the start (any of its parts by flat_of_before) -/
def lw_At (p : Program) (s : State) (m : MethodId) (meth : Method) (c : Code) (b L : Nat) (xs : Nat → Int32) : Prop :=
  p.tables.exec = Jvm.exec ∧ c.code = code ∧ meth.sig.returnType = ret ∧ c.maxLocals = 7 ∧ s.vm.findClass R_law = some m.cls ∧ (∀ w ∈ lw_tbl, w.before #[Value.ref b] s = true) ∧ va_X b L xs s s.heap ∧ b < s.heap.size ∧ meth.locks = false ∧ (Jvm.Cond.and given_1 narrow_1).before #[Value.ref b] s = true
theorem sf_sub : ∀ w ∈ sf_tb, w ∈ lw_tbl := fun _ h => (List.mem_filter.mp h).1
theorem sf_Pswap {D : va_G} {cl : List vw_C} {X Y Z : va_W} {H : Heap} (h : va_P D cl ((X ++ Y) ++ Z) H) : va_P D cl ((X ++ Z) ++ Y) H := va_P.app (va_P.app (sf_Pl (sf_Pl h)) (sf_Pr h)) (sf_Pr (sf_Pl h))
theorem sf_Dswap {A : Nat → Prop} {X Y Z : va_W} (h : va_D A ((X ++ Y) ++ Z)) : va_D A ((X ++ Z) ++ Y) := by
  have hl : ∀ (k : Nat) (q : Nat × va_E), X[k]? = some q → (X ++ Y)[k]? = some q := fun k q hq => by rw [List.getElem?_append_left (List.getElem?_eq_some_iff.mp hq).1]; exact hq
  have hr : ∀ (k : Nat) (q : Nat × va_E), Y[k]? = some q → (X ++ Y)[X.length + k]? = some q := fun k q hq => by rw [List.getElem?_append_right (by omega), Nat.add_sub_cancel_left]; exact hq
  refine va_D.app (va_D.app (sf_Dl (sf_Dl h)) (sf_Dr h) (fun i j x y hx hy hxy => sf_apart h (hl i x hx) hy hxy)) (sf_Dr (sf_Dl h)) (fun i j x y hx hy hxy => ?_)
  by_cases c : i < X.length
  · rw [List.getElem?_append_left c] at hx
    exact sf_apart (sf_Dl h) hx hy hxy
  · rw [List.getElem?_append_right (by omega)] at hx
    exact sf_apart h (hr j y hy) hx hxy.symm
theorem lw_hj {L j : Nat} (hL : L < 100000) (h1 : 4 * j ≤ L) (h : ¬ nI L - 4 < nI (4 * j)) : 4 * j + 4 ≤ L := by
  rw [Int32.lt_iff_toInt_lt, show (nI L - 4 : Int32) = nI L - nI 4 from rfl, pk_sub_toInt (by omega) (by omega), nI_toInt (by omega)] at h
  omega
theorem lw_arr_int {args : Array Value} {s : State} (h : (Cond.arrayClass .int).before args s = true) : ∃ cA : ClassId, ArrOfT s cA .int ∧ va_RA s cA .int := by
  obtain ⟨cA, kA, comp, h1, h2, h3⟩ := Cond.arrayClass_spec h
  exact ⟨cA, fun n z => ⟨fun k h => (by cases h), kA, h2, comp, h3⟩, h1⟩
theorem lw_arr_boolean {args : Array Value} {s : State} (h : (Cond.arrayClass .boolean).before args s = true) : ∃ cA : ClassId, ArrOfT s cA .boolean ∧ va_RA s cA .boolean := by
  obtain ⟨cA, kA, comp, h1, h2, h3⟩ := Cond.arrayClass_spec h
  exact ⟨cA, fun n z => ⟨fun k h => (by cases h), kA, h2, comp, h3⟩, h1⟩
theorem lw_arr_long {args : Array Value} {s : State} (h : (Cond.arrayClass .long).before args s = true) : ∃ cA : ClassId, ArrOfT s cA .long ∧ va_RA s cA .long := by
  obtain ⟨cA, kA, comp, h1, h2, h3⟩ := Cond.arrayClass_spec h
  exact ⟨cA, fun n z => ⟨fun k h => (by cases h), kA, h2, comp, h3⟩, h1⟩
theorem md_td_feed_l56 {by0 : Int64} : ∀ (j : Nat) (vt : Nat → Int32) (vd : Nat), vd + j ≤ 60 → ∃ z : Nat, z ≤ 60 ∧ (f_MD_feed_l56 by0 j vt vd).2.2.2 = nI z
  | 0, vt, vd, h => ⟨vd, by omega, rfl⟩
  | j + 1, vt, vd, h => by
    unfold f_MD_feed_l56
    exact md_td_feed_l56 j _ _ (by omega)
theorem md_td_feed {xtp : Nat → Int32} {td : Nat} {by0 : Int64} {nn : Int32} {r : Int32 × Int32 × (Nat → Int32) × Int32} (htd : td ≤ 60) (h : r = f_MD_feed xtp td by0 nn) : ∃ z : Nat, z ≤ 60 ∧ r.2.2.2 = nI z := by
  rw [h]
  unfold f_MD_feed
  by_cases c : f_MD_in nn 1 8 = 0
  · rw [if_pos c]; exact ⟨td, htd, rfl⟩
  · rw [if_neg c]
    by_cases d : nI (td + nn.toNatClampNeg) ≤ 60
    · rw [if_pos d]
      obtain ⟨-, h1, h2⟩ := sf_nat8 rfl c
      exact md_td_feed_l56 _ _ _ ((nI_leI (b := 60) (by omega) (by omega)).mp d)
    · rw [if_neg d]; exact ⟨td, htd, rfl⟩
set_option maxHeartbeats 1000000 in
theorem md_td_write {xB : Nat → Int32} {xsh : Int32} {xcu : Int32} {xtp : Nat → Int32} {xpa : Nat → Int32} {xsp : Int32} {xwh : Int32} {xhe : Nat → Int32} {xho : Int32} {xtk : Nat → Int32} {xto : Nat → Int32} {xwa : Nat → Int32} {xmn : Int32} {td : Nat} {ro : Int32} {mo : Int32} {r : Int32 × Int32 × (Nat → Int32) × Int32 × Int32 × Int32 × (Nat → Int32) × Int32 × Int32 × (Nat → Int32) × Int32 × (Nat → Int32) × (Nat → Int32) × (Nat → Int32) × Int32} (htd : td ≤ 60) (h : r = f_MD_write xB xsh xcu xtp xpa xsp xwh xhe xho xtk xto xwa xmn td ro mo) : ∃ z : Nat, z ≤ 60 ∧ r.2.2.2.2.2.1 = nI z := by
  rw [h]
  unfold f_MD_write
  repeat' split
  all_goals first | exact ⟨td, htd, rfl⟩ | exact ⟨0, by omega, rfl⟩
