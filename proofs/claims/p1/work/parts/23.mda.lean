/-! mda: contracts, with the pure functions that they speak of (printed by wip/gen) -/
theorem d_MD_cut_0 : decode b_MD_cut 0 = .ok (.aload_n 0, 1) := by decide +kernel
theorem d_MD_cut_1 : decode b_MD_cut 1 = .ok (.iload_n 1, 1) := by decide +kernel
theorem d_MD_cut_2 : decode b_MD_cut 2 = .ok (.iconst (-1), 1) := by decide +kernel
theorem d_MD_cut_3 : decode b_MD_cut 3 = .ok (.sipush 200, 3) := by decide +kernel
theorem d_MD_cut_6 : decode b_MD_cut 6 = .ok (.invokestatic 44, 3) := by decide +kernel
theorem d_MD_cut_9 : decode b_MD_cut 9 = .ok (.ifCond .ne 7, 3) := by decide +kernel
theorem d_MD_cut_12 : decode b_MD_cut 12 = .ok (.iconst 1, 1) := by decide +kernel
theorem d_MD_cut_13 : decode b_MD_cut 13 = .ok (.goto 4, 3) := by decide +kernel
theorem d_MD_cut_16 : decode b_MD_cut 16 = .ok (.iconst 0, 1) := by decide +kernel
theorem d_MD_cut_17 : decode b_MD_cut 17 = .ok (.iconst 0, 1) := by decide +kernel
theorem d_MD_cut_18 : decode b_MD_cut 18 = .ok (.iconst 0, 1) := by decide +kernel
theorem d_MD_cut_19 : decode b_MD_cut 19 = .ok (.iconst 0, 1) := by decide +kernel
theorem d_MD_cut_20 : decode b_MD_cut 20 = .ok (.invokevirtual 117, 3) := by decide +kernel
theorem d_MD_cut_23 : decode b_MD_cut 23 = .ok (.ifCond .eq 4, 3) := by decide +kernel
theorem d_MD_cut_26 : decode b_MD_cut 26 = .ok (.return_, 1) := by decide +kernel
theorem d_MD_cut_27 : decode b_MD_cut 27 = .ok (.aload_n 0, 1) := by decide +kernel
theorem d_MD_cut_28 : decode b_MD_cut 28 = .ok (.iload_n 1, 1) := by decide +kernel
theorem d_MD_cut_29 : decode b_MD_cut 29 = .ok (.putfield 13, 3) := by decide +kernel
theorem d_MD_cut_32 : decode b_MD_cut 32 = .ok (.return_, 1) := by decide +kernel
theorem d_MD_open_0 : decode b_MD_open 0 = .ok (.aload_n 0, 1) := by decide +kernel
theorem d_MD_open_1 : decode b_MD_open 1 = .ok (.iconst 0, 1) := by decide +kernel
theorem d_MD_open_2 : decode b_MD_open 2 = .ok (.putfield 36, 3) := by decide +kernel
theorem d_MD_open_5 : decode b_MD_open 5 = .ok (.aload_n 0, 1) := by decide +kernel
theorem d_MD_open_6 : decode b_MD_open 6 = .ok (.iconst 0, 1) := by decide +kernel
theorem d_MD_open_7 : decode b_MD_open 7 = .ok (.putfield 111, 3) := by decide +kernel
theorem d_MD_open_10 : decode b_MD_open 10 = .ok (.iconst 0, 1) := by decide +kernel
theorem d_MD_open_11 : decode b_MD_open 11 = .ok (.istore_n 1, 1) := by decide +kernel
theorem d_MD_open_12 : decode b_MD_open 12 = .ok (.iconst 0, 1) := by decide +kernel
theorem d_MD_open_13 : decode b_MD_open 13 = .ok (.istore_n 2, 1) := by decide +kernel
theorem d_MD_open_14 : decode b_MD_open 14 = .ok (.iload_n 2, 1) := by decide +kernel
theorem d_MD_open_15 : decode b_MD_open 15 = .ok (.bipush 12, 2) := by decide +kernel
theorem d_MD_open_17 : decode b_MD_open 17 = .ok (.if_icmp .ge 25, 3) := by decide +kernel
theorem d_MD_open_20 : decode b_MD_open 20 = .ok (.iload_n 1, 1) := by decide +kernel
theorem d_MD_open_21 : decode b_MD_open 21 = .ok (.aload_n 0, 1) := by decide +kernel
theorem d_MD_open_22 : decode b_MD_open 22 = .ok (.iload_n 2, 1) := by decide +kernel
theorem d_MD_open_23 : decode b_MD_open 23 = .ok (.invokevirtual 95, 3) := by decide +kernel
theorem d_MD_open_26 : decode b_MD_open 26 = .ok (.ifCond .eq 7, 3) := by decide +kernel
theorem d_MD_open_29 : decode b_MD_open 29 = .ok (.iconst 1, 1) := by decide +kernel
theorem d_MD_open_30 : decode b_MD_open 30 = .ok (.goto 4, 3) := by decide +kernel
theorem d_MD_open_33 : decode b_MD_open 33 = .ok (.iconst 0, 1) := by decide +kernel
theorem d_MD_open_34 : decode b_MD_open 34 = .ok (.iadd, 1) := by decide +kernel
theorem d_MD_open_35 : decode b_MD_open 35 = .ok (.istore_n 1, 1) := by decide +kernel
theorem d_MD_open_36 : decode b_MD_open 36 = .ok (.iinc 2 1, 3) := by decide +kernel
theorem d_MD_open_39 : decode b_MD_open 39 = .ok (.goto (-25), 3) := by decide +kernel
theorem d_MD_open_42 : decode b_MD_open 42 = .ok (.iload_n 1, 1) := by decide +kernel
theorem d_MD_open_43 : decode b_MD_open 43 = .ok (.ireturn, 1) := by decide +kernel
theorem d_MD_row_0 : decode b_MD_row 0 = .ok (.iload_n 1, 1) := by decide +kernel
theorem d_MD_row_1 : decode b_MD_row 1 = .ok (.iconst 0, 1) := by decide +kernel
theorem d_MD_row_2 : decode b_MD_row 2 = .ok (.bipush 11, 2) := by decide +kernel
theorem d_MD_row_4 : decode b_MD_row 4 = .ok (.invokestatic 44, 3) := by decide +kernel
theorem d_MD_row_7 : decode b_MD_row 7 = .ok (.ifCond .eq 8, 3) := by decide +kernel
theorem d_MD_row_10 : decode b_MD_row 10 = .ok (.iload_n 2, 1) := by decide +kernel
theorem d_MD_row_11 : decode b_MD_row 11 = .ok (.iconst (-1), 1) := by decide +kernel
theorem d_MD_row_12 : decode b_MD_row 12 = .ok (.if_icmp .ge 7, 3) := by decide +kernel
theorem d_MD_row_15 : decode b_MD_row 15 = .ok (.iconst 1, 1) := by decide +kernel
theorem d_MD_row_16 : decode b_MD_row 16 = .ok (.goto 4, 3) := by decide +kernel
theorem d_MD_row_19 : decode b_MD_row 19 = .ok (.iconst 0, 1) := by decide +kernel
theorem d_MD_row_20 : decode b_MD_row 20 = .ok (.istore_n 3, 1) := by decide +kernel
theorem d_MD_row_21 : decode b_MD_row 21 = .ok (.aload_n 0, 1) := by decide +kernel
theorem d_MD_row_22 : decode b_MD_row 22 = .ok (.getfield 111, 3) := by decide +kernel
theorem d_MD_row_25 : decode b_MD_row 25 = .ok (.ifCond .ne 15, 3) := by decide +kernel
theorem d_MD_row_28 : decode b_MD_row 28 = .ok (.iload_n 3, 1) := by decide +kernel
theorem d_MD_row_29 : decode b_MD_row 29 = .ok (.ifCond .ne 15, 3) := by decide +kernel
theorem d_MD_row_32 : decode b_MD_row 32 = .ok (.aload_n 0, 1) := by decide +kernel
theorem d_MD_row_33 : decode b_MD_row 33 = .ok (.iload_n 1, 1) := by decide +kernel
theorem d_MD_row_34 : decode b_MD_row 34 = .ok (.invokevirtual 95, 3) := by decide +kernel
theorem d_MD_row_37 : decode b_MD_row 37 = .ok (.ifCond .ne 7, 3) := by decide +kernel
theorem d_MD_row_40 : decode b_MD_row 40 = .ok (.iconst 1, 1) := by decide +kernel
theorem d_MD_row_41 : decode b_MD_row 41 = .ok (.goto 4, 3) := by decide +kernel
theorem d_MD_row_44 : decode b_MD_row 44 = .ok (.iconst 0, 1) := by decide +kernel
theorem d_MD_row_45 : decode b_MD_row 45 = .ok (.istore 4, 2) := by decide +kernel
theorem d_MD_row_47 : decode b_MD_row 47 = .ok (.iload_n 3, 1) := by decide +kernel
theorem d_MD_row_48 : decode b_MD_row 48 = .ok (.ifCond .ne 13, 3) := by decide +kernel
theorem d_MD_row_51 : decode b_MD_row 51 = .ok (.iload 4, 2) := by decide +kernel
theorem d_MD_row_53 : decode b_MD_row 53 = .ok (.ifCond .ne 8, 3) := by decide +kernel
theorem d_MD_row_56 : decode b_MD_row 56 = .ok (.aload_n 0, 1) := by decide +kernel
theorem d_MD_row_57 : decode b_MD_row 57 = .ok (.iload_n 1, 1) := by decide +kernel
theorem d_MD_row_58 : decode b_MD_row 58 = .ok (.invokevirtual 91, 3) := by decide +kernel
theorem d_MD_row_61 : decode b_MD_row 61 = .ok (.iload_n 3, 1) := by decide +kernel
theorem d_MD_row_62 : decode b_MD_row 62 = .ok (.ifCond .ne 20, 3) := by decide +kernel
theorem d_MD_row_65 : decode b_MD_row 65 = .ok (.iload 4, 2) := by decide +kernel
theorem d_MD_row_67 : decode b_MD_row 67 = .ok (.ifCond .ne 15, 3) := by decide +kernel
theorem d_MD_row_70 : decode b_MD_row 70 = .ok (.iload_n 2, 1) := by decide +kernel
theorem d_MD_row_71 : decode b_MD_row 71 = .ok (.aload_n 0, 1) := by decide +kernel
theorem d_MD_row_72 : decode b_MD_row 72 = .ok (.getfield 73, 3) := by decide +kernel
theorem d_MD_row_75 : decode b_MD_row 75 = .ok (.if_icmp .lt 7, 3) := by decide +kernel
theorem d_MD_row_78 : decode b_MD_row 78 = .ok (.iconst 1, 1) := by decide +kernel
theorem d_MD_row_79 : decode b_MD_row 79 = .ok (.goto 4, 3) := by decide +kernel
theorem d_MD_row_82 : decode b_MD_row 82 = .ok (.iconst 0, 1) := by decide +kernel
theorem d_MD_row_83 : decode b_MD_row 83 = .ok (.istore 5, 2) := by decide +kernel
theorem d_MD_row_85 : decode b_MD_row 85 = .ok (.aload_n 0, 1) := by decide +kernel
theorem d_MD_row_86 : decode b_MD_row 86 = .ok (.iload_n 3, 1) := by decide +kernel
theorem d_MD_row_87 : decode b_MD_row 87 = .ok (.ifCond .ne 8, 3) := by decide +kernel
theorem d_MD_row_90 : decode b_MD_row 90 = .ok (.iload 5, 2) := by decide +kernel
theorem d_MD_row_92 : decode b_MD_row 92 = .ok (.ifCond .eq 7, 3) := by decide +kernel
theorem d_MD_row_95 : decode b_MD_row 95 = .ok (.iconst 1, 1) := by decide +kernel
theorem d_MD_row_96 : decode b_MD_row 96 = .ok (.goto 4, 3) := by decide +kernel
theorem d_MD_row_99 : decode b_MD_row 99 = .ok (.iconst 0, 1) := by decide +kernel
theorem d_MD_row_100 : decode b_MD_row 100 = .ok (.iload 4, 2) := by decide +kernel
theorem d_MD_row_102 : decode b_MD_row 102 = .ok (.iconst 0, 1) := by decide +kernel
theorem d_MD_row_103 : decode b_MD_row 103 = .ok (.iconst 0, 1) := by decide +kernel
theorem d_MD_row_104 : decode b_MD_row 104 = .ok (.invokevirtual 117, 3) := by decide +kernel
theorem d_MD_row_107 : decode b_MD_row 107 = .ok (.ifCond .eq 5, 3) := by decide +kernel
theorem d_MD_row_110 : decode b_MD_row 110 = .ok (.iconst 0, 1) := by decide +kernel
theorem d_MD_row_111 : decode b_MD_row 111 = .ok (.ireturn, 1) := by decide +kernel
theorem d_MD_row_112 : decode b_MD_row 112 = .ok (.iload_n 2, 1) := by decide +kernel
theorem d_MD_row_113 : decode b_MD_row 113 = .ok (.ifCond .ge 10, 3) := by decide +kernel
theorem d_MD_row_116 : decode b_MD_row 116 = .ok (.aload_n 0, 1) := by decide +kernel
theorem d_MD_row_117 : decode b_MD_row 117 = .ok (.getfield 73, 3) := by decide +kernel
theorem d_MD_row_120 : decode b_MD_row 120 = .ok (.goto 9, 3) := by decide +kernel
theorem d_MD_row_123 : decode b_MD_row 123 = .ok (.aload_n 0, 1) := by decide +kernel
theorem d_MD_row_124 : decode b_MD_row 124 = .ok (.getfield 23, 3) := by decide +kernel
theorem d_MD_row_127 : decode b_MD_row 127 = .ok (.iload_n 2, 1) := by decide +kernel
theorem d_MD_row_128 : decode b_MD_row 128 = .ok (.iaload, 1) := by decide +kernel
theorem d_MD_row_129 : decode b_MD_row 129 = .ok (.ireturn, 1) := by decide +kernel
theorem d_MD_at_0 : decode b_MD_at 0 = .ok (.iload_n 1, 1) := by decide +kernel
theorem d_MD_at_1 : decode b_MD_at 1 = .ok (.iconst 0, 1) := by decide +kernel
theorem d_MD_at_2 : decode b_MD_at 2 = .ok (.bipush 11, 2) := by decide +kernel
theorem d_MD_at_4 : decode b_MD_at 4 = .ok (.invokestatic 44, 3) := by decide +kernel
theorem d_MD_at_7 : decode b_MD_at 7 = .ok (.ifCond .eq 12, 3) := by decide +kernel
theorem d_MD_at_10 : decode b_MD_at 10 = .ok (.iload_n 2, 1) := by decide +kernel
theorem d_MD_at_11 : decode b_MD_at 11 = .ok (.iconst 0, 1) := by decide +kernel
theorem d_MD_at_12 : decode b_MD_at 12 = .ok (.iconst 3, 1) := by decide +kernel
theorem d_MD_at_13 : decode b_MD_at 13 = .ok (.invokestatic 44, 3) := by decide +kernel
theorem d_MD_at_16 : decode b_MD_at 16 = .ok (.ifCond .ne 7, 3) := by decide +kernel
theorem d_MD_at_19 : decode b_MD_at 19 = .ok (.iconst 1, 1) := by decide +kernel
theorem d_MD_at_20 : decode b_MD_at 20 = .ok (.goto 4, 3) := by decide +kernel
theorem d_MD_at_23 : decode b_MD_at 23 = .ok (.iconst 0, 1) := by decide +kernel
theorem d_MD_at_24 : decode b_MD_at 24 = .ok (.istore_n 3, 1) := by decide +kernel
theorem d_MD_at_25 : decode b_MD_at 25 = .ok (.aload_n 0, 1) := by decide +kernel
theorem d_MD_at_26 : decode b_MD_at 26 = .ok (.iload_n 3, 1) := by decide +kernel
theorem d_MD_at_27 : decode b_MD_at 27 = .ok (.aload_n 0, 1) := by decide +kernel
theorem d_MD_at_28 : decode b_MD_at 28 = .ok (.getfield 111, 3) := by decide +kernel
theorem d_MD_at_31 : decode b_MD_at 31 = .ok (.ifCond .ne 19, 3) := by decide +kernel
theorem d_MD_at_34 : decode b_MD_at 34 = .ok (.iload_n 3, 1) := by decide +kernel
theorem d_MD_at_35 : decode b_MD_at 35 = .ok (.ifCond .ne 19, 3) := by decide +kernel
theorem d_MD_at_38 : decode b_MD_at 38 = .ok (.iload_n 2, 1) := by decide +kernel
theorem d_MD_at_39 : decode b_MD_at 39 = .ok (.ifCond .le 15, 3) := by decide +kernel
theorem d_MD_at_42 : decode b_MD_at 42 = .ok (.aload_n 0, 1) := by decide +kernel
theorem d_MD_at_43 : decode b_MD_at 43 = .ok (.iload_n 1, 1) := by decide +kernel
theorem d_MD_at_44 : decode b_MD_at 44 = .ok (.invokevirtual 95, 3) := by decide +kernel
theorem d_MD_at_47 : decode b_MD_at 47 = .ok (.ifCond .ne 7, 3) := by decide +kernel
theorem d_MD_at_50 : decode b_MD_at 50 = .ok (.iconst 1, 1) := by decide +kernel
theorem d_MD_at_51 : decode b_MD_at 51 = .ok (.goto 4, 3) := by decide +kernel
theorem d_MD_at_54 : decode b_MD_at 54 = .ok (.iconst 0, 1) := by decide +kernel
theorem d_MD_at_55 : decode b_MD_at 55 = .ok (.iconst 0, 1) := by decide +kernel
theorem d_MD_at_56 : decode b_MD_at 56 = .ok (.iconst 0, 1) := by decide +kernel
theorem d_MD_at_57 : decode b_MD_at 57 = .ok (.invokevirtual 117, 3) := by decide +kernel
theorem d_MD_at_60 : decode b_MD_at 60 = .ok (.ifCond .eq 5, 3) := by decide +kernel
theorem d_MD_at_63 : decode b_MD_at 63 = .ok (.iconst 0, 1) := by decide +kernel
theorem d_MD_at_64 : decode b_MD_at 64 = .ok (.ireturn, 1) := by decide +kernel
theorem d_MD_at_65 : decode b_MD_at 65 = .ok (.iload_n 2, 1) := by decide +kernel
theorem d_MD_at_66 : decode b_MD_at 66 = .ok (.ifCond .ne 17, 3) := by decide +kernel
theorem d_MD_at_69 : decode b_MD_at 69 = .ok (.aload_n 0, 1) := by decide +kernel
theorem d_MD_at_70 : decode b_MD_at 70 = .ok (.iload_n 1, 1) := by decide +kernel
theorem d_MD_at_71 : decode b_MD_at 71 = .ok (.invokevirtual 95, 3) := by decide +kernel
theorem d_MD_at_74 : decode b_MD_at 74 = .ok (.ifCond .eq 7, 3) := by decide +kernel
theorem d_MD_at_77 : decode b_MD_at 77 = .ok (.iconst 1, 1) := by decide +kernel
theorem d_MD_at_78 : decode b_MD_at 78 = .ok (.goto 4, 3) := by decide +kernel
theorem d_MD_at_81 : decode b_MD_at 81 = .ok (.iconst 0, 1) := by decide +kernel
theorem d_MD_at_82 : decode b_MD_at 82 = .ok (.ireturn, 1) := by decide +kernel
theorem d_MD_at_83 : decode b_MD_at 83 = .ok (.iload_n 2, 1) := by decide +kernel
theorem d_MD_at_84 : decode b_MD_at 84 = .ok (.iconst 1, 1) := by decide +kernel
theorem d_MD_at_85 : decode b_MD_at 85 = .ok (.if_icmp .ne 17, 3) := by decide +kernel
theorem d_MD_at_88 : decode b_MD_at 88 = .ok (.aload_n 0, 1) := by decide +kernel
theorem d_MD_at_89 : decode b_MD_at 89 = .ok (.iload_n 1, 1) := by decide +kernel
theorem d_MD_at_90 : decode b_MD_at 90 = .ok (.invokevirtual 67, 3) := by decide +kernel
theorem d_MD_at_93 : decode b_MD_at 93 = .ok (.ifCond .eq 7, 3) := by decide +kernel
theorem d_MD_at_96 : decode b_MD_at 96 = .ok (.iconst 1, 1) := by decide +kernel
theorem d_MD_at_97 : decode b_MD_at 97 = .ok (.goto 4, 3) := by decide +kernel
theorem d_MD_at_100 : decode b_MD_at 100 = .ok (.iconst 0, 1) := by decide +kernel
theorem d_MD_at_101 : decode b_MD_at 101 = .ok (.ireturn, 1) := by decide +kernel
theorem d_MD_at_102 : decode b_MD_at 102 = .ok (.aload_n 0, 1) := by decide +kernel
theorem d_MD_at_103 : decode b_MD_at 103 = .ok (.iload_n 1, 1) := by decide +kernel
theorem d_MD_at_104 : decode b_MD_at 104 = .ok (.invokevirtual 137, 3) := by decide +kernel
theorem d_MD_at_107 : decode b_MD_at 107 = .ok (.istore 4, 2) := by decide +kernel
theorem d_MD_at_109 : decode b_MD_at 109 = .ok (.iload_n 2, 1) := by decide +kernel
theorem d_MD_at_110 : decode b_MD_at 110 = .ok (.iconst 2, 1) := by decide +kernel
theorem d_MD_at_111 : decode b_MD_at 111 = .ok (.if_icmp .ne 8, 3) := by decide +kernel
theorem d_MD_at_114 : decode b_MD_at 114 = .ok (.iload 4, 2) := by decide +kernel
theorem d_MD_at_116 : decode b_MD_at 116 = .ok (.goto 7, 3) := by decide +kernel
theorem d_MD_at_119 : decode b_MD_at 119 = .ok (.aload_n 0, 1) := by decide +kernel
theorem d_MD_at_120 : decode b_MD_at 120 = .ok (.getfield 70, 3) := by decide +kernel
theorem d_MD_at_123 : decode b_MD_at 123 = .ok (.ireturn, 1) := by decide +kernel
theorem d_MD_told_0 : decode b_MD_told 0 = .ok (.aload_n 0, 1) := by decide +kernel
theorem d_MD_told_1 : decode b_MD_told 1 = .ok (.iload_n 1, 1) := by decide +kernel
theorem d_MD_told_2 : decode b_MD_told 2 = .ok (.iconst 0, 1) := by decide +kernel
theorem d_MD_told_3 : decode b_MD_told 3 = .ok (.iconst 4, 1) := by decide +kernel
theorem d_MD_told_4 : decode b_MD_told 4 = .ok (.invokestatic 44, 3) := by decide +kernel
theorem d_MD_told_7 : decode b_MD_told 7 = .ok (.ifCond .ne 7, 3) := by decide +kernel
theorem d_MD_told_10 : decode b_MD_told 10 = .ok (.iconst 1, 1) := by decide +kernel
theorem d_MD_told_11 : decode b_MD_told 11 = .ok (.goto 4, 3) := by decide +kernel
theorem d_MD_told_14 : decode b_MD_told 14 = .ok (.iconst 0, 1) := by decide +kernel
theorem d_MD_told_15 : decode b_MD_told 15 = .ok (.aload_n 0, 1) := by decide +kernel
theorem d_MD_told_16 : decode b_MD_told 16 = .ok (.getfield 111, 3) := by decide +kernel
theorem d_MD_told_19 : decode b_MD_told 19 = .ok (.ifCond .eq 12, 3) := by decide +kernel
theorem d_MD_told_22 : decode b_MD_told 22 = .ok (.iload_n 1, 1) := by decide +kernel
theorem d_MD_told_23 : decode b_MD_told 23 = .ok (.iconst 4, 1) := by decide +kernel
theorem d_MD_told_24 : decode b_MD_told 24 = .ok (.if_icmp .ge 7, 3) := by decide +kernel
theorem d_MD_told_27 : decode b_MD_told 27 = .ok (.iconst 1, 1) := by decide +kernel
theorem d_MD_told_28 : decode b_MD_told 28 = .ok (.goto 4, 3) := by decide +kernel
theorem d_MD_told_31 : decode b_MD_told 31 = .ok (.iconst 0, 1) := by decide +kernel
theorem d_MD_told_32 : decode b_MD_told 32 = .ok (.iconst 0, 1) := by decide +kernel
theorem d_MD_told_33 : decode b_MD_told 33 = .ok (.iconst 0, 1) := by decide +kernel
theorem d_MD_told_34 : decode b_MD_told 34 = .ok (.invokevirtual 117, 3) := by decide +kernel
theorem d_MD_told_37 : decode b_MD_told 37 = .ok (.ifCond .eq 5, 3) := by decide +kernel
theorem d_MD_told_40 : decode b_MD_told 40 = .ok (.iconst 0, 1) := by decide +kernel
theorem d_MD_told_41 : decode b_MD_told 41 = .ok (.ireturn, 1) := by decide +kernel
theorem d_MD_told_42 : decode b_MD_told 42 = .ok (.iload_n 1, 1) := by decide +kernel
theorem d_MD_told_43 : decode b_MD_told 43 = .ok (.iconst 2, 1) := by decide +kernel
theorem d_MD_told_44 : decode b_MD_told 44 = .ok (.if_icmp .ge 18, 3) := by decide +kernel
theorem d_MD_told_47 : decode b_MD_told 47 = .ok (.aload_n 0, 1) := by decide +kernel
theorem d_MD_told_48 : decode b_MD_told 48 = .ok (.iload_n 1, 1) := by decide +kernel
theorem d_MD_told_49 : decode b_MD_told 49 = .ok (.iconst 1, 1) := by decide +kernel
theorem d_MD_told_50 : decode b_MD_told 50 = .ok (.if_icmp .ne 7, 3) := by decide +kernel
theorem d_MD_told_53 : decode b_MD_told 53 = .ok (.iconst 1, 1) := by decide +kernel
theorem d_MD_told_54 : decode b_MD_told 54 = .ok (.goto 4, 3) := by decide +kernel
theorem d_MD_told_57 : decode b_MD_told 57 = .ok (.iconst 0, 1) := by decide +kernel
theorem d_MD_told_58 : decode b_MD_told 58 = .ok (.invokevirtual 123, 3) := by decide +kernel
theorem d_MD_told_61 : decode b_MD_told 61 = .ok (.ireturn, 1) := by decide +kernel
theorem d_MD_told_62 : decode b_MD_told 62 = .ok (.iload_n 1, 1) := by decide +kernel
theorem d_MD_told_63 : decode b_MD_told 63 = .ok (.iconst 2, 1) := by decide +kernel
theorem d_MD_told_64 : decode b_MD_told 64 = .ok (.if_icmp .ne 11, 3) := by decide +kernel
theorem d_MD_told_67 : decode b_MD_told 67 = .ok (.aload_n 0, 1) := by decide +kernel
theorem d_MD_told_68 : decode b_MD_told 68 = .ok (.iconst 0, 1) := by decide +kernel
theorem d_MD_told_69 : decode b_MD_told 69 = .ok (.invokevirtual 64, 3) := by decide +kernel
theorem d_MD_told_72 : decode b_MD_told 72 = .ok (.goto 19, 3) := by decide +kernel
theorem d_MD_told_75 : decode b_MD_told 75 = .ok (.iload_n 1, 1) := by decide +kernel
theorem d_MD_told_76 : decode b_MD_told 76 = .ok (.iconst 3, 1) := by decide +kernel
theorem d_MD_told_77 : decode b_MD_told 77 = .ok (.if_icmp .ne 10, 3) := by decide +kernel
theorem d_MD_told_80 : decode b_MD_told 80 = .ok (.aload_n 0, 1) := by decide +kernel
theorem d_MD_told_81 : decode b_MD_told 81 = .ok (.invokevirtual 60, 3) := by decide +kernel
theorem d_MD_told_84 : decode b_MD_told 84 = .ok (.goto 7, 3) := by decide +kernel
theorem d_MD_told_87 : decode b_MD_told 87 = .ok (.aload_n 0, 1) := by decide +kernel
theorem d_MD_told_88 : decode b_MD_told 88 = .ok (.getfield 114, 3) := by decide +kernel
theorem d_MD_told_91 : decode b_MD_told 91 = .ok (.ireturn, 1) := by decide +kernel
theorem d_MD_isWrong_0 : decode b_MD_isWrong 0 = .ok (.iload_n 1, 1) := by decide +kernel
theorem d_MD_isWrong_1 : decode b_MD_isWrong 1 = .ok (.iconst 2, 1) := by decide +kernel
theorem d_MD_isWrong_2 : decode b_MD_isWrong 2 = .ok (.if_icmp .ge 41, 3) := by decide +kernel
theorem d_MD_isWrong_5 : decode b_MD_isWrong 5 = .ok (.aload_n 0, 1) := by decide +kernel
theorem d_MD_isWrong_6 : decode b_MD_isWrong 6 = .ok (.getfield 26, 3) := by decide +kernel
theorem d_MD_isWrong_9 : decode b_MD_isWrong 9 = .ok (.iload_n 2, 1) := by decide +kernel
theorem d_MD_isWrong_10 : decode b_MD_isWrong 10 = .ok (.baload, 1) := by decide +kernel
theorem d_MD_isWrong_11 : decode b_MD_isWrong 11 = .ok (.ifCond .eq 30, 3) := by decide +kernel
theorem d_MD_isWrong_14 : decode b_MD_isWrong 14 = .ok (.aload_n 0, 1) := by decide +kernel
theorem d_MD_isWrong_15 : decode b_MD_isWrong 15 = .ok (.iload_n 1, 1) := by decide +kernel
theorem d_MD_isWrong_16 : decode b_MD_isWrong 16 = .ok (.iconst 1, 1) := by decide +kernel
theorem d_MD_isWrong_17 : decode b_MD_isWrong 17 = .ok (.if_icmp .ne 7, 3) := by decide +kernel
theorem d_MD_isWrong_20 : decode b_MD_isWrong 20 = .ok (.iconst 1, 1) := by decide +kernel
theorem d_MD_isWrong_21 : decode b_MD_isWrong 21 = .ok (.goto 4, 3) := by decide +kernel
theorem d_MD_isWrong_24 : decode b_MD_isWrong 24 = .ok (.iconst 0, 1) := by decide +kernel
theorem d_MD_isWrong_25 : decode b_MD_isWrong 25 = .ok (.iload_n 2, 1) := by decide +kernel
theorem d_MD_isWrong_26 : decode b_MD_isWrong 26 = .ok (.invokestatic 84, 3) := by decide +kernel
theorem d_MD_isWrong_29 : decode b_MD_isWrong 29 = .ok (.bipush 28, 2) := by decide +kernel
theorem d_MD_isWrong_31 : decode b_MD_isWrong 31 = .ok (.invokevirtual 48, 3) := by decide +kernel
theorem d_MD_isWrong_34 : decode b_MD_isWrong 34 = .ok (.ifCond .ne 7, 3) := by decide +kernel
theorem d_MD_isWrong_37 : decode b_MD_isWrong 37 = .ok (.iconst 1, 1) := by decide +kernel
theorem d_MD_isWrong_38 : decode b_MD_isWrong 38 = .ok (.goto 4, 3) := by decide +kernel
theorem d_MD_isWrong_41 : decode b_MD_isWrong 41 = .ok (.iconst 0, 1) := by decide +kernel
theorem d_MD_isWrong_42 : decode b_MD_isWrong 42 = .ok (.ireturn, 1) := by decide +kernel
theorem d_MD_isWrong_43 : decode b_MD_isWrong 43 = .ok (.iconst 0, 1) := by decide +kernel
theorem d_MD_isWrong_44 : decode b_MD_isWrong 44 = .ok (.istore_n 3, 1) := by decide +kernel
theorem d_MD_isWrong_45 : decode b_MD_isWrong 45 = .ok (.iconst 0, 1) := by decide +kernel
theorem d_MD_isWrong_46 : decode b_MD_isWrong 46 = .ok (.istore 4, 2) := by decide +kernel
theorem d_MD_isWrong_48 : decode b_MD_isWrong 48 = .ok (.iload 4, 2) := by decide +kernel
theorem d_MD_isWrong_50 : decode b_MD_isWrong 50 = .ok (.bipush 40, 2) := by decide +kernel
theorem d_MD_isWrong_52 : decode b_MD_isWrong 52 = .ok (.if_icmp .ge 38, 3) := by decide +kernel
theorem d_MD_isWrong_55 : decode b_MD_isWrong 55 = .ok (.iload_n 3, 1) := by decide +kernel
theorem d_MD_isWrong_56 : decode b_MD_isWrong 56 = .ok (.ifCond .ne 22, 3) := by decide +kernel
theorem d_MD_isWrong_59 : decode b_MD_isWrong 59 = .ok (.aload_n 0, 1) := by decide +kernel
theorem d_MD_isWrong_60 : decode b_MD_isWrong 60 = .ok (.getfield 7, 3) := by decide +kernel
theorem d_MD_isWrong_63 : decode b_MD_isWrong 63 = .ok (.sipush 1280, 3) := by decide +kernel
theorem d_MD_isWrong_66 : decode b_MD_isWrong 66 = .ok (.bipush 40, 2) := by decide +kernel
theorem d_MD_isWrong_68 : decode b_MD_isWrong 68 = .ok (.iload_n 2, 1) := by decide +kernel
theorem d_MD_isWrong_69 : decode b_MD_isWrong 69 = .ok (.imul, 1) := by decide +kernel
theorem d_MD_isWrong_70 : decode b_MD_isWrong 70 = .ok (.iadd, 1) := by decide +kernel
theorem d_MD_isWrong_71 : decode b_MD_isWrong 71 = .ok (.iload 4, 2) := by decide +kernel
theorem d_MD_isWrong_73 : decode b_MD_isWrong 73 = .ok (.iadd, 1) := by decide +kernel
theorem d_MD_isWrong_74 : decode b_MD_isWrong 74 = .ok (.iaload, 1) := by decide +kernel
theorem d_MD_isWrong_75 : decode b_MD_isWrong 75 = .ok (.ifCond .eq 7, 3) := by decide +kernel
theorem d_MD_isWrong_78 : decode b_MD_isWrong 78 = .ok (.iconst 1, 1) := by decide +kernel
theorem d_MD_isWrong_79 : decode b_MD_isWrong 79 = .ok (.goto 4, 3) := by decide +kernel
theorem d_MD_isWrong_82 : decode b_MD_isWrong 82 = .ok (.iconst 0, 1) := by decide +kernel
theorem d_MD_isWrong_83 : decode b_MD_isWrong 83 = .ok (.istore_n 3, 1) := by decide +kernel
theorem d_MD_isWrong_84 : decode b_MD_isWrong 84 = .ok (.iinc 4 1, 3) := by decide +kernel
theorem d_MD_isWrong_87 : decode b_MD_isWrong 87 = .ok (.goto (-39), 3) := by decide +kernel
theorem d_MD_isWrong_90 : decode b_MD_isWrong 90 = .ok (.iload_n 3, 1) := by decide +kernel
theorem d_MD_isWrong_91 : decode b_MD_isWrong 91 = .ok (.ifCond .eq 24, 3) := by decide +kernel
theorem d_MD_isWrong_94 : decode b_MD_isWrong 94 = .ok (.aload_n 0, 1) := by decide +kernel
theorem d_MD_isWrong_95 : decode b_MD_isWrong 95 = .ok (.sipush 1280, 3) := by decide +kernel
theorem d_MD_isWrong_98 : decode b_MD_isWrong 98 = .ok (.bipush 40, 2) := by decide +kernel
theorem d_MD_isWrong_100 : decode b_MD_isWrong 100 = .ok (.iload_n 2, 1) := by decide +kernel
theorem d_MD_isWrong_101 : decode b_MD_isWrong 101 = .ok (.imul, 1) := by decide +kernel
theorem d_MD_isWrong_102 : decode b_MD_isWrong 102 = .ok (.iadd, 1) := by decide +kernel
theorem d_MD_isWrong_103 : decode b_MD_isWrong 103 = .ok (.bipush 36, 2) := by decide +kernel
theorem d_MD_isWrong_105 : decode b_MD_isWrong 105 = .ok (.invokevirtual 48, 3) := by decide +kernel
theorem d_MD_isWrong_108 : decode b_MD_isWrong 108 = .ok (.ifCond .ne 7, 3) := by decide +kernel
theorem d_MD_isWrong_111 : decode b_MD_isWrong 111 = .ok (.iconst 1, 1) := by decide +kernel
theorem d_MD_isWrong_112 : decode b_MD_isWrong 112 = .ok (.goto 4, 3) := by decide +kernel
theorem d_MD_isWrong_115 : decode b_MD_isWrong 115 = .ok (.iconst 0, 1) := by decide +kernel
theorem d_MD_isWrong_116 : decode b_MD_isWrong 116 = .ok (.ireturn, 1) := by decide +kernel
theorem d_MD_wrong_0 : decode b_MD_wrong 0 = .ok (.aload_n 0, 1) := by decide +kernel
theorem d_MD_wrong_1 : decode b_MD_wrong 1 = .ok (.iload_n 1, 1) := by decide +kernel
theorem d_MD_wrong_2 : decode b_MD_wrong 2 = .ok (.iconst 0, 1) := by decide +kernel
theorem d_MD_wrong_3 : decode b_MD_wrong 3 = .ok (.iconst 2, 1) := by decide +kernel
theorem d_MD_wrong_4 : decode b_MD_wrong 4 = .ok (.invokestatic 44, 3) := by decide +kernel
theorem d_MD_wrong_7 : decode b_MD_wrong 7 = .ok (.ifCond .eq 7, 3) := by decide +kernel
theorem d_MD_wrong_10 : decode b_MD_wrong 10 = .ok (.iload_n 2, 1) := by decide +kernel
theorem d_MD_wrong_11 : decode b_MD_wrong 11 = .ok (.ifCond .ge 7, 3) := by decide +kernel
theorem d_MD_wrong_14 : decode b_MD_wrong 14 = .ok (.iconst 1, 1) := by decide +kernel
theorem d_MD_wrong_15 : decode b_MD_wrong 15 = .ok (.goto 4, 3) := by decide +kernel
theorem d_MD_wrong_18 : decode b_MD_wrong 18 = .ok (.iconst 0, 1) := by decide +kernel
theorem d_MD_wrong_19 : decode b_MD_wrong 19 = .ok (.iconst 0, 1) := by decide +kernel
theorem d_MD_wrong_20 : decode b_MD_wrong 20 = .ok (.iconst 0, 1) := by decide +kernel
theorem d_MD_wrong_21 : decode b_MD_wrong 21 = .ok (.iconst 0, 1) := by decide +kernel
theorem d_MD_wrong_22 : decode b_MD_wrong 22 = .ok (.invokevirtual 117, 3) := by decide +kernel
theorem d_MD_wrong_25 : decode b_MD_wrong 25 = .ok (.ifCond .eq 5, 3) := by decide +kernel
theorem d_MD_wrong_28 : decode b_MD_wrong 28 = .ok (.iconst 0, 1) := by decide +kernel
theorem d_MD_wrong_29 : decode b_MD_wrong 29 = .ok (.ireturn, 1) := by decide +kernel
theorem d_MD_wrong_30 : decode b_MD_wrong 30 = .ok (.iload_n 1, 1) := by decide +kernel
theorem d_MD_wrong_31 : decode b_MD_wrong 31 = .ok (.iconst 2, 1) := by decide +kernel
theorem d_MD_wrong_32 : decode b_MD_wrong 32 = .ok (.if_icmp .ge 18, 3) := by decide +kernel
theorem d_MD_wrong_35 : decode b_MD_wrong 35 = .ok (.aload_n 0, 1) := by decide +kernel
theorem d_MD_wrong_36 : decode b_MD_wrong 36 = .ok (.iload_n 1, 1) := by decide +kernel
theorem d_MD_wrong_37 : decode b_MD_wrong 37 = .ok (.iconst 1, 1) := by decide +kernel
theorem d_MD_wrong_38 : decode b_MD_wrong 38 = .ok (.if_icmp .ne 7, 3) := by decide +kernel
theorem d_MD_wrong_41 : decode b_MD_wrong 41 = .ok (.iconst 1, 1) := by decide +kernel
theorem d_MD_wrong_42 : decode b_MD_wrong 42 = .ok (.goto 4, 3) := by decide +kernel
theorem d_MD_wrong_45 : decode b_MD_wrong 45 = .ok (.iconst 0, 1) := by decide +kernel
theorem d_MD_wrong_46 : decode b_MD_wrong 46 = .ok (.invokevirtual 123, 3) := by decide +kernel
theorem d_MD_wrong_49 : decode b_MD_wrong 49 = .ok (.pop, 1) := by decide +kernel
theorem d_MD_wrong_50 : decode b_MD_wrong 50 = .ok (.iload_n 2, 1) := by decide +kernel
theorem d_MD_wrong_51 : decode b_MD_wrong 51 = .ok (.istore_n 3, 1) := by decide +kernel
theorem d_MD_wrong_52 : decode b_MD_wrong 52 = .ok (.iconst 0, 1) := by decide +kernel
theorem d_MD_wrong_53 : decode b_MD_wrong 53 = .ok (.istore 4, 2) := by decide +kernel
theorem d_MD_wrong_55 : decode b_MD_wrong 55 = .ok (.iload 4, 2) := by decide +kernel
theorem d_MD_wrong_57 : decode b_MD_wrong 57 = .ok (.iload_n 1, 1) := by decide +kernel
theorem d_MD_wrong_58 : decode b_MD_wrong 58 = .ok (.iconst 2, 1) := by decide +kernel
theorem d_MD_wrong_59 : decode b_MD_wrong 59 = .ok (.if_icmp .ne 7, 3) := by decide +kernel
theorem d_MD_wrong_62 : decode b_MD_wrong 62 = .ok (.iconst 2, 1) := by decide +kernel
theorem d_MD_wrong_63 : decode b_MD_wrong 63 = .ok (.goto 16, 3) := by decide +kernel
theorem d_MD_wrong_66 : decode b_MD_wrong 66 = .ok (.iload_n 1, 1) := by decide +kernel
theorem d_MD_wrong_67 : decode b_MD_wrong 67 = .ok (.iconst 1, 1) := by decide +kernel
theorem d_MD_wrong_68 : decode b_MD_wrong 68 = .ok (.if_icmp .ne 7, 3) := by decide +kernel
theorem d_MD_wrong_71 : decode b_MD_wrong 71 = .ok (.iconst 1, 1) := by decide +kernel
theorem d_MD_wrong_72 : decode b_MD_wrong 72 = .ok (.goto 4, 3) := by decide +kernel
theorem d_MD_wrong_75 : decode b_MD_wrong 75 = .ok (.iconst 0, 1) := by decide +kernel
theorem d_MD_wrong_76 : decode b_MD_wrong 76 = .ok (.invokestatic 80, 3) := by decide +kernel
theorem d_MD_wrong_79 : decode b_MD_wrong 79 = .ok (.if_icmp .ge 29, 3) := by decide +kernel
theorem d_MD_wrong_82 : decode b_MD_wrong 82 = .ok (.aload_n 0, 1) := by decide +kernel
theorem d_MD_wrong_83 : decode b_MD_wrong 83 = .ok (.iload_n 1, 1) := by decide +kernel
theorem d_MD_wrong_84 : decode b_MD_wrong 84 = .ok (.iload 4, 2) := by decide +kernel
theorem d_MD_wrong_86 : decode b_MD_wrong 86 = .ok (.invokevirtual 140, 3) := by decide +kernel
theorem d_MD_wrong_89 : decode b_MD_wrong 89 = .ok (.ifCond .eq 13, 3) := by decide +kernel
theorem d_MD_wrong_92 : decode b_MD_wrong 92 = .ok (.iload_n 3, 1) := by decide +kernel
theorem d_MD_wrong_93 : decode b_MD_wrong 93 = .ok (.ifCond .ne 6, 3) := by decide +kernel
theorem d_MD_wrong_96 : decode b_MD_wrong 96 = .ok (.iload 4, 2) := by decide +kernel
theorem d_MD_wrong_98 : decode b_MD_wrong 98 = .ok (.ireturn, 1) := by decide +kernel
theorem d_MD_wrong_99 : decode b_MD_wrong 99 = .ok (.iinc 3 (-1), 3) := by decide +kernel
theorem d_MD_wrong_102 : decode b_MD_wrong 102 = .ok (.iinc 4 1, 3) := by decide +kernel
theorem d_MD_wrong_105 : decode b_MD_wrong 105 = .ok (.goto (-50), 3) := by decide +kernel
theorem d_MD_wrong_108 : decode b_MD_wrong 108 = .ok (.iconst (-1), 1) := by decide +kernel
theorem d_MD_wrong_109 : decode b_MD_wrong 109 = .ok (.ireturn, 1) := by decide +kernel
theorem d_MD_where_0 : decode b_MD_where 0 = .ok (.iload_n 0, 1) := by decide +kernel
theorem d_MD_where_1 : decode b_MD_where 1 = .ok (.ifCond .ne 14, 3) := by decide +kernel
theorem d_MD_where_4 : decode b_MD_where 4 = .ok (.iload_n 1, 1) := by decide +kernel
theorem d_MD_where_5 : decode b_MD_where 5 = .ok (.iconst 0, 1) := by decide +kernel
theorem d_MD_where_6 : decode b_MD_where 6 = .ok (.sipush 767, 3) := by decide +kernel
theorem d_MD_where_9 : decode b_MD_where 9 = .ok (.invokestatic 44, 3) := by decide +kernel
theorem d_MD_where_12 : decode b_MD_where 12 = .ok (.ifCond .ne 34, 3) := by decide +kernel
theorem d_MD_where_15 : decode b_MD_where 15 = .ok (.iload_n 0, 1) := by decide +kernel
theorem d_MD_where_16 : decode b_MD_where 16 = .ok (.iconst 1, 1) := by decide +kernel
theorem d_MD_where_17 : decode b_MD_where 17 = .ok (.if_icmp .ne 14, 3) := by decide +kernel
theorem d_MD_where_20 : decode b_MD_where 20 = .ok (.iload_n 1, 1) := by decide +kernel
theorem d_MD_where_21 : decode b_MD_where 21 = .ok (.iconst 0, 1) := by decide +kernel
theorem d_MD_where_22 : decode b_MD_where 22 = .ok (.sipush 511, 3) := by decide +kernel
theorem d_MD_where_25 : decode b_MD_where 25 = .ok (.invokestatic 44, 3) := by decide +kernel
theorem d_MD_where_28 : decode b_MD_where 28 = .ok (.ifCond .ne 18, 3) := by decide +kernel
theorem d_MD_where_31 : decode b_MD_where 31 = .ok (.iload_n 0, 1) := by decide +kernel
theorem d_MD_where_32 : decode b_MD_where 32 = .ok (.iconst 2, 1) := by decide +kernel
theorem d_MD_where_33 : decode b_MD_where 33 = .ok (.if_icmp .ne 17, 3) := by decide +kernel
theorem d_MD_where_36 : decode b_MD_where 36 = .ok (.iload_n 1, 1) := by decide +kernel
theorem d_MD_where_37 : decode b_MD_where 37 = .ok (.iconst 0, 1) := by decide +kernel
theorem d_MD_where_38 : decode b_MD_where 38 = .ok (.bipush 79, 2) := by decide +kernel
theorem d_MD_where_40 : decode b_MD_where 40 = .ok (.invokestatic 44, 3) := by decide +kernel
theorem d_MD_where_43 : decode b_MD_where 43 = .ok (.ifCond .eq 7, 3) := by decide +kernel
theorem d_MD_where_46 : decode b_MD_where 46 = .ok (.iconst 1, 1) := by decide +kernel
theorem d_MD_where_47 : decode b_MD_where 47 = .ok (.goto 4, 3) := by decide +kernel
theorem d_MD_where_50 : decode b_MD_where 50 = .ok (.iconst 0, 1) := by decide +kernel
theorem d_MD_where_51 : decode b_MD_where 51 = .ok (.istore_n 2, 1) := by decide +kernel
theorem d_MD_where_52 : decode b_MD_where 52 = .ok (.iload_n 2, 1) := by decide +kernel
theorem d_MD_where_53 : decode b_MD_where 53 = .ok (.ifCond .ne 7, 3) := by decide +kernel
theorem d_MD_where_56 : decode b_MD_where 56 = .ok (.iconst (-1), 1) := by decide +kernel
theorem d_MD_where_57 : decode b_MD_where 57 = .ok (.goto 29, 3) := by decide +kernel
theorem d_MD_where_60 : decode b_MD_where 60 = .ok (.iload_n 0, 1) := by decide +kernel
theorem d_MD_where_61 : decode b_MD_where 61 = .ok (.ifCond .ne 7, 3) := by decide +kernel
theorem d_MD_where_64 : decode b_MD_where 64 = .ok (.iload_n 1, 1) := by decide +kernel
theorem d_MD_where_65 : decode b_MD_where 65 = .ok (.goto 21, 3) := by decide +kernel
theorem d_MD_where_68 : decode b_MD_where 68 = .ok (.iload_n 0, 1) := by decide +kernel
theorem d_MD_where_69 : decode b_MD_where 69 = .ok (.iconst 1, 1) := by decide +kernel
theorem d_MD_where_70 : decode b_MD_where 70 = .ok (.if_icmp .ne 11, 3) := by decide +kernel
theorem d_MD_where_73 : decode b_MD_where 73 = .ok (.sipush 768, 3) := by decide +kernel
theorem d_MD_where_76 : decode b_MD_where 76 = .ok (.iload_n 1, 1) := by decide +kernel
theorem d_MD_where_77 : decode b_MD_where 77 = .ok (.iadd, 1) := by decide +kernel
theorem d_MD_where_78 : decode b_MD_where 78 = .ok (.goto 8, 3) := by decide +kernel
theorem d_MD_where_81 : decode b_MD_where 81 = .ok (.sipush 1280, 3) := by decide +kernel
theorem d_MD_where_84 : decode b_MD_where 84 = .ok (.iload_n 1, 1) := by decide +kernel
theorem d_MD_where_85 : decode b_MD_where 85 = .ok (.iadd, 1) := by decide +kernel
theorem d_MD_where_86 : decode b_MD_where 86 = .ok (.ireturn, 1) := by decide +kernel
theorem sf_nat2 {x : Int32} (h : ¬ f_MD_in x 0 2 = 0) : x = 0 ∨ x = 1 ∨ x = 2 := by
  by_cases h1 : x < 0
  · exact absurd (by simp only [f_MD_in, eq_true h1, ↓reduceIte]) h
  · by_cases h2 : 2 < x
    · exact absurd (by simp only [f_MD_in, eq_false h1, eq_true h2, ↓reduceIte]) h
    · exact sf_three h1 h2
def f_MD_cut (xcu : Int32) (cn : Int32) : (Int32 × Int32) :=
  if (f_MD_in cn (-1) 200) = 0 then
    (1, xcu)
  else
    (0, cn)
set_option maxHeartbeats 1000000 in
set_option maxRecDepth 100000 in
/-- cut -/
theorem c_MD_cut (l : Launch) (D : va_G) (cI cZ cJ : ClassId) (q : Nat → Nat) (xth : Int32) (xB : Nat → Int32) (xsh : Int32) (xcu : Int32) (xtp : Nat → Int32) (xtd : Int32) (xpa : Nat → Int32) (xsp : Int32) (xwh : Int32) (xhe : Nat → Int32) (xho : Int32) (xtk : Nat → Int32) (xto : Nat → Int32) (xwa : Nat → Int32) (xmn : Int32) (cn : Int32) : sf_M (S := (Int32 × Int32)) l D classes (sf_tys cI cZ cJ) y_MD_cut (sf_ws y_MD_cut b_MD_cut 2 none) 1 24 [.ref (q 0), .int cn] (md_w q cI cZ xth xB xsh xcu xtp xtd xpa xsp xwh xhe xho xtk xto xwa xmn) (fun _ => none) (fun r => r = f_MD_cut xcu cn) (fun r => (md_w q cI cZ r.1 xB xsh r.2 xtp xtd xpa xsp xwh xhe xho xtk xto xwa xmn)) := by
  refine sf_ofW (S := (Int32 × Int32)) (by decide) (Nat.le_of_ble_eq_true rfl) ?_
  intro p e s m below meth c A ls R args Q hR hArgs hQ hC0 hr hK hP hD hl
  obtain ⟨hx, hb, hml, hown, hts, hA, hlk⟩ := hC0
  have hS : va_S A s.heap s.heap [] := va_S.rf
  have hl : lv_has ls 2 [(0, .ref (q 0)), (1, .int cn)] := hl
  refine lv_aload_n hx hb d_MD_cut_0 rfl (lv_at hl 0 rfl) ?_
  refine lv_iload_n hx hb d_MD_cut_1 rfl (lv_at hl 1 rfl) ?_
  refine lv_iconst (v := (-1)) hx hb d_MD_cut_2 (by decide) ?_
  refine lv_sipush (v := 200) hx hb d_MD_cut_3 (by decide) ?_
  refine sf_callSr (S := Int32) (rest := [.ref (q 0)]) ⟨hx, hb, hml, hown, hts⟩ (c_MD_in l D cI cZ cJ cn (-1) 200) (sf_cwS lk_MD_44 hts (fun _ h => h) (by rw [hR]; exact ⟨Nat.le_of_ble_eq_true rfl, Nat.le_of_ble_eq_true rfl⟩)) hK hP hD hS hA [] rfl rfl (fun _ => rfl) rfl rfl hl.1 (Nat.le_of_ble_eq_true rfl) d_MD_cut_6 ⟨Nat.zero_le _, Nat.zero_le _⟩ (fun u_1 H locs hu_1 hP hS => ?_)
  refine lv_if_ne (tgt := 16) hx hb d_MD_cut_9 (by decide) (fun c_2 => ?_) (fun c_2 => ?_)
  · refine lv_iconst (v := 0) hx hb d_MD_cut_16 (by decide) ?_
    refine lv_iconst (v := 0) hx hb d_MD_cut_17 (by decide) ?_
    refine lv_iconst (v := 0) hx hb d_MD_cut_18 (by decide) ?_
    refine lv_iconst (v := 0) hx hb d_MD_cut_19 (by decide) ?_
    refine sf_callVw (S := Unit) (rest := []) ⟨hx, hb, hml, hown, hts⟩ (c_MD_throwing_0 l D cI cZ cJ q xth xB xsh xcu xtp xtd xpa xsp xwh xhe xho xtk xto xwa xmn) (sf_cwV lk_MD_117 hts (fun _ h => h) (by rw [hR]; exact ⟨Nat.le_of_ble_eq_true rfl, Nat.le_of_ble_eq_true rfl⟩)) hK hP hD hS hA (fun _ => by simp only [md_w_fst]) (ci := 3) (q0 := 0) rfl rfl rfl rfl rfl hl.1 (Nat.le_of_ble_eq_true rfl) d_MD_cut_20 ⟨Nat.zero_le _, Nat.zero_le _⟩ (fun u H locs hu hP hD hS => ?_)
    have hP : va_P D classes (md_w q cI cZ 0 xB xsh xcu xtp xtd xpa xsp xwh xhe xho xtk xto xwa xmn) H := hP
    have hD : va_D A (md_w q cI cZ 0 xB xsh xcu xtp xtd xpa xsp xwh xhe xho xtk xto xwa xmn) := hD
    refine lv_if_eq (tgt := 27) hx hb d_MD_cut_23 (by decide) (fun c_3 => ?_) (fun c_3 => absurd (by decide) c_3)
    refine lv_aload_n hx hb d_MD_cut_27 rfl (lv_at hl 0 rfl) ?_
    refine lv_iload_n hx hb d_MD_cut_28 rfl (lv_at hl 1 rfl) ?_
    refine va_put (D := D) (ci := 3) (v := .int cn) (ty := .int) (C := R_MD) (T := F_MD) (N := 15) hx hb hts i_MD t_MD t_MD_ok n_MD hown hK hP hD hS 0 rfl rfl 3 (by decide) (hts _ wd_578) (fun _ h9 => h9) rfl (by decide +kernel) rfl rfl (Nat.le_of_ble_eq_true rfl) d_MD_cut_29 (fun H locs hP hD hS => ?_)
    have hP : va_P D classes (md_w q cI cZ 0 xB xsh cn xtp xtd xpa xsp xwh xhe xho xtk xto xwa xmn) H := hP
    have hD : va_D A (md_w q cI cZ 0 xB xsh cn xtp xtd xpa xsp xwh xhe xho xtk xto xwa xmn) := hD
    rw [hQ]
    exact sf_vret (0, cn) hx hb hr hlk hS rfl (by simp only [f_MD_cut, ← hu_1, eq_false c_2, ↓reduceIte]) hP d_MD_cut_32
  · refine lv_iconst (v := 1) hx hb d_MD_cut_12 (by decide) ?_
    refine lv_goto (tgt := 17) hx hb d_MD_cut_13 (by decide) ?_
    refine lv_iconst (v := 0) hx hb d_MD_cut_17 (by decide) ?_
    refine lv_iconst (v := 0) hx hb d_MD_cut_18 (by decide) ?_
    refine lv_iconst (v := 0) hx hb d_MD_cut_19 (by decide) ?_
    refine sf_callVw (S := Unit) (rest := []) ⟨hx, hb, hml, hown, hts⟩ (c_MD_throwing_1 l D cI cZ cJ q xth xB xsh xcu xtp xtd xpa xsp xwh xhe xho xtk xto xwa xmn 0 0 0) (sf_cwV lk_MD_117 hts (fun _ h => h) (by rw [hR]; exact ⟨Nat.le_of_ble_eq_true rfl, Nat.le_of_ble_eq_true rfl⟩)) hK hP hD hS hA (fun _ => by simp only [md_w_fst]) (ci := 3) (q0 := 0) rfl rfl rfl rfl rfl hl.1 (Nat.le_of_ble_eq_true rfl) d_MD_cut_20 ⟨Nat.zero_le _, Nat.zero_le _⟩ (fun u H locs hu hP hD hS => ?_)
    have hP : va_P D classes (md_w q cI cZ 1 xB xsh xcu xtp xtd xpa xsp xwh xhe xho xtk xto xwa xmn) H := hP
    have hD : va_D A (md_w q cI cZ 1 xB xsh xcu xtp xtd xpa xsp xwh xhe xho xtk xto xwa xmn) := hD
    refine lv_if_eq (tgt := 27) hx hb d_MD_cut_23 (by decide) (fun c_4 => absurd c_4 (by decide)) (fun c_4 => ?_)
    rw [hQ]
    exact sf_vret (1, xcu) hx hb hr hlk hS rfl (by simp only [f_MD_cut, ← hu_1, eq_true c_2, ↓reduceIte]) hP d_MD_cut_26
def f_MD_open_l14 (xB : Nat → Int32) : Nat → Nat → Int32 → (Int32 × Int32)
  | 0, _, _ => (0, 0)
  | fu + 1, k, vn =>
    if 12 ≤ (nI k) then
      (vn, 0)
    else
      if (f_MD_isThere xB k) = 0 then
        f_MD_open_l14 xB fu (k + 1) (vn + 0)
      else
        f_MD_open_l14 xB fu (k + 1) (vn + 1)
def f_MD_open (xB : Nat → Int32) : (Int32 × Int32) :=
  f_MD_open_l14 xB (12 + 1) 0 0
set_option maxHeartbeats 1000000 in
set_option maxRecDepth 100000 in
/-- open -/
theorem c_MD_open (l : Launch) (D : va_G) (cI cZ cJ : ClassId) (q : Nat → Nat) (xth : Int32) (xB : Nat → Int32) (xsh : Int32) (xcu : Int32) (xtp : Nat → Int32) (xtd : Int32) (xpa : Nat → Int32) (xsp : Int32) (xwh : Int32) (xhe : Nat → Int32) (xho : Int32) (xtk : Nat → Int32) (xto : Nat → Int32) (xwa : Nat → Int32) (xmn : Int32) : sf_M (S := (Int32 × Int32)) l D classes (sf_tys cI cZ cJ) y_MD_open (sf_ws y_MD_open b_MD_open 3 (some .int)) 7 152 [.ref (q 0)] (md_w q cI cZ xth xB xsh xcu xtp xtd xpa xsp xwh xhe xho xtk xto xwa xmn) (fun r => some (.int r.1)) (fun r => r = f_MD_open xB) (fun r => (md_w q cI cZ 0 xB r.2 xcu xtp xtd xpa xsp xwh xhe xho xtk xto xwa xmn)) := by
  refine sf_ofW (S := (Int32 × Int32)) (by decide) (Nat.le_of_ble_eq_true rfl) ?_
  intro p e s m below meth c A ls R args Q hR hArgs hQ hC0 hr hK hP hD hl
  obtain ⟨hx, hb, hml, hown, hts, hA, hlk⟩ := hC0
  have hS : va_S A s.heap s.heap [] := va_S.rf
  have hl : lv_has ls 3 [(0, .ref (q 0))] := hl
  refine lv_aload_n hx hb d_MD_open_0 rfl (lv_at hl 0 rfl) ?_
  refine lv_iconst (v := 0) hx hb d_MD_open_1 (by decide) ?_
  refine va_put (D := D) (ci := 3) (v := .int 0) (ty := .int) (C := R_MD) (T := F_MD) (N := 15) hx hb hts i_MD t_MD t_MD_ok n_MD hown hK hP hD hS 0 rfl rfl 0 (by decide) (hts _ wd_575) (fun _ h9 => h9) rfl (by decide +kernel) rfl rfl (Nat.le_of_ble_eq_true rfl) d_MD_open_2 (fun H locs hP hD hS => ?_)
  have hP : va_P D classes (md_w q cI cZ 0 xB xsh xcu xtp xtd xpa xsp xwh xhe xho xtk xto xwa xmn) H := hP
  have hD : va_D A (md_w q cI cZ 0 xB xsh xcu xtp xtd xpa xsp xwh xhe xho xtk xto xwa xmn) := hD
  refine lv_aload_n hx hb d_MD_open_5 rfl (lv_at hl 0 rfl) ?_
  refine lv_iconst (v := 0) hx hb d_MD_open_6 (by decide) ?_
  refine va_put (D := D) (ci := 3) (v := .int 0) (ty := .boolean) (C := R_MD) (T := F_MD) (N := 15) hx hb hts i_MD t_MD t_MD_ok n_MD hown hK hP hD hS 0 rfl rfl 2 (by decide) (hts _ wd_577) (fun _ h9 => h9) rfl (by decide +kernel) (sf_bp0).1 (sf_bp0).2 (Nat.le_of_ble_eq_true rfl) d_MD_open_7 (fun H locs hP hD hS => ?_)
  have hP : va_P D classes (md_w q cI cZ 0 xB 0 xcu xtp xtd xpa xsp xwh xhe xho xtk xto xwa xmn) H := hP
  have hD : va_D A (md_w q cI cZ 0 xB 0 xcu xtp xtd xpa xsp xwh xhe xho xtk xto xwa xmn) := hD
  refine lv_iconst (v := 0) hx hb d_MD_open_10 (by decide) ?_
  refine lv_istore_n (lv' := [(1, .int 0), (0, .ref (q 0))]) hx hb d_MD_open_11 rfl hl (by decide) rfl (fun ls hl => ?_)
  refine lv_iconst (v := 0) hx hb d_MD_open_12 (by decide) ?_
  refine lv_istore_n (lv' := [(2, .int 0), (1, .int 0), (0, .ref (q 0))]) hx hb d_MD_open_13 rfl hl (by decide) rfl (fun ls hl => ?_)
  have loop14 : ∀ (fu k : Nat) (vn : Int32), k ≤ 12 → k + fu = 12 + 1 → f_MD_open_l14 xB fu k vn = f_MD_open xB → ∀ (H : Heap) (locs : List Loc), va_P D classes (md_w q cI cZ 0 xB 0 xcu xtp xtd xpa xsp xwh xhe xho xtk xto xwa xmn) H → va_D A (md_w q cI cZ 0 xB 0 xcu xtp xtd xpa xsp xwh xhe xho xtk xto xwa xmn) → va_S A s.heap H locs → ∀ (ls : Array Slot), lv_has ls 3 [(0, .ref (q 0)), (1, .int vn), (2, .int (nI k))] → W p l e R s m args below meth c H locs 0 0 Q (F0 m 14 ls []) := by
    intro fu
    induction fu with
    | zero =>
      intro k vn h1 h2
      exact absurd h2 (by omega)
    | succ fu ih14 =>
      intro k vn hk14 hkn14 heq14 H locs hP hD hS ls hl
      refine lv_iload_n hx hb d_MD_open_14 rfl (lv_at hl 2 rfl) ?_
      refine lv_bipush (v := 12) hx hb d_MD_open_15 (by decide) ?_
      refine lv_icmp_ge (tgt := 42) hx hb d_MD_open_17 (by decide) (fun c_1 => ?_) (fun c_1 => ?_)
      · refine lv_iload_n hx hb d_MD_open_42 rfl (lv_at hl 1 rfl) ?_
        rw [hQ]
        exact sf_iret (vn, 0) hx hb hr hlk hS rfl rfl (by rw [← heq14]; simp only [f_MD_open_l14, eq_true c_1, ↓reduceIte]) hP d_MD_open_43
      · have hlt : k < 12 := sf_lt_of (N := 12) (by omega) (by omega) c_1
        refine lv_iload_n hx hb d_MD_open_20 rfl (lv_at hl 1 rfl) ?_
        refine lv_aload_n hx hb d_MD_open_21 rfl (lv_at hl 0 rfl) ?_
        refine lv_iload_n hx hb d_MD_open_22 rfl (lv_at hl 2 rfl) ?_
        refine sf_callVw (S := Int32) (rest := [.int vn]) ⟨hx, hb, hml, hown, hts⟩ (c_MD_isThere l D cI cZ cJ q 0 xB 0 xcu xtp xtd xpa xsp xwh xhe xho xtk xto xwa xmn k (by omega)) (sf_cwV lk_MD_95 hts (fun _ h => h) (by rw [hR]; exact ⟨Nat.le_of_ble_eq_true rfl, Nat.le_of_ble_eq_true rfl⟩)) hK hP hD hS hA (fun _ => by simp only [md_w_fst]) (ci := 3) (q0 := 0) rfl rfl rfl rfl rfl hl.1 (Nat.le_of_ble_eq_true rfl) d_MD_open_23 ⟨Nat.zero_le _, Nat.zero_le _⟩ (fun u_2 H locs hu_2 hP hD hS => ?_)
        have hP : va_P D classes (md_w q cI cZ 0 xB 0 xcu xtp xtd xpa xsp xwh xhe xho xtk xto xwa xmn) H := hP
        have hD : va_D A (md_w q cI cZ 0 xB 0 xcu xtp xtd xpa xsp xwh xhe xho xtk xto xwa xmn) := hD
        refine lv_if_eq (tgt := 33) hx hb d_MD_open_26 (by decide) (fun c_3 => ?_) (fun c_3 => ?_)
        · refine lv_iconst (v := 0) hx hb d_MD_open_33 (by decide) ?_
          refine lv_iadd hx hb d_MD_open_34 ?_
          refine lv_istore_n (lv' := [(1, .int (vn + 0)), (0, .ref (q 0)), (2, .int (nI k))]) hx hb d_MD_open_35 rfl hl (by decide) rfl (fun ls hl => ?_)
          refine lv_iinc (v := (nI (k + 1))) (lv' := [(2, .int (nI (k + 1))), (1, .int (vn + 0)), (0, .ref (q 0))]) hx hb d_MD_open_36 hl (k := 2) rfl (nI_1 k) (by decide) rfl (fun ls hl => ?_)
          refine lv_goto (tgt := 14) hx hb d_MD_open_39 (by decide) ?_
          exact ih14 (k + 1) (vn + 0) (by omega) (by omega) (by rw [← heq14]; simp only [f_MD_open_l14, ← hu_2, eq_false c_1, eq_true c_3, ↓reduceIte]) _ _ hP hD hS ls (lv_sub hl [2, 1, 0] rfl)
        · refine lv_iconst (v := 1) hx hb d_MD_open_29 (by decide) ?_
          refine lv_goto (tgt := 34) hx hb d_MD_open_30 (by decide) ?_
          refine lv_iadd hx hb d_MD_open_34 ?_
          refine lv_istore_n (lv' := [(1, .int (vn + 1)), (0, .ref (q 0)), (2, .int (nI k))]) hx hb d_MD_open_35 rfl hl (by decide) rfl (fun ls hl => ?_)
          refine lv_iinc (v := (nI (k + 1))) (lv' := [(2, .int (nI (k + 1))), (1, .int (vn + 1)), (0, .ref (q 0))]) hx hb d_MD_open_36 hl (k := 2) rfl (nI_1 k) (by decide) rfl (fun ls hl => ?_)
          refine lv_goto (tgt := 14) hx hb d_MD_open_39 (by decide) ?_
          exact ih14 (k + 1) (vn + 1) (by omega) (by omega) (by rw [← heq14]; simp only [f_MD_open_l14, ← hu_2, eq_false c_1, eq_false c_3, ↓reduceIte]) _ _ hP hD hS ls (lv_sub hl [2, 1, 0] rfl)
  exact loop14 (12 + 1) 0 0 (by omega) (by omega) (by simp only [f_MD_open, ↓reduceIte]) _ _ hP hD hS ls (lv_sub hl [2, 1, 0] rfl)
def f_MD_row (xB : Nat → Int32) (xsh : Int32) (xpa : Nat → Int32) (xsp : Int32) (xwh : Int32) (xhe : Nat → Int32) (xho : Int32) (ro : Int32) (ri : Int32) : (Int32 × Int32 × (Nat → Int32) × Int32 × Int32 × (Nat → Int32) × Int32) :=
  if (f_MD_in ro 0 11) = 0 then
    if xsh = 0 then
      (0, 1, xpa, xsp, xwh, xhe, xho)
    else
      (0, 1, xpa, xsp, xwh, xhe, xho)
  else
    if (-1) ≤ ri then
      if xsh = 0 then
        if (f_MD_isThere xB (ro.toNatClampNeg)) = 0 then
          (0, 2, xpa, xsp, xwh, xhe, xho)
        else
          if ri < (f_MD_go xB xpa xhe (ro.toNatClampNeg)).2.2.2.2 then
            if 0 ≤ ri then
              (((f_MD_go xB xpa xhe (ro.toNatClampNeg)).2.2.2.1 ri.toNatClampNeg), 0, (f_MD_go xB xpa xhe (ro.toNatClampNeg)).1, (f_MD_go xB xpa xhe (ro.toNatClampNeg)).2.1, (f_MD_go xB xpa xhe (ro.toNatClampNeg)).2.2.1, (f_MD_go xB xpa xhe (ro.toNatClampNeg)).2.2.2.1, (f_MD_go xB xpa xhe (ro.toNatClampNeg)).2.2.2.2)
            else
              ((f_MD_go xB xpa xhe (ro.toNatClampNeg)).2.2.2.2, 0, (f_MD_go xB xpa xhe (ro.toNatClampNeg)).1, (f_MD_go xB xpa xhe (ro.toNatClampNeg)).2.1, (f_MD_go xB xpa xhe (ro.toNatClampNeg)).2.2.1, (f_MD_go xB xpa xhe (ro.toNatClampNeg)).2.2.2.1, (f_MD_go xB xpa xhe (ro.toNatClampNeg)).2.2.2.2)
          else
            (0, 1, (f_MD_go xB xpa xhe (ro.toNatClampNeg)).1, (f_MD_go xB xpa xhe (ro.toNatClampNeg)).2.1, (f_MD_go xB xpa xhe (ro.toNatClampNeg)).2.2.1, (f_MD_go xB xpa xhe (ro.toNatClampNeg)).2.2.2.1, (f_MD_go xB xpa xhe (ro.toNatClampNeg)).2.2.2.2)
      else
        (0, 2, xpa, xsp, xwh, xhe, xho)
    else
      if xsh = 0 then
        (0, 1, xpa, xsp, xwh, xhe, xho)
      else
        (0, 1, xpa, xsp, xwh, xhe, xho)
set_option maxHeartbeats 1000000 in
set_option maxRecDepth 100000 in
/-- row -/
theorem c_MD_row (l : Launch) (D : va_G) (cI cZ cJ : ClassId) (q : Nat → Nat) (xth : Int32) (xB : Nat → Int32) (xsh : Int32) (xcu : Int32) (xtp : Nat → Int32) (xtd : Int32) (xpa : Nat → Int32) (xsp : Int32) (xwh : Int32) (xhe : Nat → Int32) (xho : Int32) (xtk : Nat → Int32) (xto : Nat → Int32) (xwa : Nat → Int32) (xmn : Int32) (ro : Int32) (ri : Int32) : sf_M (S := (Int32 × Int32 × (Nat → Int32) × Int32 × Int32 × (Nat → Int32) × Int32)) l D classes (sf_tys cI cZ cJ) y_MD_row (sf_ws y_MD_row b_MD_row 6 (some .int)) 7 159 [.ref (q 0), .int ro, .int ri] (md_w q cI cZ xth xB xsh xcu xtp xtd xpa xsp xwh xhe xho xtk xto xwa xmn) (fun r => some (.int r.1)) (fun r => r = f_MD_row xB xsh xpa xsp xwh xhe xho ro ri) (fun r => (md_w q cI cZ r.2.1 xB xsh xcu xtp xtd r.2.2.1 r.2.2.2.1 r.2.2.2.2.1 r.2.2.2.2.2.1 r.2.2.2.2.2.2 xtk xto xwa xmn)) := by
  refine sf_ofW (S := (Int32 × Int32 × (Nat → Int32) × Int32 × Int32 × (Nat → Int32) × Int32)) (by decide) (Nat.le_of_ble_eq_true rfl) ?_
  intro p e s m below meth c A ls R args Q hR hArgs hQ hC0 hr hK hP hD hl
  obtain ⟨hx, hb, hml, hown, hts, hA, hlk⟩ := hC0
  have hS : va_S A s.heap s.heap [] := va_S.rf
  have hl : lv_has ls 6 [(0, .ref (q 0)), (1, .int ro), (2, .int ri)] := hl
  refine lv_iload_n hx hb d_MD_row_0 rfl (lv_at hl 1 rfl) ?_
  refine lv_iconst (v := 0) hx hb d_MD_row_1 (by decide) ?_
  refine lv_bipush (v := 11) hx hb d_MD_row_2 (by decide) ?_
  refine sf_callSr (S := Int32) (rest := []) ⟨hx, hb, hml, hown, hts⟩ (c_MD_in l D cI cZ cJ ro 0 11) (sf_cwS lk_MD_44 hts (fun _ h => h) (by rw [hR]; exact ⟨Nat.le_of_ble_eq_true rfl, Nat.le_of_ble_eq_true rfl⟩)) hK hP hD hS hA [] rfl rfl (fun _ => rfl) rfl rfl hl.1 (Nat.le_of_ble_eq_true rfl) d_MD_row_4 ⟨Nat.zero_le _, Nat.zero_le _⟩ (fun u_1 H locs hu_1 hP hS => ?_)
  refine lv_if_eq (tgt := 15) hx hb d_MD_row_7 (by decide) (fun c_2 => ?_) (fun c_2 => ?_)
  · refine lv_iconst (v := 1) hx hb d_MD_row_15 (by decide) ?_
    refine lv_goto (tgt := 20) hx hb d_MD_row_16 (by decide) ?_
    refine lv_istore_n (lv' := [(3, .int 1), (0, .ref (q 0)), (1, .int ro), (2, .int ri)]) hx hb d_MD_row_20 rfl hl (by decide) rfl (fun ls hl => ?_)
    refine lv_aload_n hx hb d_MD_row_21 rfl (lv_at hl 1 rfl) ?_
    refine va_get (D := D) (ci := 3) (v := .int xsh) (C := R_MD) (T := F_MD) (N := 15) hx hb hts i_MD hown hK hP 0 rfl rfl 2 (by decide) (hts _ wd_577) (fun _ h9 => h9) rfl d_MD_row_22 ?_
    refine lv_if_ne (tgt := 40) hx hb d_MD_row_25 (by decide) (fun c_3 => ?_) (fun c_3 => ?_)
    · refine lv_iconst (v := 1) hx hb d_MD_row_40 (by decide) ?_
      refine lv_goto (tgt := 45) hx hb d_MD_row_41 (by decide) ?_
      refine lv_istore (lv' := [(4, .int 1), (3, .int 1), (0, .ref (q 0)), (1, .int ro), (2, .int ri)]) hx hb d_MD_row_45 hl (by decide) rfl (fun ls hl => ?_)
      refine lv_iload_n hx hb d_MD_row_47 rfl (lv_at hl 1 rfl) ?_
      refine lv_if_ne (tgt := 61) hx hb d_MD_row_48 (by decide) (fun c_4 => ?_) (fun c_4 => absurd c_4 (by decide))
      refine lv_iload_n hx hb d_MD_row_61 rfl (lv_at hl 1 rfl) ?_
      refine lv_if_ne (tgt := 82) hx hb d_MD_row_62 (by decide) (fun c_5 => ?_) (fun c_5 => absurd c_5 (by decide))
      refine lv_iconst (v := 0) hx hb d_MD_row_82 (by decide) ?_
      refine lv_istore (lv' := [(5, .int 0), (4, .int 1), (3, .int 1), (0, .ref (q 0)), (1, .int ro), (2, .int ri)]) hx hb d_MD_row_83 hl (by decide) rfl (fun ls hl => ?_)
      refine lv_aload_n hx hb d_MD_row_85 rfl (lv_at hl 3 rfl) ?_
      refine lv_iload_n hx hb d_MD_row_86 rfl (lv_at hl 2 rfl) ?_
      refine lv_if_ne (tgt := 95) hx hb d_MD_row_87 (by decide) (fun c_6 => ?_) (fun c_6 => absurd c_6 (by decide))
      refine lv_iconst (v := 1) hx hb d_MD_row_95 (by decide) ?_
      refine lv_goto (tgt := 100) hx hb d_MD_row_96 (by decide) ?_
      refine lv_iload hx hb d_MD_row_100 (lv_at hl 1 rfl) ?_
      refine lv_iconst (v := 0) hx hb d_MD_row_102 (by decide) ?_
      refine lv_iconst (v := 0) hx hb d_MD_row_103 (by decide) ?_
      refine sf_callVw (S := Unit) (rest := []) ⟨hx, hb, hml, hown, hts⟩ (c_MD_throwing_1 l D cI cZ cJ q xth xB xsh xcu xtp xtd xpa xsp xwh xhe xho xtk xto xwa xmn 1 0 0) (sf_cwV lk_MD_117 hts (fun _ h => h) (by rw [hR]; exact ⟨Nat.le_of_ble_eq_true rfl, Nat.le_of_ble_eq_true rfl⟩)) hK hP hD hS hA (fun _ => by simp only [md_w_fst]) (ci := 3) (q0 := 0) rfl rfl rfl rfl rfl hl.1 (Nat.le_of_ble_eq_true rfl) d_MD_row_104 ⟨Nat.zero_le _, Nat.zero_le _⟩ (fun u H locs hu hP hD hS => ?_)
      have hP : va_P D classes (md_w q cI cZ 1 xB xsh xcu xtp xtd xpa xsp xwh xhe xho xtk xto xwa xmn) H := hP
      have hD : va_D A (md_w q cI cZ 1 xB xsh xcu xtp xtd xpa xsp xwh xhe xho xtk xto xwa xmn) := hD
      refine lv_if_eq (tgt := 112) hx hb d_MD_row_107 (by decide) (fun c_7 => absurd c_7 (by decide)) (fun c_7 => ?_)
      refine lv_iconst (v := 0) hx hb d_MD_row_110 (by decide) ?_
      rw [hQ]
      exact sf_iret (0, 1, xpa, xsp, xwh, xhe, xho) hx hb hr hlk hS rfl rfl (by simp only [f_MD_row, ← hu_1, eq_true c_2, eq_false c_3, ↓reduceIte]) hP d_MD_row_111
    · refine lv_iload_n hx hb d_MD_row_28 rfl (lv_at hl 0 rfl) ?_
      refine lv_if_ne (tgt := 44) hx hb d_MD_row_29 (by decide) (fun c_8 => ?_) (fun c_8 => absurd c_8 (by decide))
      refine lv_iconst (v := 0) hx hb d_MD_row_44 (by decide) ?_
      refine lv_istore (lv' := [(4, .int 0), (3, .int 1), (0, .ref (q 0)), (1, .int ro), (2, .int ri)]) hx hb d_MD_row_45 hl (by decide) rfl (fun ls hl => ?_)
      refine lv_iload_n hx hb d_MD_row_47 rfl (lv_at hl 1 rfl) ?_
      refine lv_if_ne (tgt := 61) hx hb d_MD_row_48 (by decide) (fun c_9 => ?_) (fun c_9 => absurd c_9 (by decide))
      refine lv_iload_n hx hb d_MD_row_61 rfl (lv_at hl 1 rfl) ?_
      refine lv_if_ne (tgt := 82) hx hb d_MD_row_62 (by decide) (fun c_10 => ?_) (fun c_10 => absurd c_10 (by decide))
      refine lv_iconst (v := 0) hx hb d_MD_row_82 (by decide) ?_
      refine lv_istore (lv' := [(5, .int 0), (4, .int 0), (3, .int 1), (0, .ref (q 0)), (1, .int ro), (2, .int ri)]) hx hb d_MD_row_83 hl (by decide) rfl (fun ls hl => ?_)
      refine lv_aload_n hx hb d_MD_row_85 rfl (lv_at hl 3 rfl) ?_
      refine lv_iload_n hx hb d_MD_row_86 rfl (lv_at hl 2 rfl) ?_
      refine lv_if_ne (tgt := 95) hx hb d_MD_row_87 (by decide) (fun c_11 => ?_) (fun c_11 => absurd c_11 (by decide))
      refine lv_iconst (v := 1) hx hb d_MD_row_95 (by decide) ?_
      refine lv_goto (tgt := 100) hx hb d_MD_row_96 (by decide) ?_
      refine lv_iload hx hb d_MD_row_100 (lv_at hl 1 rfl) ?_
      refine lv_iconst (v := 0) hx hb d_MD_row_102 (by decide) ?_
      refine lv_iconst (v := 0) hx hb d_MD_row_103 (by decide) ?_
      refine sf_callVw (S := Unit) (rest := []) ⟨hx, hb, hml, hown, hts⟩ (c_MD_throwing_1 l D cI cZ cJ q xth xB xsh xcu xtp xtd xpa xsp xwh xhe xho xtk xto xwa xmn 0 0 0) (sf_cwV lk_MD_117 hts (fun _ h => h) (by rw [hR]; exact ⟨Nat.le_of_ble_eq_true rfl, Nat.le_of_ble_eq_true rfl⟩)) hK hP hD hS hA (fun _ => by simp only [md_w_fst]) (ci := 3) (q0 := 0) rfl rfl rfl rfl rfl hl.1 (Nat.le_of_ble_eq_true rfl) d_MD_row_104 ⟨Nat.zero_le _, Nat.zero_le _⟩ (fun u H locs hu hP hD hS => ?_)
      have hP : va_P D classes (md_w q cI cZ 1 xB xsh xcu xtp xtd xpa xsp xwh xhe xho xtk xto xwa xmn) H := hP
      have hD : va_D A (md_w q cI cZ 1 xB xsh xcu xtp xtd xpa xsp xwh xhe xho xtk xto xwa xmn) := hD
      refine lv_if_eq (tgt := 112) hx hb d_MD_row_107 (by decide) (fun c_12 => absurd c_12 (by decide)) (fun c_12 => ?_)
      refine lv_iconst (v := 0) hx hb d_MD_row_110 (by decide) ?_
      rw [hQ]
      exact sf_iret (0, 1, xpa, xsp, xwh, xhe, xho) hx hb hr hlk hS rfl rfl (by simp only [f_MD_row, ← hu_1, eq_true c_2, eq_true c_3, ↓reduceIte]) hP d_MD_row_111
  · refine lv_iload_n hx hb d_MD_row_10 rfl (lv_at hl 2 rfl) ?_
    refine lv_iconst (v := (-1)) hx hb d_MD_row_11 (by decide) ?_
    refine lv_icmp_ge (tgt := 19) hx hb d_MD_row_12 (by decide) (fun c_13 => ?_) (fun c_13 => ?_)
    · refine lv_iconst (v := 0) hx hb d_MD_row_19 (by decide) ?_
      refine lv_istore_n (lv' := [(3, .int 0), (0, .ref (q 0)), (1, .int ro), (2, .int ri)]) hx hb d_MD_row_20 rfl hl (by decide) rfl (fun ls hl => ?_)
      refine lv_aload_n hx hb d_MD_row_21 rfl (lv_at hl 1 rfl) ?_
      refine va_get (D := D) (ci := 3) (v := .int xsh) (C := R_MD) (T := F_MD) (N := 15) hx hb hts i_MD hown hK hP 0 rfl rfl 2 (by decide) (hts _ wd_577) (fun _ h9 => h9) rfl d_MD_row_22 ?_
      refine lv_if_ne (tgt := 40) hx hb d_MD_row_25 (by decide) (fun c_14 => ?_) (fun c_14 => ?_)
      · refine lv_iconst (v := 1) hx hb d_MD_row_40 (by decide) ?_
        refine lv_goto (tgt := 45) hx hb d_MD_row_41 (by decide) ?_
        refine lv_istore (lv' := [(4, .int 1), (3, .int 0), (0, .ref (q 0)), (1, .int ro), (2, .int ri)]) hx hb d_MD_row_45 hl (by decide) rfl (fun ls hl => ?_)
        refine lv_iload_n hx hb d_MD_row_47 rfl (lv_at hl 1 rfl) ?_
        refine lv_if_ne (tgt := 61) hx hb d_MD_row_48 (by decide) (fun c_15 => absurd (by decide) c_15) (fun c_15 => ?_)
        refine lv_iload hx hb d_MD_row_51 (lv_at hl 0 rfl) ?_
        refine lv_if_ne (tgt := 61) hx hb d_MD_row_53 (by decide) (fun c_16 => ?_) (fun c_16 => absurd c_16 (by decide))
        refine lv_iload_n hx hb d_MD_row_61 rfl (lv_at hl 1 rfl) ?_
        refine lv_if_ne (tgt := 82) hx hb d_MD_row_62 (by decide) (fun c_17 => absurd (by decide) c_17) (fun c_17 => ?_)
        refine lv_iload hx hb d_MD_row_65 (lv_at hl 0 rfl) ?_
        refine lv_if_ne (tgt := 82) hx hb d_MD_row_67 (by decide) (fun c_18 => ?_) (fun c_18 => absurd c_18 (by decide))
        refine lv_iconst (v := 0) hx hb d_MD_row_82 (by decide) ?_
        refine lv_istore (lv' := [(5, .int 0), (4, .int 1), (3, .int 0), (0, .ref (q 0)), (1, .int ro), (2, .int ri)]) hx hb d_MD_row_83 hl (by decide) rfl (fun ls hl => ?_)
        refine lv_aload_n hx hb d_MD_row_85 rfl (lv_at hl 3 rfl) ?_
        refine lv_iload_n hx hb d_MD_row_86 rfl (lv_at hl 2 rfl) ?_
        refine lv_if_ne (tgt := 95) hx hb d_MD_row_87 (by decide) (fun c_19 => absurd (by decide) c_19) (fun c_19 => ?_)
        refine lv_iload hx hb d_MD_row_90 (lv_at hl 0 rfl) ?_
        refine lv_if_eq (tgt := 99) hx hb d_MD_row_92 (by decide) (fun c_20 => ?_) (fun c_20 => absurd (by decide) c_20)
        refine lv_iconst (v := 0) hx hb d_MD_row_99 (by decide) ?_
        refine lv_iload hx hb d_MD_row_100 (lv_at hl 1 rfl) ?_
        refine lv_iconst (v := 0) hx hb d_MD_row_102 (by decide) ?_
        refine lv_iconst (v := 0) hx hb d_MD_row_103 (by decide) ?_
        refine sf_callVw (S := Unit) (rest := []) ⟨hx, hb, hml, hown, hts⟩ (c_MD_throwing_2 l D cI cZ cJ q xth xB xsh xcu xtp xtd xpa xsp xwh xhe xho xtk xto xwa xmn 0 0) (sf_cwV lk_MD_117 hts (fun _ h => h) (by rw [hR]; exact ⟨Nat.le_of_ble_eq_true rfl, Nat.le_of_ble_eq_true rfl⟩)) hK hP hD hS hA (fun _ => by simp only [md_w_fst]) (ci := 3) (q0 := 0) rfl rfl rfl rfl rfl hl.1 (Nat.le_of_ble_eq_true rfl) d_MD_row_104 ⟨Nat.zero_le _, Nat.zero_le _⟩ (fun u H locs hu hP hD hS => ?_)
        have hP : va_P D classes (md_w q cI cZ 2 xB xsh xcu xtp xtd xpa xsp xwh xhe xho xtk xto xwa xmn) H := hP
        have hD : va_D A (md_w q cI cZ 2 xB xsh xcu xtp xtd xpa xsp xwh xhe xho xtk xto xwa xmn) := hD
        refine lv_if_eq (tgt := 112) hx hb d_MD_row_107 (by decide) (fun c_21 => absurd c_21 (by decide)) (fun c_21 => ?_)
        refine lv_iconst (v := 0) hx hb d_MD_row_110 (by decide) ?_
        rw [hQ]
        exact sf_iret (0, 2, xpa, xsp, xwh, xhe, xho) hx hb hr hlk hS rfl rfl (by simp only [f_MD_row, ← hu_1, eq_false c_2, eq_true c_13, eq_false c_14, ↓reduceIte]) hP d_MD_row_111
      · refine lv_iload_n hx hb d_MD_row_28 rfl (lv_at hl 0 rfl) ?_
        refine lv_if_ne (tgt := 44) hx hb d_MD_row_29 (by decide) (fun c_22 => absurd (by decide) c_22) (fun c_22 => ?_)
        refine lv_aload_n hx hb d_MD_row_32 rfl (lv_at hl 1 rfl) ?_
        refine lv_iload_n hx hb d_MD_row_33 rfl (lv_at hl 2 rfl) ?_
        obtain ⟨u_23, hu_23⟩ : ∃ z, z = ro.toNatClampNeg := ⟨_, rfl⟩
        obtain ⟨he_u_23, hb_u_23⟩ := sf_natr hu_23 (by rw [← hu_1]; exact c_2)
        rw [he_u_23]
        refine sf_callVw (S := Int32) (rest := []) ⟨hx, hb, hml, hown, hts⟩ (c_MD_isThere l D cI cZ cJ q xth xB xsh xcu xtp xtd xpa xsp xwh xhe xho xtk xto xwa xmn u_23 (by omega)) (sf_cwV lk_MD_95 hts (fun _ h => h) (by rw [hR]; exact ⟨Nat.le_of_ble_eq_true rfl, Nat.le_of_ble_eq_true rfl⟩)) hK hP hD hS hA (fun _ => by simp only [md_w_fst]) (ci := 3) (q0 := 0) rfl rfl rfl rfl rfl hl.1 (Nat.le_of_ble_eq_true rfl) d_MD_row_34 ⟨Nat.zero_le _, Nat.zero_le _⟩ (fun u_24 H locs hu_24 hP hD hS => ?_)
        have hP : va_P D classes (md_w q cI cZ xth xB xsh xcu xtp xtd xpa xsp xwh xhe xho xtk xto xwa xmn) H := hP
        have hD : va_D A (md_w q cI cZ xth xB xsh xcu xtp xtd xpa xsp xwh xhe xho xtk xto xwa xmn) := hD
        refine lv_if_ne (tgt := 44) hx hb d_MD_row_37 (by decide) (fun c_25 => ?_) (fun c_25 => ?_)
        · refine lv_iconst (v := 0) hx hb d_MD_row_44 (by decide) ?_
          refine lv_istore (lv' := [(4, .int 0), (3, .int 0), (0, .ref (q 0)), (1, .int ro), (2, .int ri)]) hx hb d_MD_row_45 hl (by decide) rfl (fun ls hl => ?_)
          refine lv_iload_n hx hb d_MD_row_47 rfl (lv_at hl 1 rfl) ?_
          refine lv_if_ne (tgt := 61) hx hb d_MD_row_48 (by decide) (fun c_26 => absurd (by decide) c_26) (fun c_26 => ?_)
          refine lv_iload hx hb d_MD_row_51 (lv_at hl 0 rfl) ?_
          refine lv_if_ne (tgt := 61) hx hb d_MD_row_53 (by decide) (fun c_27 => absurd (by decide) c_27) (fun c_27 => ?_)
          refine lv_aload_n hx hb d_MD_row_56 rfl (lv_at hl 2 rfl) ?_
          refine lv_iload_n hx hb d_MD_row_57 rfl (lv_at hl 3 rfl) ?_
          rw [he_u_23]
          refine sf_callVw (S := ((Nat → Int32) × Int32 × Int32 × (Nat → Int32) × Int32)) (rest := []) ⟨hx, hb, hml, hown, hts⟩ (c_MD_go l D cI cZ cJ q xth xB xsh xcu xtp xtd xpa xsp xwh xhe xho xtk xto xwa xmn u_23 (by omega)) (sf_cwV lk_MD_91 hts (fun _ h => h) (by rw [hR]; exact ⟨Nat.le_of_ble_eq_true rfl, Nat.le_of_ble_eq_true rfl⟩)) hK hP hD hS hA (fun _ => by simp only [md_w_fst]) (ci := 3) (q0 := 0) rfl rfl rfl rfl rfl hl.1 (Nat.le_of_ble_eq_true rfl) d_MD_row_58 ⟨Nat.zero_le _, Nat.zero_le _⟩ (fun u_28 H locs hu_28 hP hD hS => ?_)
          have hP : va_P D classes (md_w q cI cZ xth xB xsh xcu xtp xtd u_28.1 u_28.2.1 u_28.2.2.1 u_28.2.2.2.1 u_28.2.2.2.2 xtk xto xwa xmn) H := hP
          have hD : va_D A (md_w q cI cZ xth xB xsh xcu xtp xtd u_28.1 u_28.2.1 u_28.2.2.1 u_28.2.2.2.1 u_28.2.2.2.2 xtk xto xwa xmn) := hD
          refine lv_iload_n hx hb d_MD_row_61 rfl (lv_at hl 1 rfl) ?_
          refine lv_if_ne (tgt := 82) hx hb d_MD_row_62 (by decide) (fun c_29 => absurd (by decide) c_29) (fun c_29 => ?_)
          refine lv_iload hx hb d_MD_row_65 (lv_at hl 0 rfl) ?_
          refine lv_if_ne (tgt := 82) hx hb d_MD_row_67 (by decide) (fun c_30 => absurd (by decide) c_30) (fun c_30 => ?_)
          refine lv_iload_n hx hb d_MD_row_70 rfl (lv_at hl 4 rfl) ?_
          refine lv_aload_n hx hb d_MD_row_71 rfl (lv_at hl 2 rfl) ?_
          refine va_get (D := D) (ci := 3) (v := .int u_28.2.2.2.2) (C := R_MD) (T := F_MD) (N := 15) hx hb hts i_MD hown hK hP 0 rfl rfl 10 (by decide) (hts _ wd_585) (fun _ h9 => h9) rfl d_MD_row_72 ?_
          refine lv_icmp_lt (tgt := 82) hx hb d_MD_row_75 (by decide) (fun c_31 => ?_) (fun c_31 => ?_)
          · refine lv_iconst (v := 0) hx hb d_MD_row_82 (by decide) ?_
            refine lv_istore (lv' := [(5, .int 0), (4, .int 0), (3, .int 0), (0, .ref (q 0)), (1, .int ro), (2, .int ri)]) hx hb d_MD_row_83 hl (by decide) rfl (fun ls hl => ?_)
            refine lv_aload_n hx hb d_MD_row_85 rfl (lv_at hl 3 rfl) ?_
            refine lv_iload_n hx hb d_MD_row_86 rfl (lv_at hl 2 rfl) ?_
            refine lv_if_ne (tgt := 95) hx hb d_MD_row_87 (by decide) (fun c_32 => absurd (by decide) c_32) (fun c_32 => ?_)
            refine lv_iload hx hb d_MD_row_90 (lv_at hl 0 rfl) ?_
            refine lv_if_eq (tgt := 99) hx hb d_MD_row_92 (by decide) (fun c_33 => ?_) (fun c_33 => absurd (by decide) c_33)
            refine lv_iconst (v := 0) hx hb d_MD_row_99 (by decide) ?_
            refine lv_iload hx hb d_MD_row_100 (lv_at hl 1 rfl) ?_
            refine lv_iconst (v := 0) hx hb d_MD_row_102 (by decide) ?_
            refine lv_iconst (v := 0) hx hb d_MD_row_103 (by decide) ?_
            refine sf_callVw (S := Unit) (rest := []) ⟨hx, hb, hml, hown, hts⟩ (c_MD_throwing_0 l D cI cZ cJ q xth xB xsh xcu xtp xtd u_28.1 u_28.2.1 u_28.2.2.1 u_28.2.2.2.1 u_28.2.2.2.2 xtk xto xwa xmn) (sf_cwV lk_MD_117 hts (fun _ h => h) (by rw [hR]; exact ⟨Nat.le_of_ble_eq_true rfl, Nat.le_of_ble_eq_true rfl⟩)) hK hP hD hS hA (fun _ => by simp only [md_w_fst]) (ci := 3) (q0 := 0) rfl rfl rfl rfl rfl hl.1 (Nat.le_of_ble_eq_true rfl) d_MD_row_104 ⟨Nat.zero_le _, Nat.zero_le _⟩ (fun u H locs hu hP hD hS => ?_)
            have hP : va_P D classes (md_w q cI cZ 0 xB xsh xcu xtp xtd u_28.1 u_28.2.1 u_28.2.2.1 u_28.2.2.2.1 u_28.2.2.2.2 xtk xto xwa xmn) H := hP
            have hD : va_D A (md_w q cI cZ 0 xB xsh xcu xtp xtd u_28.1 u_28.2.1 u_28.2.2.1 u_28.2.2.2.1 u_28.2.2.2.2 xtk xto xwa xmn) := hD
            refine lv_if_eq (tgt := 112) hx hb d_MD_row_107 (by decide) (fun c_34 => ?_) (fun c_34 => absurd (by decide) c_34)
            refine lv_iload_n hx hb d_MD_row_112 rfl (lv_at hl 5 rfl) ?_
            refine lv_if_ge (tgt := 123) hx hb d_MD_row_113 (by decide) (fun c_35 => ?_) (fun c_35 => ?_)
            · refine lv_aload_n hx hb d_MD_row_123 rfl (lv_at hl 3 rfl) ?_
              refine va_get (D := D) (ci := 3) (v := .ref (q 4)) (C := R_MD) (T := F_MD) (N := 15) hx hb hts i_MD hown hK hP 0 rfl rfl 9 (by decide) (hts _ wd_584) (fun _ h9 => h9) rfl d_MD_row_124 ?_
              refine lv_iload_n hx hb d_MD_row_127 rfl (lv_at hl 5 rfl) ?_
              refine va_iald hx hb hK hP 4 0 rfl rfl (md_GO.row (r := u_28) (by rw [hu_28]; exact f_MD_go_ok24 _ _ _ _) c_35 c_31) d_MD_row_128 ?_
              rw [hQ]
              exact sf_iret ((u_28.2.2.2.1 ri.toNatClampNeg), 0, u_28.1, u_28.2.1, u_28.2.2.1, u_28.2.2.2.1, u_28.2.2.2.2) hx hb hr hlk hS rfl rfl (by simp only [f_MD_row, ← hu_1, ← hu_23, ← hu_24, ← hu_28, eq_false c_2, eq_true c_13, eq_true c_14, eq_false c_25, eq_true c_31, eq_true c_35, ↓reduceIte]) hP d_MD_row_129
            · refine lv_aload_n hx hb d_MD_row_116 rfl (lv_at hl 3 rfl) ?_
              refine va_get (D := D) (ci := 3) (v := .int u_28.2.2.2.2) (C := R_MD) (T := F_MD) (N := 15) hx hb hts i_MD hown hK hP 0 rfl rfl 10 (by decide) (hts _ wd_585) (fun _ h9 => h9) rfl d_MD_row_117 ?_
              refine lv_goto (tgt := 129) hx hb d_MD_row_120 (by decide) ?_
              rw [hQ]
              exact sf_iret (u_28.2.2.2.2, 0, u_28.1, u_28.2.1, u_28.2.2.1, u_28.2.2.2.1, u_28.2.2.2.2) hx hb hr hlk hS rfl rfl (by simp only [f_MD_row, ← hu_1, ← hu_23, ← hu_24, ← hu_28, eq_false c_2, eq_true c_13, eq_true c_14, eq_false c_25, eq_true c_31, eq_false c_35, ↓reduceIte]) hP d_MD_row_129
          · refine lv_iconst (v := 1) hx hb d_MD_row_78 (by decide) ?_
            refine lv_goto (tgt := 83) hx hb d_MD_row_79 (by decide) ?_
            refine lv_istore (lv' := [(5, .int 1), (4, .int 0), (3, .int 0), (0, .ref (q 0)), (1, .int ro), (2, .int ri)]) hx hb d_MD_row_83 hl (by decide) rfl (fun ls hl => ?_)
            refine lv_aload_n hx hb d_MD_row_85 rfl (lv_at hl 3 rfl) ?_
            refine lv_iload_n hx hb d_MD_row_86 rfl (lv_at hl 2 rfl) ?_
            refine lv_if_ne (tgt := 95) hx hb d_MD_row_87 (by decide) (fun c_36 => absurd (by decide) c_36) (fun c_36 => ?_)
            refine lv_iload hx hb d_MD_row_90 (lv_at hl 0 rfl) ?_
            refine lv_if_eq (tgt := 99) hx hb d_MD_row_92 (by decide) (fun c_37 => absurd c_37 (by decide)) (fun c_37 => ?_)
            refine lv_iconst (v := 1) hx hb d_MD_row_95 (by decide) ?_
            refine lv_goto (tgt := 100) hx hb d_MD_row_96 (by decide) ?_
            refine lv_iload hx hb d_MD_row_100 (lv_at hl 1 rfl) ?_
            refine lv_iconst (v := 0) hx hb d_MD_row_102 (by decide) ?_
            refine lv_iconst (v := 0) hx hb d_MD_row_103 (by decide) ?_
            refine sf_callVw (S := Unit) (rest := []) ⟨hx, hb, hml, hown, hts⟩ (c_MD_throwing_1 l D cI cZ cJ q xth xB xsh xcu xtp xtd u_28.1 u_28.2.1 u_28.2.2.1 u_28.2.2.2.1 u_28.2.2.2.2 xtk xto xwa xmn 0 0 0) (sf_cwV lk_MD_117 hts (fun _ h => h) (by rw [hR]; exact ⟨Nat.le_of_ble_eq_true rfl, Nat.le_of_ble_eq_true rfl⟩)) hK hP hD hS hA (fun _ => by simp only [md_w_fst]) (ci := 3) (q0 := 0) rfl rfl rfl rfl rfl hl.1 (Nat.le_of_ble_eq_true rfl) d_MD_row_104 ⟨Nat.zero_le _, Nat.zero_le _⟩ (fun u H locs hu hP hD hS => ?_)
            have hP : va_P D classes (md_w q cI cZ 1 xB xsh xcu xtp xtd u_28.1 u_28.2.1 u_28.2.2.1 u_28.2.2.2.1 u_28.2.2.2.2 xtk xto xwa xmn) H := hP
            have hD : va_D A (md_w q cI cZ 1 xB xsh xcu xtp xtd u_28.1 u_28.2.1 u_28.2.2.1 u_28.2.2.2.1 u_28.2.2.2.2 xtk xto xwa xmn) := hD
            refine lv_if_eq (tgt := 112) hx hb d_MD_row_107 (by decide) (fun c_38 => absurd c_38 (by decide)) (fun c_38 => ?_)
            refine lv_iconst (v := 0) hx hb d_MD_row_110 (by decide) ?_
            rw [hQ]
            exact sf_iret (0, 1, u_28.1, u_28.2.1, u_28.2.2.1, u_28.2.2.2.1, u_28.2.2.2.2) hx hb hr hlk hS rfl rfl (by simp only [f_MD_row, ← hu_1, ← hu_23, ← hu_24, ← hu_28, eq_false c_2, eq_true c_13, eq_true c_14, eq_false c_25, eq_false c_31, ↓reduceIte]) hP d_MD_row_111
        · refine lv_iconst (v := 1) hx hb d_MD_row_40 (by decide) ?_
          refine lv_goto (tgt := 45) hx hb d_MD_row_41 (by decide) ?_
          refine lv_istore (lv' := [(4, .int 1), (3, .int 0), (0, .ref (q 0)), (1, .int ro), (2, .int ri)]) hx hb d_MD_row_45 hl (by decide) rfl (fun ls hl => ?_)
          refine lv_iload_n hx hb d_MD_row_47 rfl (lv_at hl 1 rfl) ?_
          refine lv_if_ne (tgt := 61) hx hb d_MD_row_48 (by decide) (fun c_39 => absurd (by decide) c_39) (fun c_39 => ?_)
          refine lv_iload hx hb d_MD_row_51 (lv_at hl 0 rfl) ?_
          refine lv_if_ne (tgt := 61) hx hb d_MD_row_53 (by decide) (fun c_40 => ?_) (fun c_40 => absurd c_40 (by decide))
          refine lv_iload_n hx hb d_MD_row_61 rfl (lv_at hl 1 rfl) ?_
          refine lv_if_ne (tgt := 82) hx hb d_MD_row_62 (by decide) (fun c_41 => absurd (by decide) c_41) (fun c_41 => ?_)
          refine lv_iload hx hb d_MD_row_65 (lv_at hl 0 rfl) ?_
          refine lv_if_ne (tgt := 82) hx hb d_MD_row_67 (by decide) (fun c_42 => ?_) (fun c_42 => absurd c_42 (by decide))
          refine lv_iconst (v := 0) hx hb d_MD_row_82 (by decide) ?_
          refine lv_istore (lv' := [(5, .int 0), (4, .int 1), (3, .int 0), (0, .ref (q 0)), (1, .int ro), (2, .int ri)]) hx hb d_MD_row_83 hl (by decide) rfl (fun ls hl => ?_)
          refine lv_aload_n hx hb d_MD_row_85 rfl (lv_at hl 3 rfl) ?_
          refine lv_iload_n hx hb d_MD_row_86 rfl (lv_at hl 2 rfl) ?_
          refine lv_if_ne (tgt := 95) hx hb d_MD_row_87 (by decide) (fun c_43 => absurd (by decide) c_43) (fun c_43 => ?_)
          refine lv_iload hx hb d_MD_row_90 (lv_at hl 0 rfl) ?_
          refine lv_if_eq (tgt := 99) hx hb d_MD_row_92 (by decide) (fun c_44 => ?_) (fun c_44 => absurd (by decide) c_44)
          refine lv_iconst (v := 0) hx hb d_MD_row_99 (by decide) ?_
          refine lv_iload hx hb d_MD_row_100 (lv_at hl 1 rfl) ?_
          refine lv_iconst (v := 0) hx hb d_MD_row_102 (by decide) ?_
          refine lv_iconst (v := 0) hx hb d_MD_row_103 (by decide) ?_
          refine sf_callVw (S := Unit) (rest := []) ⟨hx, hb, hml, hown, hts⟩ (c_MD_throwing_2 l D cI cZ cJ q xth xB xsh xcu xtp xtd xpa xsp xwh xhe xho xtk xto xwa xmn 0 0) (sf_cwV lk_MD_117 hts (fun _ h => h) (by rw [hR]; exact ⟨Nat.le_of_ble_eq_true rfl, Nat.le_of_ble_eq_true rfl⟩)) hK hP hD hS hA (fun _ => by simp only [md_w_fst]) (ci := 3) (q0 := 0) rfl rfl rfl rfl rfl hl.1 (Nat.le_of_ble_eq_true rfl) d_MD_row_104 ⟨Nat.zero_le _, Nat.zero_le _⟩ (fun u H locs hu hP hD hS => ?_)
          have hP : va_P D classes (md_w q cI cZ 2 xB xsh xcu xtp xtd xpa xsp xwh xhe xho xtk xto xwa xmn) H := hP
          have hD : va_D A (md_w q cI cZ 2 xB xsh xcu xtp xtd xpa xsp xwh xhe xho xtk xto xwa xmn) := hD
          refine lv_if_eq (tgt := 112) hx hb d_MD_row_107 (by decide) (fun c_45 => absurd c_45 (by decide)) (fun c_45 => ?_)
          refine lv_iconst (v := 0) hx hb d_MD_row_110 (by decide) ?_
          rw [hQ]
          exact sf_iret (0, 2, xpa, xsp, xwh, xhe, xho) hx hb hr hlk hS rfl rfl (by simp only [f_MD_row, ← hu_1, ← hu_23, ← hu_24, eq_false c_2, eq_true c_13, eq_true c_14, eq_true c_25, ↓reduceIte]) hP d_MD_row_111
    · refine lv_iconst (v := 1) hx hb d_MD_row_15 (by decide) ?_
      refine lv_goto (tgt := 20) hx hb d_MD_row_16 (by decide) ?_
      refine lv_istore_n (lv' := [(3, .int 1), (0, .ref (q 0)), (1, .int ro), (2, .int ri)]) hx hb d_MD_row_20 rfl hl (by decide) rfl (fun ls hl => ?_)
      refine lv_aload_n hx hb d_MD_row_21 rfl (lv_at hl 1 rfl) ?_
      refine va_get (D := D) (ci := 3) (v := .int xsh) (C := R_MD) (T := F_MD) (N := 15) hx hb hts i_MD hown hK hP 0 rfl rfl 2 (by decide) (hts _ wd_577) (fun _ h9 => h9) rfl d_MD_row_22 ?_
      refine lv_if_ne (tgt := 40) hx hb d_MD_row_25 (by decide) (fun c_46 => ?_) (fun c_46 => ?_)
      · refine lv_iconst (v := 1) hx hb d_MD_row_40 (by decide) ?_
        refine lv_goto (tgt := 45) hx hb d_MD_row_41 (by decide) ?_
        refine lv_istore (lv' := [(4, .int 1), (3, .int 1), (0, .ref (q 0)), (1, .int ro), (2, .int ri)]) hx hb d_MD_row_45 hl (by decide) rfl (fun ls hl => ?_)
        refine lv_iload_n hx hb d_MD_row_47 rfl (lv_at hl 1 rfl) ?_
        refine lv_if_ne (tgt := 61) hx hb d_MD_row_48 (by decide) (fun c_47 => ?_) (fun c_47 => absurd c_47 (by decide))
        refine lv_iload_n hx hb d_MD_row_61 rfl (lv_at hl 1 rfl) ?_
        refine lv_if_ne (tgt := 82) hx hb d_MD_row_62 (by decide) (fun c_48 => ?_) (fun c_48 => absurd c_48 (by decide))
        refine lv_iconst (v := 0) hx hb d_MD_row_82 (by decide) ?_
        refine lv_istore (lv' := [(5, .int 0), (4, .int 1), (3, .int 1), (0, .ref (q 0)), (1, .int ro), (2, .int ri)]) hx hb d_MD_row_83 hl (by decide) rfl (fun ls hl => ?_)
        refine lv_aload_n hx hb d_MD_row_85 rfl (lv_at hl 3 rfl) ?_
        refine lv_iload_n hx hb d_MD_row_86 rfl (lv_at hl 2 rfl) ?_
        refine lv_if_ne (tgt := 95) hx hb d_MD_row_87 (by decide) (fun c_49 => ?_) (fun c_49 => absurd c_49 (by decide))
        refine lv_iconst (v := 1) hx hb d_MD_row_95 (by decide) ?_
        refine lv_goto (tgt := 100) hx hb d_MD_row_96 (by decide) ?_
        refine lv_iload hx hb d_MD_row_100 (lv_at hl 1 rfl) ?_
        refine lv_iconst (v := 0) hx hb d_MD_row_102 (by decide) ?_
        refine lv_iconst (v := 0) hx hb d_MD_row_103 (by decide) ?_
        refine sf_callVw (S := Unit) (rest := []) ⟨hx, hb, hml, hown, hts⟩ (c_MD_throwing_1 l D cI cZ cJ q xth xB xsh xcu xtp xtd xpa xsp xwh xhe xho xtk xto xwa xmn 1 0 0) (sf_cwV lk_MD_117 hts (fun _ h => h) (by rw [hR]; exact ⟨Nat.le_of_ble_eq_true rfl, Nat.le_of_ble_eq_true rfl⟩)) hK hP hD hS hA (fun _ => by simp only [md_w_fst]) (ci := 3) (q0 := 0) rfl rfl rfl rfl rfl hl.1 (Nat.le_of_ble_eq_true rfl) d_MD_row_104 ⟨Nat.zero_le _, Nat.zero_le _⟩ (fun u H locs hu hP hD hS => ?_)
        have hP : va_P D classes (md_w q cI cZ 1 xB xsh xcu xtp xtd xpa xsp xwh xhe xho xtk xto xwa xmn) H := hP
        have hD : va_D A (md_w q cI cZ 1 xB xsh xcu xtp xtd xpa xsp xwh xhe xho xtk xto xwa xmn) := hD
        refine lv_if_eq (tgt := 112) hx hb d_MD_row_107 (by decide) (fun c_50 => absurd c_50 (by decide)) (fun c_50 => ?_)
        refine lv_iconst (v := 0) hx hb d_MD_row_110 (by decide) ?_
        rw [hQ]
        exact sf_iret (0, 1, xpa, xsp, xwh, xhe, xho) hx hb hr hlk hS rfl rfl (by simp only [f_MD_row, ← hu_1, eq_false c_2, eq_false c_13, eq_false c_46, ↓reduceIte]) hP d_MD_row_111
      · refine lv_iload_n hx hb d_MD_row_28 rfl (lv_at hl 0 rfl) ?_
        refine lv_if_ne (tgt := 44) hx hb d_MD_row_29 (by decide) (fun c_51 => ?_) (fun c_51 => absurd c_51 (by decide))
        refine lv_iconst (v := 0) hx hb d_MD_row_44 (by decide) ?_
        refine lv_istore (lv' := [(4, .int 0), (3, .int 1), (0, .ref (q 0)), (1, .int ro), (2, .int ri)]) hx hb d_MD_row_45 hl (by decide) rfl (fun ls hl => ?_)
        refine lv_iload_n hx hb d_MD_row_47 rfl (lv_at hl 1 rfl) ?_
        refine lv_if_ne (tgt := 61) hx hb d_MD_row_48 (by decide) (fun c_52 => ?_) (fun c_52 => absurd c_52 (by decide))
        refine lv_iload_n hx hb d_MD_row_61 rfl (lv_at hl 1 rfl) ?_
        refine lv_if_ne (tgt := 82) hx hb d_MD_row_62 (by decide) (fun c_53 => ?_) (fun c_53 => absurd c_53 (by decide))
        refine lv_iconst (v := 0) hx hb d_MD_row_82 (by decide) ?_
        refine lv_istore (lv' := [(5, .int 0), (4, .int 0), (3, .int 1), (0, .ref (q 0)), (1, .int ro), (2, .int ri)]) hx hb d_MD_row_83 hl (by decide) rfl (fun ls hl => ?_)
        refine lv_aload_n hx hb d_MD_row_85 rfl (lv_at hl 3 rfl) ?_
        refine lv_iload_n hx hb d_MD_row_86 rfl (lv_at hl 2 rfl) ?_
        refine lv_if_ne (tgt := 95) hx hb d_MD_row_87 (by decide) (fun c_54 => ?_) (fun c_54 => absurd c_54 (by decide))
        refine lv_iconst (v := 1) hx hb d_MD_row_95 (by decide) ?_
        refine lv_goto (tgt := 100) hx hb d_MD_row_96 (by decide) ?_
        refine lv_iload hx hb d_MD_row_100 (lv_at hl 1 rfl) ?_
        refine lv_iconst (v := 0) hx hb d_MD_row_102 (by decide) ?_
        refine lv_iconst (v := 0) hx hb d_MD_row_103 (by decide) ?_
        refine sf_callVw (S := Unit) (rest := []) ⟨hx, hb, hml, hown, hts⟩ (c_MD_throwing_1 l D cI cZ cJ q xth xB xsh xcu xtp xtd xpa xsp xwh xhe xho xtk xto xwa xmn 0 0 0) (sf_cwV lk_MD_117 hts (fun _ h => h) (by rw [hR]; exact ⟨Nat.le_of_ble_eq_true rfl, Nat.le_of_ble_eq_true rfl⟩)) hK hP hD hS hA (fun _ => by simp only [md_w_fst]) (ci := 3) (q0 := 0) rfl rfl rfl rfl rfl hl.1 (Nat.le_of_ble_eq_true rfl) d_MD_row_104 ⟨Nat.zero_le _, Nat.zero_le _⟩ (fun u H locs hu hP hD hS => ?_)
        have hP : va_P D classes (md_w q cI cZ 1 xB xsh xcu xtp xtd xpa xsp xwh xhe xho xtk xto xwa xmn) H := hP
        have hD : va_D A (md_w q cI cZ 1 xB xsh xcu xtp xtd xpa xsp xwh xhe xho xtk xto xwa xmn) := hD
        refine lv_if_eq (tgt := 112) hx hb d_MD_row_107 (by decide) (fun c_55 => absurd c_55 (by decide)) (fun c_55 => ?_)
        refine lv_iconst (v := 0) hx hb d_MD_row_110 (by decide) ?_
        rw [hQ]
        exact sf_iret (0, 1, xpa, xsp, xwh, xhe, xho) hx hb hr hlk hS rfl rfl (by simp only [f_MD_row, ← hu_1, eq_false c_2, eq_false c_13, eq_true c_46, ↓reduceIte]) hP d_MD_row_111
def f_MD_at (xB : Nat → Int32) (xsh : Int32) (xpa : Nat → Int32) (xsp : Int32) (xwh : Int32) (xhe : Nat → Int32) (xho : Int32) (ro : Int32) (ak : Int32) : (Int32 × Int32 × (Nat → Int32) × Int32 × Int32 × (Nat → Int32) × Int32) :=
  if (f_MD_in ro 0 11) = 0 then
    if xsh = 0 then
      (0, 1, xpa, xsp, xwh, xhe, xho)
    else
      (0, 1, xpa, xsp, xwh, xhe, xho)
  else
    if (f_MD_in ak 0 3) = 0 then
      if xsh = 0 then
        (0, 1, xpa, xsp, xwh, xhe, xho)
      else
        (0, 1, xpa, xsp, xwh, xhe, xho)
    else
      if xsh = 0 then
        if ak ≤ 0 then
          if ak = 0 then
            if (f_MD_isThere xB (ro.toNatClampNeg)) = 0 then
              (0, 0, xpa, xsp, xwh, xhe, xho)
            else
              (1, 0, xpa, xsp, xwh, xhe, xho)
          else
            if ak = 1 then
              if (f_MD_isSlow xB (ro.toNatClampNeg)) = 0 then
                (0, 0, xpa, xsp, xwh, xhe, xho)
              else
                (1, 0, xpa, xsp, xwh, xhe, xho)
            else
              if ak = 2 then
                ((f_MD_monthOf xB xpa xhe (ro.toNatClampNeg)).1, 0, (f_MD_monthOf xB xpa xhe (ro.toNatClampNeg)).2.1, (f_MD_monthOf xB xpa xhe (ro.toNatClampNeg)).2.2.1, (f_MD_monthOf xB xpa xhe (ro.toNatClampNeg)).2.2.2.1, (f_MD_monthOf xB xpa xhe (ro.toNatClampNeg)).2.2.2.2.1, (f_MD_monthOf xB xpa xhe (ro.toNatClampNeg)).2.2.2.2.2)
              else
                ((f_MD_monthOf xB xpa xhe (ro.toNatClampNeg)).2.2.1, 0, (f_MD_monthOf xB xpa xhe (ro.toNatClampNeg)).2.1, (f_MD_monthOf xB xpa xhe (ro.toNatClampNeg)).2.2.1, (f_MD_monthOf xB xpa xhe (ro.toNatClampNeg)).2.2.2.1, (f_MD_monthOf xB xpa xhe (ro.toNatClampNeg)).2.2.2.2.1, (f_MD_monthOf xB xpa xhe (ro.toNatClampNeg)).2.2.2.2.2)
        else
          if (f_MD_isThere xB (ro.toNatClampNeg)) = 0 then
            (0, 2, xpa, xsp, xwh, xhe, xho)
          else
            if ak = 0 then
              (1, 0, xpa, xsp, xwh, xhe, xho)
            else
              if ak = 1 then
                if (f_MD_isSlow xB (ro.toNatClampNeg)) = 0 then
                  (0, 0, xpa, xsp, xwh, xhe, xho)
                else
                  (1, 0, xpa, xsp, xwh, xhe, xho)
              else
                if ak = 2 then
                  ((f_MD_monthOf xB xpa xhe (ro.toNatClampNeg)).1, 0, (f_MD_monthOf xB xpa xhe (ro.toNatClampNeg)).2.1, (f_MD_monthOf xB xpa xhe (ro.toNatClampNeg)).2.2.1, (f_MD_monthOf xB xpa xhe (ro.toNatClampNeg)).2.2.2.1, (f_MD_monthOf xB xpa xhe (ro.toNatClampNeg)).2.2.2.2.1, (f_MD_monthOf xB xpa xhe (ro.toNatClampNeg)).2.2.2.2.2)
                else
                  ((f_MD_monthOf xB xpa xhe (ro.toNatClampNeg)).2.2.1, 0, (f_MD_monthOf xB xpa xhe (ro.toNatClampNeg)).2.1, (f_MD_monthOf xB xpa xhe (ro.toNatClampNeg)).2.2.1, (f_MD_monthOf xB xpa xhe (ro.toNatClampNeg)).2.2.2.1, (f_MD_monthOf xB xpa xhe (ro.toNatClampNeg)).2.2.2.2.1, (f_MD_monthOf xB xpa xhe (ro.toNatClampNeg)).2.2.2.2.2)
      else
        (0, 2, xpa, xsp, xwh, xhe, xho)
set_option maxHeartbeats 1000000 in
set_option maxRecDepth 100000 in
/-- at -/
theorem c_MD_at (l : Launch) (D : va_G) (cI cZ cJ : ClassId) (q : Nat → Nat) (xth : Int32) (xB : Nat → Int32) (xsh : Int32) (xcu : Int32) (xtp : Nat → Int32) (xtd : Int32) (xpa : Nat → Int32) (xsp : Int32) (xwh : Int32) (xhe : Nat → Int32) (xho : Int32) (xtk : Nat → Int32) (xto : Nat → Int32) (xwa : Nat → Int32) (xmn : Int32) (ro : Int32) (ak : Int32) : sf_M (S := (Int32 × Int32 × (Nat → Int32) × Int32 × Int32 × (Nat → Int32) × Int32)) l D classes (sf_tys cI cZ cJ) y_MD_at (sf_ws y_MD_at b_MD_at 5 (some .int)) 8 180 [.ref (q 0), .int ro, .int ak] (md_w q cI cZ xth xB xsh xcu xtp xtd xpa xsp xwh xhe xho xtk xto xwa xmn) (fun r => some (.int r.1)) (fun r => r = f_MD_at xB xsh xpa xsp xwh xhe xho ro ak) (fun r => (md_w q cI cZ r.2.1 xB xsh xcu xtp xtd r.2.2.1 r.2.2.2.1 r.2.2.2.2.1 r.2.2.2.2.2.1 r.2.2.2.2.2.2 xtk xto xwa xmn)) := by
  refine sf_ofW (S := (Int32 × Int32 × (Nat → Int32) × Int32 × Int32 × (Nat → Int32) × Int32)) (by decide) (Nat.le_of_ble_eq_true rfl) ?_
  intro p e s m below meth c A ls R args Q hR hArgs hQ hC0 hr hK hP hD hl
  obtain ⟨hx, hb, hml, hown, hts, hA, hlk⟩ := hC0
  have hS : va_S A s.heap s.heap [] := va_S.rf
  have hl : lv_has ls 5 [(0, .ref (q 0)), (1, .int ro), (2, .int ak)] := hl
  refine lv_iload_n hx hb d_MD_at_0 rfl (lv_at hl 1 rfl) ?_
  refine lv_iconst (v := 0) hx hb d_MD_at_1 (by decide) ?_
  refine lv_bipush (v := 11) hx hb d_MD_at_2 (by decide) ?_
  refine sf_callSr (S := Int32) (rest := []) ⟨hx, hb, hml, hown, hts⟩ (c_MD_in l D cI cZ cJ ro 0 11) (sf_cwS lk_MD_44 hts (fun _ h => h) (by rw [hR]; exact ⟨Nat.le_of_ble_eq_true rfl, Nat.le_of_ble_eq_true rfl⟩)) hK hP hD hS hA [] rfl rfl (fun _ => rfl) rfl rfl hl.1 (Nat.le_of_ble_eq_true rfl) d_MD_at_4 ⟨Nat.zero_le _, Nat.zero_le _⟩ (fun u_1 H locs hu_1 hP hS => ?_)
  refine lv_if_eq (tgt := 19) hx hb d_MD_at_7 (by decide) (fun c_2 => ?_) (fun c_2 => ?_)
  · refine lv_iconst (v := 1) hx hb d_MD_at_19 (by decide) ?_
    refine lv_goto (tgt := 24) hx hb d_MD_at_20 (by decide) ?_
    refine lv_istore_n (lv' := [(3, .int 1), (0, .ref (q 0)), (1, .int ro), (2, .int ak)]) hx hb d_MD_at_24 rfl hl (by decide) rfl (fun ls hl => ?_)
    refine lv_aload_n hx hb d_MD_at_25 rfl (lv_at hl 1 rfl) ?_
    refine lv_iload_n hx hb d_MD_at_26 rfl (lv_at hl 0 rfl) ?_
    refine lv_aload_n hx hb d_MD_at_27 rfl (lv_at hl 1 rfl) ?_
    refine va_get (D := D) (ci := 3) (v := .int xsh) (C := R_MD) (T := F_MD) (N := 15) hx hb hts i_MD hown hK hP 0 rfl rfl 2 (by decide) (hts _ wd_577) (fun _ h9 => h9) rfl d_MD_at_28 ?_
    refine lv_if_ne (tgt := 50) hx hb d_MD_at_31 (by decide) (fun c_3 => ?_) (fun c_3 => ?_)
    · refine lv_iconst (v := 1) hx hb d_MD_at_50 (by decide) ?_
      refine lv_goto (tgt := 55) hx hb d_MD_at_51 (by decide) ?_
      refine lv_iconst (v := 0) hx hb d_MD_at_55 (by decide) ?_
      refine lv_iconst (v := 0) hx hb d_MD_at_56 (by decide) ?_
      refine sf_callVw (S := Unit) (rest := []) ⟨hx, hb, hml, hown, hts⟩ (c_MD_throwing_1 l D cI cZ cJ q xth xB xsh xcu xtp xtd xpa xsp xwh xhe xho xtk xto xwa xmn 1 0 0) (sf_cwV lk_MD_117 hts (fun _ h => h) (by rw [hR]; exact ⟨Nat.le_of_ble_eq_true rfl, Nat.le_of_ble_eq_true rfl⟩)) hK hP hD hS hA (fun _ => by simp only [md_w_fst]) (ci := 3) (q0 := 0) rfl rfl rfl rfl rfl hl.1 (Nat.le_of_ble_eq_true rfl) d_MD_at_57 ⟨Nat.zero_le _, Nat.zero_le _⟩ (fun u H locs hu hP hD hS => ?_)
      have hP : va_P D classes (md_w q cI cZ 1 xB xsh xcu xtp xtd xpa xsp xwh xhe xho xtk xto xwa xmn) H := hP
      have hD : va_D A (md_w q cI cZ 1 xB xsh xcu xtp xtd xpa xsp xwh xhe xho xtk xto xwa xmn) := hD
      refine lv_if_eq (tgt := 65) hx hb d_MD_at_60 (by decide) (fun c_4 => absurd c_4 (by decide)) (fun c_4 => ?_)
      refine lv_iconst (v := 0) hx hb d_MD_at_63 (by decide) ?_
      rw [hQ]
      exact sf_iret (0, 1, xpa, xsp, xwh, xhe, xho) hx hb hr hlk hS rfl rfl (by simp only [f_MD_at, ← hu_1, eq_true c_2, eq_false c_3, ↓reduceIte]) hP d_MD_at_64
    · refine lv_iload_n hx hb d_MD_at_34 rfl (lv_at hl 0 rfl) ?_
      refine lv_if_ne (tgt := 54) hx hb d_MD_at_35 (by decide) (fun c_5 => ?_) (fun c_5 => absurd c_5 (by decide))
      refine lv_iconst (v := 0) hx hb d_MD_at_54 (by decide) ?_
      refine lv_iconst (v := 0) hx hb d_MD_at_55 (by decide) ?_
      refine lv_iconst (v := 0) hx hb d_MD_at_56 (by decide) ?_
      refine sf_callVw (S := Unit) (rest := []) ⟨hx, hb, hml, hown, hts⟩ (c_MD_throwing_1 l D cI cZ cJ q xth xB xsh xcu xtp xtd xpa xsp xwh xhe xho xtk xto xwa xmn 0 0 0) (sf_cwV lk_MD_117 hts (fun _ h => h) (by rw [hR]; exact ⟨Nat.le_of_ble_eq_true rfl, Nat.le_of_ble_eq_true rfl⟩)) hK hP hD hS hA (fun _ => by simp only [md_w_fst]) (ci := 3) (q0 := 0) rfl rfl rfl rfl rfl hl.1 (Nat.le_of_ble_eq_true rfl) d_MD_at_57 ⟨Nat.zero_le _, Nat.zero_le _⟩ (fun u H locs hu hP hD hS => ?_)
      have hP : va_P D classes (md_w q cI cZ 1 xB xsh xcu xtp xtd xpa xsp xwh xhe xho xtk xto xwa xmn) H := hP
      have hD : va_D A (md_w q cI cZ 1 xB xsh xcu xtp xtd xpa xsp xwh xhe xho xtk xto xwa xmn) := hD
      refine lv_if_eq (tgt := 65) hx hb d_MD_at_60 (by decide) (fun c_6 => absurd c_6 (by decide)) (fun c_6 => ?_)
      refine lv_iconst (v := 0) hx hb d_MD_at_63 (by decide) ?_
      rw [hQ]
      exact sf_iret (0, 1, xpa, xsp, xwh, xhe, xho) hx hb hr hlk hS rfl rfl (by simp only [f_MD_at, ← hu_1, eq_true c_2, eq_true c_3, ↓reduceIte]) hP d_MD_at_64
  · refine lv_iload_n hx hb d_MD_at_10 rfl (lv_at hl 2 rfl) ?_
    refine lv_iconst (v := 0) hx hb d_MD_at_11 (by decide) ?_
    refine lv_iconst (v := 3) hx hb d_MD_at_12 (by decide) ?_
    refine sf_callSr (S := Int32) (rest := []) ⟨hx, hb, hml, hown, hts⟩ (c_MD_in l D cI cZ cJ ak 0 3) (sf_cwS lk_MD_44 hts (fun _ h => h) (by rw [hR]; exact ⟨Nat.le_of_ble_eq_true rfl, Nat.le_of_ble_eq_true rfl⟩)) hK hP hD hS hA [] rfl rfl (fun _ => rfl) rfl rfl hl.1 (Nat.le_of_ble_eq_true rfl) d_MD_at_13 ⟨Nat.zero_le _, Nat.zero_le _⟩ (fun u_7 H locs hu_7 hP hS => ?_)
    refine lv_if_ne (tgt := 23) hx hb d_MD_at_16 (by decide) (fun c_8 => ?_) (fun c_8 => ?_)
    · refine lv_iconst (v := 0) hx hb d_MD_at_23 (by decide) ?_
      refine lv_istore_n (lv' := [(3, .int 0), (0, .ref (q 0)), (1, .int ro), (2, .int ak)]) hx hb d_MD_at_24 rfl hl (by decide) rfl (fun ls hl => ?_)
      refine lv_aload_n hx hb d_MD_at_25 rfl (lv_at hl 1 rfl) ?_
      refine lv_iload_n hx hb d_MD_at_26 rfl (lv_at hl 0 rfl) ?_
      refine lv_aload_n hx hb d_MD_at_27 rfl (lv_at hl 1 rfl) ?_
      refine va_get (D := D) (ci := 3) (v := .int xsh) (C := R_MD) (T := F_MD) (N := 15) hx hb hts i_MD hown hK hP 0 rfl rfl 2 (by decide) (hts _ wd_577) (fun _ h9 => h9) rfl d_MD_at_28 ?_
      refine lv_if_ne (tgt := 50) hx hb d_MD_at_31 (by decide) (fun c_9 => ?_) (fun c_9 => ?_)
      · refine lv_iconst (v := 1) hx hb d_MD_at_50 (by decide) ?_
        refine lv_goto (tgt := 55) hx hb d_MD_at_51 (by decide) ?_
        refine lv_iconst (v := 0) hx hb d_MD_at_55 (by decide) ?_
        refine lv_iconst (v := 0) hx hb d_MD_at_56 (by decide) ?_
        refine sf_callVw (S := Unit) (rest := []) ⟨hx, hb, hml, hown, hts⟩ (c_MD_throwing_2 l D cI cZ cJ q xth xB xsh xcu xtp xtd xpa xsp xwh xhe xho xtk xto xwa xmn 0 0) (sf_cwV lk_MD_117 hts (fun _ h => h) (by rw [hR]; exact ⟨Nat.le_of_ble_eq_true rfl, Nat.le_of_ble_eq_true rfl⟩)) hK hP hD hS hA (fun _ => by simp only [md_w_fst]) (ci := 3) (q0 := 0) rfl rfl rfl rfl rfl hl.1 (Nat.le_of_ble_eq_true rfl) d_MD_at_57 ⟨Nat.zero_le _, Nat.zero_le _⟩ (fun u H locs hu hP hD hS => ?_)
        have hP : va_P D classes (md_w q cI cZ 2 xB xsh xcu xtp xtd xpa xsp xwh xhe xho xtk xto xwa xmn) H := hP
        have hD : va_D A (md_w q cI cZ 2 xB xsh xcu xtp xtd xpa xsp xwh xhe xho xtk xto xwa xmn) := hD
        refine lv_if_eq (tgt := 65) hx hb d_MD_at_60 (by decide) (fun c_10 => absurd c_10 (by decide)) (fun c_10 => ?_)
        refine lv_iconst (v := 0) hx hb d_MD_at_63 (by decide) ?_
        rw [hQ]
        exact sf_iret (0, 2, xpa, xsp, xwh, xhe, xho) hx hb hr hlk hS rfl rfl (by simp only [f_MD_at, ← hu_1, ← hu_7, eq_false c_2, eq_false c_8, eq_false c_9, ↓reduceIte]) hP d_MD_at_64
      · refine lv_iload_n hx hb d_MD_at_34 rfl (lv_at hl 0 rfl) ?_
        refine lv_if_ne (tgt := 54) hx hb d_MD_at_35 (by decide) (fun c_11 => absurd (by decide) c_11) (fun c_11 => ?_)
        refine lv_iload_n hx hb d_MD_at_38 rfl (lv_at hl 3 rfl) ?_
        refine lv_if_le (tgt := 54) hx hb d_MD_at_39 (by decide) (fun c_12 => ?_) (fun c_12 => ?_)
        · refine lv_iconst (v := 0) hx hb d_MD_at_54 (by decide) ?_
          refine lv_iconst (v := 0) hx hb d_MD_at_55 (by decide) ?_
          refine lv_iconst (v := 0) hx hb d_MD_at_56 (by decide) ?_
          refine sf_callVw (S := Unit) (rest := []) ⟨hx, hb, hml, hown, hts⟩ (c_MD_throwing_0 l D cI cZ cJ q xth xB xsh xcu xtp xtd xpa xsp xwh xhe xho xtk xto xwa xmn) (sf_cwV lk_MD_117 hts (fun _ h => h) (by rw [hR]; exact ⟨Nat.le_of_ble_eq_true rfl, Nat.le_of_ble_eq_true rfl⟩)) hK hP hD hS hA (fun _ => by simp only [md_w_fst]) (ci := 3) (q0 := 0) rfl rfl rfl rfl rfl hl.1 (Nat.le_of_ble_eq_true rfl) d_MD_at_57 ⟨Nat.zero_le _, Nat.zero_le _⟩ (fun u H locs hu hP hD hS => ?_)
          have hP : va_P D classes (md_w q cI cZ 0 xB xsh xcu xtp xtd xpa xsp xwh xhe xho xtk xto xwa xmn) H := hP
          have hD : va_D A (md_w q cI cZ 0 xB xsh xcu xtp xtd xpa xsp xwh xhe xho xtk xto xwa xmn) := hD
          refine lv_if_eq (tgt := 65) hx hb d_MD_at_60 (by decide) (fun c_13 => ?_) (fun c_13 => absurd (by decide) c_13)
          refine lv_iload_n hx hb d_MD_at_65 rfl (lv_at hl 3 rfl) ?_
          refine lv_if_ne (tgt := 83) hx hb d_MD_at_66 (by decide) (fun c_14 => ?_) (fun c_14 => ?_)
          · refine lv_iload_n hx hb d_MD_at_83 rfl (lv_at hl 3 rfl) ?_
            refine lv_iconst (v := 1) hx hb d_MD_at_84 (by decide) ?_
            refine lv_icmp_ne (tgt := 102) hx hb d_MD_at_85 (by decide) (fun c_15 => ?_) (fun c_15 => ?_)
            · refine lv_aload_n hx hb d_MD_at_102 rfl (lv_at hl 1 rfl) ?_
              refine lv_iload_n hx hb d_MD_at_103 rfl (lv_at hl 2 rfl) ?_
              obtain ⟨u_16, hu_16⟩ : ∃ z, z = ro.toNatClampNeg := ⟨_, rfl⟩
              obtain ⟨he_u_16, hb_u_16⟩ := sf_natr hu_16 (by rw [← hu_1]; exact c_2)
              rw [he_u_16]
              refine sf_callVw (S := (Int32 × (Nat → Int32) × Int32 × Int32 × (Nat → Int32) × Int32)) (rest := []) ⟨hx, hb, hml, hown, hts⟩ (c_MD_monthOf l D cI cZ cJ q 0 xB xsh xcu xtp xtd xpa xsp xwh xhe xho xtk xto xwa xmn u_16 (by omega)) (sf_cwV lk_MD_137 hts (fun _ h => h) (by rw [hR]; exact ⟨Nat.le_of_ble_eq_true rfl, Nat.le_of_ble_eq_true rfl⟩)) hK hP hD hS hA (fun _ => by simp only [md_w_fst]) (ci := 3) (q0 := 0) rfl rfl rfl rfl rfl hl.1 (Nat.le_of_ble_eq_true rfl) d_MD_at_104 ⟨Nat.zero_le _, Nat.zero_le _⟩ (fun u_17 H locs hu_17 hP hD hS => ?_)
              have hP : va_P D classes (md_w q cI cZ 0 xB xsh xcu xtp xtd u_17.2.1 u_17.2.2.1 u_17.2.2.2.1 u_17.2.2.2.2.1 u_17.2.2.2.2.2 xtk xto xwa xmn) H := hP
              have hD : va_D A (md_w q cI cZ 0 xB xsh xcu xtp xtd u_17.2.1 u_17.2.2.1 u_17.2.2.2.1 u_17.2.2.2.2.1 u_17.2.2.2.2.2 xtk xto xwa xmn) := hD
              refine lv_istore (lv' := [(4, .int u_17.1), (3, .int 0), (0, .ref (q 0)), (1, .int ro), (2, .int ak)]) hx hb d_MD_at_107 hl (by decide) rfl (fun ls hl => ?_)
              refine lv_iload_n hx hb d_MD_at_109 rfl (lv_at hl 4 rfl) ?_
              refine lv_iconst (v := 2) hx hb d_MD_at_110 (by decide) ?_
              refine lv_icmp_ne (tgt := 119) hx hb d_MD_at_111 (by decide) (fun c_18 => ?_) (fun c_18 => ?_)
              · refine lv_aload_n hx hb d_MD_at_119 rfl (lv_at hl 2 rfl) ?_
                refine va_get (D := D) (ci := 3) (v := .int u_17.2.2.1) (C := R_MD) (T := F_MD) (N := 15) hx hb hts i_MD hown hK hP 0 rfl rfl 7 (by decide) (hts _ wd_582) (fun _ h9 => h9) rfl d_MD_at_120 ?_
                rw [hQ]
                exact sf_iret (u_17.2.2.1, 0, u_17.2.1, u_17.2.2.1, u_17.2.2.2.1, u_17.2.2.2.2.1, u_17.2.2.2.2.2) hx hb hr hlk hS rfl rfl (by simp only [f_MD_at, ← hu_1, ← hu_7, ← hu_16, ← hu_17, eq_false c_2, eq_false c_8, eq_true c_9, eq_true c_12, eq_false c_14, eq_false c_15, eq_false c_18, ↓reduceIte]) hP d_MD_at_123
              · refine lv_iload hx hb d_MD_at_114 (lv_at hl 0 rfl) ?_
                refine lv_goto (tgt := 123) hx hb d_MD_at_116 (by decide) ?_
                rw [hQ]
                exact sf_iret (u_17.1, 0, u_17.2.1, u_17.2.2.1, u_17.2.2.2.1, u_17.2.2.2.2.1, u_17.2.2.2.2.2) hx hb hr hlk hS rfl rfl (by simp only [f_MD_at, ← hu_1, ← hu_7, ← hu_16, ← hu_17, eq_false c_2, eq_false c_8, eq_true c_9, eq_true c_12, eq_false c_14, eq_false c_15, eq_true c_18, ↓reduceIte]) hP d_MD_at_123
            · refine lv_aload_n hx hb d_MD_at_88 rfl (lv_at hl 1 rfl) ?_
              refine lv_iload_n hx hb d_MD_at_89 rfl (lv_at hl 2 rfl) ?_
              obtain ⟨u_19, hu_19⟩ : ∃ z, z = ro.toNatClampNeg := ⟨_, rfl⟩
              obtain ⟨he_u_19, hb_u_19⟩ := sf_natr hu_19 (by rw [← hu_1]; exact c_2)
              rw [he_u_19]
              refine sf_callVw (S := Int32) (rest := []) ⟨hx, hb, hml, hown, hts⟩ (c_MD_isSlow l D cI cZ cJ q 0 xB xsh xcu xtp xtd xpa xsp xwh xhe xho xtk xto xwa xmn u_19 (by omega)) (sf_cwV lk_MD_67 hts (fun _ h => h) (by rw [hR]; exact ⟨Nat.le_of_ble_eq_true rfl, Nat.le_of_ble_eq_true rfl⟩)) hK hP hD hS hA (fun _ => by simp only [md_w_fst]) (ci := 3) (q0 := 0) rfl rfl rfl rfl rfl hl.1 (Nat.le_of_ble_eq_true rfl) d_MD_at_90 ⟨Nat.zero_le _, Nat.zero_le _⟩ (fun u_20 H locs hu_20 hP hD hS => ?_)
              have hP : va_P D classes (md_w q cI cZ 0 xB xsh xcu xtp xtd xpa xsp xwh xhe xho xtk xto xwa xmn) H := hP
              have hD : va_D A (md_w q cI cZ 0 xB xsh xcu xtp xtd xpa xsp xwh xhe xho xtk xto xwa xmn) := hD
              refine lv_if_eq (tgt := 100) hx hb d_MD_at_93 (by decide) (fun c_21 => ?_) (fun c_21 => ?_)
              · refine lv_iconst (v := 0) hx hb d_MD_at_100 (by decide) ?_
                rw [hQ]
                exact sf_iret (0, 0, xpa, xsp, xwh, xhe, xho) hx hb hr hlk hS rfl rfl (by simp only [f_MD_at, ← hu_1, ← hu_7, ← hu_19, ← hu_20, eq_false c_2, eq_false c_8, eq_true c_9, eq_true c_12, eq_false c_14, eq_true c_15, eq_true c_21, ↓reduceIte]) hP d_MD_at_101
              · refine lv_iconst (v := 1) hx hb d_MD_at_96 (by decide) ?_
                refine lv_goto (tgt := 101) hx hb d_MD_at_97 (by decide) ?_
                rw [hQ]
                exact sf_iret (1, 0, xpa, xsp, xwh, xhe, xho) hx hb hr hlk hS rfl rfl (by simp only [f_MD_at, ← hu_1, ← hu_7, ← hu_19, ← hu_20, eq_false c_2, eq_false c_8, eq_true c_9, eq_true c_12, eq_false c_14, eq_true c_15, eq_false c_21, ↓reduceIte]) hP d_MD_at_101
          · refine lv_aload_n hx hb d_MD_at_69 rfl (lv_at hl 1 rfl) ?_
            refine lv_iload_n hx hb d_MD_at_70 rfl (lv_at hl 2 rfl) ?_
            obtain ⟨u_22, hu_22⟩ : ∃ z, z = ro.toNatClampNeg := ⟨_, rfl⟩
            obtain ⟨he_u_22, hb_u_22⟩ := sf_natr hu_22 (by rw [← hu_1]; exact c_2)
            rw [he_u_22]
            refine sf_callVw (S := Int32) (rest := []) ⟨hx, hb, hml, hown, hts⟩ (c_MD_isThere l D cI cZ cJ q 0 xB xsh xcu xtp xtd xpa xsp xwh xhe xho xtk xto xwa xmn u_22 (by omega)) (sf_cwV lk_MD_95 hts (fun _ h => h) (by rw [hR]; exact ⟨Nat.le_of_ble_eq_true rfl, Nat.le_of_ble_eq_true rfl⟩)) hK hP hD hS hA (fun _ => by simp only [md_w_fst]) (ci := 3) (q0 := 0) rfl rfl rfl rfl rfl hl.1 (Nat.le_of_ble_eq_true rfl) d_MD_at_71 ⟨Nat.zero_le _, Nat.zero_le _⟩ (fun u_23 H locs hu_23 hP hD hS => ?_)
            have hP : va_P D classes (md_w q cI cZ 0 xB xsh xcu xtp xtd xpa xsp xwh xhe xho xtk xto xwa xmn) H := hP
            have hD : va_D A (md_w q cI cZ 0 xB xsh xcu xtp xtd xpa xsp xwh xhe xho xtk xto xwa xmn) := hD
            refine lv_if_eq (tgt := 81) hx hb d_MD_at_74 (by decide) (fun c_24 => ?_) (fun c_24 => ?_)
            · refine lv_iconst (v := 0) hx hb d_MD_at_81 (by decide) ?_
              rw [hQ]
              exact sf_iret (0, 0, xpa, xsp, xwh, xhe, xho) hx hb hr hlk hS rfl rfl (by simp only [f_MD_at, ← hu_1, ← hu_7, ← hu_22, ← hu_23, eq_false c_2, eq_false c_8, eq_true c_9, eq_true c_12, eq_true c_14, eq_true c_24, ↓reduceIte]) hP d_MD_at_82
            · refine lv_iconst (v := 1) hx hb d_MD_at_77 (by decide) ?_
              refine lv_goto (tgt := 82) hx hb d_MD_at_78 (by decide) ?_
              rw [hQ]
              exact sf_iret (1, 0, xpa, xsp, xwh, xhe, xho) hx hb hr hlk hS rfl rfl (by simp only [f_MD_at, ← hu_1, ← hu_7, ← hu_22, ← hu_23, eq_false c_2, eq_false c_8, eq_true c_9, eq_true c_12, eq_true c_14, eq_false c_24, ↓reduceIte]) hP d_MD_at_82
        · refine lv_aload_n hx hb d_MD_at_42 rfl (lv_at hl 1 rfl) ?_
          refine lv_iload_n hx hb d_MD_at_43 rfl (lv_at hl 2 rfl) ?_
          obtain ⟨u_25, hu_25⟩ : ∃ z, z = ro.toNatClampNeg := ⟨_, rfl⟩
          obtain ⟨he_u_25, hb_u_25⟩ := sf_natr hu_25 (by rw [← hu_1]; exact c_2)
          rw [he_u_25]
          refine sf_callVw (S := Int32) (rest := [.int 0, .ref (q 0)]) ⟨hx, hb, hml, hown, hts⟩ (c_MD_isThere l D cI cZ cJ q xth xB xsh xcu xtp xtd xpa xsp xwh xhe xho xtk xto xwa xmn u_25 (by omega)) (sf_cwV lk_MD_95 hts (fun _ h => h) (by rw [hR]; exact ⟨Nat.le_of_ble_eq_true rfl, Nat.le_of_ble_eq_true rfl⟩)) hK hP hD hS hA (fun _ => by simp only [md_w_fst]) (ci := 3) (q0 := 0) rfl rfl rfl rfl rfl hl.1 (Nat.le_of_ble_eq_true rfl) d_MD_at_44 ⟨Nat.zero_le _, Nat.zero_le _⟩ (fun u_26 H locs hu_26 hP hD hS => ?_)
          have hP : va_P D classes (md_w q cI cZ xth xB xsh xcu xtp xtd xpa xsp xwh xhe xho xtk xto xwa xmn) H := hP
          have hD : va_D A (md_w q cI cZ xth xB xsh xcu xtp xtd xpa xsp xwh xhe xho xtk xto xwa xmn) := hD
          refine lv_if_ne (tgt := 54) hx hb d_MD_at_47 (by decide) (fun c_27 => ?_) (fun c_27 => ?_)
          · refine lv_iconst (v := 0) hx hb d_MD_at_54 (by decide) ?_
            refine lv_iconst (v := 0) hx hb d_MD_at_55 (by decide) ?_
            refine lv_iconst (v := 0) hx hb d_MD_at_56 (by decide) ?_
            refine sf_callVw (S := Unit) (rest := []) ⟨hx, hb, hml, hown, hts⟩ (c_MD_throwing_0 l D cI cZ cJ q xth xB xsh xcu xtp xtd xpa xsp xwh xhe xho xtk xto xwa xmn) (sf_cwV lk_MD_117 hts (fun _ h => h) (by rw [hR]; exact ⟨Nat.le_of_ble_eq_true rfl, Nat.le_of_ble_eq_true rfl⟩)) hK hP hD hS hA (fun _ => by simp only [md_w_fst]) (ci := 3) (q0 := 0) rfl rfl rfl rfl rfl hl.1 (Nat.le_of_ble_eq_true rfl) d_MD_at_57 ⟨Nat.zero_le _, Nat.zero_le _⟩ (fun u H locs hu hP hD hS => ?_)
            have hP : va_P D classes (md_w q cI cZ 0 xB xsh xcu xtp xtd xpa xsp xwh xhe xho xtk xto xwa xmn) H := hP
            have hD : va_D A (md_w q cI cZ 0 xB xsh xcu xtp xtd xpa xsp xwh xhe xho xtk xto xwa xmn) := hD
            refine lv_if_eq (tgt := 65) hx hb d_MD_at_60 (by decide) (fun c_28 => ?_) (fun c_28 => absurd (by decide) c_28)
            refine lv_iload_n hx hb d_MD_at_65 rfl (lv_at hl 3 rfl) ?_
            refine lv_if_ne (tgt := 83) hx hb d_MD_at_66 (by decide) (fun c_29 => ?_) (fun c_29 => ?_)
            · refine lv_iload_n hx hb d_MD_at_83 rfl (lv_at hl 3 rfl) ?_
              refine lv_iconst (v := 1) hx hb d_MD_at_84 (by decide) ?_
              refine lv_icmp_ne (tgt := 102) hx hb d_MD_at_85 (by decide) (fun c_30 => ?_) (fun c_30 => ?_)
              · refine lv_aload_n hx hb d_MD_at_102 rfl (lv_at hl 1 rfl) ?_
                refine lv_iload_n hx hb d_MD_at_103 rfl (lv_at hl 2 rfl) ?_
                rw [he_u_25]
                refine sf_callVw (S := (Int32 × (Nat → Int32) × Int32 × Int32 × (Nat → Int32) × Int32)) (rest := []) ⟨hx, hb, hml, hown, hts⟩ (c_MD_monthOf l D cI cZ cJ q 0 xB xsh xcu xtp xtd xpa xsp xwh xhe xho xtk xto xwa xmn u_25 (by omega)) (sf_cwV lk_MD_137 hts (fun _ h => h) (by rw [hR]; exact ⟨Nat.le_of_ble_eq_true rfl, Nat.le_of_ble_eq_true rfl⟩)) hK hP hD hS hA (fun _ => by simp only [md_w_fst]) (ci := 3) (q0 := 0) rfl rfl rfl rfl rfl hl.1 (Nat.le_of_ble_eq_true rfl) d_MD_at_104 ⟨Nat.zero_le _, Nat.zero_le _⟩ (fun u_31 H locs hu_31 hP hD hS => ?_)
                have hP : va_P D classes (md_w q cI cZ 0 xB xsh xcu xtp xtd u_31.2.1 u_31.2.2.1 u_31.2.2.2.1 u_31.2.2.2.2.1 u_31.2.2.2.2.2 xtk xto xwa xmn) H := hP
                have hD : va_D A (md_w q cI cZ 0 xB xsh xcu xtp xtd u_31.2.1 u_31.2.2.1 u_31.2.2.2.1 u_31.2.2.2.2.1 u_31.2.2.2.2.2 xtk xto xwa xmn) := hD
                refine lv_istore (lv' := [(4, .int u_31.1), (3, .int 0), (0, .ref (q 0)), (1, .int ro), (2, .int ak)]) hx hb d_MD_at_107 hl (by decide) rfl (fun ls hl => ?_)
                refine lv_iload_n hx hb d_MD_at_109 rfl (lv_at hl 4 rfl) ?_
                refine lv_iconst (v := 2) hx hb d_MD_at_110 (by decide) ?_
                refine lv_icmp_ne (tgt := 119) hx hb d_MD_at_111 (by decide) (fun c_32 => ?_) (fun c_32 => ?_)
                · refine lv_aload_n hx hb d_MD_at_119 rfl (lv_at hl 2 rfl) ?_
                  refine va_get (D := D) (ci := 3) (v := .int u_31.2.2.1) (C := R_MD) (T := F_MD) (N := 15) hx hb hts i_MD hown hK hP 0 rfl rfl 7 (by decide) (hts _ wd_582) (fun _ h9 => h9) rfl d_MD_at_120 ?_
                  rw [hQ]
                  exact sf_iret (u_31.2.2.1, 0, u_31.2.1, u_31.2.2.1, u_31.2.2.2.1, u_31.2.2.2.2.1, u_31.2.2.2.2.2) hx hb hr hlk hS rfl rfl (by simp only [f_MD_at, ← hu_1, ← hu_7, ← hu_25, ← hu_26, ← hu_31, eq_false c_2, eq_false c_8, eq_true c_9, eq_false c_12, eq_false c_27, eq_false c_29, eq_false c_30, eq_false c_32, ↓reduceIte]) hP d_MD_at_123
                · refine lv_iload hx hb d_MD_at_114 (lv_at hl 0 rfl) ?_
                  refine lv_goto (tgt := 123) hx hb d_MD_at_116 (by decide) ?_
                  rw [hQ]
                  exact sf_iret (u_31.1, 0, u_31.2.1, u_31.2.2.1, u_31.2.2.2.1, u_31.2.2.2.2.1, u_31.2.2.2.2.2) hx hb hr hlk hS rfl rfl (by simp only [f_MD_at, ← hu_1, ← hu_7, ← hu_25, ← hu_26, ← hu_31, eq_false c_2, eq_false c_8, eq_true c_9, eq_false c_12, eq_false c_27, eq_false c_29, eq_false c_30, eq_true c_32, ↓reduceIte]) hP d_MD_at_123
              · refine lv_aload_n hx hb d_MD_at_88 rfl (lv_at hl 1 rfl) ?_
                refine lv_iload_n hx hb d_MD_at_89 rfl (lv_at hl 2 rfl) ?_
                rw [he_u_25]
                refine sf_callVw (S := Int32) (rest := []) ⟨hx, hb, hml, hown, hts⟩ (c_MD_isSlow l D cI cZ cJ q 0 xB xsh xcu xtp xtd xpa xsp xwh xhe xho xtk xto xwa xmn u_25 (by omega)) (sf_cwV lk_MD_67 hts (fun _ h => h) (by rw [hR]; exact ⟨Nat.le_of_ble_eq_true rfl, Nat.le_of_ble_eq_true rfl⟩)) hK hP hD hS hA (fun _ => by simp only [md_w_fst]) (ci := 3) (q0 := 0) rfl rfl rfl rfl rfl hl.1 (Nat.le_of_ble_eq_true rfl) d_MD_at_90 ⟨Nat.zero_le _, Nat.zero_le _⟩ (fun u_33 H locs hu_33 hP hD hS => ?_)
                have hP : va_P D classes (md_w q cI cZ 0 xB xsh xcu xtp xtd xpa xsp xwh xhe xho xtk xto xwa xmn) H := hP
                have hD : va_D A (md_w q cI cZ 0 xB xsh xcu xtp xtd xpa xsp xwh xhe xho xtk xto xwa xmn) := hD
                refine lv_if_eq (tgt := 100) hx hb d_MD_at_93 (by decide) (fun c_34 => ?_) (fun c_34 => ?_)
                · refine lv_iconst (v := 0) hx hb d_MD_at_100 (by decide) ?_
                  rw [hQ]
                  exact sf_iret (0, 0, xpa, xsp, xwh, xhe, xho) hx hb hr hlk hS rfl rfl (by simp only [f_MD_at, ← hu_1, ← hu_7, ← hu_25, ← hu_26, ← hu_33, eq_false c_2, eq_false c_8, eq_true c_9, eq_false c_12, eq_false c_27, eq_false c_29, eq_true c_30, eq_true c_34, ↓reduceIte]) hP d_MD_at_101
                · refine lv_iconst (v := 1) hx hb d_MD_at_96 (by decide) ?_
                  refine lv_goto (tgt := 101) hx hb d_MD_at_97 (by decide) ?_
                  rw [hQ]
                  exact sf_iret (1, 0, xpa, xsp, xwh, xhe, xho) hx hb hr hlk hS rfl rfl (by simp only [f_MD_at, ← hu_1, ← hu_7, ← hu_25, ← hu_26, ← hu_33, eq_false c_2, eq_false c_8, eq_true c_9, eq_false c_12, eq_false c_27, eq_false c_29, eq_true c_30, eq_false c_34, ↓reduceIte]) hP d_MD_at_101
            · refine lv_aload_n hx hb d_MD_at_69 rfl (lv_at hl 1 rfl) ?_
              refine lv_iload_n hx hb d_MD_at_70 rfl (lv_at hl 2 rfl) ?_
              rw [he_u_25]
              refine sf_callVw (S := Int32) (rest := []) ⟨hx, hb, hml, hown, hts⟩ (c_MD_isThere l D cI cZ cJ q 0 xB xsh xcu xtp xtd xpa xsp xwh xhe xho xtk xto xwa xmn u_25 (by omega)) (sf_cwV lk_MD_95 hts (fun _ h => h) (by rw [hR]; exact ⟨Nat.le_of_ble_eq_true rfl, Nat.le_of_ble_eq_true rfl⟩)) hK hP hD hS hA (fun _ => by simp only [md_w_fst]) (ci := 3) (q0 := 0) rfl rfl rfl rfl rfl hl.1 (Nat.le_of_ble_eq_true rfl) d_MD_at_71 ⟨Nat.zero_le _, Nat.zero_le _⟩ (fun u_35 H locs hu_35 hP hD hS => ?_)
              rw [show u_35 = u_26 from hu_35.trans hu_26.symm]
              have hP : va_P D classes (md_w q cI cZ 0 xB xsh xcu xtp xtd xpa xsp xwh xhe xho xtk xto xwa xmn) H := hP
              have hD : va_D A (md_w q cI cZ 0 xB xsh xcu xtp xtd xpa xsp xwh xhe xho xtk xto xwa xmn) := hD
              refine lv_if_eq (tgt := 81) hx hb d_MD_at_74 (by decide) (fun c_36 => absurd c_36 c_27) (fun c_36 => ?_)
              refine lv_iconst (v := 1) hx hb d_MD_at_77 (by decide) ?_
              refine lv_goto (tgt := 82) hx hb d_MD_at_78 (by decide) ?_
              rw [hQ]
              exact sf_iret (1, 0, xpa, xsp, xwh, xhe, xho) hx hb hr hlk hS rfl rfl (by simp only [f_MD_at, ← hu_1, ← hu_7, ← hu_25, ← hu_26, eq_false c_2, eq_false c_8, eq_true c_9, eq_false c_12, eq_false c_27, eq_true c_29, ↓reduceIte]) hP d_MD_at_82
          · refine lv_iconst (v := 1) hx hb d_MD_at_50 (by decide) ?_
            refine lv_goto (tgt := 55) hx hb d_MD_at_51 (by decide) ?_
            refine lv_iconst (v := 0) hx hb d_MD_at_55 (by decide) ?_
            refine lv_iconst (v := 0) hx hb d_MD_at_56 (by decide) ?_
            refine sf_callVw (S := Unit) (rest := []) ⟨hx, hb, hml, hown, hts⟩ (c_MD_throwing_2 l D cI cZ cJ q xth xB xsh xcu xtp xtd xpa xsp xwh xhe xho xtk xto xwa xmn 0 0) (sf_cwV lk_MD_117 hts (fun _ h => h) (by rw [hR]; exact ⟨Nat.le_of_ble_eq_true rfl, Nat.le_of_ble_eq_true rfl⟩)) hK hP hD hS hA (fun _ => by simp only [md_w_fst]) (ci := 3) (q0 := 0) rfl rfl rfl rfl rfl hl.1 (Nat.le_of_ble_eq_true rfl) d_MD_at_57 ⟨Nat.zero_le _, Nat.zero_le _⟩ (fun u H locs hu hP hD hS => ?_)
            have hP : va_P D classes (md_w q cI cZ 2 xB xsh xcu xtp xtd xpa xsp xwh xhe xho xtk xto xwa xmn) H := hP
            have hD : va_D A (md_w q cI cZ 2 xB xsh xcu xtp xtd xpa xsp xwh xhe xho xtk xto xwa xmn) := hD
            refine lv_if_eq (tgt := 65) hx hb d_MD_at_60 (by decide) (fun c_37 => absurd c_37 (by decide)) (fun c_37 => ?_)
            refine lv_iconst (v := 0) hx hb d_MD_at_63 (by decide) ?_
            rw [hQ]
            exact sf_iret (0, 2, xpa, xsp, xwh, xhe, xho) hx hb hr hlk hS rfl rfl (by simp only [f_MD_at, ← hu_1, ← hu_7, ← hu_25, ← hu_26, eq_false c_2, eq_false c_8, eq_true c_9, eq_false c_12, eq_true c_27, ↓reduceIte]) hP d_MD_at_64
    · refine lv_iconst (v := 1) hx hb d_MD_at_19 (by decide) ?_
      refine lv_goto (tgt := 24) hx hb d_MD_at_20 (by decide) ?_
      refine lv_istore_n (lv' := [(3, .int 1), (0, .ref (q 0)), (1, .int ro), (2, .int ak)]) hx hb d_MD_at_24 rfl hl (by decide) rfl (fun ls hl => ?_)
      refine lv_aload_n hx hb d_MD_at_25 rfl (lv_at hl 1 rfl) ?_
      refine lv_iload_n hx hb d_MD_at_26 rfl (lv_at hl 0 rfl) ?_
      refine lv_aload_n hx hb d_MD_at_27 rfl (lv_at hl 1 rfl) ?_
      refine va_get (D := D) (ci := 3) (v := .int xsh) (C := R_MD) (T := F_MD) (N := 15) hx hb hts i_MD hown hK hP 0 rfl rfl 2 (by decide) (hts _ wd_577) (fun _ h9 => h9) rfl d_MD_at_28 ?_
      refine lv_if_ne (tgt := 50) hx hb d_MD_at_31 (by decide) (fun c_38 => ?_) (fun c_38 => ?_)
      · refine lv_iconst (v := 1) hx hb d_MD_at_50 (by decide) ?_
        refine lv_goto (tgt := 55) hx hb d_MD_at_51 (by decide) ?_
        refine lv_iconst (v := 0) hx hb d_MD_at_55 (by decide) ?_
        refine lv_iconst (v := 0) hx hb d_MD_at_56 (by decide) ?_
        refine sf_callVw (S := Unit) (rest := []) ⟨hx, hb, hml, hown, hts⟩ (c_MD_throwing_1 l D cI cZ cJ q xth xB xsh xcu xtp xtd xpa xsp xwh xhe xho xtk xto xwa xmn 1 0 0) (sf_cwV lk_MD_117 hts (fun _ h => h) (by rw [hR]; exact ⟨Nat.le_of_ble_eq_true rfl, Nat.le_of_ble_eq_true rfl⟩)) hK hP hD hS hA (fun _ => by simp only [md_w_fst]) (ci := 3) (q0 := 0) rfl rfl rfl rfl rfl hl.1 (Nat.le_of_ble_eq_true rfl) d_MD_at_57 ⟨Nat.zero_le _, Nat.zero_le _⟩ (fun u H locs hu hP hD hS => ?_)
        have hP : va_P D classes (md_w q cI cZ 1 xB xsh xcu xtp xtd xpa xsp xwh xhe xho xtk xto xwa xmn) H := hP
        have hD : va_D A (md_w q cI cZ 1 xB xsh xcu xtp xtd xpa xsp xwh xhe xho xtk xto xwa xmn) := hD
        refine lv_if_eq (tgt := 65) hx hb d_MD_at_60 (by decide) (fun c_39 => absurd c_39 (by decide)) (fun c_39 => ?_)
        refine lv_iconst (v := 0) hx hb d_MD_at_63 (by decide) ?_
        rw [hQ]
        exact sf_iret (0, 1, xpa, xsp, xwh, xhe, xho) hx hb hr hlk hS rfl rfl (by simp only [f_MD_at, ← hu_1, ← hu_7, eq_false c_2, eq_true c_8, eq_false c_38, ↓reduceIte]) hP d_MD_at_64
      · refine lv_iload_n hx hb d_MD_at_34 rfl (lv_at hl 0 rfl) ?_
        refine lv_if_ne (tgt := 54) hx hb d_MD_at_35 (by decide) (fun c_40 => ?_) (fun c_40 => absurd c_40 (by decide))
        refine lv_iconst (v := 0) hx hb d_MD_at_54 (by decide) ?_
        refine lv_iconst (v := 0) hx hb d_MD_at_55 (by decide) ?_
        refine lv_iconst (v := 0) hx hb d_MD_at_56 (by decide) ?_
        refine sf_callVw (S := Unit) (rest := []) ⟨hx, hb, hml, hown, hts⟩ (c_MD_throwing_1 l D cI cZ cJ q xth xB xsh xcu xtp xtd xpa xsp xwh xhe xho xtk xto xwa xmn 0 0 0) (sf_cwV lk_MD_117 hts (fun _ h => h) (by rw [hR]; exact ⟨Nat.le_of_ble_eq_true rfl, Nat.le_of_ble_eq_true rfl⟩)) hK hP hD hS hA (fun _ => by simp only [md_w_fst]) (ci := 3) (q0 := 0) rfl rfl rfl rfl rfl hl.1 (Nat.le_of_ble_eq_true rfl) d_MD_at_57 ⟨Nat.zero_le _, Nat.zero_le _⟩ (fun u H locs hu hP hD hS => ?_)
        have hP : va_P D classes (md_w q cI cZ 1 xB xsh xcu xtp xtd xpa xsp xwh xhe xho xtk xto xwa xmn) H := hP
        have hD : va_D A (md_w q cI cZ 1 xB xsh xcu xtp xtd xpa xsp xwh xhe xho xtk xto xwa xmn) := hD
        refine lv_if_eq (tgt := 65) hx hb d_MD_at_60 (by decide) (fun c_41 => absurd c_41 (by decide)) (fun c_41 => ?_)
        refine lv_iconst (v := 0) hx hb d_MD_at_63 (by decide) ?_
        rw [hQ]
        exact sf_iret (0, 1, xpa, xsp, xwh, xhe, xho) hx hb hr hlk hS rfl rfl (by simp only [f_MD_at, ← hu_1, ← hu_7, eq_false c_2, eq_true c_8, eq_true c_38, ↓reduceIte]) hP d_MD_at_64
def f_MD_told (xB : Nat → Int32) (xsh : Int32) (xtd : Int32) (xpa : Nat → Int32) (xsp : Int32) (xwh : Int32) (xhe : Nat → Int32) (xho : Int32) (xtk : Nat → Int32) (tk0 : Int32) : (Int32 × Int32 × (Nat → Int32) × (Nat → Int32) × Int32 × Int32 × (Nat → Int32) × Int32) :=
  if (f_MD_in tk0 0 4) = 0 then
    if xsh = 0 then
      (0, 1, xtk, xpa, xsp, xwh, xhe, xho)
    else
      if 4 ≤ tk0 then
        (0, 1, xtk, xpa, xsp, xwh, xhe, xho)
      else
        (0, 1, xtk, xpa, xsp, xwh, xhe, xho)
  else
    if xsh = 0 then
      if 2 ≤ tk0 then
        if tk0 = 2 then
          ((f_MD_entry xB 0), 0, xtk, xpa, xsp, xwh, xhe, xho)
        else
          if tk0 = 3 then
            ((f_MD_counting xB), 0, xtk, xpa, xsp, xwh, xhe, xho)
          else
            (xtd, 0, xtk, xpa, xsp, xwh, xhe, xho)
      else
        if tk0 = 1 then
          ((f_MD_findTaken_1 xB xpa xsp xwh xhe xho xtk).1, 0, (f_MD_findTaken_1 xB xpa xsp xwh xhe xho xtk).2.1, (f_MD_findTaken_1 xB xpa xsp xwh xhe xho xtk).2.2.1, (f_MD_findTaken_1 xB xpa xsp xwh xhe xho xtk).2.2.2.1, (f_MD_findTaken_1 xB xpa xsp xwh xhe xho xtk).2.2.2.2.1, (f_MD_findTaken_1 xB xpa xsp xwh xhe xho xtk).2.2.2.2.2.1, (f_MD_findTaken_1 xB xpa xsp xwh xhe xho xtk).2.2.2.2.2.2)
        else
          ((f_MD_findTaken_0 xB xpa xsp xwh xhe xho xtk).1, 0, (f_MD_findTaken_0 xB xpa xsp xwh xhe xho xtk).2.1, (f_MD_findTaken_0 xB xpa xsp xwh xhe xho xtk).2.2.1, (f_MD_findTaken_0 xB xpa xsp xwh xhe xho xtk).2.2.2.1, (f_MD_findTaken_0 xB xpa xsp xwh xhe xho xtk).2.2.2.2.1, (f_MD_findTaken_0 xB xpa xsp xwh xhe xho xtk).2.2.2.2.2.1, (f_MD_findTaken_0 xB xpa xsp xwh xhe xho xtk).2.2.2.2.2.2)
    else
      if 4 ≤ tk0 then
        if 2 ≤ tk0 then
          if tk0 = 2 then
            ((f_MD_entry xB 0), 0, xtk, xpa, xsp, xwh, xhe, xho)
          else
            if tk0 = 3 then
              ((f_MD_counting xB), 0, xtk, xpa, xsp, xwh, xhe, xho)
            else
              (xtd, 0, xtk, xpa, xsp, xwh, xhe, xho)
        else
          if tk0 = 1 then
            ((f_MD_findTaken_1 xB xpa xsp xwh xhe xho xtk).1, 0, (f_MD_findTaken_1 xB xpa xsp xwh xhe xho xtk).2.1, (f_MD_findTaken_1 xB xpa xsp xwh xhe xho xtk).2.2.1, (f_MD_findTaken_1 xB xpa xsp xwh xhe xho xtk).2.2.2.1, (f_MD_findTaken_1 xB xpa xsp xwh xhe xho xtk).2.2.2.2.1, (f_MD_findTaken_1 xB xpa xsp xwh xhe xho xtk).2.2.2.2.2.1, (f_MD_findTaken_1 xB xpa xsp xwh xhe xho xtk).2.2.2.2.2.2)
          else
            ((f_MD_findTaken_0 xB xpa xsp xwh xhe xho xtk).1, 0, (f_MD_findTaken_0 xB xpa xsp xwh xhe xho xtk).2.1, (f_MD_findTaken_0 xB xpa xsp xwh xhe xho xtk).2.2.1, (f_MD_findTaken_0 xB xpa xsp xwh xhe xho xtk).2.2.2.1, (f_MD_findTaken_0 xB xpa xsp xwh xhe xho xtk).2.2.2.2.1, (f_MD_findTaken_0 xB xpa xsp xwh xhe xho xtk).2.2.2.2.2.1, (f_MD_findTaken_0 xB xpa xsp xwh xhe xho xtk).2.2.2.2.2.2)
      else
        (0, 2, xtk, xpa, xsp, xwh, xhe, xho)
set_option maxHeartbeats 1000000 in
set_option maxRecDepth 100000 in
/-- told -/
theorem c_MD_told (l : Launch) (D : va_G) (cI cZ cJ : ClassId) (q : Nat → Nat) (xth : Int32) (xB : Nat → Int32) (xsh : Int32) (xcu : Int32) (xtp : Nat → Int32) (xtd : Int32) (xpa : Nat → Int32) (xsp : Int32) (xwh : Int32) (xhe : Nat → Int32) (xho : Int32) (xtk : Nat → Int32) (xto : Nat → Int32) (xwa : Nat → Int32) (xmn : Int32) (tk0 : Int32) : sf_M (S := (Int32 × Int32 × (Nat → Int32) × (Nat → Int32) × Int32 × Int32 × (Nat → Int32) × Int32)) l D classes (sf_tys cI cZ cJ) y_MD_told (sf_ws y_MD_told b_MD_told 2 (some .int)) 8 182 [.ref (q 0), .int tk0] (md_w q cI cZ xth xB xsh xcu xtp xtd xpa xsp xwh xhe xho xtk xto xwa xmn) (fun r => some (.int r.1)) (fun r => r = f_MD_told xB xsh xtd xpa xsp xwh xhe xho xtk tk0) (fun r => (md_w q cI cZ r.2.1 xB xsh xcu xtp xtd r.2.2.2.1 r.2.2.2.2.1 r.2.2.2.2.2.1 r.2.2.2.2.2.2.1 r.2.2.2.2.2.2.2 r.2.2.1 xto xwa xmn)) := by
  refine sf_ofW (S := (Int32 × Int32 × (Nat → Int32) × (Nat → Int32) × Int32 × Int32 × (Nat → Int32) × Int32)) (by decide) (Nat.le_of_ble_eq_true rfl) ?_
  intro p e s m below meth c A ls R args Q hR hArgs hQ hC0 hr hK hP hD hl
  obtain ⟨hx, hb, hml, hown, hts, hA, hlk⟩ := hC0
  have hS : va_S A s.heap s.heap [] := va_S.rf
  have hl : lv_has ls 2 [(0, .ref (q 0)), (1, .int tk0)] := hl
  refine lv_aload_n hx hb d_MD_told_0 rfl (lv_at hl 0 rfl) ?_
  refine lv_iload_n hx hb d_MD_told_1 rfl (lv_at hl 1 rfl) ?_
  refine lv_iconst (v := 0) hx hb d_MD_told_2 (by decide) ?_
  refine lv_iconst (v := 4) hx hb d_MD_told_3 (by decide) ?_
  refine sf_callSr (S := Int32) (rest := [.ref (q 0)]) ⟨hx, hb, hml, hown, hts⟩ (c_MD_in l D cI cZ cJ tk0 0 4) (sf_cwS lk_MD_44 hts (fun _ h => h) (by rw [hR]; exact ⟨Nat.le_of_ble_eq_true rfl, Nat.le_of_ble_eq_true rfl⟩)) hK hP hD hS hA [] rfl rfl (fun _ => rfl) rfl rfl hl.1 (Nat.le_of_ble_eq_true rfl) d_MD_told_4 ⟨Nat.zero_le _, Nat.zero_le _⟩ (fun u_1 H locs hu_1 hP hS => ?_)
  refine lv_if_ne (tgt := 14) hx hb d_MD_told_7 (by decide) (fun c_2 => ?_) (fun c_2 => ?_)
  · refine lv_iconst (v := 0) hx hb d_MD_told_14 (by decide) ?_
    refine lv_aload_n hx hb d_MD_told_15 rfl (lv_at hl 0 rfl) ?_
    refine va_get (D := D) (ci := 3) (v := .int xsh) (C := R_MD) (T := F_MD) (N := 15) hx hb hts i_MD hown hK hP 0 rfl rfl 2 (by decide) (hts _ wd_577) (fun _ h9 => h9) rfl d_MD_told_16 ?_
    refine lv_if_eq (tgt := 31) hx hb d_MD_told_19 (by decide) (fun c_3 => ?_) (fun c_3 => ?_)
    · refine lv_iconst (v := 0) hx hb d_MD_told_31 (by decide) ?_
      refine lv_iconst (v := 0) hx hb d_MD_told_32 (by decide) ?_
      refine lv_iconst (v := 0) hx hb d_MD_told_33 (by decide) ?_
      refine sf_callVw (S := Unit) (rest := []) ⟨hx, hb, hml, hown, hts⟩ (c_MD_throwing_0 l D cI cZ cJ q xth xB xsh xcu xtp xtd xpa xsp xwh xhe xho xtk xto xwa xmn) (sf_cwV lk_MD_117 hts (fun _ h => h) (by rw [hR]; exact ⟨Nat.le_of_ble_eq_true rfl, Nat.le_of_ble_eq_true rfl⟩)) hK hP hD hS hA (fun _ => by simp only [md_w_fst]) (ci := 3) (q0 := 0) rfl rfl rfl rfl rfl hl.1 (Nat.le_of_ble_eq_true rfl) d_MD_told_34 ⟨Nat.zero_le _, Nat.zero_le _⟩ (fun u H locs hu hP hD hS => ?_)
      have hP : va_P D classes (md_w q cI cZ 0 xB xsh xcu xtp xtd xpa xsp xwh xhe xho xtk xto xwa xmn) H := hP
      have hD : va_D A (md_w q cI cZ 0 xB xsh xcu xtp xtd xpa xsp xwh xhe xho xtk xto xwa xmn) := hD
      refine lv_if_eq (tgt := 42) hx hb d_MD_told_37 (by decide) (fun c_4 => ?_) (fun c_4 => absurd (by decide) c_4)
      refine lv_iload_n hx hb d_MD_told_42 rfl (lv_at hl 1 rfl) ?_
      refine lv_iconst (v := 2) hx hb d_MD_told_43 (by decide) ?_
      refine lv_icmp_ge (tgt := 62) hx hb d_MD_told_44 (by decide) (fun c_5 => ?_) (fun c_5 => ?_)
      · refine lv_iload_n hx hb d_MD_told_62 rfl (lv_at hl 1 rfl) ?_
        refine lv_iconst (v := 2) hx hb d_MD_told_63 (by decide) ?_
        refine lv_icmp_ne (tgt := 75) hx hb d_MD_told_64 (by decide) (fun c_6 => ?_) (fun c_6 => ?_)
        · refine lv_iload_n hx hb d_MD_told_75 rfl (lv_at hl 1 rfl) ?_
          refine lv_iconst (v := 3) hx hb d_MD_told_76 (by decide) ?_
          refine lv_icmp_ne (tgt := 87) hx hb d_MD_told_77 (by decide) (fun c_7 => ?_) (fun c_7 => ?_)
          · refine lv_aload_n hx hb d_MD_told_87 rfl (lv_at hl 0 rfl) ?_
            refine va_get (D := D) (ci := 3) (v := .int xtd) (C := R_MD) (T := F_MD) (N := 15) hx hb hts i_MD hown hK hP 0 rfl rfl 5 (by decide) (hts _ wd_580) (fun _ h9 => h9) rfl d_MD_told_88 ?_
            rw [hQ]
            exact sf_iret (xtd, 0, xtk, xpa, xsp, xwh, xhe, xho) hx hb hr hlk hS rfl rfl (by simp only [f_MD_told, ← hu_1, eq_false c_2, eq_true c_3, eq_true c_5, eq_false c_6, eq_false c_7, ↓reduceIte]) hP d_MD_told_91
          · refine lv_aload_n hx hb d_MD_told_80 rfl (lv_at hl 0 rfl) ?_
            refine sf_callVw (S := Int32) (rest := []) ⟨hx, hb, hml, hown, hts⟩ (c_MD_counting l D cI cZ cJ q 0 xB xsh xcu xtp xtd xpa xsp xwh xhe xho xtk xto xwa xmn) (sf_cwV lk_MD_60 hts (fun _ h => h) (by rw [hR]; exact ⟨Nat.le_of_ble_eq_true rfl, Nat.le_of_ble_eq_true rfl⟩)) hK hP hD hS hA (fun _ => by simp only [md_w_fst]) (ci := 3) (q0 := 0) rfl rfl rfl rfl rfl hl.1 (Nat.le_of_ble_eq_true rfl) d_MD_told_81 ⟨Nat.zero_le _, Nat.zero_le _⟩ (fun u_8 H locs hu_8 hP hD hS => ?_)
            have hP : va_P D classes (md_w q cI cZ 0 xB xsh xcu xtp xtd xpa xsp xwh xhe xho xtk xto xwa xmn) H := hP
            have hD : va_D A (md_w q cI cZ 0 xB xsh xcu xtp xtd xpa xsp xwh xhe xho xtk xto xwa xmn) := hD
            refine lv_goto (tgt := 91) hx hb d_MD_told_84 (by decide) ?_
            rw [hQ]
            exact sf_iret (u_8, 0, xtk, xpa, xsp, xwh, xhe, xho) hx hb hr hlk hS rfl rfl (by simp only [f_MD_told, ← hu_1, ← hu_8, eq_false c_2, eq_true c_3, eq_true c_5, eq_false c_6, eq_true c_7, ↓reduceIte]) hP d_MD_told_91
        · refine lv_aload_n hx hb d_MD_told_67 rfl (lv_at hl 0 rfl) ?_
          refine lv_iconst (v := 0) hx hb d_MD_told_68 (by decide) ?_
          refine sf_callVw (S := Int32) (rest := []) ⟨hx, hb, hml, hown, hts⟩ (c_MD_entry l D cI cZ cJ q 0 xB xsh xcu xtp xtd xpa xsp xwh xhe xho xtk xto xwa xmn 0 (by omega)) (sf_cwV lk_MD_64 hts (fun _ h => h) (by rw [hR]; exact ⟨Nat.le_of_ble_eq_true rfl, Nat.le_of_ble_eq_true rfl⟩)) hK hP hD hS hA (fun _ => by simp only [md_w_fst]) (ci := 3) (q0 := 0) rfl rfl rfl rfl rfl hl.1 (Nat.le_of_ble_eq_true rfl) d_MD_told_69 ⟨Nat.zero_le _, Nat.zero_le _⟩ (fun u_9 H locs hu_9 hP hD hS => ?_)
          have hP : va_P D classes (md_w q cI cZ 0 xB xsh xcu xtp xtd xpa xsp xwh xhe xho xtk xto xwa xmn) H := hP
          have hD : va_D A (md_w q cI cZ 0 xB xsh xcu xtp xtd xpa xsp xwh xhe xho xtk xto xwa xmn) := hD
          refine lv_goto (tgt := 91) hx hb d_MD_told_72 (by decide) ?_
          rw [hQ]
          exact sf_iret (u_9, 0, xtk, xpa, xsp, xwh, xhe, xho) hx hb hr hlk hS rfl rfl (by simp only [f_MD_told, ← hu_1, ← hu_9, eq_false c_2, eq_true c_3, eq_true c_5, eq_true c_6, ↓reduceIte]) hP d_MD_told_91
      · refine lv_aload_n hx hb d_MD_told_47 rfl (lv_at hl 0 rfl) ?_
        refine lv_iload_n hx hb d_MD_told_48 rfl (lv_at hl 1 rfl) ?_
        refine lv_iconst (v := 1) hx hb d_MD_told_49 (by decide) ?_
        refine lv_icmp_ne (tgt := 57) hx hb d_MD_told_50 (by decide) (fun c_10 => ?_) (fun c_10 => ?_)
        · refine lv_iconst (v := 0) hx hb d_MD_told_57 (by decide) ?_
          refine sf_callVw (S := (Int32 × (Nat → Int32) × (Nat → Int32) × Int32 × Int32 × (Nat → Int32) × Int32)) (rest := []) ⟨hx, hb, hml, hown, hts⟩ (c_MD_findTaken_0 l D cI cZ cJ q 0 xB xsh xcu xtp xtd xpa xsp xwh xhe xho xtk xto xwa xmn) (sf_cwV lk_MD_123 hts (fun _ h => h) (by rw [hR]; exact ⟨Nat.le_of_ble_eq_true rfl, Nat.le_of_ble_eq_true rfl⟩)) hK hP hD hS hA (fun _ => by simp only [md_w_fst]) (ci := 3) (q0 := 0) rfl rfl rfl rfl rfl hl.1 (Nat.le_of_ble_eq_true rfl) d_MD_told_58 ⟨Nat.zero_le _, Nat.zero_le _⟩ (fun u_11 H locs hu_11 hP hD hS => ?_)
          have hP : va_P D classes (md_w q cI cZ 0 xB xsh xcu xtp xtd u_11.2.2.1 u_11.2.2.2.1 u_11.2.2.2.2.1 u_11.2.2.2.2.2.1 u_11.2.2.2.2.2.2 u_11.2.1 xto xwa xmn) H := hP
          have hD : va_D A (md_w q cI cZ 0 xB xsh xcu xtp xtd u_11.2.2.1 u_11.2.2.2.1 u_11.2.2.2.2.1 u_11.2.2.2.2.2.1 u_11.2.2.2.2.2.2 u_11.2.1 xto xwa xmn) := hD
          rw [hQ]
          exact sf_iret (u_11.1, 0, u_11.2.1, u_11.2.2.1, u_11.2.2.2.1, u_11.2.2.2.2.1, u_11.2.2.2.2.2.1, u_11.2.2.2.2.2.2) hx hb hr hlk hS rfl rfl (by simp only [f_MD_told, ← hu_1, ← hu_11, eq_false c_2, eq_true c_3, eq_false c_5, eq_false c_10, ↓reduceIte]) hP d_MD_told_61
        · refine lv_iconst (v := 1) hx hb d_MD_told_53 (by decide) ?_
          refine lv_goto (tgt := 58) hx hb d_MD_told_54 (by decide) ?_
          refine sf_callVw (S := (Int32 × (Nat → Int32) × (Nat → Int32) × Int32 × Int32 × (Nat → Int32) × Int32)) (rest := []) ⟨hx, hb, hml, hown, hts⟩ (c_MD_findTaken_1 l D cI cZ cJ q 0 xB xsh xcu xtp xtd xpa xsp xwh xhe xho xtk xto xwa xmn) (sf_cwV lk_MD_123 hts (fun _ h => h) (by rw [hR]; exact ⟨Nat.le_of_ble_eq_true rfl, Nat.le_of_ble_eq_true rfl⟩)) hK hP hD hS hA (fun _ => by simp only [md_w_fst]) (ci := 3) (q0 := 0) rfl rfl rfl rfl rfl hl.1 (Nat.le_of_ble_eq_true rfl) d_MD_told_58 ⟨Nat.zero_le _, Nat.zero_le _⟩ (fun u_12 H locs hu_12 hP hD hS => ?_)
          have hP : va_P D classes (md_w q cI cZ 0 xB xsh xcu xtp xtd u_12.2.2.1 u_12.2.2.2.1 u_12.2.2.2.2.1 u_12.2.2.2.2.2.1 u_12.2.2.2.2.2.2 u_12.2.1 xto xwa xmn) H := hP
          have hD : va_D A (md_w q cI cZ 0 xB xsh xcu xtp xtd u_12.2.2.1 u_12.2.2.2.1 u_12.2.2.2.2.1 u_12.2.2.2.2.2.1 u_12.2.2.2.2.2.2 u_12.2.1 xto xwa xmn) := hD
          rw [hQ]
          exact sf_iret (u_12.1, 0, u_12.2.1, u_12.2.2.1, u_12.2.2.2.1, u_12.2.2.2.2.1, u_12.2.2.2.2.2.1, u_12.2.2.2.2.2.2) hx hb hr hlk hS rfl rfl (by simp only [f_MD_told, ← hu_1, ← hu_12, eq_false c_2, eq_true c_3, eq_false c_5, eq_true c_10, ↓reduceIte]) hP d_MD_told_61
    · refine lv_iload_n hx hb d_MD_told_22 rfl (lv_at hl 1 rfl) ?_
      refine lv_iconst (v := 4) hx hb d_MD_told_23 (by decide) ?_
      refine lv_icmp_ge (tgt := 31) hx hb d_MD_told_24 (by decide) (fun c_13 => ?_) (fun c_13 => ?_)
      · refine lv_iconst (v := 0) hx hb d_MD_told_31 (by decide) ?_
        refine lv_iconst (v := 0) hx hb d_MD_told_32 (by decide) ?_
        refine lv_iconst (v := 0) hx hb d_MD_told_33 (by decide) ?_
        refine sf_callVw (S := Unit) (rest := []) ⟨hx, hb, hml, hown, hts⟩ (c_MD_throwing_0 l D cI cZ cJ q xth xB xsh xcu xtp xtd xpa xsp xwh xhe xho xtk xto xwa xmn) (sf_cwV lk_MD_117 hts (fun _ h => h) (by rw [hR]; exact ⟨Nat.le_of_ble_eq_true rfl, Nat.le_of_ble_eq_true rfl⟩)) hK hP hD hS hA (fun _ => by simp only [md_w_fst]) (ci := 3) (q0 := 0) rfl rfl rfl rfl rfl hl.1 (Nat.le_of_ble_eq_true rfl) d_MD_told_34 ⟨Nat.zero_le _, Nat.zero_le _⟩ (fun u H locs hu hP hD hS => ?_)
        have hP : va_P D classes (md_w q cI cZ 0 xB xsh xcu xtp xtd xpa xsp xwh xhe xho xtk xto xwa xmn) H := hP
        have hD : va_D A (md_w q cI cZ 0 xB xsh xcu xtp xtd xpa xsp xwh xhe xho xtk xto xwa xmn) := hD
        refine lv_if_eq (tgt := 42) hx hb d_MD_told_37 (by decide) (fun c_14 => ?_) (fun c_14 => absurd (by decide) c_14)
        refine lv_iload_n hx hb d_MD_told_42 rfl (lv_at hl 1 rfl) ?_
        refine lv_iconst (v := 2) hx hb d_MD_told_43 (by decide) ?_
        refine lv_icmp_ge (tgt := 62) hx hb d_MD_told_44 (by decide) (fun c_15 => ?_) (fun c_15 => ?_)
        · refine lv_iload_n hx hb d_MD_told_62 rfl (lv_at hl 1 rfl) ?_
          refine lv_iconst (v := 2) hx hb d_MD_told_63 (by decide) ?_
          refine lv_icmp_ne (tgt := 75) hx hb d_MD_told_64 (by decide) (fun c_16 => ?_) (fun c_16 => ?_)
          · refine lv_iload_n hx hb d_MD_told_75 rfl (lv_at hl 1 rfl) ?_
            refine lv_iconst (v := 3) hx hb d_MD_told_76 (by decide) ?_
            refine lv_icmp_ne (tgt := 87) hx hb d_MD_told_77 (by decide) (fun c_17 => ?_) (fun c_17 => ?_)
            · refine lv_aload_n hx hb d_MD_told_87 rfl (lv_at hl 0 rfl) ?_
              refine va_get (D := D) (ci := 3) (v := .int xtd) (C := R_MD) (T := F_MD) (N := 15) hx hb hts i_MD hown hK hP 0 rfl rfl 5 (by decide) (hts _ wd_580) (fun _ h9 => h9) rfl d_MD_told_88 ?_
              rw [hQ]
              exact sf_iret (xtd, 0, xtk, xpa, xsp, xwh, xhe, xho) hx hb hr hlk hS rfl rfl (by simp only [f_MD_told, ← hu_1, eq_false c_2, eq_false c_3, eq_true c_13, eq_true c_15, eq_false c_16, eq_false c_17, ↓reduceIte]) hP d_MD_told_91
            · refine lv_aload_n hx hb d_MD_told_80 rfl (lv_at hl 0 rfl) ?_
              refine sf_callVw (S := Int32) (rest := []) ⟨hx, hb, hml, hown, hts⟩ (c_MD_counting l D cI cZ cJ q 0 xB xsh xcu xtp xtd xpa xsp xwh xhe xho xtk xto xwa xmn) (sf_cwV lk_MD_60 hts (fun _ h => h) (by rw [hR]; exact ⟨Nat.le_of_ble_eq_true rfl, Nat.le_of_ble_eq_true rfl⟩)) hK hP hD hS hA (fun _ => by simp only [md_w_fst]) (ci := 3) (q0 := 0) rfl rfl rfl rfl rfl hl.1 (Nat.le_of_ble_eq_true rfl) d_MD_told_81 ⟨Nat.zero_le _, Nat.zero_le _⟩ (fun u_18 H locs hu_18 hP hD hS => ?_)
              have hP : va_P D classes (md_w q cI cZ 0 xB xsh xcu xtp xtd xpa xsp xwh xhe xho xtk xto xwa xmn) H := hP
              have hD : va_D A (md_w q cI cZ 0 xB xsh xcu xtp xtd xpa xsp xwh xhe xho xtk xto xwa xmn) := hD
              refine lv_goto (tgt := 91) hx hb d_MD_told_84 (by decide) ?_
              rw [hQ]
              exact sf_iret (u_18, 0, xtk, xpa, xsp, xwh, xhe, xho) hx hb hr hlk hS rfl rfl (by simp only [f_MD_told, ← hu_1, ← hu_18, eq_false c_2, eq_false c_3, eq_true c_13, eq_true c_15, eq_false c_16, eq_true c_17, ↓reduceIte]) hP d_MD_told_91
          · refine lv_aload_n hx hb d_MD_told_67 rfl (lv_at hl 0 rfl) ?_
            refine lv_iconst (v := 0) hx hb d_MD_told_68 (by decide) ?_
            refine sf_callVw (S := Int32) (rest := []) ⟨hx, hb, hml, hown, hts⟩ (c_MD_entry l D cI cZ cJ q 0 xB xsh xcu xtp xtd xpa xsp xwh xhe xho xtk xto xwa xmn 0 (by omega)) (sf_cwV lk_MD_64 hts (fun _ h => h) (by rw [hR]; exact ⟨Nat.le_of_ble_eq_true rfl, Nat.le_of_ble_eq_true rfl⟩)) hK hP hD hS hA (fun _ => by simp only [md_w_fst]) (ci := 3) (q0 := 0) rfl rfl rfl rfl rfl hl.1 (Nat.le_of_ble_eq_true rfl) d_MD_told_69 ⟨Nat.zero_le _, Nat.zero_le _⟩ (fun u_19 H locs hu_19 hP hD hS => ?_)
            have hP : va_P D classes (md_w q cI cZ 0 xB xsh xcu xtp xtd xpa xsp xwh xhe xho xtk xto xwa xmn) H := hP
            have hD : va_D A (md_w q cI cZ 0 xB xsh xcu xtp xtd xpa xsp xwh xhe xho xtk xto xwa xmn) := hD
            refine lv_goto (tgt := 91) hx hb d_MD_told_72 (by decide) ?_
            rw [hQ]
            exact sf_iret (u_19, 0, xtk, xpa, xsp, xwh, xhe, xho) hx hb hr hlk hS rfl rfl (by simp only [f_MD_told, ← hu_1, ← hu_19, eq_false c_2, eq_false c_3, eq_true c_13, eq_true c_15, eq_true c_16, ↓reduceIte]) hP d_MD_told_91
        · refine lv_aload_n hx hb d_MD_told_47 rfl (lv_at hl 0 rfl) ?_
          refine lv_iload_n hx hb d_MD_told_48 rfl (lv_at hl 1 rfl) ?_
          refine lv_iconst (v := 1) hx hb d_MD_told_49 (by decide) ?_
          refine lv_icmp_ne (tgt := 57) hx hb d_MD_told_50 (by decide) (fun c_20 => ?_) (fun c_20 => ?_)
          · refine lv_iconst (v := 0) hx hb d_MD_told_57 (by decide) ?_
            refine sf_callVw (S := (Int32 × (Nat → Int32) × (Nat → Int32) × Int32 × Int32 × (Nat → Int32) × Int32)) (rest := []) ⟨hx, hb, hml, hown, hts⟩ (c_MD_findTaken_0 l D cI cZ cJ q 0 xB xsh xcu xtp xtd xpa xsp xwh xhe xho xtk xto xwa xmn) (sf_cwV lk_MD_123 hts (fun _ h => h) (by rw [hR]; exact ⟨Nat.le_of_ble_eq_true rfl, Nat.le_of_ble_eq_true rfl⟩)) hK hP hD hS hA (fun _ => by simp only [md_w_fst]) (ci := 3) (q0 := 0) rfl rfl rfl rfl rfl hl.1 (Nat.le_of_ble_eq_true rfl) d_MD_told_58 ⟨Nat.zero_le _, Nat.zero_le _⟩ (fun u_21 H locs hu_21 hP hD hS => ?_)
            have hP : va_P D classes (md_w q cI cZ 0 xB xsh xcu xtp xtd u_21.2.2.1 u_21.2.2.2.1 u_21.2.2.2.2.1 u_21.2.2.2.2.2.1 u_21.2.2.2.2.2.2 u_21.2.1 xto xwa xmn) H := hP
            have hD : va_D A (md_w q cI cZ 0 xB xsh xcu xtp xtd u_21.2.2.1 u_21.2.2.2.1 u_21.2.2.2.2.1 u_21.2.2.2.2.2.1 u_21.2.2.2.2.2.2 u_21.2.1 xto xwa xmn) := hD
            rw [hQ]
            exact sf_iret (u_21.1, 0, u_21.2.1, u_21.2.2.1, u_21.2.2.2.1, u_21.2.2.2.2.1, u_21.2.2.2.2.2.1, u_21.2.2.2.2.2.2) hx hb hr hlk hS rfl rfl (by simp only [f_MD_told, ← hu_1, ← hu_21, eq_false c_2, eq_false c_3, eq_true c_13, eq_false c_15, eq_false c_20, ↓reduceIte]) hP d_MD_told_61
          · refine lv_iconst (v := 1) hx hb d_MD_told_53 (by decide) ?_
            refine lv_goto (tgt := 58) hx hb d_MD_told_54 (by decide) ?_
            refine sf_callVw (S := (Int32 × (Nat → Int32) × (Nat → Int32) × Int32 × Int32 × (Nat → Int32) × Int32)) (rest := []) ⟨hx, hb, hml, hown, hts⟩ (c_MD_findTaken_1 l D cI cZ cJ q 0 xB xsh xcu xtp xtd xpa xsp xwh xhe xho xtk xto xwa xmn) (sf_cwV lk_MD_123 hts (fun _ h => h) (by rw [hR]; exact ⟨Nat.le_of_ble_eq_true rfl, Nat.le_of_ble_eq_true rfl⟩)) hK hP hD hS hA (fun _ => by simp only [md_w_fst]) (ci := 3) (q0 := 0) rfl rfl rfl rfl rfl hl.1 (Nat.le_of_ble_eq_true rfl) d_MD_told_58 ⟨Nat.zero_le _, Nat.zero_le _⟩ (fun u_22 H locs hu_22 hP hD hS => ?_)
            have hP : va_P D classes (md_w q cI cZ 0 xB xsh xcu xtp xtd u_22.2.2.1 u_22.2.2.2.1 u_22.2.2.2.2.1 u_22.2.2.2.2.2.1 u_22.2.2.2.2.2.2 u_22.2.1 xto xwa xmn) H := hP
            have hD : va_D A (md_w q cI cZ 0 xB xsh xcu xtp xtd u_22.2.2.1 u_22.2.2.2.1 u_22.2.2.2.2.1 u_22.2.2.2.2.2.1 u_22.2.2.2.2.2.2 u_22.2.1 xto xwa xmn) := hD
            rw [hQ]
            exact sf_iret (u_22.1, 0, u_22.2.1, u_22.2.2.1, u_22.2.2.2.1, u_22.2.2.2.2.1, u_22.2.2.2.2.2.1, u_22.2.2.2.2.2.2) hx hb hr hlk hS rfl rfl (by simp only [f_MD_told, ← hu_1, ← hu_22, eq_false c_2, eq_false c_3, eq_true c_13, eq_false c_15, eq_true c_20, ↓reduceIte]) hP d_MD_told_61
      · refine lv_iconst (v := 1) hx hb d_MD_told_27 (by decide) ?_
        refine lv_goto (tgt := 32) hx hb d_MD_told_28 (by decide) ?_
        refine lv_iconst (v := 0) hx hb d_MD_told_32 (by decide) ?_
        refine lv_iconst (v := 0) hx hb d_MD_told_33 (by decide) ?_
        refine sf_callVw (S := Unit) (rest := []) ⟨hx, hb, hml, hown, hts⟩ (c_MD_throwing_2 l D cI cZ cJ q xth xB xsh xcu xtp xtd xpa xsp xwh xhe xho xtk xto xwa xmn 0 0) (sf_cwV lk_MD_117 hts (fun _ h => h) (by rw [hR]; exact ⟨Nat.le_of_ble_eq_true rfl, Nat.le_of_ble_eq_true rfl⟩)) hK hP hD hS hA (fun _ => by simp only [md_w_fst]) (ci := 3) (q0 := 0) rfl rfl rfl rfl rfl hl.1 (Nat.le_of_ble_eq_true rfl) d_MD_told_34 ⟨Nat.zero_le _, Nat.zero_le _⟩ (fun u H locs hu hP hD hS => ?_)
        have hP : va_P D classes (md_w q cI cZ 2 xB xsh xcu xtp xtd xpa xsp xwh xhe xho xtk xto xwa xmn) H := hP
        have hD : va_D A (md_w q cI cZ 2 xB xsh xcu xtp xtd xpa xsp xwh xhe xho xtk xto xwa xmn) := hD
        refine lv_if_eq (tgt := 42) hx hb d_MD_told_37 (by decide) (fun c_23 => absurd c_23 (by decide)) (fun c_23 => ?_)
        refine lv_iconst (v := 0) hx hb d_MD_told_40 (by decide) ?_
        rw [hQ]
        exact sf_iret (0, 2, xtk, xpa, xsp, xwh, xhe, xho) hx hb hr hlk hS rfl rfl (by simp only [f_MD_told, ← hu_1, eq_false c_2, eq_false c_3, eq_false c_13, ↓reduceIte]) hP d_MD_told_41
  · refine lv_iconst (v := 1) hx hb d_MD_told_10 (by decide) ?_
    refine lv_goto (tgt := 15) hx hb d_MD_told_11 (by decide) ?_
    refine lv_aload_n hx hb d_MD_told_15 rfl (lv_at hl 0 rfl) ?_
    refine va_get (D := D) (ci := 3) (v := .int xsh) (C := R_MD) (T := F_MD) (N := 15) hx hb hts i_MD hown hK hP 0 rfl rfl 2 (by decide) (hts _ wd_577) (fun _ h9 => h9) rfl d_MD_told_16 ?_
    refine lv_if_eq (tgt := 31) hx hb d_MD_told_19 (by decide) (fun c_24 => ?_) (fun c_24 => ?_)
    · refine lv_iconst (v := 0) hx hb d_MD_told_31 (by decide) ?_
      refine lv_iconst (v := 0) hx hb d_MD_told_32 (by decide) ?_
      refine lv_iconst (v := 0) hx hb d_MD_told_33 (by decide) ?_
      refine sf_callVw (S := Unit) (rest := []) ⟨hx, hb, hml, hown, hts⟩ (c_MD_throwing_1 l D cI cZ cJ q xth xB xsh xcu xtp xtd xpa xsp xwh xhe xho xtk xto xwa xmn 0 0 0) (sf_cwV lk_MD_117 hts (fun _ h => h) (by rw [hR]; exact ⟨Nat.le_of_ble_eq_true rfl, Nat.le_of_ble_eq_true rfl⟩)) hK hP hD hS hA (fun _ => by simp only [md_w_fst]) (ci := 3) (q0 := 0) rfl rfl rfl rfl rfl hl.1 (Nat.le_of_ble_eq_true rfl) d_MD_told_34 ⟨Nat.zero_le _, Nat.zero_le _⟩ (fun u H locs hu hP hD hS => ?_)
      have hP : va_P D classes (md_w q cI cZ 1 xB xsh xcu xtp xtd xpa xsp xwh xhe xho xtk xto xwa xmn) H := hP
      have hD : va_D A (md_w q cI cZ 1 xB xsh xcu xtp xtd xpa xsp xwh xhe xho xtk xto xwa xmn) := hD
      refine lv_if_eq (tgt := 42) hx hb d_MD_told_37 (by decide) (fun c_25 => absurd c_25 (by decide)) (fun c_25 => ?_)
      refine lv_iconst (v := 0) hx hb d_MD_told_40 (by decide) ?_
      rw [hQ]
      exact sf_iret (0, 1, xtk, xpa, xsp, xwh, xhe, xho) hx hb hr hlk hS rfl rfl (by simp only [f_MD_told, ← hu_1, eq_true c_2, eq_true c_24, ↓reduceIte]) hP d_MD_told_41
    · refine lv_iload_n hx hb d_MD_told_22 rfl (lv_at hl 1 rfl) ?_
      refine lv_iconst (v := 4) hx hb d_MD_told_23 (by decide) ?_
      refine lv_icmp_ge (tgt := 31) hx hb d_MD_told_24 (by decide) (fun c_26 => ?_) (fun c_26 => ?_)
      · refine lv_iconst (v := 0) hx hb d_MD_told_31 (by decide) ?_
        refine lv_iconst (v := 0) hx hb d_MD_told_32 (by decide) ?_
        refine lv_iconst (v := 0) hx hb d_MD_told_33 (by decide) ?_
        refine sf_callVw (S := Unit) (rest := []) ⟨hx, hb, hml, hown, hts⟩ (c_MD_throwing_1 l D cI cZ cJ q xth xB xsh xcu xtp xtd xpa xsp xwh xhe xho xtk xto xwa xmn 0 0 0) (sf_cwV lk_MD_117 hts (fun _ h => h) (by rw [hR]; exact ⟨Nat.le_of_ble_eq_true rfl, Nat.le_of_ble_eq_true rfl⟩)) hK hP hD hS hA (fun _ => by simp only [md_w_fst]) (ci := 3) (q0 := 0) rfl rfl rfl rfl rfl hl.1 (Nat.le_of_ble_eq_true rfl) d_MD_told_34 ⟨Nat.zero_le _, Nat.zero_le _⟩ (fun u H locs hu hP hD hS => ?_)
        have hP : va_P D classes (md_w q cI cZ 1 xB xsh xcu xtp xtd xpa xsp xwh xhe xho xtk xto xwa xmn) H := hP
        have hD : va_D A (md_w q cI cZ 1 xB xsh xcu xtp xtd xpa xsp xwh xhe xho xtk xto xwa xmn) := hD
        refine lv_if_eq (tgt := 42) hx hb d_MD_told_37 (by decide) (fun c_27 => absurd c_27 (by decide)) (fun c_27 => ?_)
        refine lv_iconst (v := 0) hx hb d_MD_told_40 (by decide) ?_
        rw [hQ]
        exact sf_iret (0, 1, xtk, xpa, xsp, xwh, xhe, xho) hx hb hr hlk hS rfl rfl (by simp only [f_MD_told, ← hu_1, eq_true c_2, eq_false c_24, eq_true c_26, ↓reduceIte]) hP d_MD_told_41
      · refine lv_iconst (v := 1) hx hb d_MD_told_27 (by decide) ?_
        refine lv_goto (tgt := 32) hx hb d_MD_told_28 (by decide) ?_
        refine lv_iconst (v := 0) hx hb d_MD_told_32 (by decide) ?_
        refine lv_iconst (v := 0) hx hb d_MD_told_33 (by decide) ?_
        refine sf_callVw (S := Unit) (rest := []) ⟨hx, hb, hml, hown, hts⟩ (c_MD_throwing_1 l D cI cZ cJ q xth xB xsh xcu xtp xtd xpa xsp xwh xhe xho xtk xto xwa xmn 1 0 0) (sf_cwV lk_MD_117 hts (fun _ h => h) (by rw [hR]; exact ⟨Nat.le_of_ble_eq_true rfl, Nat.le_of_ble_eq_true rfl⟩)) hK hP hD hS hA (fun _ => by simp only [md_w_fst]) (ci := 3) (q0 := 0) rfl rfl rfl rfl rfl hl.1 (Nat.le_of_ble_eq_true rfl) d_MD_told_34 ⟨Nat.zero_le _, Nat.zero_le _⟩ (fun u H locs hu hP hD hS => ?_)
        have hP : va_P D classes (md_w q cI cZ 1 xB xsh xcu xtp xtd xpa xsp xwh xhe xho xtk xto xwa xmn) H := hP
        have hD : va_D A (md_w q cI cZ 1 xB xsh xcu xtp xtd xpa xsp xwh xhe xho xtk xto xwa xmn) := hD
        refine lv_if_eq (tgt := 42) hx hb d_MD_told_37 (by decide) (fun c_28 => absurd c_28 (by decide)) (fun c_28 => ?_)
        refine lv_iconst (v := 0) hx hb d_MD_told_40 (by decide) ?_
        rw [hQ]
        exact sf_iret (0, 1, xtk, xpa, xsp, xwh, xhe, xho) hx hb hr hlk hS rfl rfl (by simp only [f_MD_told, ← hu_1, eq_true c_2, eq_false c_24, eq_false c_26, ↓reduceIte]) hP d_MD_told_41
def f_MD_isWrong_0 (xB : Nat → Int32) (xtk : Nat → Int32) (wp : Nat) : Int32 :=
  if (xtk wp) = 0 then
    0
  else
    if (f_MD_isSummed xB (0 + (32 * wp)) 28) = 0 then
      1
    else
      0
set_option maxHeartbeats 1000000 in
set_option maxRecDepth 100000 in
/-- isWrong -/
theorem c_MD_isWrong_0 (l : Launch) (D : va_G) (cI cZ cJ : ClassId) (q : Nat → Nat) (xth : Int32) (xB : Nat → Int32) (xsh : Int32) (xcu : Int32) (xtp : Nat → Int32) (xtd : Int32) (xpa : Nat → Int32) (xsp : Int32) (xwh : Int32) (xhe : Nat → Int32) (xho : Int32) (xtk : Nat → Int32) (xto : Nat → Int32) (xwa : Nat → Int32) (xmn : Int32) (wp : Nat) (hwp : wp < 24) : sf_M (S := Int32) l D classes (sf_tys cI cZ cJ) y_MD_isWrong (sf_ws y_MD_isWrong b_MD_isWrong 5 (some .boolean)) 2 47 [.ref (q 0), .int 0, .int (nI wp)] (md_w q cI cZ xth xB xsh xcu xtp xtd xpa xsp xwh xhe xho xtk xto xwa xmn) (fun r => some (.int r)) (fun r => r = f_MD_isWrong_0 xB xtk wp) (fun r => (md_w q cI cZ xth xB xsh xcu xtp xtd xpa xsp xwh xhe xho xtk xto xwa xmn)) := by
  refine sf_ofW (S := Int32) (by decide) (Nat.le_of_ble_eq_true rfl) ?_
  intro p e s m below meth c A ls R args Q hR hArgs hQ hC0 hr hK hP hD hl
  obtain ⟨hx, hb, hml, hown, hts, hA, hlk⟩ := hC0
  have hS : va_S A s.heap s.heap [] := va_S.rf
  have hl : lv_has ls 5 [(0, .ref (q 0)), (1, .int 0), (2, .int (nI wp))] := hl
  refine lv_iload_n hx hb d_MD_isWrong_0 rfl (lv_at hl 1 rfl) ?_
  refine lv_iconst (v := 2) hx hb d_MD_isWrong_1 (by decide) ?_
  refine lv_icmp_ge (tgt := 43) hx hb d_MD_isWrong_2 (by decide) (fun c_1 => absurd c_1 (by decide)) (fun c_1 => ?_)
  refine lv_aload_n hx hb d_MD_isWrong_5 rfl (lv_at hl 0 rfl) ?_
  refine va_get (D := D) (ci := 3) (v := .ref (q 5)) (C := R_MD) (T := F_MD) (N := 15) hx hb hts i_MD hown hK hP 0 rfl rfl 11 (by decide) (hts _ wd_586) (fun _ h9 => h9) rfl d_MD_isWrong_6 ?_
  refine lv_iload_n hx hb d_MD_isWrong_9 rfl (lv_at hl 2 rfl) ?_
  refine va_zald hx hb hK hP 5 1 rfl rfl (show vp_in (nI wp) 24 from vp_in_nI (n := wp) (by omega) (by omega)) d_MD_isWrong_10 ?_
  rw [show ((nI wp) : Int32).toNatClampNeg = wp from nI_clamp (n := wp) (by omega)]
  refine lv_if_eq (tgt := 41) hx hb d_MD_isWrong_11 (by decide) (fun c_2 => ?_) (fun c_2 => ?_)
  · refine lv_iconst (v := 0) hx hb d_MD_isWrong_41 (by decide) ?_
    rw [hQ]
    exact sf_iret 0 hx hb hr hlk hS sf_b0 rfl (by simp only [f_MD_isWrong_0, eq_true c_2, ↓reduceIte]) hP d_MD_isWrong_42
  · refine lv_aload_n hx hb d_MD_isWrong_14 rfl (lv_at hl 0 rfl) ?_
    refine lv_iload_n hx hb d_MD_isWrong_15 rfl (lv_at hl 1 rfl) ?_
    refine lv_iconst (v := 1) hx hb d_MD_isWrong_16 (by decide) ?_
    refine lv_icmp_ne (tgt := 24) hx hb d_MD_isWrong_17 (by decide) (fun c_3 => ?_) (fun c_3 => absurd c_3 (by decide))
    refine lv_iconst (v := 0) hx hb d_MD_isWrong_24 (by decide) ?_
    refine lv_iload_n hx hb d_MD_isWrong_25 rfl (lv_at hl 2 rfl) ?_
    refine sf_callSr (S := Unit) (rest := [.ref (q 0)]) ⟨hx, hb, hml, hown, hts⟩ (c_MD_begin_0 l D cI cZ cJ wp) (sf_cwS lk_MD_84 hts (fun _ h => h) (by rw [hR]; exact ⟨Nat.le_of_ble_eq_true rfl, Nat.le_of_ble_eq_true rfl⟩)) hK hP hD hS hA [] rfl rfl (fun _ => rfl) rfl rfl hl.1 (Nat.le_of_ble_eq_true rfl) d_MD_isWrong_26 ⟨Nat.zero_le _, Nat.zero_le _⟩ (fun u H locs hu hP hS => ?_)
    refine lv_bipush (v := 28) hx hb d_MD_isWrong_29 (by decide) ?_
    refine sf_callVw (S := Int32) (rest := []) ⟨hx, hb, hml, hown, hts⟩ (c_MD_isSummed l D cI cZ cJ q xth xB xsh xcu xtp xtd xpa xsp xwh xhe xho xtk xto xwa xmn (0 + (32 * wp)) 28 (by omega)) (sf_cwV lk_MD_48 hts (fun _ h => h) (by rw [hR]; exact ⟨Nat.le_of_ble_eq_true rfl, Nat.le_of_ble_eq_true rfl⟩)) hK hP hD hS hA (fun _ => by simp only [md_w_fst]) (ci := 3) (q0 := 0) rfl rfl rfl rfl rfl hl.1 (Nat.le_of_ble_eq_true rfl) d_MD_isWrong_31 ⟨Nat.zero_le _, Nat.zero_le _⟩ (fun u_4 H locs hu_4 hP hD hS => ?_)
    have hP : va_P D classes (md_w q cI cZ xth xB xsh xcu xtp xtd xpa xsp xwh xhe xho xtk xto xwa xmn) H := hP
    have hD : va_D A (md_w q cI cZ xth xB xsh xcu xtp xtd xpa xsp xwh xhe xho xtk xto xwa xmn) := hD
    refine lv_if_ne (tgt := 41) hx hb d_MD_isWrong_34 (by decide) (fun c_5 => ?_) (fun c_5 => ?_)
    · refine lv_iconst (v := 0) hx hb d_MD_isWrong_41 (by decide) ?_
      rw [hQ]
      exact sf_iret 0 hx hb hr hlk hS sf_b0 rfl (by simp only [f_MD_isWrong_0, ← hu_4, eq_false c_2, eq_false c_5, ↓reduceIte]) hP d_MD_isWrong_42
    · refine lv_iconst (v := 1) hx hb d_MD_isWrong_37 (by decide) ?_
      refine lv_goto (tgt := 42) hx hb d_MD_isWrong_38 (by decide) ?_
      rw [hQ]
      exact sf_iret 1 hx hb hr hlk hS sf_b1 rfl (by simp only [f_MD_isWrong_0, ← hu_4, eq_false c_2, eq_true c_5, ↓reduceIte]) hP d_MD_isWrong_42
def f_MD_isWrong_1 (xB : Nat → Int32) (xtk : Nat → Int32) (wp : Nat) : Int32 :=
  if (xtk wp) = 0 then
    0
  else
    if (f_MD_isSummed xB (768 + (32 * wp)) 28) = 0 then
      1
    else
      0
set_option maxHeartbeats 1000000 in
set_option maxRecDepth 100000 in
/-- isWrong -/
theorem c_MD_isWrong_1 (l : Launch) (D : va_G) (cI cZ cJ : ClassId) (q : Nat → Nat) (xth : Int32) (xB : Nat → Int32) (xsh : Int32) (xcu : Int32) (xtp : Nat → Int32) (xtd : Int32) (xpa : Nat → Int32) (xsp : Int32) (xwh : Int32) (xhe : Nat → Int32) (xho : Int32) (xtk : Nat → Int32) (xto : Nat → Int32) (xwa : Nat → Int32) (xmn : Int32) (wp : Nat) (hwp : wp < 16) : sf_M (S := Int32) l D classes (sf_tys cI cZ cJ) y_MD_isWrong (sf_ws y_MD_isWrong b_MD_isWrong 5 (some .boolean)) 2 47 [.ref (q 0), .int 1, .int (nI wp)] (md_w q cI cZ xth xB xsh xcu xtp xtd xpa xsp xwh xhe xho xtk xto xwa xmn) (fun r => some (.int r)) (fun r => r = f_MD_isWrong_1 xB xtk wp) (fun r => (md_w q cI cZ xth xB xsh xcu xtp xtd xpa xsp xwh xhe xho xtk xto xwa xmn)) := by
  refine sf_ofW (S := Int32) (by decide) (Nat.le_of_ble_eq_true rfl) ?_
  intro p e s m below meth c A ls R args Q hR hArgs hQ hC0 hr hK hP hD hl
  obtain ⟨hx, hb, hml, hown, hts, hA, hlk⟩ := hC0
  have hS : va_S A s.heap s.heap [] := va_S.rf
  have hl : lv_has ls 5 [(0, .ref (q 0)), (1, .int 1), (2, .int (nI wp))] := hl
  refine lv_iload_n hx hb d_MD_isWrong_0 rfl (lv_at hl 1 rfl) ?_
  refine lv_iconst (v := 2) hx hb d_MD_isWrong_1 (by decide) ?_
  refine lv_icmp_ge (tgt := 43) hx hb d_MD_isWrong_2 (by decide) (fun c_1 => absurd c_1 (by decide)) (fun c_1 => ?_)
  refine lv_aload_n hx hb d_MD_isWrong_5 rfl (lv_at hl 0 rfl) ?_
  refine va_get (D := D) (ci := 3) (v := .ref (q 5)) (C := R_MD) (T := F_MD) (N := 15) hx hb hts i_MD hown hK hP 0 rfl rfl 11 (by decide) (hts _ wd_586) (fun _ h9 => h9) rfl d_MD_isWrong_6 ?_
  refine lv_iload_n hx hb d_MD_isWrong_9 rfl (lv_at hl 2 rfl) ?_
  refine va_zald hx hb hK hP 5 1 rfl rfl (show vp_in (nI wp) 24 from vp_in_nI (n := wp) (by omega) (by omega)) d_MD_isWrong_10 ?_
  rw [show ((nI wp) : Int32).toNatClampNeg = wp from nI_clamp (n := wp) (by omega)]
  refine lv_if_eq (tgt := 41) hx hb d_MD_isWrong_11 (by decide) (fun c_2 => ?_) (fun c_2 => ?_)
  · refine lv_iconst (v := 0) hx hb d_MD_isWrong_41 (by decide) ?_
    rw [hQ]
    exact sf_iret 0 hx hb hr hlk hS sf_b0 rfl (by simp only [f_MD_isWrong_1, eq_true c_2, ↓reduceIte]) hP d_MD_isWrong_42
  · refine lv_aload_n hx hb d_MD_isWrong_14 rfl (lv_at hl 0 rfl) ?_
    refine lv_iload_n hx hb d_MD_isWrong_15 rfl (lv_at hl 1 rfl) ?_
    refine lv_iconst (v := 1) hx hb d_MD_isWrong_16 (by decide) ?_
    refine lv_icmp_ne (tgt := 24) hx hb d_MD_isWrong_17 (by decide) (fun c_3 => absurd (by decide) c_3) (fun c_3 => ?_)
    refine lv_iconst (v := 1) hx hb d_MD_isWrong_20 (by decide) ?_
    refine lv_goto (tgt := 25) hx hb d_MD_isWrong_21 (by decide) ?_
    refine lv_iload_n hx hb d_MD_isWrong_25 rfl (lv_at hl 2 rfl) ?_
    refine sf_callSr (S := Unit) (rest := [.ref (q 0)]) ⟨hx, hb, hml, hown, hts⟩ (c_MD_begin_1 l D cI cZ cJ wp) (sf_cwS lk_MD_84 hts (fun _ h => h) (by rw [hR]; exact ⟨Nat.le_of_ble_eq_true rfl, Nat.le_of_ble_eq_true rfl⟩)) hK hP hD hS hA [] rfl rfl (fun _ => rfl) rfl rfl hl.1 (Nat.le_of_ble_eq_true rfl) d_MD_isWrong_26 ⟨Nat.zero_le _, Nat.zero_le _⟩ (fun u H locs hu hP hS => ?_)
    refine lv_bipush (v := 28) hx hb d_MD_isWrong_29 (by decide) ?_
    refine sf_callVw (S := Int32) (rest := []) ⟨hx, hb, hml, hown, hts⟩ (c_MD_isSummed l D cI cZ cJ q xth xB xsh xcu xtp xtd xpa xsp xwh xhe xho xtk xto xwa xmn (768 + (32 * wp)) 28 (by omega)) (sf_cwV lk_MD_48 hts (fun _ h => h) (by rw [hR]; exact ⟨Nat.le_of_ble_eq_true rfl, Nat.le_of_ble_eq_true rfl⟩)) hK hP hD hS hA (fun _ => by simp only [md_w_fst]) (ci := 3) (q0 := 0) rfl rfl rfl rfl rfl hl.1 (Nat.le_of_ble_eq_true rfl) d_MD_isWrong_31 ⟨Nat.zero_le _, Nat.zero_le _⟩ (fun u_4 H locs hu_4 hP hD hS => ?_)
    have hP : va_P D classes (md_w q cI cZ xth xB xsh xcu xtp xtd xpa xsp xwh xhe xho xtk xto xwa xmn) H := hP
    have hD : va_D A (md_w q cI cZ xth xB xsh xcu xtp xtd xpa xsp xwh xhe xho xtk xto xwa xmn) := hD
    refine lv_if_ne (tgt := 41) hx hb d_MD_isWrong_34 (by decide) (fun c_5 => ?_) (fun c_5 => ?_)
    · refine lv_iconst (v := 0) hx hb d_MD_isWrong_41 (by decide) ?_
      rw [hQ]
      exact sf_iret 0 hx hb hr hlk hS sf_b0 rfl (by simp only [f_MD_isWrong_1, ← hu_4, eq_false c_2, eq_false c_5, ↓reduceIte]) hP d_MD_isWrong_42
    · refine lv_iconst (v := 1) hx hb d_MD_isWrong_37 (by decide) ?_
      refine lv_goto (tgt := 42) hx hb d_MD_isWrong_38 (by decide) ?_
      rw [hQ]
      exact sf_iret 1 hx hb hr hlk hS sf_b1 rfl (by simp only [f_MD_isWrong_1, ← hu_4, eq_false c_2, eq_true c_5, ↓reduceIte]) hP d_MD_isWrong_42
def f_MD_isWrong_2_l48 (xB : Nat → Int32) (wp : Nat) : Nat → Nat → Int32 → Int32
  | 0, _, _ => 0
  | fu + 1, k, vs =>
    if 40 ≤ (nI k) then
      if vs = 0 then
        0
      else
        if (f_MD_isSummed xB (1280 + (40 * wp)) 36) = 0 then
          1
        else
          0
    else
      if vs = 0 then
        if (xB ((1280 + (40 * wp)) + k)) = 0 then
          f_MD_isWrong_2_l48 xB wp fu (k + 1) 0
        else
          f_MD_isWrong_2_l48 xB wp fu (k + 1) 1
      else
        f_MD_isWrong_2_l48 xB wp fu (k + 1) 1
def f_MD_isWrong_2 (xB : Nat → Int32) (wp : Nat) : Int32 :=
  f_MD_isWrong_2_l48 xB wp (40 + 1) 0 0
set_option maxHeartbeats 1000000 in
set_option maxRecDepth 100000 in
/-- isWrong -/
theorem c_MD_isWrong_2 (l : Launch) (D : va_G) (cI cZ cJ : ClassId) (q : Nat → Nat) (xth : Int32) (xB : Nat → Int32) (xsh : Int32) (xcu : Int32) (xtp : Nat → Int32) (xtd : Int32) (xpa : Nat → Int32) (xsp : Int32) (xwh : Int32) (xhe : Nat → Int32) (xho : Int32) (xtk : Nat → Int32) (xto : Nat → Int32) (xwa : Nat → Int32) (xmn : Int32) (wp : Nat) (hwp : wp < 2) : sf_M (S := Int32) l D classes (sf_tys cI cZ cJ) y_MD_isWrong (sf_ws y_MD_isWrong b_MD_isWrong 5 (some .boolean)) 2 47 [.ref (q 0), .int 2, .int (nI wp)] (md_w q cI cZ xth xB xsh xcu xtp xtd xpa xsp xwh xhe xho xtk xto xwa xmn) (fun r => some (.int r)) (fun r => r = f_MD_isWrong_2 xB wp) (fun r => (md_w q cI cZ xth xB xsh xcu xtp xtd xpa xsp xwh xhe xho xtk xto xwa xmn)) := by
  refine sf_ofW (S := Int32) (by decide) (Nat.le_of_ble_eq_true rfl) ?_
  intro p e s m below meth c A ls R args Q hR hArgs hQ hC0 hr hK hP hD hl
  obtain ⟨hx, hb, hml, hown, hts, hA, hlk⟩ := hC0
  have hS : va_S A s.heap s.heap [] := va_S.rf
  have hl : lv_has ls 5 [(0, .ref (q 0)), (1, .int 2), (2, .int (nI wp))] := hl
  refine lv_iload_n hx hb d_MD_isWrong_0 rfl (lv_at hl 1 rfl) ?_
  refine lv_iconst (v := 2) hx hb d_MD_isWrong_1 (by decide) ?_
  refine lv_icmp_ge (tgt := 43) hx hb d_MD_isWrong_2 (by decide) (fun c_1 => ?_) (fun c_1 => absurd (by decide) c_1)
  refine lv_iconst (v := 0) hx hb d_MD_isWrong_43 (by decide) ?_
  refine lv_istore_n (lv' := [(3, .int 0), (0, .ref (q 0)), (1, .int 2), (2, .int (nI wp))]) hx hb d_MD_isWrong_44 rfl hl (by decide) rfl (fun ls hl => ?_)
  refine lv_iconst (v := 0) hx hb d_MD_isWrong_45 (by decide) ?_
  refine lv_istore (lv' := [(4, .int 0), (3, .int 0), (0, .ref (q 0)), (1, .int 2), (2, .int (nI wp))]) hx hb d_MD_isWrong_46 hl (by decide) rfl (fun ls hl => ?_)
  have loop48 : ∀ (fu k : Nat) (vs : Int32), k ≤ 40 → k + fu = 40 + 1 → vs = 0 ∨ vs = 1 → f_MD_isWrong_2_l48 xB wp fu k vs = f_MD_isWrong_2 xB wp → ∀ (H : Heap) (locs : List Loc), va_P D classes (md_w q cI cZ xth xB xsh xcu xtp xtd xpa xsp xwh xhe xho xtk xto xwa xmn) H → va_D A (md_w q cI cZ xth xB xsh xcu xtp xtd xpa xsp xwh xhe xho xtk xto xwa xmn) → va_S A s.heap H locs → ∀ (ls : Array Slot), lv_has ls 5 [(0, .ref (q 0)), (1, .int 2), (2, .int (nI wp)), (3, .int vs), (4, .int (nI k))] → W p l e R s m args below meth c H locs 0 0 Q (F0 m 48 ls []) := by
    intro fu
    induction fu with
    | zero =>
      intro k vs h1 h2
      exact absurd h2 (by omega)
    | succ fu ih48 =>
      intro k vs hk48 hkn48 hi480 heq48 H locs hP hD hS ls hl
      refine lv_iload hx hb d_MD_isWrong_48 (lv_at hl 4 rfl) ?_
      refine lv_bipush (v := 40) hx hb d_MD_isWrong_50 (by decide) ?_
      refine lv_icmp_ge (tgt := 90) hx hb d_MD_isWrong_52 (by decide) (fun c_2 => ?_) (fun c_2 => ?_)
      · refine lv_iload_n hx hb d_MD_isWrong_90 rfl (lv_at hl 3 rfl) ?_
        refine lv_if_eq (tgt := 115) hx hb d_MD_isWrong_91 (by decide) (fun c_3 => ?_) (fun c_3 => ?_)
        · refine lv_iconst (v := 0) hx hb d_MD_isWrong_115 (by decide) ?_
          rw [hQ]
          exact sf_iret 0 hx hb hr hlk hS sf_b0 rfl (by rw [← heq48]; simp only [f_MD_isWrong_2_l48, eq_true c_2, eq_true c_3, ↓reduceIte]) hP d_MD_isWrong_116
        · refine lv_aload_n hx hb d_MD_isWrong_94 rfl (lv_at hl 0 rfl) ?_
          refine lv_sipush (v := 1280) hx hb d_MD_isWrong_95 (by decide) ?_
          refine lv_bipush (v := 40) hx hb d_MD_isWrong_98 (by decide) ?_
          refine lv_iload_n hx hb d_MD_isWrong_100 rfl (lv_at hl 2 rfl) ?_
          refine lv_imul hx hb d_MD_isWrong_101 ?_
          rw [show ((40 * (nI wp)) : Int32) = (nI (40 * wp)) from pk_mul 40 wp]
          refine lv_iadd hx hb d_MD_isWrong_102 ?_
          rw [show ((1280 + (nI (40 * wp))) : Int32) = (nI (1280 + (40 * wp))) from nI_add 1280 (40 * wp)]
          refine lv_bipush (v := 36) hx hb d_MD_isWrong_103 (by decide) ?_
          refine sf_callVw (S := Int32) (rest := []) ⟨hx, hb, hml, hown, hts⟩ (c_MD_isSummed l D cI cZ cJ q xth xB xsh xcu xtp xtd xpa xsp xwh xhe xho xtk xto xwa xmn (1280 + (40 * wp)) 36 (by omega)) (sf_cwV lk_MD_48 hts (fun _ h => h) (by rw [hR]; exact ⟨Nat.le_of_ble_eq_true rfl, Nat.le_of_ble_eq_true rfl⟩)) hK hP hD hS hA (fun _ => by simp only [md_w_fst]) (ci := 3) (q0 := 0) rfl rfl rfl rfl rfl hl.1 (Nat.le_of_ble_eq_true rfl) d_MD_isWrong_105 ⟨Nat.zero_le _, Nat.zero_le _⟩ (fun u_4 H locs hu_4 hP hD hS => ?_)
          have hP : va_P D classes (md_w q cI cZ xth xB xsh xcu xtp xtd xpa xsp xwh xhe xho xtk xto xwa xmn) H := hP
          have hD : va_D A (md_w q cI cZ xth xB xsh xcu xtp xtd xpa xsp xwh xhe xho xtk xto xwa xmn) := hD
          refine lv_if_ne (tgt := 115) hx hb d_MD_isWrong_108 (by decide) (fun c_5 => ?_) (fun c_5 => ?_)
          · refine lv_iconst (v := 0) hx hb d_MD_isWrong_115 (by decide) ?_
            rw [hQ]
            exact sf_iret 0 hx hb hr hlk hS sf_b0 rfl (by rw [← heq48]; simp only [f_MD_isWrong_2_l48, ← hu_4, eq_true c_2, eq_false c_3, eq_false c_5, ↓reduceIte]) hP d_MD_isWrong_116
          · refine lv_iconst (v := 1) hx hb d_MD_isWrong_111 (by decide) ?_
            refine lv_goto (tgt := 116) hx hb d_MD_isWrong_112 (by decide) ?_
            rw [hQ]
            exact sf_iret 1 hx hb hr hlk hS sf_b1 rfl (by rw [← heq48]; simp only [f_MD_isWrong_2_l48, ← hu_4, eq_true c_2, eq_false c_3, eq_true c_5, ↓reduceIte]) hP d_MD_isWrong_116
      · have hlt : k < 40 := sf_lt_of (N := 40) (by omega) (by omega) c_2
        refine lv_iload_n hx hb d_MD_isWrong_55 rfl (lv_at hl 3 rfl) ?_
        refine lv_if_ne (tgt := 78) hx hb d_MD_isWrong_56 (by decide) (fun c_6 => ?_) (fun c_6 => ?_)
        · refine lv_iconst (v := 1) hx hb d_MD_isWrong_78 (by decide) ?_
          refine lv_goto (tgt := 83) hx hb d_MD_isWrong_79 (by decide) ?_
          refine lv_istore_n (lv' := [(3, .int 1), (0, .ref (q 0)), (1, .int 2), (2, .int (nI wp)), (4, .int (nI k))]) hx hb d_MD_isWrong_83 rfl hl (by decide) rfl (fun ls hl => ?_)
          refine lv_iinc (v := (nI (k + 1))) (lv' := [(4, .int (nI (k + 1))), (3, .int 1), (0, .ref (q 0)), (1, .int 2), (2, .int (nI wp))]) hx hb d_MD_isWrong_84 hl (k := 4) rfl (nI_1 k) (by decide) rfl (fun ls hl => ?_)
          refine lv_goto (tgt := 48) hx hb d_MD_isWrong_87 (by decide) ?_
          exact ih48 (k + 1) 1 (by omega) (by omega) (Or.inr rfl) (by rw [← heq48]; simp only [f_MD_isWrong_2_l48, eq_false c_2, eq_false c_6, ↓reduceIte]) _ _ hP hD hS ls (lv_sub hl [2, 3, 4, 1, 0] rfl)
        · refine lv_aload_n hx hb d_MD_isWrong_59 rfl (lv_at hl 0 rfl) ?_
          refine va_get (D := D) (ci := 3) (v := .ref (q 1)) (C := R_MD) (T := F_MD) (N := 15) hx hb hts i_MD hown hK hP 0 rfl rfl 1 (by decide) (hts _ wd_576) (fun _ h9 => h9) rfl d_MD_isWrong_60 ?_
          refine lv_sipush (v := 1280) hx hb d_MD_isWrong_63 (by decide) ?_
          refine lv_bipush (v := 40) hx hb d_MD_isWrong_66 (by decide) ?_
          refine lv_iload_n hx hb d_MD_isWrong_68 rfl (lv_at hl 2 rfl) ?_
          refine lv_imul hx hb d_MD_isWrong_69 ?_
          rw [show ((40 * (nI wp)) : Int32) = (nI (40 * wp)) from pk_mul 40 wp]
          refine lv_iadd hx hb d_MD_isWrong_70 ?_
          rw [show ((1280 + (nI (40 * wp))) : Int32) = (nI (1280 + (40 * wp))) from nI_add 1280 (40 * wp)]
          refine lv_iload hx hb d_MD_isWrong_71 (lv_at hl 4 rfl) ?_
          refine lv_iadd hx hb d_MD_isWrong_73 ?_
          rw [show (((nI (1280 + (40 * wp))) + (nI k)) : Int32) = (nI ((1280 + (40 * wp)) + k)) from nI_add (1280 + (40 * wp)) k]
          refine va_iald hx hb hK hP 1 0 rfl rfl (show vp_in (nI ((1280 + (40 * wp)) + k)) 1360 from vp_in_nI (n := ((1280 + (40 * wp)) + k)) (by omega) (by omega)) d_MD_isWrong_74 ?_
          rw [show ((nI ((1280 + (40 * wp)) + k)) : Int32).toNatClampNeg = ((1280 + (40 * wp)) + k) from nI_clamp (n := ((1280 + (40 * wp)) + k)) (by omega)]
          refine lv_if_eq (tgt := 82) hx hb d_MD_isWrong_75 (by decide) (fun c_7 => ?_) (fun c_7 => ?_)
          · refine lv_iconst (v := 0) hx hb d_MD_isWrong_82 (by decide) ?_
            refine lv_istore_n (lv' := [(3, .int 0), (0, .ref (q 0)), (1, .int 2), (2, .int (nI wp)), (4, .int (nI k))]) hx hb d_MD_isWrong_83 rfl hl (by decide) rfl (fun ls hl => ?_)
            refine lv_iinc (v := (nI (k + 1))) (lv' := [(4, .int (nI (k + 1))), (3, .int 0), (0, .ref (q 0)), (1, .int 2), (2, .int (nI wp))]) hx hb d_MD_isWrong_84 hl (k := 4) rfl (nI_1 k) (by decide) rfl (fun ls hl => ?_)
            refine lv_goto (tgt := 48) hx hb d_MD_isWrong_87 (by decide) ?_
            exact ih48 (k + 1) 0 (by omega) (by omega) (Or.inl rfl) (by rw [← heq48]; simp only [f_MD_isWrong_2_l48, eq_false c_2, eq_true c_6, eq_true c_7, ↓reduceIte]) _ _ hP hD hS ls (lv_sub hl [2, 3, 4, 1, 0] rfl)
          · refine lv_iconst (v := 1) hx hb d_MD_isWrong_78 (by decide) ?_
            refine lv_goto (tgt := 83) hx hb d_MD_isWrong_79 (by decide) ?_
            refine lv_istore_n (lv' := [(3, .int 1), (0, .ref (q 0)), (1, .int 2), (2, .int (nI wp)), (4, .int (nI k))]) hx hb d_MD_isWrong_83 rfl hl (by decide) rfl (fun ls hl => ?_)
            refine lv_iinc (v := (nI (k + 1))) (lv' := [(4, .int (nI (k + 1))), (3, .int 1), (0, .ref (q 0)), (1, .int 2), (2, .int (nI wp))]) hx hb d_MD_isWrong_84 hl (k := 4) rfl (nI_1 k) (by decide) rfl (fun ls hl => ?_)
            refine lv_goto (tgt := 48) hx hb d_MD_isWrong_87 (by decide) ?_
            exact ih48 (k + 1) 1 (by omega) (by omega) (Or.inr rfl) (by rw [← heq48]; simp only [f_MD_isWrong_2_l48, eq_false c_2, eq_true c_6, eq_false c_7, ↓reduceIte]) _ _ hP hD hS ls (lv_sub hl [2, 3, 4, 1, 0] rfl)
  exact loop48 (40 + 1) 0 0 (by omega) (by omega) (Or.inl rfl) (by simp only [f_MD_isWrong_2, ↓reduceIte]) _ _ hP hD hS ls (lv_sub hl [2, 3, 4, 1, 0] rfl)
def f_MD_wrong_l55_0 (xB : Nat → Int32) (xpa : Nat → Int32) (xsp : Int32) (xwh : Int32) (xhe : Nat → Int32) (xho : Int32) (xtk : Nat → Int32) : Nat → Nat → Int32 → (Int32 × Int32 × (Nat → Int32) × (Nat → Int32) × Int32 × Int32 × (Nat → Int32) × Int32)
  | 0, _, _ => (0, 0, (fun _ => 0), (fun _ => 0), 0, 0, (fun _ => 0), 0)
  | fu + 1, k, vl =>
    if 24 ≤ (nI k) then
      ((-1), 0, (f_MD_findTaken_0 xB xpa xsp xwh xhe xho xtk).2.1, (f_MD_findTaken_0 xB xpa xsp xwh xhe xho xtk).2.2.1, (f_MD_findTaken_0 xB xpa xsp xwh xhe xho xtk).2.2.2.1, (f_MD_findTaken_0 xB xpa xsp xwh xhe xho xtk).2.2.2.2.1, (f_MD_findTaken_0 xB xpa xsp xwh xhe xho xtk).2.2.2.2.2.1, (f_MD_findTaken_0 xB xpa xsp xwh xhe xho xtk).2.2.2.2.2.2)
    else
      if (f_MD_isWrong_0 xB (f_MD_findTaken_0 xB xpa xsp xwh xhe xho xtk).2.1 k) = 0 then
        f_MD_wrong_l55_0 xB xpa xsp xwh xhe xho xtk fu (k + 1) vl
      else
        if vl = 0 then
          ((nI k), 0, (f_MD_findTaken_0 xB xpa xsp xwh xhe xho xtk).2.1, (f_MD_findTaken_0 xB xpa xsp xwh xhe xho xtk).2.2.1, (f_MD_findTaken_0 xB xpa xsp xwh xhe xho xtk).2.2.2.1, (f_MD_findTaken_0 xB xpa xsp xwh xhe xho xtk).2.2.2.2.1, (f_MD_findTaken_0 xB xpa xsp xwh xhe xho xtk).2.2.2.2.2.1, (f_MD_findTaken_0 xB xpa xsp xwh xhe xho xtk).2.2.2.2.2.2)
        else
          f_MD_wrong_l55_0 xB xpa xsp xwh xhe xho xtk fu (k + 1) (vl + (-1))
def f_MD_wrong_l55_1 (xB : Nat → Int32) (xpa : Nat → Int32) (xsp : Int32) (xwh : Int32) (xhe : Nat → Int32) (xho : Int32) (xtk : Nat → Int32) : Nat → Nat → Int32 → (Int32 × Int32 × (Nat → Int32) × (Nat → Int32) × Int32 × Int32 × (Nat → Int32) × Int32)
  | 0, _, _ => (0, 0, (fun _ => 0), (fun _ => 0), 0, 0, (fun _ => 0), 0)
  | fu + 1, k, vl =>
    if 16 ≤ (nI k) then
      ((-1), 0, (f_MD_findTaken_1 xB xpa xsp xwh xhe xho xtk).2.1, (f_MD_findTaken_1 xB xpa xsp xwh xhe xho xtk).2.2.1, (f_MD_findTaken_1 xB xpa xsp xwh xhe xho xtk).2.2.2.1, (f_MD_findTaken_1 xB xpa xsp xwh xhe xho xtk).2.2.2.2.1, (f_MD_findTaken_1 xB xpa xsp xwh xhe xho xtk).2.2.2.2.2.1, (f_MD_findTaken_1 xB xpa xsp xwh xhe xho xtk).2.2.2.2.2.2)
    else
      if (f_MD_isWrong_1 xB (f_MD_findTaken_1 xB xpa xsp xwh xhe xho xtk).2.1 k) = 0 then
        f_MD_wrong_l55_1 xB xpa xsp xwh xhe xho xtk fu (k + 1) vl
      else
        if vl = 0 then
          ((nI k), 0, (f_MD_findTaken_1 xB xpa xsp xwh xhe xho xtk).2.1, (f_MD_findTaken_1 xB xpa xsp xwh xhe xho xtk).2.2.1, (f_MD_findTaken_1 xB xpa xsp xwh xhe xho xtk).2.2.2.1, (f_MD_findTaken_1 xB xpa xsp xwh xhe xho xtk).2.2.2.2.1, (f_MD_findTaken_1 xB xpa xsp xwh xhe xho xtk).2.2.2.2.2.1, (f_MD_findTaken_1 xB xpa xsp xwh xhe xho xtk).2.2.2.2.2.2)
        else
          f_MD_wrong_l55_1 xB xpa xsp xwh xhe xho xtk fu (k + 1) (vl + (-1))
def f_MD_wrong_l55_2 (xB : Nat → Int32) (xpa : Nat → Int32) (xsp : Int32) (xwh : Int32) (xhe : Nat → Int32) (xho : Int32) (xtk : Nat → Int32) : Nat → Nat → Int32 → (Int32 × Int32 × (Nat → Int32) × (Nat → Int32) × Int32 × Int32 × (Nat → Int32) × Int32)
  | 0, _, _ => (0, 0, (fun _ => 0), (fun _ => 0), 0, 0, (fun _ => 0), 0)
  | fu + 1, k, vl =>
    if 2 ≤ (nI k) then
      ((-1), 0, xtk, xpa, xsp, xwh, xhe, xho)
    else
      if (f_MD_isWrong_2 xB k) = 0 then
        f_MD_wrong_l55_2 xB xpa xsp xwh xhe xho xtk fu (k + 1) vl
      else
        if vl = 0 then
          ((nI k), 0, xtk, xpa, xsp, xwh, xhe, xho)
        else
          f_MD_wrong_l55_2 xB xpa xsp xwh xhe xho xtk fu (k + 1) (vl + (-1))
def f_MD_wrong (xB : Nat → Int32) (xpa : Nat → Int32) (xsp : Int32) (xwh : Int32) (xhe : Nat → Int32) (xho : Int32) (xtk : Nat → Int32) (wt : Int32) (wi : Int32) : (Int32 × Int32 × (Nat → Int32) × (Nat → Int32) × Int32 × Int32 × (Nat → Int32) × Int32) :=
  if (f_MD_in wt 0 2) = 0 then
    (0, 1, xtk, xpa, xsp, xwh, xhe, xho)
  else
    if 0 ≤ wi then
      if wt = 0 then
        f_MD_wrong_l55_0 xB xpa xsp xwh xhe xho xtk (24 + 1) 0 wi
      else
        if wt = 1 then
          f_MD_wrong_l55_1 xB xpa xsp xwh xhe xho xtk (16 + 1) 0 wi
        else
          f_MD_wrong_l55_2 xB xpa xsp xwh xhe xho xtk (2 + 1) 0 wi
    else
      (0, 1, xtk, xpa, xsp, xwh, xhe, xho)
set_option maxHeartbeats 1000000 in
set_option maxRecDepth 100000 in
/-- wrong -/
theorem c_MD_wrong (l : Launch) (D : va_G) (cI cZ cJ : ClassId) (q : Nat → Nat) (xth : Int32) (xB : Nat → Int32) (xsh : Int32) (xcu : Int32) (xtp : Nat → Int32) (xtd : Int32) (xpa : Nat → Int32) (xsp : Int32) (xwh : Int32) (xhe : Nat → Int32) (xho : Int32) (xtk : Nat → Int32) (xto : Nat → Int32) (xwa : Nat → Int32) (xmn : Int32) (wt : Int32) (wi : Int32) : sf_M (S := (Int32 × Int32 × (Nat → Int32) × (Nat → Int32) × Int32 × Int32 × (Nat → Int32) × Int32)) l D classes (sf_tys cI cZ cJ) y_MD_wrong (sf_ws y_MD_wrong b_MD_wrong 5 (some .int)) 8 182 [.ref (q 0), .int wt, .int wi] (md_w q cI cZ xth xB xsh xcu xtp xtd xpa xsp xwh xhe xho xtk xto xwa xmn) (fun r => some (.int r.1)) (fun r => r = f_MD_wrong xB xpa xsp xwh xhe xho xtk wt wi) (fun r => (md_w q cI cZ r.2.1 xB xsh xcu xtp xtd r.2.2.2.1 r.2.2.2.2.1 r.2.2.2.2.2.1 r.2.2.2.2.2.2.1 r.2.2.2.2.2.2.2 r.2.2.1 xto xwa xmn)) := by
  refine sf_ofW (S := (Int32 × Int32 × (Nat → Int32) × (Nat → Int32) × Int32 × Int32 × (Nat → Int32) × Int32)) (by decide) (Nat.le_of_ble_eq_true rfl) ?_
  intro p e s m below meth c A ls R args Q hR hArgs hQ hC0 hr hK hP hD hl
  obtain ⟨hx, hb, hml, hown, hts, hA, hlk⟩ := hC0
  have hS : va_S A s.heap s.heap [] := va_S.rf
  have hl : lv_has ls 5 [(0, .ref (q 0)), (1, .int wt), (2, .int wi)] := hl
  refine lv_aload_n hx hb d_MD_wrong_0 rfl (lv_at hl 0 rfl) ?_
  refine lv_iload_n hx hb d_MD_wrong_1 rfl (lv_at hl 1 rfl) ?_
  refine lv_iconst (v := 0) hx hb d_MD_wrong_2 (by decide) ?_
  refine lv_iconst (v := 2) hx hb d_MD_wrong_3 (by decide) ?_
  refine sf_callSr (S := Int32) (rest := [.ref (q 0)]) ⟨hx, hb, hml, hown, hts⟩ (c_MD_in l D cI cZ cJ wt 0 2) (sf_cwS lk_MD_44 hts (fun _ h => h) (by rw [hR]; exact ⟨Nat.le_of_ble_eq_true rfl, Nat.le_of_ble_eq_true rfl⟩)) hK hP hD hS hA [] rfl rfl (fun _ => rfl) rfl rfl hl.1 (Nat.le_of_ble_eq_true rfl) d_MD_wrong_4 ⟨Nat.zero_le _, Nat.zero_le _⟩ (fun u_1 H locs hu_1 hP hS => ?_)
  refine lv_if_eq (tgt := 14) hx hb d_MD_wrong_7 (by decide) (fun c_2 => ?_) (fun c_2 => ?_)
  · refine lv_iconst (v := 1) hx hb d_MD_wrong_14 (by decide) ?_
    refine lv_goto (tgt := 19) hx hb d_MD_wrong_15 (by decide) ?_
    refine lv_iconst (v := 0) hx hb d_MD_wrong_19 (by decide) ?_
    refine lv_iconst (v := 0) hx hb d_MD_wrong_20 (by decide) ?_
    refine lv_iconst (v := 0) hx hb d_MD_wrong_21 (by decide) ?_
    refine sf_callVw (S := Unit) (rest := []) ⟨hx, hb, hml, hown, hts⟩ (c_MD_throwing_1 l D cI cZ cJ q xth xB xsh xcu xtp xtd xpa xsp xwh xhe xho xtk xto xwa xmn 0 0 0) (sf_cwV lk_MD_117 hts (fun _ h => h) (by rw [hR]; exact ⟨Nat.le_of_ble_eq_true rfl, Nat.le_of_ble_eq_true rfl⟩)) hK hP hD hS hA (fun _ => by simp only [md_w_fst]) (ci := 3) (q0 := 0) rfl rfl rfl rfl rfl hl.1 (Nat.le_of_ble_eq_true rfl) d_MD_wrong_22 ⟨Nat.zero_le _, Nat.zero_le _⟩ (fun u H locs hu hP hD hS => ?_)
    have hP : va_P D classes (md_w q cI cZ 1 xB xsh xcu xtp xtd xpa xsp xwh xhe xho xtk xto xwa xmn) H := hP
    have hD : va_D A (md_w q cI cZ 1 xB xsh xcu xtp xtd xpa xsp xwh xhe xho xtk xto xwa xmn) := hD
    refine lv_if_eq (tgt := 30) hx hb d_MD_wrong_25 (by decide) (fun c_3 => absurd c_3 (by decide)) (fun c_3 => ?_)
    refine lv_iconst (v := 0) hx hb d_MD_wrong_28 (by decide) ?_
    rw [hQ]
    exact sf_iret (0, 1, xtk, xpa, xsp, xwh, xhe, xho) hx hb hr hlk hS rfl rfl (by simp only [f_MD_wrong, ← hu_1, eq_true c_2, ↓reduceIte]) hP d_MD_wrong_29
  · refine lv_iload_n hx hb d_MD_wrong_10 rfl (lv_at hl 2 rfl) ?_
    refine lv_if_ge (tgt := 18) hx hb d_MD_wrong_11 (by decide) (fun c_4 => ?_) (fun c_4 => ?_)
    · refine lv_iconst (v := 0) hx hb d_MD_wrong_18 (by decide) ?_
      refine lv_iconst (v := 0) hx hb d_MD_wrong_19 (by decide) ?_
      refine lv_iconst (v := 0) hx hb d_MD_wrong_20 (by decide) ?_
      refine lv_iconst (v := 0) hx hb d_MD_wrong_21 (by decide) ?_
      refine sf_callVw (S := Unit) (rest := []) ⟨hx, hb, hml, hown, hts⟩ (c_MD_throwing_0 l D cI cZ cJ q xth xB xsh xcu xtp xtd xpa xsp xwh xhe xho xtk xto xwa xmn) (sf_cwV lk_MD_117 hts (fun _ h => h) (by rw [hR]; exact ⟨Nat.le_of_ble_eq_true rfl, Nat.le_of_ble_eq_true rfl⟩)) hK hP hD hS hA (fun _ => by simp only [md_w_fst]) (ci := 3) (q0 := 0) rfl rfl rfl rfl rfl hl.1 (Nat.le_of_ble_eq_true rfl) d_MD_wrong_22 ⟨Nat.zero_le _, Nat.zero_le _⟩ (fun u H locs hu hP hD hS => ?_)
      have hP : va_P D classes (md_w q cI cZ 0 xB xsh xcu xtp xtd xpa xsp xwh xhe xho xtk xto xwa xmn) H := hP
      have hD : va_D A (md_w q cI cZ 0 xB xsh xcu xtp xtd xpa xsp xwh xhe xho xtk xto xwa xmn) := hD
      refine lv_if_eq (tgt := 30) hx hb d_MD_wrong_25 (by decide) (fun c_5 => ?_) (fun c_5 => absurd (by decide) c_5)
      rcases sf_nat2 (by rw [← hu_1]; exact c_2) with hw | hw | hw
      · rw [hw] at hl
        refine lv_iload_n hx hb d_MD_wrong_30 rfl (lv_at hl 1 rfl) ?_
        refine lv_iconst (v := 2) hx hb d_MD_wrong_31 (by decide) ?_
        refine lv_icmp_ge (tgt := 50) hx hb d_MD_wrong_32 (by decide) (fun c_6 => absurd c_6 (by decide)) (fun c_6 => ?_)
        refine lv_aload_n hx hb d_MD_wrong_35 rfl (lv_at hl 0 rfl) ?_
        refine lv_iload_n hx hb d_MD_wrong_36 rfl (lv_at hl 1 rfl) ?_
        refine lv_iconst (v := 1) hx hb d_MD_wrong_37 (by decide) ?_
        refine lv_icmp_ne (tgt := 45) hx hb d_MD_wrong_38 (by decide) (fun c_7 => ?_) (fun c_7 => absurd c_7 (by decide))
        refine lv_iconst (v := 0) hx hb d_MD_wrong_45 (by decide) ?_
        refine sf_callVw (S := (Int32 × (Nat → Int32) × (Nat → Int32) × Int32 × Int32 × (Nat → Int32) × Int32)) (rest := []) ⟨hx, hb, hml, hown, hts⟩ (c_MD_findTaken_0 l D cI cZ cJ q 0 xB xsh xcu xtp xtd xpa xsp xwh xhe xho xtk xto xwa xmn) (sf_cwV lk_MD_123 hts (fun _ h => h) (by rw [hR]; exact ⟨Nat.le_of_ble_eq_true rfl, Nat.le_of_ble_eq_true rfl⟩)) hK hP hD hS hA (fun _ => by simp only [md_w_fst]) (ci := 3) (q0 := 0) rfl rfl rfl rfl rfl hl.1 (Nat.le_of_ble_eq_true rfl) d_MD_wrong_46 ⟨Nat.zero_le _, Nat.zero_le _⟩ (fun u_8 H locs hu_8 hP hD hS => ?_)
        have hP : va_P D classes (md_w q cI cZ 0 xB xsh xcu xtp xtd u_8.2.2.1 u_8.2.2.2.1 u_8.2.2.2.2.1 u_8.2.2.2.2.2.1 u_8.2.2.2.2.2.2 u_8.2.1 xto xwa xmn) H := hP
        have hD : va_D A (md_w q cI cZ 0 xB xsh xcu xtp xtd u_8.2.2.1 u_8.2.2.2.1 u_8.2.2.2.2.1 u_8.2.2.2.2.2.1 u_8.2.2.2.2.2.2 u_8.2.1 xto xwa xmn) := hD
        refine lv_pop hx hb d_MD_wrong_49 rfl ?_
        refine lv_iload_n hx hb d_MD_wrong_50 rfl (lv_at hl 2 rfl) ?_
        refine lv_istore_n (lv' := [(3, .int wi), (0, .ref (q 0)), (1, .int 0), (2, .int wi)]) hx hb d_MD_wrong_51 rfl hl (by decide) rfl (fun ls hl => ?_)
        refine lv_iconst (v := 0) hx hb d_MD_wrong_52 (by decide) ?_
        refine lv_istore (lv' := [(4, .int 0), (3, .int wi), (0, .ref (q 0)), (1, .int 0), (2, .int wi)]) hx hb d_MD_wrong_53 hl (by decide) rfl (fun ls hl => ?_)
        have loop55 : ∀ (fu k : Nat) (vl : Int32), k ≤ 24 → k + fu = 24 + 1 → f_MD_wrong_l55_0 xB xpa xsp xwh xhe xho xtk fu k vl = f_MD_wrong xB xpa xsp xwh xhe xho xtk wt wi → ∀ (H : Heap) (locs : List Loc), va_P D classes (md_w q cI cZ 0 xB xsh xcu xtp xtd u_8.2.2.1 u_8.2.2.2.1 u_8.2.2.2.2.1 u_8.2.2.2.2.2.1 u_8.2.2.2.2.2.2 u_8.2.1 xto xwa xmn) H → va_D A (md_w q cI cZ 0 xB xsh xcu xtp xtd u_8.2.2.1 u_8.2.2.2.1 u_8.2.2.2.2.1 u_8.2.2.2.2.2.1 u_8.2.2.2.2.2.2 u_8.2.1 xto xwa xmn) → va_S A s.heap H locs → ∀ (ls : Array Slot), lv_has ls 5 [(0, .ref (q 0)), (1, .int 0), (2, .int wi), (3, .int vl), (4, .int (nI k))] → W p l e R s m args below meth c H locs 0 0 Q (F0 m 55 ls []) := by
          intro fu
          induction fu with
          | zero =>
            intro k vl h1 h2
            exact absurd h2 (by omega)
          | succ fu ih55 =>
            intro k vl hk55 hkn55 heq55 H locs hP hD hS ls hl
            refine lv_iload hx hb d_MD_wrong_55 (lv_at hl 4 rfl) ?_
            refine lv_iload_n hx hb d_MD_wrong_57 rfl (lv_at hl 1 rfl) ?_
            refine lv_iconst (v := 2) hx hb d_MD_wrong_58 (by decide) ?_
            refine lv_icmp_ne (tgt := 66) hx hb d_MD_wrong_59 (by decide) (fun c_9 => ?_) (fun c_9 => absurd c_9 (by decide))
            refine lv_iload_n hx hb d_MD_wrong_66 rfl (lv_at hl 1 rfl) ?_
            refine lv_iconst (v := 1) hx hb d_MD_wrong_67 (by decide) ?_
            refine lv_icmp_ne (tgt := 75) hx hb d_MD_wrong_68 (by decide) (fun c_10 => ?_) (fun c_10 => absurd c_10 (by decide))
            refine lv_iconst (v := 0) hx hb d_MD_wrong_75 (by decide) ?_
            refine sf_callSr (S := Unit) (rest := [.int (nI k)]) ⟨hx, hb, hml, hown, hts⟩ (c_MD_places_0 l D cI cZ cJ) (sf_cwS lk_MD_80 hts (fun _ h => h) (by rw [hR]; exact ⟨Nat.le_of_ble_eq_true rfl, Nat.le_of_ble_eq_true rfl⟩)) hK hP hD hS hA [] rfl rfl (fun _ => rfl) rfl rfl hl.1 (Nat.le_of_ble_eq_true rfl) d_MD_wrong_76 ⟨Nat.zero_le _, Nat.zero_le _⟩ (fun u H locs hu hP hS => ?_)
            refine lv_icmp_ge (tgt := 108) hx hb d_MD_wrong_79 (by decide) (fun c_11 => ?_) (fun c_11 => ?_)
            · refine lv_iconst (v := (-1)) hx hb d_MD_wrong_108 (by decide) ?_
              rw [hQ]
              exact sf_iret ((-1), 0, u_8.2.1, u_8.2.2.1, u_8.2.2.2.1, u_8.2.2.2.2.1, u_8.2.2.2.2.2.1, u_8.2.2.2.2.2.2) hx hb hr hlk hS rfl rfl (by rw [← heq55]; simp only [f_MD_wrong_l55_0, ← hu_1, ← hu_8, eq_true c_11, ↓reduceIte]) hP d_MD_wrong_109
            · have hlt : k < 24 := sf_lt_of (N := 24) (by omega) (by omega) c_11
              refine lv_aload_n hx hb d_MD_wrong_82 rfl (lv_at hl 0 rfl) ?_
              refine lv_iload_n hx hb d_MD_wrong_83 rfl (lv_at hl 1 rfl) ?_
              refine lv_iload hx hb d_MD_wrong_84 (lv_at hl 4 rfl) ?_
              refine sf_callVw (S := Int32) (rest := []) ⟨hx, hb, hml, hown, hts⟩ (c_MD_isWrong_0 l D cI cZ cJ q 0 xB xsh xcu xtp xtd u_8.2.2.1 u_8.2.2.2.1 u_8.2.2.2.2.1 u_8.2.2.2.2.2.1 u_8.2.2.2.2.2.2 u_8.2.1 xto xwa xmn k (by omega)) (sf_cwV lk_MD_140 hts (fun _ h => h) (by rw [hR]; exact ⟨Nat.le_of_ble_eq_true rfl, Nat.le_of_ble_eq_true rfl⟩)) hK hP hD hS hA (fun _ => by simp only [md_w_fst]) (ci := 3) (q0 := 0) rfl rfl rfl rfl rfl hl.1 (Nat.le_of_ble_eq_true rfl) d_MD_wrong_86 ⟨Nat.zero_le _, Nat.zero_le _⟩ (fun u_12 H locs hu_12 hP hD hS => ?_)
              have hP : va_P D classes (md_w q cI cZ 0 xB xsh xcu xtp xtd u_8.2.2.1 u_8.2.2.2.1 u_8.2.2.2.2.1 u_8.2.2.2.2.2.1 u_8.2.2.2.2.2.2 u_8.2.1 xto xwa xmn) H := hP
              have hD : va_D A (md_w q cI cZ 0 xB xsh xcu xtp xtd u_8.2.2.1 u_8.2.2.2.1 u_8.2.2.2.2.1 u_8.2.2.2.2.2.1 u_8.2.2.2.2.2.2 u_8.2.1 xto xwa xmn) := hD
              refine lv_if_eq (tgt := 102) hx hb d_MD_wrong_89 (by decide) (fun c_13 => ?_) (fun c_13 => ?_)
              · refine lv_iinc (v := (nI (k + 1))) (lv' := [(4, .int (nI (k + 1))), (0, .ref (q 0)), (1, .int 0), (2, .int wi), (3, .int vl)]) hx hb d_MD_wrong_102 hl (k := 4) rfl (nI_1 k) (by decide) rfl (fun ls hl => ?_)
                refine lv_goto (tgt := 55) hx hb d_MD_wrong_105 (by decide) ?_
                exact ih55 (k + 1) vl (by omega) (by omega) (by rw [← heq55]; simp only [f_MD_wrong_l55_0, ← hu_1, ← hu_8, ← hu_12, eq_false c_11, eq_true c_13, ↓reduceIte]) _ _ hP hD hS ls (lv_sub hl [1, 2, 3, 4, 0] rfl)
              · refine lv_iload_n hx hb d_MD_wrong_92 rfl (lv_at hl 3 rfl) ?_
                refine lv_if_ne (tgt := 99) hx hb d_MD_wrong_93 (by decide) (fun c_14 => ?_) (fun c_14 => ?_)
                · refine lv_iinc (v := (vl + (-1))) (lv' := [(3, .int (vl + (-1))), (0, .ref (q 0)), (1, .int 0), (2, .int wi), (4, .int (nI k))]) hx hb d_MD_wrong_99 hl (k := 3) rfl (sf_im1 _) (by decide) rfl (fun ls hl => ?_)
                  refine lv_iinc (v := (nI (k + 1))) (lv' := [(4, .int (nI (k + 1))), (3, .int (vl + (-1))), (0, .ref (q 0)), (1, .int 0), (2, .int wi)]) hx hb d_MD_wrong_102 hl (k := 4) rfl (nI_1 k) (by decide) rfl (fun ls hl => ?_)
                  refine lv_goto (tgt := 55) hx hb d_MD_wrong_105 (by decide) ?_
                  exact ih55 (k + 1) (vl + (-1)) (by omega) (by omega) (by rw [← heq55]; simp only [f_MD_wrong_l55_0, ← hu_1, ← hu_8, ← hu_12, eq_false c_11, eq_false c_13, eq_false c_14, ↓reduceIte]) _ _ hP hD hS ls (lv_sub hl [2, 3, 4, 1, 0] rfl)
                · refine lv_iload hx hb d_MD_wrong_96 (lv_at hl 4 rfl) ?_
                  rw [hQ]
                  exact sf_iret ((nI k), 0, u_8.2.1, u_8.2.2.1, u_8.2.2.2.1, u_8.2.2.2.2.1, u_8.2.2.2.2.2.1, u_8.2.2.2.2.2.2) hx hb hr hlk hS rfl rfl (by rw [← heq55]; simp only [f_MD_wrong_l55_0, ← hu_1, ← hu_8, ← hu_12, eq_false c_11, eq_false c_13, eq_true c_14, ↓reduceIte]) hP d_MD_wrong_98
        exact loop55 (24 + 1) 0 wi (by omega) (by omega) (by simp only [f_MD_wrong, ← hu_1, ← hu_8, eq_false c_2, eq_true c_4, eq_true hw, ↓reduceIte]) _ _ hP hD hS ls (lv_sub hl [2, 3, 4, 1, 0] rfl)
      · rw [hw] at hl
        have hw0 : ¬ wt = 0 := by rw [hw]; decide
        refine lv_iload_n hx hb d_MD_wrong_30 rfl (lv_at hl 1 rfl) ?_
        refine lv_iconst (v := 2) hx hb d_MD_wrong_31 (by decide) ?_
        refine lv_icmp_ge (tgt := 50) hx hb d_MD_wrong_32 (by decide) (fun c_15 => absurd c_15 (by decide)) (fun c_15 => ?_)
        refine lv_aload_n hx hb d_MD_wrong_35 rfl (lv_at hl 0 rfl) ?_
        refine lv_iload_n hx hb d_MD_wrong_36 rfl (lv_at hl 1 rfl) ?_
        refine lv_iconst (v := 1) hx hb d_MD_wrong_37 (by decide) ?_
        refine lv_icmp_ne (tgt := 45) hx hb d_MD_wrong_38 (by decide) (fun c_16 => absurd (by decide) c_16) (fun c_16 => ?_)
        refine lv_iconst (v := 1) hx hb d_MD_wrong_41 (by decide) ?_
        refine lv_goto (tgt := 46) hx hb d_MD_wrong_42 (by decide) ?_
        refine sf_callVw (S := (Int32 × (Nat → Int32) × (Nat → Int32) × Int32 × Int32 × (Nat → Int32) × Int32)) (rest := []) ⟨hx, hb, hml, hown, hts⟩ (c_MD_findTaken_1 l D cI cZ cJ q 0 xB xsh xcu xtp xtd xpa xsp xwh xhe xho xtk xto xwa xmn) (sf_cwV lk_MD_123 hts (fun _ h => h) (by rw [hR]; exact ⟨Nat.le_of_ble_eq_true rfl, Nat.le_of_ble_eq_true rfl⟩)) hK hP hD hS hA (fun _ => by simp only [md_w_fst]) (ci := 3) (q0 := 0) rfl rfl rfl rfl rfl hl.1 (Nat.le_of_ble_eq_true rfl) d_MD_wrong_46 ⟨Nat.zero_le _, Nat.zero_le _⟩ (fun u_17 H locs hu_17 hP hD hS => ?_)
        have hP : va_P D classes (md_w q cI cZ 0 xB xsh xcu xtp xtd u_17.2.2.1 u_17.2.2.2.1 u_17.2.2.2.2.1 u_17.2.2.2.2.2.1 u_17.2.2.2.2.2.2 u_17.2.1 xto xwa xmn) H := hP
        have hD : va_D A (md_w q cI cZ 0 xB xsh xcu xtp xtd u_17.2.2.1 u_17.2.2.2.1 u_17.2.2.2.2.1 u_17.2.2.2.2.2.1 u_17.2.2.2.2.2.2 u_17.2.1 xto xwa xmn) := hD
        refine lv_pop hx hb d_MD_wrong_49 rfl ?_
        refine lv_iload_n hx hb d_MD_wrong_50 rfl (lv_at hl 2 rfl) ?_
        refine lv_istore_n (lv' := [(3, .int wi), (0, .ref (q 0)), (1, .int 1), (2, .int wi)]) hx hb d_MD_wrong_51 rfl hl (by decide) rfl (fun ls hl => ?_)
        refine lv_iconst (v := 0) hx hb d_MD_wrong_52 (by decide) ?_
        refine lv_istore (lv' := [(4, .int 0), (3, .int wi), (0, .ref (q 0)), (1, .int 1), (2, .int wi)]) hx hb d_MD_wrong_53 hl (by decide) rfl (fun ls hl => ?_)
        have loop55 : ∀ (fu k : Nat) (vl : Int32), k ≤ 16 → k + fu = 16 + 1 → f_MD_wrong_l55_1 xB xpa xsp xwh xhe xho xtk fu k vl = f_MD_wrong xB xpa xsp xwh xhe xho xtk wt wi → ∀ (H : Heap) (locs : List Loc), va_P D classes (md_w q cI cZ 0 xB xsh xcu xtp xtd u_17.2.2.1 u_17.2.2.2.1 u_17.2.2.2.2.1 u_17.2.2.2.2.2.1 u_17.2.2.2.2.2.2 u_17.2.1 xto xwa xmn) H → va_D A (md_w q cI cZ 0 xB xsh xcu xtp xtd u_17.2.2.1 u_17.2.2.2.1 u_17.2.2.2.2.1 u_17.2.2.2.2.2.1 u_17.2.2.2.2.2.2 u_17.2.1 xto xwa xmn) → va_S A s.heap H locs → ∀ (ls : Array Slot), lv_has ls 5 [(0, .ref (q 0)), (1, .int 1), (2, .int wi), (3, .int vl), (4, .int (nI k))] → W p l e R s m args below meth c H locs 0 0 Q (F0 m 55 ls []) := by
          intro fu
          induction fu with
          | zero =>
            intro k vl h1 h2
            exact absurd h2 (by omega)
          | succ fu ih55 =>
            intro k vl hk55 hkn55 heq55 H locs hP hD hS ls hl
            refine lv_iload hx hb d_MD_wrong_55 (lv_at hl 4 rfl) ?_
            refine lv_iload_n hx hb d_MD_wrong_57 rfl (lv_at hl 1 rfl) ?_
            refine lv_iconst (v := 2) hx hb d_MD_wrong_58 (by decide) ?_
            refine lv_icmp_ne (tgt := 66) hx hb d_MD_wrong_59 (by decide) (fun c_18 => ?_) (fun c_18 => absurd c_18 (by decide))
            refine lv_iload_n hx hb d_MD_wrong_66 rfl (lv_at hl 1 rfl) ?_
            refine lv_iconst (v := 1) hx hb d_MD_wrong_67 (by decide) ?_
            refine lv_icmp_ne (tgt := 75) hx hb d_MD_wrong_68 (by decide) (fun c_19 => absurd (by decide) c_19) (fun c_19 => ?_)
            refine lv_iconst (v := 1) hx hb d_MD_wrong_71 (by decide) ?_
            refine lv_goto (tgt := 76) hx hb d_MD_wrong_72 (by decide) ?_
            refine sf_callSr (S := Unit) (rest := [.int (nI k)]) ⟨hx, hb, hml, hown, hts⟩ (c_MD_places_1 l D cI cZ cJ) (sf_cwS lk_MD_80 hts (fun _ h => h) (by rw [hR]; exact ⟨Nat.le_of_ble_eq_true rfl, Nat.le_of_ble_eq_true rfl⟩)) hK hP hD hS hA [] rfl rfl (fun _ => rfl) rfl rfl hl.1 (Nat.le_of_ble_eq_true rfl) d_MD_wrong_76 ⟨Nat.zero_le _, Nat.zero_le _⟩ (fun u H locs hu hP hS => ?_)
            refine lv_icmp_ge (tgt := 108) hx hb d_MD_wrong_79 (by decide) (fun c_20 => ?_) (fun c_20 => ?_)
            · refine lv_iconst (v := (-1)) hx hb d_MD_wrong_108 (by decide) ?_
              rw [hQ]
              exact sf_iret ((-1), 0, u_17.2.1, u_17.2.2.1, u_17.2.2.2.1, u_17.2.2.2.2.1, u_17.2.2.2.2.2.1, u_17.2.2.2.2.2.2) hx hb hr hlk hS rfl rfl (by rw [← heq55]; simp only [f_MD_wrong_l55_1, ← hu_1, ← hu_17, eq_true c_20, ↓reduceIte]) hP d_MD_wrong_109
            · have hlt : k < 16 := sf_lt_of (N := 16) (by omega) (by omega) c_20
              refine lv_aload_n hx hb d_MD_wrong_82 rfl (lv_at hl 0 rfl) ?_
              refine lv_iload_n hx hb d_MD_wrong_83 rfl (lv_at hl 1 rfl) ?_
              refine lv_iload hx hb d_MD_wrong_84 (lv_at hl 4 rfl) ?_
              refine sf_callVw (S := Int32) (rest := []) ⟨hx, hb, hml, hown, hts⟩ (c_MD_isWrong_1 l D cI cZ cJ q 0 xB xsh xcu xtp xtd u_17.2.2.1 u_17.2.2.2.1 u_17.2.2.2.2.1 u_17.2.2.2.2.2.1 u_17.2.2.2.2.2.2 u_17.2.1 xto xwa xmn k (by omega)) (sf_cwV lk_MD_140 hts (fun _ h => h) (by rw [hR]; exact ⟨Nat.le_of_ble_eq_true rfl, Nat.le_of_ble_eq_true rfl⟩)) hK hP hD hS hA (fun _ => by simp only [md_w_fst]) (ci := 3) (q0 := 0) rfl rfl rfl rfl rfl hl.1 (Nat.le_of_ble_eq_true rfl) d_MD_wrong_86 ⟨Nat.zero_le _, Nat.zero_le _⟩ (fun u_21 H locs hu_21 hP hD hS => ?_)
              have hP : va_P D classes (md_w q cI cZ 0 xB xsh xcu xtp xtd u_17.2.2.1 u_17.2.2.2.1 u_17.2.2.2.2.1 u_17.2.2.2.2.2.1 u_17.2.2.2.2.2.2 u_17.2.1 xto xwa xmn) H := hP
              have hD : va_D A (md_w q cI cZ 0 xB xsh xcu xtp xtd u_17.2.2.1 u_17.2.2.2.1 u_17.2.2.2.2.1 u_17.2.2.2.2.2.1 u_17.2.2.2.2.2.2 u_17.2.1 xto xwa xmn) := hD
              refine lv_if_eq (tgt := 102) hx hb d_MD_wrong_89 (by decide) (fun c_22 => ?_) (fun c_22 => ?_)
              · refine lv_iinc (v := (nI (k + 1))) (lv' := [(4, .int (nI (k + 1))), (0, .ref (q 0)), (1, .int 1), (2, .int wi), (3, .int vl)]) hx hb d_MD_wrong_102 hl (k := 4) rfl (nI_1 k) (by decide) rfl (fun ls hl => ?_)
                refine lv_goto (tgt := 55) hx hb d_MD_wrong_105 (by decide) ?_
                exact ih55 (k + 1) vl (by omega) (by omega) (by rw [← heq55]; simp only [f_MD_wrong_l55_1, ← hu_1, ← hu_17, ← hu_21, eq_false c_20, eq_true c_22, ↓reduceIte]) _ _ hP hD hS ls (lv_sub hl [1, 2, 3, 4, 0] rfl)
              · refine lv_iload_n hx hb d_MD_wrong_92 rfl (lv_at hl 3 rfl) ?_
                refine lv_if_ne (tgt := 99) hx hb d_MD_wrong_93 (by decide) (fun c_23 => ?_) (fun c_23 => ?_)
                · refine lv_iinc (v := (vl + (-1))) (lv' := [(3, .int (vl + (-1))), (0, .ref (q 0)), (1, .int 1), (2, .int wi), (4, .int (nI k))]) hx hb d_MD_wrong_99 hl (k := 3) rfl (sf_im1 _) (by decide) rfl (fun ls hl => ?_)
                  refine lv_iinc (v := (nI (k + 1))) (lv' := [(4, .int (nI (k + 1))), (3, .int (vl + (-1))), (0, .ref (q 0)), (1, .int 1), (2, .int wi)]) hx hb d_MD_wrong_102 hl (k := 4) rfl (nI_1 k) (by decide) rfl (fun ls hl => ?_)
                  refine lv_goto (tgt := 55) hx hb d_MD_wrong_105 (by decide) ?_
                  exact ih55 (k + 1) (vl + (-1)) (by omega) (by omega) (by rw [← heq55]; simp only [f_MD_wrong_l55_1, ← hu_1, ← hu_17, ← hu_21, eq_false c_20, eq_false c_22, eq_false c_23, ↓reduceIte]) _ _ hP hD hS ls (lv_sub hl [2, 3, 4, 1, 0] rfl)
                · refine lv_iload hx hb d_MD_wrong_96 (lv_at hl 4 rfl) ?_
                  rw [hQ]
                  exact sf_iret ((nI k), 0, u_17.2.1, u_17.2.2.1, u_17.2.2.2.1, u_17.2.2.2.2.1, u_17.2.2.2.2.2.1, u_17.2.2.2.2.2.2) hx hb hr hlk hS rfl rfl (by rw [← heq55]; simp only [f_MD_wrong_l55_1, ← hu_1, ← hu_17, ← hu_21, eq_false c_20, eq_false c_22, eq_true c_23, ↓reduceIte]) hP d_MD_wrong_98
        exact loop55 (16 + 1) 0 wi (by omega) (by omega) (by simp only [f_MD_wrong, ← hu_1, ← hu_17, eq_false c_2, eq_true c_4, eq_false hw0, eq_true hw, ↓reduceIte]) _ _ hP hD hS ls (lv_sub hl [2, 3, 4, 1, 0] rfl)
      · rw [hw] at hl
        have hw0 : ¬ wt = 0 := by rw [hw]; decide
        have hw1 : ¬ wt = 1 := by rw [hw]; decide
        refine lv_iload_n hx hb d_MD_wrong_30 rfl (lv_at hl 1 rfl) ?_
        refine lv_iconst (v := 2) hx hb d_MD_wrong_31 (by decide) ?_
        refine lv_icmp_ge (tgt := 50) hx hb d_MD_wrong_32 (by decide) (fun c_24 => ?_) (fun c_24 => absurd (by decide) c_24)
        refine lv_iload_n hx hb d_MD_wrong_50 rfl (lv_at hl 2 rfl) ?_
        refine lv_istore_n (lv' := [(3, .int wi), (0, .ref (q 0)), (1, .int 2), (2, .int wi)]) hx hb d_MD_wrong_51 rfl hl (by decide) rfl (fun ls hl => ?_)
        refine lv_iconst (v := 0) hx hb d_MD_wrong_52 (by decide) ?_
        refine lv_istore (lv' := [(4, .int 0), (3, .int wi), (0, .ref (q 0)), (1, .int 2), (2, .int wi)]) hx hb d_MD_wrong_53 hl (by decide) rfl (fun ls hl => ?_)
        have loop55 : ∀ (fu k : Nat) (vl : Int32), k ≤ 2 → k + fu = 2 + 1 → f_MD_wrong_l55_2 xB xpa xsp xwh xhe xho xtk fu k vl = f_MD_wrong xB xpa xsp xwh xhe xho xtk wt wi → ∀ (H : Heap) (locs : List Loc), va_P D classes (md_w q cI cZ 0 xB xsh xcu xtp xtd xpa xsp xwh xhe xho xtk xto xwa xmn) H → va_D A (md_w q cI cZ 0 xB xsh xcu xtp xtd xpa xsp xwh xhe xho xtk xto xwa xmn) → va_S A s.heap H locs → ∀ (ls : Array Slot), lv_has ls 5 [(0, .ref (q 0)), (1, .int 2), (2, .int wi), (3, .int vl), (4, .int (nI k))] → W p l e R s m args below meth c H locs 0 0 Q (F0 m 55 ls []) := by
          intro fu
          induction fu with
          | zero =>
            intro k vl h1 h2
            exact absurd h2 (by omega)
          | succ fu ih55 =>
            intro k vl hk55 hkn55 heq55 H locs hP hD hS ls hl
            refine lv_iload hx hb d_MD_wrong_55 (lv_at hl 4 rfl) ?_
            refine lv_iload_n hx hb d_MD_wrong_57 rfl (lv_at hl 1 rfl) ?_
            refine lv_iconst (v := 2) hx hb d_MD_wrong_58 (by decide) ?_
            refine lv_icmp_ne (tgt := 66) hx hb d_MD_wrong_59 (by decide) (fun c_25 => absurd (by decide) c_25) (fun c_25 => ?_)
            refine lv_iconst (v := 2) hx hb d_MD_wrong_62 (by decide) ?_
            refine lv_goto (tgt := 79) hx hb d_MD_wrong_63 (by decide) ?_
            refine lv_icmp_ge (tgt := 108) hx hb d_MD_wrong_79 (by decide) (fun c_26 => ?_) (fun c_26 => ?_)
            · refine lv_iconst (v := (-1)) hx hb d_MD_wrong_108 (by decide) ?_
              rw [hQ]
              exact sf_iret ((-1), 0, xtk, xpa, xsp, xwh, xhe, xho) hx hb hr hlk hS rfl rfl (by rw [← heq55]; simp only [f_MD_wrong_l55_2, ← hu_1, eq_true c_26, ↓reduceIte]) hP d_MD_wrong_109
            · have hlt : k < 2 := sf_lt_of (N := 2) (by omega) (by omega) c_26
              refine lv_aload_n hx hb d_MD_wrong_82 rfl (lv_at hl 0 rfl) ?_
              refine lv_iload_n hx hb d_MD_wrong_83 rfl (lv_at hl 1 rfl) ?_
              refine lv_iload hx hb d_MD_wrong_84 (lv_at hl 4 rfl) ?_
              refine sf_callVw (S := Int32) (rest := []) ⟨hx, hb, hml, hown, hts⟩ (c_MD_isWrong_2 l D cI cZ cJ q 0 xB xsh xcu xtp xtd xpa xsp xwh xhe xho xtk xto xwa xmn k (by omega)) (sf_cwV lk_MD_140 hts (fun _ h => h) (by rw [hR]; exact ⟨Nat.le_of_ble_eq_true rfl, Nat.le_of_ble_eq_true rfl⟩)) hK hP hD hS hA (fun _ => by simp only [md_w_fst]) (ci := 3) (q0 := 0) rfl rfl rfl rfl rfl hl.1 (Nat.le_of_ble_eq_true rfl) d_MD_wrong_86 ⟨Nat.zero_le _, Nat.zero_le _⟩ (fun u_27 H locs hu_27 hP hD hS => ?_)
              have hP : va_P D classes (md_w q cI cZ 0 xB xsh xcu xtp xtd xpa xsp xwh xhe xho xtk xto xwa xmn) H := hP
              have hD : va_D A (md_w q cI cZ 0 xB xsh xcu xtp xtd xpa xsp xwh xhe xho xtk xto xwa xmn) := hD
              refine lv_if_eq (tgt := 102) hx hb d_MD_wrong_89 (by decide) (fun c_28 => ?_) (fun c_28 => ?_)
              · refine lv_iinc (v := (nI (k + 1))) (lv' := [(4, .int (nI (k + 1))), (0, .ref (q 0)), (1, .int 2), (2, .int wi), (3, .int vl)]) hx hb d_MD_wrong_102 hl (k := 4) rfl (nI_1 k) (by decide) rfl (fun ls hl => ?_)
                refine lv_goto (tgt := 55) hx hb d_MD_wrong_105 (by decide) ?_
                exact ih55 (k + 1) vl (by omega) (by omega) (by rw [← heq55]; simp only [f_MD_wrong_l55_2, ← hu_1, ← hu_27, eq_false c_26, eq_true c_28, ↓reduceIte]) _ _ hP hD hS ls (lv_sub hl [1, 2, 3, 4, 0] rfl)
              · refine lv_iload_n hx hb d_MD_wrong_92 rfl (lv_at hl 3 rfl) ?_
                refine lv_if_ne (tgt := 99) hx hb d_MD_wrong_93 (by decide) (fun c_29 => ?_) (fun c_29 => ?_)
                · refine lv_iinc (v := (vl + (-1))) (lv' := [(3, .int (vl + (-1))), (0, .ref (q 0)), (1, .int 2), (2, .int wi), (4, .int (nI k))]) hx hb d_MD_wrong_99 hl (k := 3) rfl (sf_im1 _) (by decide) rfl (fun ls hl => ?_)
                  refine lv_iinc (v := (nI (k + 1))) (lv' := [(4, .int (nI (k + 1))), (3, .int (vl + (-1))), (0, .ref (q 0)), (1, .int 2), (2, .int wi)]) hx hb d_MD_wrong_102 hl (k := 4) rfl (nI_1 k) (by decide) rfl (fun ls hl => ?_)
                  refine lv_goto (tgt := 55) hx hb d_MD_wrong_105 (by decide) ?_
                  exact ih55 (k + 1) (vl + (-1)) (by omega) (by omega) (by rw [← heq55]; simp only [f_MD_wrong_l55_2, ← hu_1, ← hu_27, eq_false c_26, eq_false c_28, eq_false c_29, ↓reduceIte]) _ _ hP hD hS ls (lv_sub hl [2, 3, 4, 1, 0] rfl)
                · refine lv_iload hx hb d_MD_wrong_96 (lv_at hl 4 rfl) ?_
                  rw [hQ]
                  exact sf_iret ((nI k), 0, xtk, xpa, xsp, xwh, xhe, xho) hx hb hr hlk hS rfl rfl (by rw [← heq55]; simp only [f_MD_wrong_l55_2, ← hu_1, ← hu_27, eq_false c_26, eq_false c_28, eq_true c_29, ↓reduceIte]) hP d_MD_wrong_98
        exact loop55 (2 + 1) 0 wi (by omega) (by omega) (by simp only [f_MD_wrong, ← hu_1, eq_false c_2, eq_true c_4, eq_false hw0, eq_false hw1, ↓reduceIte]) _ _ hP hD hS ls (lv_sub hl [2, 3, 4, 1, 0] rfl)
    · refine lv_iconst (v := 1) hx hb d_MD_wrong_14 (by decide) ?_
      refine lv_goto (tgt := 19) hx hb d_MD_wrong_15 (by decide) ?_
      refine lv_iconst (v := 0) hx hb d_MD_wrong_19 (by decide) ?_
      refine lv_iconst (v := 0) hx hb d_MD_wrong_20 (by decide) ?_
      refine lv_iconst (v := 0) hx hb d_MD_wrong_21 (by decide) ?_
      refine sf_callVw (S := Unit) (rest := []) ⟨hx, hb, hml, hown, hts⟩ (c_MD_throwing_1 l D cI cZ cJ q xth xB xsh xcu xtp xtd xpa xsp xwh xhe xho xtk xto xwa xmn 0 0 0) (sf_cwV lk_MD_117 hts (fun _ h => h) (by rw [hR]; exact ⟨Nat.le_of_ble_eq_true rfl, Nat.le_of_ble_eq_true rfl⟩)) hK hP hD hS hA (fun _ => by simp only [md_w_fst]) (ci := 3) (q0 := 0) rfl rfl rfl rfl rfl hl.1 (Nat.le_of_ble_eq_true rfl) d_MD_wrong_22 ⟨Nat.zero_le _, Nat.zero_le _⟩ (fun u H locs hu hP hD hS => ?_)
      have hP : va_P D classes (md_w q cI cZ 1 xB xsh xcu xtp xtd xpa xsp xwh xhe xho xtk xto xwa xmn) H := hP
      have hD : va_D A (md_w q cI cZ 1 xB xsh xcu xtp xtd xpa xsp xwh xhe xho xtk xto xwa xmn) := hD
      refine lv_if_eq (tgt := 30) hx hb d_MD_wrong_25 (by decide) (fun c_30 => absurd c_30 (by decide)) (fun c_30 => ?_)
      refine lv_iconst (v := 0) hx hb d_MD_wrong_28 (by decide) ?_
      rw [hQ]
      exact sf_iret (0, 1, xtk, xpa, xsp, xwh, xhe, xho) hx hb hr hlk hS rfl rfl (by simp only [f_MD_wrong, ← hu_1, eq_false c_2, eq_false c_4, ↓reduceIte]) hP d_MD_wrong_29
def f_MD_where (wt : Int32) (wi : Int32) : Int32 :=
  if wt = 0 then
    if (f_MD_in wi 0 767) = 0 then
      if wt = 1 then
        if (f_MD_in wi 0 511) = 0 then
          if wt = 2 then
            if (f_MD_in wi 0 79) = 0 then
              (-1)
            else
              wi
          else
            (-1)
        else
          wi
      else
        if wt = 2 then
          if (f_MD_in wi 0 79) = 0 then
            (-1)
          else
            wi
        else
          (-1)
    else
      wi
  else
    if wt = 1 then
      if (f_MD_in wi 0 511) = 0 then
        if wt = 2 then
          if (f_MD_in wi 0 79) = 0 then
            (-1)
          else
            (768 + wi)
        else
          (-1)
      else
        (768 + wi)
    else
      if wt = 2 then
        if (f_MD_in wi 0 79) = 0 then
          (-1)
        else
          (1280 + wi)
      else
        (-1)
set_option maxHeartbeats 1000000 in
set_option maxRecDepth 100000 in
/-- where -/
theorem c_MD_where (l : Launch) (D : va_G) (cI cZ cJ : ClassId)  (wt : Int32) (wi : Int32) : sf_M (S := Int32) l D classes (sf_tys cI cZ cJ) y_MD_where (sf_ws y_MD_where b_MD_where 3 (some .int)) 1 22 [.int wt, .int wi] [] (fun r => some (.int r)) (fun r => r = f_MD_where wt wi) (fun _ => []) := by
  refine sf_ofW (S := Int32) (by decide) (Nat.le_of_ble_eq_true rfl) ?_
  intro p e s m below meth c A ls R args Q hR hArgs hQ hC0 hr hK hP hD hl
  obtain ⟨hx, hb, hml, hown, hts, hA, hlk⟩ := hC0
  have hS : va_S A s.heap s.heap [] := va_S.rf
  have hl : lv_has ls 3 [(0, .int wt), (1, .int wi)] := hl
  refine lv_iload_n hx hb d_MD_where_0 rfl (lv_at hl 0 rfl) ?_
  refine lv_if_ne (tgt := 15) hx hb d_MD_where_1 (by decide) (fun c_1 => ?_) (fun c_1 => ?_)
  · refine lv_iload_n hx hb d_MD_where_15 rfl (lv_at hl 0 rfl) ?_
    refine lv_iconst (v := 1) hx hb d_MD_where_16 (by decide) ?_
    refine lv_icmp_ne (tgt := 31) hx hb d_MD_where_17 (by decide) (fun c_2 => ?_) (fun c_2 => ?_)
    · refine lv_iload_n hx hb d_MD_where_31 rfl (lv_at hl 0 rfl) ?_
      refine lv_iconst (v := 2) hx hb d_MD_where_32 (by decide) ?_
      refine lv_icmp_ne (tgt := 50) hx hb d_MD_where_33 (by decide) (fun c_3 => ?_) (fun c_3 => ?_)
      · refine lv_iconst (v := 0) hx hb d_MD_where_50 (by decide) ?_
        refine lv_istore_n (lv' := [(2, .int 0), (0, .int wt), (1, .int wi)]) hx hb d_MD_where_51 rfl hl (by decide) rfl (fun ls hl => ?_)
        refine lv_iload_n hx hb d_MD_where_52 rfl (lv_at hl 0 rfl) ?_
        refine lv_if_ne (tgt := 60) hx hb d_MD_where_53 (by decide) (fun c_4 => absurd (by decide) c_4) (fun c_4 => ?_)
        refine lv_iconst (v := (-1)) hx hb d_MD_where_56 (by decide) ?_
        refine lv_goto (tgt := 86) hx hb d_MD_where_57 (by decide) ?_
        rw [hQ]
        exact sf_iret (-1) hx hb hr hlk hS rfl rfl (by simp only [f_MD_where, eq_false c_1, eq_false c_2, eq_false c_3, ↓reduceIte]) hP d_MD_where_86
      · refine lv_iload_n hx hb d_MD_where_36 rfl (lv_at hl 1 rfl) ?_
        refine lv_iconst (v := 0) hx hb d_MD_where_37 (by decide) ?_
        refine lv_bipush (v := 79) hx hb d_MD_where_38 (by decide) ?_
        refine sf_callSr (S := Int32) (rest := []) ⟨hx, hb, hml, hown, hts⟩ (c_MD_in l D cI cZ cJ wi 0 79) (sf_cwS lk_MD_44 hts (fun _ h => h) (by rw [hR]; exact ⟨Nat.le_of_ble_eq_true rfl, Nat.le_of_ble_eq_true rfl⟩)) hK hP hD hS hA [] rfl rfl (fun _ => rfl) rfl rfl hl.1 (Nat.le_of_ble_eq_true rfl) d_MD_where_40 ⟨Nat.zero_le _, Nat.zero_le _⟩ (fun u_5 H locs hu_5 hP hS => ?_)
        refine lv_if_eq (tgt := 50) hx hb d_MD_where_43 (by decide) (fun c_6 => ?_) (fun c_6 => ?_)
        · refine lv_iconst (v := 0) hx hb d_MD_where_50 (by decide) ?_
          refine lv_istore_n (lv' := [(2, .int 0), (0, .int wt), (1, .int wi)]) hx hb d_MD_where_51 rfl hl (by decide) rfl (fun ls hl => ?_)
          refine lv_iload_n hx hb d_MD_where_52 rfl (lv_at hl 0 rfl) ?_
          refine lv_if_ne (tgt := 60) hx hb d_MD_where_53 (by decide) (fun c_7 => absurd (by decide) c_7) (fun c_7 => ?_)
          refine lv_iconst (v := (-1)) hx hb d_MD_where_56 (by decide) ?_
          refine lv_goto (tgt := 86) hx hb d_MD_where_57 (by decide) ?_
          rw [hQ]
          exact sf_iret (-1) hx hb hr hlk hS rfl rfl (by simp only [f_MD_where, ← hu_5, eq_false c_1, eq_false c_2, eq_true c_3, eq_true c_6, ↓reduceIte]) hP d_MD_where_86
        · refine lv_iconst (v := 1) hx hb d_MD_where_46 (by decide) ?_
          refine lv_goto (tgt := 51) hx hb d_MD_where_47 (by decide) ?_
          refine lv_istore_n (lv' := [(2, .int 1), (0, .int wt), (1, .int wi)]) hx hb d_MD_where_51 rfl hl (by decide) rfl (fun ls hl => ?_)
          refine lv_iload_n hx hb d_MD_where_52 rfl (lv_at hl 0 rfl) ?_
          refine lv_if_ne (tgt := 60) hx hb d_MD_where_53 (by decide) (fun c_8 => ?_) (fun c_8 => absurd c_8 (by decide))
          refine lv_iload_n hx hb d_MD_where_60 rfl (lv_at hl 1 rfl) ?_
          refine lv_if_ne (tgt := 68) hx hb d_MD_where_61 (by decide) (fun c_9 => ?_) (fun c_9 => absurd c_9 c_1)
          refine lv_iload_n hx hb d_MD_where_68 rfl (lv_at hl 1 rfl) ?_
          refine lv_iconst (v := 1) hx hb d_MD_where_69 (by decide) ?_
          refine lv_icmp_ne (tgt := 81) hx hb d_MD_where_70 (by decide) (fun c_10 => ?_) (fun c_10 => absurd c_10 c_2)
          refine lv_sipush (v := 1280) hx hb d_MD_where_81 (by decide) ?_
          refine lv_iload_n hx hb d_MD_where_84 rfl (lv_at hl 2 rfl) ?_
          refine lv_iadd hx hb d_MD_where_85 ?_
          rw [hQ]
          exact sf_iret (1280 + wi) hx hb hr hlk hS rfl rfl (by simp only [f_MD_where, ← hu_5, eq_false c_1, eq_false c_2, eq_true c_3, eq_false c_6, ↓reduceIte]) hP d_MD_where_86
    · refine lv_iload_n hx hb d_MD_where_20 rfl (lv_at hl 1 rfl) ?_
      refine lv_iconst (v := 0) hx hb d_MD_where_21 (by decide) ?_
      refine lv_sipush (v := 511) hx hb d_MD_where_22 (by decide) ?_
      refine sf_callSr (S := Int32) (rest := []) ⟨hx, hb, hml, hown, hts⟩ (c_MD_in l D cI cZ cJ wi 0 511) (sf_cwS lk_MD_44 hts (fun _ h => h) (by rw [hR]; exact ⟨Nat.le_of_ble_eq_true rfl, Nat.le_of_ble_eq_true rfl⟩)) hK hP hD hS hA [] rfl rfl (fun _ => rfl) rfl rfl hl.1 (Nat.le_of_ble_eq_true rfl) d_MD_where_25 ⟨Nat.zero_le _, Nat.zero_le _⟩ (fun u_11 H locs hu_11 hP hS => ?_)
      refine lv_if_ne (tgt := 46) hx hb d_MD_where_28 (by decide) (fun c_12 => ?_) (fun c_12 => ?_)
      · refine lv_iconst (v := 1) hx hb d_MD_where_46 (by decide) ?_
        refine lv_goto (tgt := 51) hx hb d_MD_where_47 (by decide) ?_
        refine lv_istore_n (lv' := [(2, .int 1), (0, .int wt), (1, .int wi)]) hx hb d_MD_where_51 rfl hl (by decide) rfl (fun ls hl => ?_)
        refine lv_iload_n hx hb d_MD_where_52 rfl (lv_at hl 0 rfl) ?_
        refine lv_if_ne (tgt := 60) hx hb d_MD_where_53 (by decide) (fun c_13 => ?_) (fun c_13 => absurd c_13 (by decide))
        refine lv_iload_n hx hb d_MD_where_60 rfl (lv_at hl 1 rfl) ?_
        refine lv_if_ne (tgt := 68) hx hb d_MD_where_61 (by decide) (fun c_14 => ?_) (fun c_14 => absurd c_14 c_1)
        refine lv_iload_n hx hb d_MD_where_68 rfl (lv_at hl 1 rfl) ?_
        refine lv_iconst (v := 1) hx hb d_MD_where_69 (by decide) ?_
        refine lv_icmp_ne (tgt := 81) hx hb d_MD_where_70 (by decide) (fun c_15 => absurd c_2 c_15) (fun c_15 => ?_)
        refine lv_sipush (v := 768) hx hb d_MD_where_73 (by decide) ?_
        refine lv_iload_n hx hb d_MD_where_76 rfl (lv_at hl 2 rfl) ?_
        refine lv_iadd hx hb d_MD_where_77 ?_
        refine lv_goto (tgt := 86) hx hb d_MD_where_78 (by decide) ?_
        rw [hQ]
        exact sf_iret (768 + wi) hx hb hr hlk hS rfl rfl (by simp only [f_MD_where, ← hu_11, eq_false c_1, eq_true c_2, eq_false c_12, ↓reduceIte]) hP d_MD_where_86
      · refine lv_iload_n hx hb d_MD_where_31 rfl (lv_at hl 0 rfl) ?_
        refine lv_iconst (v := 2) hx hb d_MD_where_32 (by decide) ?_
        refine lv_icmp_ne (tgt := 50) hx hb d_MD_where_33 (by decide) (fun c_16 => ?_) (fun c_16 => ?_)
        · refine lv_iconst (v := 0) hx hb d_MD_where_50 (by decide) ?_
          refine lv_istore_n (lv' := [(2, .int 0), (0, .int wt), (1, .int wi)]) hx hb d_MD_where_51 rfl hl (by decide) rfl (fun ls hl => ?_)
          refine lv_iload_n hx hb d_MD_where_52 rfl (lv_at hl 0 rfl) ?_
          refine lv_if_ne (tgt := 60) hx hb d_MD_where_53 (by decide) (fun c_17 => absurd (by decide) c_17) (fun c_17 => ?_)
          refine lv_iconst (v := (-1)) hx hb d_MD_where_56 (by decide) ?_
          refine lv_goto (tgt := 86) hx hb d_MD_where_57 (by decide) ?_
          rw [hQ]
          exact sf_iret (-1) hx hb hr hlk hS rfl rfl (by simp only [f_MD_where, ← hu_11, eq_false c_1, eq_true c_2, eq_true c_12, eq_false c_16, ↓reduceIte]) hP d_MD_where_86
        · refine lv_iload_n hx hb d_MD_where_36 rfl (lv_at hl 1 rfl) ?_
          refine lv_iconst (v := 0) hx hb d_MD_where_37 (by decide) ?_
          refine lv_bipush (v := 79) hx hb d_MD_where_38 (by decide) ?_
          refine sf_callSr (S := Int32) (rest := []) ⟨hx, hb, hml, hown, hts⟩ (c_MD_in l D cI cZ cJ wi 0 79) (sf_cwS lk_MD_44 hts (fun _ h => h) (by rw [hR]; exact ⟨Nat.le_of_ble_eq_true rfl, Nat.le_of_ble_eq_true rfl⟩)) hK hP hD hS hA [] rfl rfl (fun _ => rfl) rfl rfl hl.1 (Nat.le_of_ble_eq_true rfl) d_MD_where_40 ⟨Nat.zero_le _, Nat.zero_le _⟩ (fun u_18 H locs hu_18 hP hS => ?_)
          refine lv_if_eq (tgt := 50) hx hb d_MD_where_43 (by decide) (fun c_19 => ?_) (fun c_19 => ?_)
          · refine lv_iconst (v := 0) hx hb d_MD_where_50 (by decide) ?_
            refine lv_istore_n (lv' := [(2, .int 0), (0, .int wt), (1, .int wi)]) hx hb d_MD_where_51 rfl hl (by decide) rfl (fun ls hl => ?_)
            refine lv_iload_n hx hb d_MD_where_52 rfl (lv_at hl 0 rfl) ?_
            refine lv_if_ne (tgt := 60) hx hb d_MD_where_53 (by decide) (fun c_20 => absurd (by decide) c_20) (fun c_20 => ?_)
            refine lv_iconst (v := (-1)) hx hb d_MD_where_56 (by decide) ?_
            refine lv_goto (tgt := 86) hx hb d_MD_where_57 (by decide) ?_
            rw [hQ]
            exact sf_iret (-1) hx hb hr hlk hS rfl rfl (by simp only [f_MD_where, ← hu_11, ← hu_18, eq_false c_1, eq_true c_2, eq_true c_12, eq_true c_16, eq_true c_19, ↓reduceIte]) hP d_MD_where_86
          · refine lv_iconst (v := 1) hx hb d_MD_where_46 (by decide) ?_
            refine lv_goto (tgt := 51) hx hb d_MD_where_47 (by decide) ?_
            refine lv_istore_n (lv' := [(2, .int 1), (0, .int wt), (1, .int wi)]) hx hb d_MD_where_51 rfl hl (by decide) rfl (fun ls hl => ?_)
            refine lv_iload_n hx hb d_MD_where_52 rfl (lv_at hl 0 rfl) ?_
            refine lv_if_ne (tgt := 60) hx hb d_MD_where_53 (by decide) (fun c_21 => ?_) (fun c_21 => absurd c_21 (by decide))
            refine lv_iload_n hx hb d_MD_where_60 rfl (lv_at hl 1 rfl) ?_
            refine lv_if_ne (tgt := 68) hx hb d_MD_where_61 (by decide) (fun c_22 => ?_) (fun c_22 => absurd c_22 c_1)
            refine lv_iload_n hx hb d_MD_where_68 rfl (lv_at hl 1 rfl) ?_
            refine lv_iconst (v := 1) hx hb d_MD_where_69 (by decide) ?_
            refine lv_icmp_ne (tgt := 81) hx hb d_MD_where_70 (by decide) (fun c_23 => absurd c_2 c_23) (fun c_23 => ?_)
            refine lv_sipush (v := 768) hx hb d_MD_where_73 (by decide) ?_
            refine lv_iload_n hx hb d_MD_where_76 rfl (lv_at hl 2 rfl) ?_
            refine lv_iadd hx hb d_MD_where_77 ?_
            refine lv_goto (tgt := 86) hx hb d_MD_where_78 (by decide) ?_
            rw [hQ]
            exact sf_iret (768 + wi) hx hb hr hlk hS rfl rfl (by simp only [f_MD_where, ← hu_11, ← hu_18, eq_false c_1, eq_true c_2, eq_true c_12, eq_true c_16, eq_false c_19, ↓reduceIte]) hP d_MD_where_86
  · refine lv_iload_n hx hb d_MD_where_4 rfl (lv_at hl 1 rfl) ?_
    refine lv_iconst (v := 0) hx hb d_MD_where_5 (by decide) ?_
    refine lv_sipush (v := 767) hx hb d_MD_where_6 (by decide) ?_
    refine sf_callSr (S := Int32) (rest := []) ⟨hx, hb, hml, hown, hts⟩ (c_MD_in l D cI cZ cJ wi 0 767) (sf_cwS lk_MD_44 hts (fun _ h => h) (by rw [hR]; exact ⟨Nat.le_of_ble_eq_true rfl, Nat.le_of_ble_eq_true rfl⟩)) hK hP hD hS hA [] rfl rfl (fun _ => rfl) rfl rfl hl.1 (Nat.le_of_ble_eq_true rfl) d_MD_where_9 ⟨Nat.zero_le _, Nat.zero_le _⟩ (fun u_24 H locs hu_24 hP hS => ?_)
    refine lv_if_ne (tgt := 46) hx hb d_MD_where_12 (by decide) (fun c_25 => ?_) (fun c_25 => ?_)
    · refine lv_iconst (v := 1) hx hb d_MD_where_46 (by decide) ?_
      refine lv_goto (tgt := 51) hx hb d_MD_where_47 (by decide) ?_
      refine lv_istore_n (lv' := [(2, .int 1), (0, .int wt), (1, .int wi)]) hx hb d_MD_where_51 rfl hl (by decide) rfl (fun ls hl => ?_)
      refine lv_iload_n hx hb d_MD_where_52 rfl (lv_at hl 0 rfl) ?_
      refine lv_if_ne (tgt := 60) hx hb d_MD_where_53 (by decide) (fun c_26 => ?_) (fun c_26 => absurd c_26 (by decide))
      refine lv_iload_n hx hb d_MD_where_60 rfl (lv_at hl 1 rfl) ?_
      refine lv_if_ne (tgt := 68) hx hb d_MD_where_61 (by decide) (fun c_27 => absurd c_1 c_27) (fun c_27 => ?_)
      refine lv_iload_n hx hb d_MD_where_64 rfl (lv_at hl 2 rfl) ?_
      refine lv_goto (tgt := 86) hx hb d_MD_where_65 (by decide) ?_
      rw [hQ]
      exact sf_iret wi hx hb hr hlk hS rfl rfl (by simp only [f_MD_where, ← hu_24, eq_true c_1, eq_false c_25, ↓reduceIte]) hP d_MD_where_86
    · refine lv_iload_n hx hb d_MD_where_15 rfl (lv_at hl 0 rfl) ?_
      refine lv_iconst (v := 1) hx hb d_MD_where_16 (by decide) ?_
      refine lv_icmp_ne (tgt := 31) hx hb d_MD_where_17 (by decide) (fun c_28 => ?_) (fun c_28 => ?_)
      · refine lv_iload_n hx hb d_MD_where_31 rfl (lv_at hl 0 rfl) ?_
        refine lv_iconst (v := 2) hx hb d_MD_where_32 (by decide) ?_
        refine lv_icmp_ne (tgt := 50) hx hb d_MD_where_33 (by decide) (fun c_29 => ?_) (fun c_29 => ?_)
        · refine lv_iconst (v := 0) hx hb d_MD_where_50 (by decide) ?_
          refine lv_istore_n (lv' := [(2, .int 0), (0, .int wt), (1, .int wi)]) hx hb d_MD_where_51 rfl hl (by decide) rfl (fun ls hl => ?_)
          refine lv_iload_n hx hb d_MD_where_52 rfl (lv_at hl 0 rfl) ?_
          refine lv_if_ne (tgt := 60) hx hb d_MD_where_53 (by decide) (fun c_30 => absurd (by decide) c_30) (fun c_30 => ?_)
          refine lv_iconst (v := (-1)) hx hb d_MD_where_56 (by decide) ?_
          refine lv_goto (tgt := 86) hx hb d_MD_where_57 (by decide) ?_
          rw [hQ]
          exact sf_iret (-1) hx hb hr hlk hS rfl rfl (by simp only [f_MD_where, ← hu_24, eq_true c_1, eq_true c_25, eq_false c_28, eq_false c_29, ↓reduceIte]) hP d_MD_where_86
        · refine lv_iload_n hx hb d_MD_where_36 rfl (lv_at hl 1 rfl) ?_
          refine lv_iconst (v := 0) hx hb d_MD_where_37 (by decide) ?_
          refine lv_bipush (v := 79) hx hb d_MD_where_38 (by decide) ?_
          refine sf_callSr (S := Int32) (rest := []) ⟨hx, hb, hml, hown, hts⟩ (c_MD_in l D cI cZ cJ wi 0 79) (sf_cwS lk_MD_44 hts (fun _ h => h) (by rw [hR]; exact ⟨Nat.le_of_ble_eq_true rfl, Nat.le_of_ble_eq_true rfl⟩)) hK hP hD hS hA [] rfl rfl (fun _ => rfl) rfl rfl hl.1 (Nat.le_of_ble_eq_true rfl) d_MD_where_40 ⟨Nat.zero_le _, Nat.zero_le _⟩ (fun u_31 H locs hu_31 hP hS => ?_)
          refine lv_if_eq (tgt := 50) hx hb d_MD_where_43 (by decide) (fun c_32 => ?_) (fun c_32 => ?_)
          · refine lv_iconst (v := 0) hx hb d_MD_where_50 (by decide) ?_
            refine lv_istore_n (lv' := [(2, .int 0), (0, .int wt), (1, .int wi)]) hx hb d_MD_where_51 rfl hl (by decide) rfl (fun ls hl => ?_)
            refine lv_iload_n hx hb d_MD_where_52 rfl (lv_at hl 0 rfl) ?_
            refine lv_if_ne (tgt := 60) hx hb d_MD_where_53 (by decide) (fun c_33 => absurd (by decide) c_33) (fun c_33 => ?_)
            refine lv_iconst (v := (-1)) hx hb d_MD_where_56 (by decide) ?_
            refine lv_goto (tgt := 86) hx hb d_MD_where_57 (by decide) ?_
            rw [hQ]
            exact sf_iret (-1) hx hb hr hlk hS rfl rfl (by simp only [f_MD_where, ← hu_24, ← hu_31, eq_true c_1, eq_true c_25, eq_false c_28, eq_true c_29, eq_true c_32, ↓reduceIte]) hP d_MD_where_86
          · refine lv_iconst (v := 1) hx hb d_MD_where_46 (by decide) ?_
            refine lv_goto (tgt := 51) hx hb d_MD_where_47 (by decide) ?_
            refine lv_istore_n (lv' := [(2, .int 1), (0, .int wt), (1, .int wi)]) hx hb d_MD_where_51 rfl hl (by decide) rfl (fun ls hl => ?_)
            refine lv_iload_n hx hb d_MD_where_52 rfl (lv_at hl 0 rfl) ?_
            refine lv_if_ne (tgt := 60) hx hb d_MD_where_53 (by decide) (fun c_34 => ?_) (fun c_34 => absurd c_34 (by decide))
            refine lv_iload_n hx hb d_MD_where_60 rfl (lv_at hl 1 rfl) ?_
            refine lv_if_ne (tgt := 68) hx hb d_MD_where_61 (by decide) (fun c_35 => absurd c_1 c_35) (fun c_35 => ?_)
            refine lv_iload_n hx hb d_MD_where_64 rfl (lv_at hl 2 rfl) ?_
            refine lv_goto (tgt := 86) hx hb d_MD_where_65 (by decide) ?_
            rw [hQ]
            exact sf_iret wi hx hb hr hlk hS rfl rfl (by simp only [f_MD_where, ← hu_24, ← hu_31, eq_true c_1, eq_true c_25, eq_false c_28, eq_true c_29, eq_false c_32, ↓reduceIte]) hP d_MD_where_86
      · refine lv_iload_n hx hb d_MD_where_20 rfl (lv_at hl 1 rfl) ?_
        refine lv_iconst (v := 0) hx hb d_MD_where_21 (by decide) ?_
        refine lv_sipush (v := 511) hx hb d_MD_where_22 (by decide) ?_
        refine sf_callSr (S := Int32) (rest := []) ⟨hx, hb, hml, hown, hts⟩ (c_MD_in l D cI cZ cJ wi 0 511) (sf_cwS lk_MD_44 hts (fun _ h => h) (by rw [hR]; exact ⟨Nat.le_of_ble_eq_true rfl, Nat.le_of_ble_eq_true rfl⟩)) hK hP hD hS hA [] rfl rfl (fun _ => rfl) rfl rfl hl.1 (Nat.le_of_ble_eq_true rfl) d_MD_where_25 ⟨Nat.zero_le _, Nat.zero_le _⟩ (fun u_36 H locs hu_36 hP hS => ?_)
        refine lv_if_ne (tgt := 46) hx hb d_MD_where_28 (by decide) (fun c_37 => ?_) (fun c_37 => ?_)
        · refine lv_iconst (v := 1) hx hb d_MD_where_46 (by decide) ?_
          refine lv_goto (tgt := 51) hx hb d_MD_where_47 (by decide) ?_
          refine lv_istore_n (lv' := [(2, .int 1), (0, .int wt), (1, .int wi)]) hx hb d_MD_where_51 rfl hl (by decide) rfl (fun ls hl => ?_)
          refine lv_iload_n hx hb d_MD_where_52 rfl (lv_at hl 0 rfl) ?_
          refine lv_if_ne (tgt := 60) hx hb d_MD_where_53 (by decide) (fun c_38 => ?_) (fun c_38 => absurd c_38 (by decide))
          refine lv_iload_n hx hb d_MD_where_60 rfl (lv_at hl 1 rfl) ?_
          refine lv_if_ne (tgt := 68) hx hb d_MD_where_61 (by decide) (fun c_39 => absurd c_1 c_39) (fun c_39 => ?_)
          refine lv_iload_n hx hb d_MD_where_64 rfl (lv_at hl 2 rfl) ?_
          refine lv_goto (tgt := 86) hx hb d_MD_where_65 (by decide) ?_
          rw [hQ]
          exact sf_iret wi hx hb hr hlk hS rfl rfl (by simp only [f_MD_where, ← hu_24, ← hu_36, eq_true c_1, eq_true c_25, eq_true c_28, eq_false c_37, ↓reduceIte]) hP d_MD_where_86
        · refine lv_iload_n hx hb d_MD_where_31 rfl (lv_at hl 0 rfl) ?_
          refine lv_iconst (v := 2) hx hb d_MD_where_32 (by decide) ?_
          refine lv_icmp_ne (tgt := 50) hx hb d_MD_where_33 (by decide) (fun c_40 => ?_) (fun c_40 => ?_)
          · refine lv_iconst (v := 0) hx hb d_MD_where_50 (by decide) ?_
            refine lv_istore_n (lv' := [(2, .int 0), (0, .int wt), (1, .int wi)]) hx hb d_MD_where_51 rfl hl (by decide) rfl (fun ls hl => ?_)
            refine lv_iload_n hx hb d_MD_where_52 rfl (lv_at hl 0 rfl) ?_
            refine lv_if_ne (tgt := 60) hx hb d_MD_where_53 (by decide) (fun c_41 => absurd (by decide) c_41) (fun c_41 => ?_)
            refine lv_iconst (v := (-1)) hx hb d_MD_where_56 (by decide) ?_
            refine lv_goto (tgt := 86) hx hb d_MD_where_57 (by decide) ?_
            rw [hQ]
            exact sf_iret (-1) hx hb hr hlk hS rfl rfl (by simp only [f_MD_where, ← hu_24, ← hu_36, eq_true c_1, eq_true c_25, eq_true c_28, eq_true c_37, eq_false c_40, ↓reduceIte]) hP d_MD_where_86
          · refine lv_iload_n hx hb d_MD_where_36 rfl (lv_at hl 1 rfl) ?_
            refine lv_iconst (v := 0) hx hb d_MD_where_37 (by decide) ?_
            refine lv_bipush (v := 79) hx hb d_MD_where_38 (by decide) ?_
            refine sf_callSr (S := Int32) (rest := []) ⟨hx, hb, hml, hown, hts⟩ (c_MD_in l D cI cZ cJ wi 0 79) (sf_cwS lk_MD_44 hts (fun _ h => h) (by rw [hR]; exact ⟨Nat.le_of_ble_eq_true rfl, Nat.le_of_ble_eq_true rfl⟩)) hK hP hD hS hA [] rfl rfl (fun _ => rfl) rfl rfl hl.1 (Nat.le_of_ble_eq_true rfl) d_MD_where_40 ⟨Nat.zero_le _, Nat.zero_le _⟩ (fun u_42 H locs hu_42 hP hS => ?_)
            refine lv_if_eq (tgt := 50) hx hb d_MD_where_43 (by decide) (fun c_43 => ?_) (fun c_43 => ?_)
            · refine lv_iconst (v := 0) hx hb d_MD_where_50 (by decide) ?_
              refine lv_istore_n (lv' := [(2, .int 0), (0, .int wt), (1, .int wi)]) hx hb d_MD_where_51 rfl hl (by decide) rfl (fun ls hl => ?_)
              refine lv_iload_n hx hb d_MD_where_52 rfl (lv_at hl 0 rfl) ?_
              refine lv_if_ne (tgt := 60) hx hb d_MD_where_53 (by decide) (fun c_44 => absurd (by decide) c_44) (fun c_44 => ?_)
              refine lv_iconst (v := (-1)) hx hb d_MD_where_56 (by decide) ?_
              refine lv_goto (tgt := 86) hx hb d_MD_where_57 (by decide) ?_
              rw [hQ]
              exact sf_iret (-1) hx hb hr hlk hS rfl rfl (by simp only [f_MD_where, ← hu_24, ← hu_36, ← hu_42, eq_true c_1, eq_true c_25, eq_true c_28, eq_true c_37, eq_true c_40, eq_true c_43, ↓reduceIte]) hP d_MD_where_86
            · refine lv_iconst (v := 1) hx hb d_MD_where_46 (by decide) ?_
              refine lv_goto (tgt := 51) hx hb d_MD_where_47 (by decide) ?_
              refine lv_istore_n (lv' := [(2, .int 1), (0, .int wt), (1, .int wi)]) hx hb d_MD_where_51 rfl hl (by decide) rfl (fun ls hl => ?_)
              refine lv_iload_n hx hb d_MD_where_52 rfl (lv_at hl 0 rfl) ?_
              refine lv_if_ne (tgt := 60) hx hb d_MD_where_53 (by decide) (fun c_45 => ?_) (fun c_45 => absurd c_45 (by decide))
              refine lv_iload_n hx hb d_MD_where_60 rfl (lv_at hl 1 rfl) ?_
              refine lv_if_ne (tgt := 68) hx hb d_MD_where_61 (by decide) (fun c_46 => absurd c_1 c_46) (fun c_46 => ?_)
              refine lv_iload_n hx hb d_MD_where_64 rfl (lv_at hl 2 rfl) ?_
              refine lv_goto (tgt := 86) hx hb d_MD_where_65 (by decide) ?_
              rw [hQ]
              exact sf_iret wi hx hb hr hlk hS rfl rfl (by simp only [f_MD_where, ← hu_24, ← hu_36, ← hu_42, eq_true c_1, eq_true c_25, eq_true c_28, eq_true c_37, eq_true c_40, eq_false c_43, ↓reduceIte]) hP d_MD_where_86
