/-! blocks: contracts, with the pure functions that they speak of (printed by wip/gen) -/
set_option maxRecDepth 20000 in
theorem wd_78 : Cond.fieldLink R_Bl 9 "ShadowFiles$Blocks" "cells" "[I" ∈ sf_tb := sf_tb_in 78 rfl rfl
set_option maxRecDepth 20000 in
theorem wd_79 : Cond.fieldLink R_Bl 15 "ShadowFiles$Blocks" "size" "I" ∈ sf_tb := sf_tb_in 79 rfl rfl
set_option maxRecDepth 20000 in
theorem wd_186 : Cond.constant R_Bl 23 (-1640531535) ∈ sf_tb := sf_tb_in 186 rfl rfl
set_option maxRecDepth 20000 in
theorem wd_369 : Cond.methodLink R_Bl 19 y_Bl_hasCell ∈ sf_tb := sf_tb_in 369 rfl rfl
set_option maxRecDepth 20000 in
theorem wd_372 : Cond.code y_Bl_hasCell b_Bl_hasCell 2 (some .boolean) ∈ sf_tb := sf_tb_in 372 rfl rfl
set_option maxRecDepth 20000 in
theorem wd_53 : Cond.initialized R_Bl ∈ sf_tb := sf_tb_in 53 rfl rfl
set_option maxRecDepth 20000 in
theorem wd_370 : Cond.instanceMethod y_Bl_hasCell ∈ sf_tb := sf_tb_in 370 rfl rfl
set_option maxRecDepth 20000 in
theorem wd_371 : Cond.selects R_Bl y_Bl_hasCell y_Bl_hasCell ∈ sf_tb := sf_tb_in 371 rfl rfl
set_option maxRecDepth 20000 in
theorem wd_181 : Cond.methodLink R_Bl 24 y_Bl_get ∈ sf_tb := sf_tb_in 181 rfl rfl
set_option maxRecDepth 20000 in
theorem wd_176 : Cond.code y_Bl_get b_Bl_get 4 (some .int) ∈ sf_tb := sf_tb_in 176 rfl rfl
set_option maxRecDepth 20000 in
theorem wd_174 : Cond.instanceMethod y_Bl_get ∈ sf_tb := sf_tb_in 174 rfl rfl
set_option maxRecDepth 20000 in
theorem wd_175 : Cond.selects R_Bl y_Bl_get y_Bl_get ∈ sf_tb := sf_tb_in 175 rfl rfl
set_option maxRecDepth 20000 in
theorem wd_182 : Cond.methodLink R_Bl 28 y_Bl_sumOf ∈ sf_tb := sf_tb_in 182 rfl rfl
set_option maxRecDepth 20000 in
theorem wd_185 : Cond.code y_Bl_sumOf b_Bl_sumOf 7 (some .int) ∈ sf_tb := sf_tb_in 185 rfl rfl
set_option maxRecDepth 20000 in
theorem wd_183 : Cond.instanceMethod y_Bl_sumOf ∈ sf_tb := sf_tb_in 183 rfl rfl
set_option maxRecDepth 20000 in
theorem wd_184 : Cond.selects R_Bl y_Bl_sumOf y_Bl_sumOf ∈ sf_tb := sf_tb_in 184 rfl rfl
theorem lk_Bl_19 : sf_LV R_Bl 19 y_Bl_hasCell b_Bl_hasCell 2 (some .boolean) 1 := ⟨wd_372, wd_369, wd_370, wd_371, wd_53, by decide +kernel⟩
theorem lk_Bl_24 : sf_LV R_Bl 24 y_Bl_get b_Bl_get 4 (some .int) 2 := ⟨wd_176, wd_181, wd_174, wd_175, wd_53, by decide +kernel⟩
theorem lk_Bl_28 : sf_LV R_Bl 28 y_Bl_sumOf b_Bl_sumOf 7 (some .int) 2 := ⟨wd_185, wd_182, wd_183, wd_184, wd_53, by decide +kernel⟩
theorem d_Bl_hasCell_0 : decode b_Bl_hasCell 0 = .ok (.iload_n 1, 1) := by decide +kernel
theorem d_Bl_hasCell_1 : decode b_Bl_hasCell 1 = .ok (.ifCond .lt 16, 3) := by decide +kernel
theorem d_Bl_hasCell_4 : decode b_Bl_hasCell 4 = .ok (.iload_n 1, 1) := by decide +kernel
theorem d_Bl_hasCell_5 : decode b_Bl_hasCell 5 = .ok (.aload_n 0, 1) := by decide +kernel
theorem d_Bl_hasCell_6 : decode b_Bl_hasCell 6 = .ok (.getfield 9, 3) := by decide +kernel
theorem d_Bl_hasCell_9 : decode b_Bl_hasCell 9 = .ok (.arraylength, 1) := by decide +kernel
theorem d_Bl_hasCell_10 : decode b_Bl_hasCell 10 = .ok (.if_icmp .ge 7, 3) := by decide +kernel
theorem d_Bl_hasCell_13 : decode b_Bl_hasCell 13 = .ok (.iconst 1, 1) := by decide +kernel
theorem d_Bl_hasCell_14 : decode b_Bl_hasCell 14 = .ok (.goto 4, 3) := by decide +kernel
theorem d_Bl_hasCell_17 : decode b_Bl_hasCell 17 = .ok (.iconst 0, 1) := by decide +kernel
theorem d_Bl_hasCell_18 : decode b_Bl_hasCell 18 = .ok (.ireturn, 1) := by decide +kernel
theorem d_Bl_hasBlock_0 : decode b_Bl_hasBlock 0 = .ok (.iload_n 1, 1) := by decide +kernel
theorem d_Bl_hasBlock_1 : decode b_Bl_hasBlock 1 = .ok (.ifCond .lt 36, 3) := by decide +kernel
theorem d_Bl_hasBlock_4 : decode b_Bl_hasBlock 4 = .ok (.iload_n 1, 1) := by decide +kernel
theorem d_Bl_hasBlock_5 : decode b_Bl_hasBlock 5 = .ok (.aload_n 0, 1) := by decide +kernel
theorem d_Bl_hasBlock_6 : decode b_Bl_hasBlock 6 = .ok (.getfield 9, 3) := by decide +kernel
theorem d_Bl_hasBlock_9 : decode b_Bl_hasBlock 9 = .ok (.arraylength, 1) := by decide +kernel
theorem d_Bl_hasBlock_10 : decode b_Bl_hasBlock 10 = .ok (.if_icmp .ge 27, 3) := by decide +kernel
theorem d_Bl_hasBlock_13 : decode b_Bl_hasBlock 13 = .ok (.aload_n 0, 1) := by decide +kernel
theorem d_Bl_hasBlock_14 : decode b_Bl_hasBlock 14 = .ok (.iload_n 1, 1) := by decide +kernel
theorem d_Bl_hasBlock_15 : decode b_Bl_hasBlock 15 = .ok (.aload_n 0, 1) := by decide +kernel
theorem d_Bl_hasBlock_16 : decode b_Bl_hasBlock 16 = .ok (.getfield 15, 3) := by decide +kernel
theorem d_Bl_hasBlock_19 : decode b_Bl_hasBlock 19 = .ok (.imul, 1) := by decide +kernel
theorem d_Bl_hasBlock_20 : decode b_Bl_hasBlock 20 = .ok (.aload_n 0, 1) := by decide +kernel
theorem d_Bl_hasBlock_21 : decode b_Bl_hasBlock 21 = .ok (.getfield 15, 3) := by decide +kernel
theorem d_Bl_hasBlock_24 : decode b_Bl_hasBlock 24 = .ok (.iadd, 1) := by decide +kernel
theorem d_Bl_hasBlock_25 : decode b_Bl_hasBlock 25 = .ok (.iconst 1, 1) := by decide +kernel
theorem d_Bl_hasBlock_26 : decode b_Bl_hasBlock 26 = .ok (.isub, 1) := by decide +kernel
theorem d_Bl_hasBlock_27 : decode b_Bl_hasBlock 27 = .ok (.invokevirtual 19, 3) := by decide +kernel
theorem d_Bl_hasBlock_30 : decode b_Bl_hasBlock 30 = .ok (.ifCond .eq 7, 3) := by decide +kernel
theorem d_Bl_hasBlock_33 : decode b_Bl_hasBlock 33 = .ok (.iconst 1, 1) := by decide +kernel
theorem d_Bl_hasBlock_34 : decode b_Bl_hasBlock 34 = .ok (.goto 4, 3) := by decide +kernel
theorem d_Bl_hasBlock_37 : decode b_Bl_hasBlock 37 = .ok (.iconst 0, 1) := by decide +kernel
theorem d_Bl_hasBlock_38 : decode b_Bl_hasBlock 38 = .ok (.ireturn, 1) := by decide +kernel
theorem d_Bl_get_0 : decode b_Bl_get 0 = .ok (.iload_n 1, 1) := by decide +kernel
theorem d_Bl_get_1 : decode b_Bl_get 1 = .ok (.aload_n 0, 1) := by decide +kernel
theorem d_Bl_get_2 : decode b_Bl_get 2 = .ok (.getfield 15, 3) := by decide +kernel
theorem d_Bl_get_5 : decode b_Bl_get 5 = .ok (.imul, 1) := by decide +kernel
theorem d_Bl_get_6 : decode b_Bl_get 6 = .ok (.iload_n 2, 1) := by decide +kernel
theorem d_Bl_get_7 : decode b_Bl_get 7 = .ok (.iadd, 1) := by decide +kernel
theorem d_Bl_get_8 : decode b_Bl_get 8 = .ok (.istore_n 3, 1) := by decide +kernel
theorem d_Bl_get_9 : decode b_Bl_get 9 = .ok (.iload_n 3, 1) := by decide +kernel
theorem d_Bl_get_10 : decode b_Bl_get 10 = .ok (.ifCond .lt 21, 3) := by decide +kernel
theorem d_Bl_get_13 : decode b_Bl_get 13 = .ok (.iload_n 3, 1) := by decide +kernel
theorem d_Bl_get_14 : decode b_Bl_get 14 = .ok (.aload_n 0, 1) := by decide +kernel
theorem d_Bl_get_15 : decode b_Bl_get 15 = .ok (.getfield 9, 3) := by decide +kernel
theorem d_Bl_get_18 : decode b_Bl_get 18 = .ok (.arraylength, 1) := by decide +kernel
theorem d_Bl_get_19 : decode b_Bl_get 19 = .ok (.if_icmp .ge 12, 3) := by decide +kernel
theorem d_Bl_get_22 : decode b_Bl_get 22 = .ok (.aload_n 0, 1) := by decide +kernel
theorem d_Bl_get_23 : decode b_Bl_get 23 = .ok (.getfield 9, 3) := by decide +kernel
theorem d_Bl_get_26 : decode b_Bl_get 26 = .ok (.iload_n 3, 1) := by decide +kernel
theorem d_Bl_get_27 : decode b_Bl_get 27 = .ok (.iaload, 1) := by decide +kernel
theorem d_Bl_get_28 : decode b_Bl_get 28 = .ok (.goto 4, 3) := by decide +kernel
theorem d_Bl_get_31 : decode b_Bl_get 31 = .ok (.iconst 0, 1) := by decide +kernel
theorem d_Bl_get_32 : decode b_Bl_get 32 = .ok (.ireturn, 1) := by decide +kernel
theorem d_Bl_set_0 : decode b_Bl_set 0 = .ok (.iload_n 1, 1) := by decide +kernel
theorem d_Bl_set_1 : decode b_Bl_set 1 = .ok (.aload_n 0, 1) := by decide +kernel
theorem d_Bl_set_2 : decode b_Bl_set 2 = .ok (.getfield 15, 3) := by decide +kernel
theorem d_Bl_set_5 : decode b_Bl_set 5 = .ok (.imul, 1) := by decide +kernel
theorem d_Bl_set_6 : decode b_Bl_set 6 = .ok (.iload_n 2, 1) := by decide +kernel
theorem d_Bl_set_7 : decode b_Bl_set 7 = .ok (.iadd, 1) := by decide +kernel
theorem d_Bl_set_8 : decode b_Bl_set 8 = .ok (.istore 4, 2) := by decide +kernel
theorem d_Bl_set_10 : decode b_Bl_set 10 = .ok (.iload 4, 2) := by decide +kernel
theorem d_Bl_set_12 : decode b_Bl_set 12 = .ok (.ifCond .lt 25, 3) := by decide +kernel
theorem d_Bl_set_15 : decode b_Bl_set 15 = .ok (.iload 4, 2) := by decide +kernel
theorem d_Bl_set_17 : decode b_Bl_set 17 = .ok (.aload_n 0, 1) := by decide +kernel
theorem d_Bl_set_18 : decode b_Bl_set 18 = .ok (.getfield 9, 3) := by decide +kernel
theorem d_Bl_set_21 : decode b_Bl_set 21 = .ok (.arraylength, 1) := by decide +kernel
theorem d_Bl_set_22 : decode b_Bl_set 22 = .ok (.if_icmp .ge 15, 3) := by decide +kernel
theorem d_Bl_set_25 : decode b_Bl_set 25 = .ok (.aload_n 0, 1) := by decide +kernel
theorem d_Bl_set_26 : decode b_Bl_set 26 = .ok (.getfield 9, 3) := by decide +kernel
theorem d_Bl_set_29 : decode b_Bl_set 29 = .ok (.iload 4, 2) := by decide +kernel
theorem d_Bl_set_31 : decode b_Bl_set 31 = .ok (.iload_n 3, 1) := by decide +kernel
theorem d_Bl_set_32 : decode b_Bl_set 32 = .ok (.sipush 255, 3) := by decide +kernel
theorem d_Bl_set_35 : decode b_Bl_set 35 = .ok (.iand, 1) := by decide +kernel
theorem d_Bl_set_36 : decode b_Bl_set 36 = .ok (.iastore, 1) := by decide +kernel
theorem d_Bl_set_37 : decode b_Bl_set 37 = .ok (.return_, 1) := by decide +kernel
theorem d_Bl_sumOf_0 : decode b_Bl_sumOf 0 = .ok (.iload_n 1, 1) := by decide +kernel
theorem d_Bl_sumOf_1 : decode b_Bl_sumOf 1 = .ok (.aload_n 0, 1) := by decide +kernel
theorem d_Bl_sumOf_2 : decode b_Bl_sumOf 2 = .ok (.getfield 15, 3) := by decide +kernel
theorem d_Bl_sumOf_5 : decode b_Bl_sumOf 5 = .ok (.imul, 1) := by decide +kernel
theorem d_Bl_sumOf_6 : decode b_Bl_sumOf 6 = .ok (.istore_n 3, 1) := by decide +kernel
theorem d_Bl_sumOf_7 : decode b_Bl_sumOf 7 = .ok (.iload_n 3, 1) := by decide +kernel
theorem d_Bl_sumOf_8 : decode b_Bl_sumOf 8 = .ok (.ifCond .lt 14, 3) := by decide +kernel
theorem d_Bl_sumOf_11 : decode b_Bl_sumOf 11 = .ok (.iload_n 3, 1) := by decide +kernel
theorem d_Bl_sumOf_12 : decode b_Bl_sumOf 12 = .ok (.aload_n 0, 1) := by decide +kernel
theorem d_Bl_sumOf_13 : decode b_Bl_sumOf 13 = .ok (.getfield 9, 3) := by decide +kernel
theorem d_Bl_sumOf_16 : decode b_Bl_sumOf 16 = .ok (.arraylength, 1) := by decide +kernel
theorem d_Bl_sumOf_17 : decode b_Bl_sumOf 17 = .ok (.iload_n 2, 1) := by decide +kernel
theorem d_Bl_sumOf_18 : decode b_Bl_sumOf 18 = .ok (.isub, 1) := by decide +kernel
theorem d_Bl_sumOf_19 : decode b_Bl_sumOf 19 = .ok (.if_icmp .le 5, 3) := by decide +kernel
theorem d_Bl_sumOf_22 : decode b_Bl_sumOf 22 = .ok (.iconst 0, 1) := by decide +kernel
theorem d_Bl_sumOf_23 : decode b_Bl_sumOf 23 = .ok (.ireturn, 1) := by decide +kernel
theorem d_Bl_sumOf_24 : decode b_Bl_sumOf 24 = .ok (.iconst 0, 1) := by decide +kernel
theorem d_Bl_sumOf_25 : decode b_Bl_sumOf 25 = .ok (.istore 4, 2) := by decide +kernel
theorem d_Bl_sumOf_27 : decode b_Bl_sumOf 27 = .ok (.iconst 0, 1) := by decide +kernel
theorem d_Bl_sumOf_28 : decode b_Bl_sumOf 28 = .ok (.istore 5, 2) := by decide +kernel
theorem d_Bl_sumOf_30 : decode b_Bl_sumOf 30 = .ok (.iload 5, 2) := by decide +kernel
theorem d_Bl_sumOf_32 : decode b_Bl_sumOf 32 = .ok (.iload_n 2, 1) := by decide +kernel
theorem d_Bl_sumOf_33 : decode b_Bl_sumOf 33 = .ok (.if_icmp .ge 39, 3) := by decide +kernel
theorem d_Bl_sumOf_36 : decode b_Bl_sumOf 36 = .ok (.iload 4, 2) := by decide +kernel
theorem d_Bl_sumOf_38 : decode b_Bl_sumOf 38 = .ok (.aload_n 0, 1) := by decide +kernel
theorem d_Bl_sumOf_39 : decode b_Bl_sumOf 39 = .ok (.getfield 9, 3) := by decide +kernel
theorem d_Bl_sumOf_42 : decode b_Bl_sumOf 42 = .ok (.iload_n 3, 1) := by decide +kernel
theorem d_Bl_sumOf_43 : decode b_Bl_sumOf 43 = .ok (.iload 5, 2) := by decide +kernel
theorem d_Bl_sumOf_45 : decode b_Bl_sumOf 45 = .ok (.iadd, 1) := by decide +kernel
theorem d_Bl_sumOf_46 : decode b_Bl_sumOf 46 = .ok (.iaload, 1) := by decide +kernel
theorem d_Bl_sumOf_47 : decode b_Bl_sumOf 47 = .ok (.ixor, 1) := by decide +kernel
theorem d_Bl_sumOf_48 : decode b_Bl_sumOf 48 = .ok (.istore 6, 2) := by decide +kernel
theorem d_Bl_sumOf_50 : decode b_Bl_sumOf 50 = .ok (.iload 6, 2) := by decide +kernel
theorem d_Bl_sumOf_52 : decode b_Bl_sumOf 52 = .ok (.bipush 23, 2) := by decide +kernel
theorem d_Bl_sumOf_54 : decode b_Bl_sumOf 54 = .ok (.ishl, 1) := by decide +kernel
theorem d_Bl_sumOf_55 : decode b_Bl_sumOf 55 = .ok (.iload 6, 2) := by decide +kernel
theorem d_Bl_sumOf_57 : decode b_Bl_sumOf 57 = .ok (.bipush 9, 2) := by decide +kernel
theorem d_Bl_sumOf_59 : decode b_Bl_sumOf 59 = .ok (.iushr, 1) := by decide +kernel
theorem d_Bl_sumOf_60 : decode b_Bl_sumOf 60 = .ok (.ior, 1) := by decide +kernel
theorem d_Bl_sumOf_61 : decode b_Bl_sumOf 61 = .ok (.ldc 23, 2) := by decide +kernel
theorem d_Bl_sumOf_63 : decode b_Bl_sumOf 63 = .ok (.imul, 1) := by decide +kernel
theorem d_Bl_sumOf_64 : decode b_Bl_sumOf 64 = .ok (.istore 4, 2) := by decide +kernel
theorem d_Bl_sumOf_66 : decode b_Bl_sumOf 66 = .ok (.iinc 5 1, 3) := by decide +kernel
theorem d_Bl_sumOf_69 : decode b_Bl_sumOf 69 = .ok (.goto (-39), 3) := by decide +kernel
theorem d_Bl_sumOf_72 : decode b_Bl_sumOf 72 = .ok (.iload 4, 2) := by decide +kernel
theorem d_Bl_sumOf_74 : decode b_Bl_sumOf 74 = .ok (.ireturn, 1) := by decide +kernel
theorem d_Bl_sumIsRight_0 : decode b_Bl_sumIsRight 0 = .ok (.iconst 0, 1) := by decide +kernel
theorem d_Bl_sumIsRight_1 : decode b_Bl_sumIsRight 1 = .ok (.istore_n 2, 1) := by decide +kernel
theorem d_Bl_sumIsRight_2 : decode b_Bl_sumIsRight 2 = .ok (.aload_n 0, 1) := by decide +kernel
theorem d_Bl_sumIsRight_3 : decode b_Bl_sumIsRight 3 = .ok (.getfield 15, 3) := by decide +kernel
theorem d_Bl_sumIsRight_6 : decode b_Bl_sumIsRight 6 = .ok (.iconst 4, 1) := by decide +kernel
theorem d_Bl_sumIsRight_7 : decode b_Bl_sumIsRight 7 = .ok (.isub, 1) := by decide +kernel
theorem d_Bl_sumIsRight_8 : decode b_Bl_sumIsRight 8 = .ok (.istore_n 3, 1) := by decide +kernel
theorem d_Bl_sumIsRight_9 : decode b_Bl_sumIsRight 9 = .ok (.iload_n 3, 1) := by decide +kernel
theorem d_Bl_sumIsRight_10 : decode b_Bl_sumIsRight 10 = .ok (.aload_n 0, 1) := by decide +kernel
theorem d_Bl_sumIsRight_11 : decode b_Bl_sumIsRight 11 = .ok (.getfield 15, 3) := by decide +kernel
theorem d_Bl_sumIsRight_14 : decode b_Bl_sumIsRight 14 = .ok (.if_icmp .ge 21, 3) := by decide +kernel
theorem d_Bl_sumIsRight_17 : decode b_Bl_sumIsRight 17 = .ok (.iload_n 2, 1) := by decide +kernel
theorem d_Bl_sumIsRight_18 : decode b_Bl_sumIsRight 18 = .ok (.bipush 8, 2) := by decide +kernel
theorem d_Bl_sumIsRight_20 : decode b_Bl_sumIsRight 20 = .ok (.ishl, 1) := by decide +kernel
theorem d_Bl_sumIsRight_21 : decode b_Bl_sumIsRight 21 = .ok (.aload_n 0, 1) := by decide +kernel
theorem d_Bl_sumIsRight_22 : decode b_Bl_sumIsRight 22 = .ok (.iload_n 1, 1) := by decide +kernel
theorem d_Bl_sumIsRight_23 : decode b_Bl_sumIsRight 23 = .ok (.iload_n 3, 1) := by decide +kernel
theorem d_Bl_sumIsRight_24 : decode b_Bl_sumIsRight 24 = .ok (.invokevirtual 24, 3) := by decide +kernel
theorem d_Bl_sumIsRight_27 : decode b_Bl_sumIsRight 27 = .ok (.ior, 1) := by decide +kernel
theorem d_Bl_sumIsRight_28 : decode b_Bl_sumIsRight 28 = .ok (.istore_n 2, 1) := by decide +kernel
theorem d_Bl_sumIsRight_29 : decode b_Bl_sumIsRight 29 = .ok (.iinc 3 1, 3) := by decide +kernel
theorem d_Bl_sumIsRight_32 : decode b_Bl_sumIsRight 32 = .ok (.goto (-23), 3) := by decide +kernel
theorem d_Bl_sumIsRight_35 : decode b_Bl_sumIsRight 35 = .ok (.iload_n 2, 1) := by decide +kernel
theorem d_Bl_sumIsRight_36 : decode b_Bl_sumIsRight 36 = .ok (.aload_n 0, 1) := by decide +kernel
theorem d_Bl_sumIsRight_37 : decode b_Bl_sumIsRight 37 = .ok (.iload_n 1, 1) := by decide +kernel
theorem d_Bl_sumIsRight_38 : decode b_Bl_sumIsRight 38 = .ok (.aload_n 0, 1) := by decide +kernel
theorem d_Bl_sumIsRight_39 : decode b_Bl_sumIsRight 39 = .ok (.getfield 15, 3) := by decide +kernel
theorem d_Bl_sumIsRight_42 : decode b_Bl_sumIsRight 42 = .ok (.iconst 4, 1) := by decide +kernel
theorem d_Bl_sumIsRight_43 : decode b_Bl_sumIsRight 43 = .ok (.isub, 1) := by decide +kernel
theorem d_Bl_sumIsRight_44 : decode b_Bl_sumIsRight 44 = .ok (.invokevirtual 28, 3) := by decide +kernel
theorem d_Bl_sumIsRight_47 : decode b_Bl_sumIsRight 47 = .ok (.if_icmp .ne 7, 3) := by decide +kernel
theorem d_Bl_sumIsRight_50 : decode b_Bl_sumIsRight 50 = .ok (.iconst 1, 1) := by decide +kernel
theorem d_Bl_sumIsRight_51 : decode b_Bl_sumIsRight 51 = .ok (.goto 4, 3) := by decide +kernel
theorem d_Bl_sumIsRight_54 : decode b_Bl_sumIsRight 54 = .ok (.iconst 0, 1) := by decide +kernel
theorem d_Bl_sumIsRight_55 : decode b_Bl_sumIsRight 55 = .ok (.ireturn, 1) := by decide +kernel
def f_Bl_hasCell (n : Nat) (i : Int32) : Int32 :=
  if i < 0 then
    0
  else
    if nI n ≤ i then
      0
    else
      1
set_option maxHeartbeats 1000000 in
set_option maxRecDepth 100000 in
/-- hasCell -/
theorem c_Bl_hasCell (l : Launch) (D : va_G) (cI cZ cJ : ClassId) (h0 a0 n : Nat) (F : Nat → Int32) (sz : Int32) (i : Int32) (hn : n < 2 ^ 31) : sf_M (S := Int32) l D classes (sf_tys cI cZ cJ) y_Bl_hasCell (sf_ws y_Bl_hasCell b_Bl_hasCell 2 (some .boolean)) 0 0 [.ref h0, .int i] [(h0, .inr (0, [.ref a0, .int sz])), (a0, .inl (cI, n, .inl F))] (fun r => some (.int r)) (fun r => r = f_Bl_hasCell n i) (fun _ => [(h0, .inr (0, [.ref a0, .int sz])), (a0, .inl (cI, n, .inl F))]) := by
  refine sf_ofW (S := Int32) (by decide) (Nat.le_of_ble_eq_true rfl) ?_
  intro p e s m below meth c A ls R args Q hR hArgs hQ hC0 hr hK hP hD hl
  obtain ⟨hx, hb, hml, hown, hts, hA, hlk⟩ := hC0
  have hS : va_S A s.heap s.heap [] := va_S.rf
  have hl : lv_has ls 2 [(0, .ref h0), (1, .int i)] := hl
  refine lv_iload_n hx hb d_Bl_hasCell_0 rfl (lv_at hl 1 rfl) ?_
  refine lv_if_lt (tgt := 17) hx hb d_Bl_hasCell_1 (by decide) (fun c_1 => ?_) (fun c_1 => ?_)
  · refine lv_iconst (v := 0) hx hb d_Bl_hasCell_17 (by decide) ?_
    rw [hQ]
    exact sf_iret 0 hx hb hr hlk hS sf_b0 rfl (by simp only [f_Bl_hasCell, eq_true c_1, ↓reduceIte]) hP d_Bl_hasCell_18
  · refine lv_iload_n hx hb d_Bl_hasCell_4 rfl (lv_at hl 1 rfl) ?_
    refine lv_aload_n hx hb d_Bl_hasCell_5 rfl (lv_at hl 0 rfl) ?_
    refine va_get (D := D) (ci := 0) (v := .ref a0) (C := R_Bl) (T := F_Bl) (N := 2) hx hb hts i_Bl hown hK hP 0 rfl rfl 0 (by decide) (hts _ wd_78) (fun _ h9 => h9) rfl d_Bl_hasCell_6 ?_
    refine va_alen hx hb hK hP 1 0 rfl rfl (v := nI n) rfl d_Bl_hasCell_9 ?_
    refine lv_icmp_ge (tgt := 17) hx hb d_Bl_hasCell_10 (by decide) (fun c_2 => ?_) (fun c_2 => ?_)
    · refine lv_iconst (v := 0) hx hb d_Bl_hasCell_17 (by decide) ?_
      rw [hQ]
      exact sf_iret 0 hx hb hr hlk hS sf_b0 rfl (by simp only [f_Bl_hasCell, eq_false c_1, eq_true c_2, ↓reduceIte]) hP d_Bl_hasCell_18
    · refine lv_iconst (v := 1) hx hb d_Bl_hasCell_13 (by decide) ?_
      refine lv_goto (tgt := 18) hx hb d_Bl_hasCell_14 (by decide) ?_
      rw [hQ]
      exact sf_iret 1 hx hb hr hlk hS sf_b1 rfl (by simp only [f_Bl_hasCell, eq_false c_1, eq_false c_2, ↓reduceIte]) hP d_Bl_hasCell_18
def f_Bl_hasBlock (n : Nat) (sz b : Int32) : Int32 :=
  if b < 0 then
    0
  else
    if nI n ≤ b then
      0
    else
      if (f_Bl_hasCell n (((b * sz) + sz) - 1)) = 0 then
        0
      else
        1
set_option maxHeartbeats 1000000 in
set_option maxRecDepth 100000 in
/-- hasBlock -/
theorem c_Bl_hasBlock (l : Launch) (D : va_G) (cI cZ cJ : ClassId) (h0 a0 n : Nat) (F : Nat → Int32) (sz : Int32) (b : Int32) (hn : n < 2 ^ 31) : sf_M (S := Int32) l D classes (sf_tys cI cZ cJ) y_Bl_hasBlock (sf_ws y_Bl_hasBlock b_Bl_hasBlock 2 (some .boolean)) 1 21 [.ref h0, .int b] [(h0, .inr (0, [.ref a0, .int sz])), (a0, .inl (cI, n, .inl F))] (fun r => some (.int r)) (fun r => r = f_Bl_hasBlock n sz b) (fun _ => [(h0, .inr (0, [.ref a0, .int sz])), (a0, .inl (cI, n, .inl F))]) := by
  refine sf_ofW (S := Int32) (by decide) (Nat.le_of_ble_eq_true rfl) ?_
  intro p e s m below meth c A ls R args Q hR hArgs hQ hC0 hr hK hP hD hl
  obtain ⟨hx, hb, hml, hown, hts, hA, hlk⟩ := hC0
  have hS : va_S A s.heap s.heap [] := va_S.rf
  have hl : lv_has ls 2 [(0, .ref h0), (1, .int b)] := hl
  refine lv_iload_n hx hb d_Bl_hasBlock_0 rfl (lv_at hl 1 rfl) ?_
  refine lv_if_lt (tgt := 37) hx hb d_Bl_hasBlock_1 (by decide) (fun c_1 => ?_) (fun c_1 => ?_)
  · refine lv_iconst (v := 0) hx hb d_Bl_hasBlock_37 (by decide) ?_
    rw [hQ]
    exact sf_iret 0 hx hb hr hlk hS sf_b0 rfl (by simp only [f_Bl_hasBlock, eq_true c_1, ↓reduceIte]) hP d_Bl_hasBlock_38
  · refine lv_iload_n hx hb d_Bl_hasBlock_4 rfl (lv_at hl 1 rfl) ?_
    refine lv_aload_n hx hb d_Bl_hasBlock_5 rfl (lv_at hl 0 rfl) ?_
    refine va_get (D := D) (ci := 0) (v := .ref a0) (C := R_Bl) (T := F_Bl) (N := 2) hx hb hts i_Bl hown hK hP 0 rfl rfl 0 (by decide) (hts _ wd_78) (fun _ h9 => h9) rfl d_Bl_hasBlock_6 ?_
    refine va_alen hx hb hK hP 1 0 rfl rfl (v := nI n) rfl d_Bl_hasBlock_9 ?_
    refine lv_icmp_ge (tgt := 37) hx hb d_Bl_hasBlock_10 (by decide) (fun c_2 => ?_) (fun c_2 => ?_)
    · refine lv_iconst (v := 0) hx hb d_Bl_hasBlock_37 (by decide) ?_
      rw [hQ]
      exact sf_iret 0 hx hb hr hlk hS sf_b0 rfl (by simp only [f_Bl_hasBlock, eq_false c_1, eq_true c_2, ↓reduceIte]) hP d_Bl_hasBlock_38
    · refine lv_aload_n hx hb d_Bl_hasBlock_13 rfl (lv_at hl 0 rfl) ?_
      refine lv_iload_n hx hb d_Bl_hasBlock_14 rfl (lv_at hl 1 rfl) ?_
      refine lv_aload_n hx hb d_Bl_hasBlock_15 rfl (lv_at hl 0 rfl) ?_
      refine va_get (D := D) (ci := 0) (v := .int sz) (C := R_Bl) (T := F_Bl) (N := 2) hx hb hts i_Bl hown hK hP 0 rfl rfl 1 (by decide) (hts _ wd_79) (fun _ h9 => h9) rfl d_Bl_hasBlock_16 ?_
      refine lv_imul hx hb d_Bl_hasBlock_19 ?_
      refine lv_aload_n hx hb d_Bl_hasBlock_20 rfl (lv_at hl 0 rfl) ?_
      refine va_get (D := D) (ci := 0) (v := .int sz) (C := R_Bl) (T := F_Bl) (N := 2) hx hb hts i_Bl hown hK hP 0 rfl rfl 1 (by decide) (hts _ wd_79) (fun _ h9 => h9) rfl d_Bl_hasBlock_21 ?_
      refine lv_iadd hx hb d_Bl_hasBlock_24 ?_
      refine lv_iconst (v := 1) hx hb d_Bl_hasBlock_25 (by decide) ?_
      refine lv_isub hx hb d_Bl_hasBlock_26 ?_
      refine sf_callVr (S := Int32) (rest := []) ⟨hx, hb, hml, hown, hts⟩ (c_Bl_hasCell l D cI cZ cJ h0 a0 n F sz (((b * sz) + sz) - 1) hn) (sf_cwV lk_Bl_19 hts (fun _ h => h) (by rw [hR]; exact ⟨Nat.le_of_ble_eq_true rfl, Nat.le_of_ble_eq_true rfl⟩)) hK hP hD hS hA [0, 1] rfl rfl (fun _ => rfl) (ci := 0) (q0 := 0) rfl rfl rfl rfl rfl hl.1 (Nat.le_of_ble_eq_true rfl) d_Bl_hasBlock_27 ⟨Nat.zero_le _, Nat.zero_le _⟩ (fun u_3 H locs hu_3 hP hS => ?_)
      refine lv_if_eq (tgt := 37) hx hb d_Bl_hasBlock_30 (by decide) (fun c_4 => ?_) (fun c_4 => ?_)
      · refine lv_iconst (v := 0) hx hb d_Bl_hasBlock_37 (by decide) ?_
        rw [hQ]
        exact sf_iret 0 hx hb hr hlk hS sf_b0 rfl (by simp only [f_Bl_hasBlock, ← hu_3, eq_false c_1, eq_false c_2, eq_true c_4, ↓reduceIte]) hP d_Bl_hasBlock_38
      · refine lv_iconst (v := 1) hx hb d_Bl_hasBlock_33 (by decide) ?_
        refine lv_goto (tgt := 38) hx hb d_Bl_hasBlock_34 (by decide) ?_
        rw [hQ]
        exact sf_iret 1 hx hb hr hlk hS sf_b1 rfl (by simp only [f_Bl_hasBlock, ← hu_3, eq_false c_1, eq_false c_2, eq_false c_4, ↓reduceIte]) hP d_Bl_hasBlock_38
def f_Bl_get (n : Nat) (F : Nat → Int32) (sz b i : Int32) : Int32 :=
  if ((b * sz) + i) < 0 then
    0
  else
    if nI n ≤ ((b * sz) + i) then
      0
    else
      (F ((b * sz) + i).toNatClampNeg)
set_option maxHeartbeats 1000000 in
set_option maxRecDepth 100000 in
/-- get -/
theorem c_Bl_get (l : Launch) (D : va_G) (cI cZ cJ : ClassId) (h0 a0 n : Nat) (F : Nat → Int32) (sz : Int32) (b i : Int32) (hn : n < 2 ^ 31) : sf_M (S := Int32) l D classes (sf_tys cI cZ cJ) y_Bl_get (sf_ws y_Bl_get b_Bl_get 4 (some .int)) 0 0 [.ref h0, .int b, .int i] [(h0, .inr (0, [.ref a0, .int sz])), (a0, .inl (cI, n, .inl F))] (fun r => some (.int r)) (fun r => r = f_Bl_get n F sz b i) (fun _ => [(h0, .inr (0, [.ref a0, .int sz])), (a0, .inl (cI, n, .inl F))]) := by
  refine sf_ofW (S := Int32) (by decide) (Nat.le_of_ble_eq_true rfl) ?_
  intro p e s m below meth c A ls R args Q hR hArgs hQ hC0 hr hK hP hD hl
  obtain ⟨hx, hb, hml, hown, hts, hA, hlk⟩ := hC0
  have hS : va_S A s.heap s.heap [] := va_S.rf
  have hl : lv_has ls 4 [(0, .ref h0), (1, .int b), (2, .int i)] := hl
  refine lv_iload_n hx hb d_Bl_get_0 rfl (lv_at hl 1 rfl) ?_
  refine lv_aload_n hx hb d_Bl_get_1 rfl (lv_at hl 0 rfl) ?_
  refine va_get (D := D) (ci := 0) (v := .int sz) (C := R_Bl) (T := F_Bl) (N := 2) hx hb hts i_Bl hown hK hP 0 rfl rfl 1 (by decide) (hts _ wd_79) (fun _ h9 => h9) rfl d_Bl_get_2 ?_
  refine lv_imul hx hb d_Bl_get_5 ?_
  refine lv_iload_n hx hb d_Bl_get_6 rfl (lv_at hl 2 rfl) ?_
  refine lv_iadd hx hb d_Bl_get_7 ?_
  refine lv_istore_n (lv' := [(3, .int ((b * sz) + i)), (0, .ref h0), (1, .int b), (2, .int i)]) hx hb d_Bl_get_8 rfl hl (by decide) rfl (fun ls hl => ?_)
  refine lv_iload_n hx hb d_Bl_get_9 rfl (lv_at hl 0 rfl) ?_
  refine lv_if_lt (tgt := 31) hx hb d_Bl_get_10 (by decide) (fun c_1 => ?_) (fun c_1 => ?_)
  · refine lv_iconst (v := 0) hx hb d_Bl_get_31 (by decide) ?_
    rw [hQ]
    exact sf_iret 0 hx hb hr hlk hS rfl rfl (by simp only [f_Bl_get, eq_true c_1, ↓reduceIte]) hP d_Bl_get_32
  · refine lv_iload_n hx hb d_Bl_get_13 rfl (lv_at hl 0 rfl) ?_
    refine lv_aload_n hx hb d_Bl_get_14 rfl (lv_at hl 1 rfl) ?_
    refine va_get (D := D) (ci := 0) (v := .ref a0) (C := R_Bl) (T := F_Bl) (N := 2) hx hb hts i_Bl hown hK hP 0 rfl rfl 0 (by decide) (hts _ wd_78) (fun _ h9 => h9) rfl d_Bl_get_15 ?_
    refine va_alen hx hb hK hP 1 0 rfl rfl (v := nI n) rfl d_Bl_get_18 ?_
    refine lv_icmp_ge (tgt := 31) hx hb d_Bl_get_19 (by decide) (fun c_2 => ?_) (fun c_2 => ?_)
    · refine lv_iconst (v := 0) hx hb d_Bl_get_31 (by decide) ?_
      rw [hQ]
      exact sf_iret 0 hx hb hr hlk hS rfl rfl (by simp only [f_Bl_get, eq_false c_1, eq_true c_2, ↓reduceIte]) hP d_Bl_get_32
    · refine lv_aload_n hx hb d_Bl_get_22 rfl (lv_at hl 1 rfl) ?_
      refine va_get (D := D) (ci := 0) (v := .ref a0) (C := R_Bl) (T := F_Bl) (N := 2) hx hb hts i_Bl hown hK hP 0 rfl rfl 0 (by decide) (hts _ wd_78) (fun _ h9 => h9) rfl d_Bl_get_23 ?_
      refine lv_iload_n hx hb d_Bl_get_26 rfl (lv_at hl 0 rfl) ?_
      refine va_iald hx hb hK hP 1 0 rfl rfl (sf_in (n := n) c_1 c_2 hn) d_Bl_get_27 ?_
      refine lv_goto (tgt := 32) hx hb d_Bl_get_28 (by decide) ?_
      rw [hQ]
      exact sf_iret (F ((b * sz) + i).toNatClampNeg) hx hb hr hlk hS rfl rfl (by simp only [f_Bl_get, eq_false c_1, eq_false c_2, ↓reduceIte]) hP d_Bl_get_32
def f_Bl_set (n : Nat) (F : Nat → Int32) (sz b i v : Int32) : (Nat → Int32) :=
  if ((b * sz) + i) < 0 then
    F
  else
    if nI n ≤ ((b * sz) + i) then
      F
    else
      (upd F (((b * sz) + i).toNatClampNeg) (v &&& 255))
set_option maxHeartbeats 1000000 in
set_option maxRecDepth 100000 in
/-- set -/
theorem c_Bl_set (l : Launch) (D : va_G) (cI cZ cJ : ClassId) (h0 a0 n : Nat) (F : Nat → Int32) (sz : Int32) (b i v : Int32) (hn : n < 2 ^ 31) : sf_M (S := (Nat → Int32)) l D classes (sf_tys cI cZ cJ) y_Bl_set (sf_ws y_Bl_set b_Bl_set 5 none) 0 0 [.ref h0, .int b, .int i, .int v] [(h0, .inr (0, [.ref a0, .int sz])), (a0, .inl (cI, n, .inl F))] (fun _ => none) (fun r => r = f_Bl_set n F sz b i v) (fun r => [(h0, .inr (0, [.ref a0, .int sz])), (a0, .inl (cI, n, .inl r))]) := by
  refine sf_ofW (S := (Nat → Int32)) (by decide) (Nat.le_of_ble_eq_true rfl) ?_
  intro p e s m below meth c A ls R args Q hR hArgs hQ hC0 hr hK hP hD hl
  obtain ⟨hx, hb, hml, hown, hts, hA, hlk⟩ := hC0
  have hS : va_S A s.heap s.heap [] := va_S.rf
  have hl : lv_has ls 5 [(0, .ref h0), (1, .int b), (2, .int i), (3, .int v)] := hl
  refine lv_iload_n hx hb d_Bl_set_0 rfl (lv_at hl 1 rfl) ?_
  refine lv_aload_n hx hb d_Bl_set_1 rfl (lv_at hl 0 rfl) ?_
  refine va_get (D := D) (ci := 0) (v := .int sz) (C := R_Bl) (T := F_Bl) (N := 2) hx hb hts i_Bl hown hK hP 0 rfl rfl 1 (by decide) (hts _ wd_79) (fun _ h9 => h9) rfl d_Bl_set_2 ?_
  refine lv_imul hx hb d_Bl_set_5 ?_
  refine lv_iload_n hx hb d_Bl_set_6 rfl (lv_at hl 2 rfl) ?_
  refine lv_iadd hx hb d_Bl_set_7 ?_
  refine lv_istore (lv' := [(4, .int ((b * sz) + i)), (0, .ref h0), (1, .int b), (2, .int i), (3, .int v)]) hx hb d_Bl_set_8 hl (by decide) rfl (fun ls hl => ?_)
  refine lv_iload hx hb d_Bl_set_10 (lv_at hl 0 rfl) ?_
  refine lv_if_lt (tgt := 37) hx hb d_Bl_set_12 (by decide) (fun c_1 => ?_) (fun c_1 => ?_)
  · rw [hQ]
    exact sf_vret F hx hb hr hlk hS rfl (by simp only [f_Bl_set, eq_true c_1, ↓reduceIte]) hP d_Bl_set_37
  · refine lv_iload hx hb d_Bl_set_15 (lv_at hl 0 rfl) ?_
    refine lv_aload_n hx hb d_Bl_set_17 rfl (lv_at hl 1 rfl) ?_
    refine va_get (D := D) (ci := 0) (v := .ref a0) (C := R_Bl) (T := F_Bl) (N := 2) hx hb hts i_Bl hown hK hP 0 rfl rfl 0 (by decide) (hts _ wd_78) (fun _ h9 => h9) rfl d_Bl_set_18 ?_
    refine va_alen hx hb hK hP 1 0 rfl rfl (v := nI n) rfl d_Bl_set_21 ?_
    refine lv_icmp_ge (tgt := 37) hx hb d_Bl_set_22 (by decide) (fun c_2 => ?_) (fun c_2 => ?_)
    · rw [hQ]
      exact sf_vret F hx hb hr hlk hS rfl (by simp only [f_Bl_set, eq_false c_1, eq_true c_2, ↓reduceIte]) hP d_Bl_set_37
    · refine lv_aload_n hx hb d_Bl_set_25 rfl (lv_at hl 1 rfl) ?_
      refine va_get (D := D) (ci := 0) (v := .ref a0) (C := R_Bl) (T := F_Bl) (N := 2) hx hb hts i_Bl hown hK hP 0 rfl rfl 0 (by decide) (hts _ wd_78) (fun _ h9 => h9) rfl d_Bl_set_26 ?_
      refine lv_iload hx hb d_Bl_set_29 (lv_at hl 0 rfl) ?_
      refine lv_iload_n hx hb d_Bl_set_31 rfl (lv_at hl 4 rfl) ?_
      refine lv_sipush (v := 255) hx hb d_Bl_set_32 (by decide) ?_
      refine lv_iand hx hb d_Bl_set_35 ?_
      refine va_iast hx hb hK hP hD hS 1 0 rfl rfl (sf_in (n := n) c_1 c_2 hn) d_Bl_set_36 (fun H locs hP hD hS => ?_)
      have hP : va_P D classes [(h0, .inr (0, [.ref a0, .int sz])), (a0, .inl (cI, n, .inl (upd F (((b * sz) + i).toNatClampNeg) (v &&& 255))))] H := hP
      have hD : va_D A [(h0, .inr (0, [.ref a0, .int sz])), (a0, .inl (cI, n, .inl (upd F (((b * sz) + i).toNatClampNeg) (v &&& 255))))] := hD
      rw [hQ]
      exact sf_vret (upd F (((b * sz) + i).toNatClampNeg) (v &&& 255)) hx hb hr hlk hS rfl (by simp only [f_Bl_set, eq_false c_1, eq_false c_2, ↓reduceIte]) hP d_Bl_set_37
def f_Bl_sumOf_l (F : Nat → Int32) (sz b : Int32) (N : Nat) : Nat → Nat → Int32 → Int32
  | 0, _, _ => 0
  | fu + 1, k, sm =>
    if (nI N) ≤ (nI k) then
      sm
    else
      f_Bl_sumOf_l F sz b N fu (k + 1) ((((sm ^^^ (F ((b * sz) + (nI k)).toNatClampNeg)) <<< (23 &&& 31)) ||| (sf_ushr (sm ^^^ (F ((b * sz) + (nI k)).toNatClampNeg)) 9)) * (-1640531535))
def f_Bl_sumOf (n : Nat) (F : Nat → Int32) (sz b : Int32) (N : Nat) : Int32 :=
  if (b * sz) < 0 then
    0
  else
    if (b * sz) ≤ (nI n - (nI N)) then
      f_Bl_sumOf_l F sz b N (N + 1) 0 0
    else
      0
set_option maxHeartbeats 1000000 in
set_option maxRecDepth 100000 in
/-- sumOf, of N bytes -/
theorem c_Bl_sumOf (l : Launch) (D : va_G) (cI cZ cJ : ClassId) (h0 a0 n : Nat) (F : Nat → Int32) (sz : Int32) (b : Int32) (N : Nat) (hn : n < 2 ^ 31) (hN : N ≤ n) : sf_M (S := Int32) l D classes (sf_tys cI cZ cJ) y_Bl_sumOf (sf_ws y_Bl_sumOf b_Bl_sumOf 7 (some .int)) 0 0 [.ref h0, .int b, .int (nI N)] [(h0, .inr (0, [.ref a0, .int sz])), (a0, .inl (cI, n, .inl F))] (fun r => some (.int r)) (fun r => r = f_Bl_sumOf n F sz b N) (fun _ => [(h0, .inr (0, [.ref a0, .int sz])), (a0, .inl (cI, n, .inl F))]) := by
  refine sf_ofW (S := Int32) (by decide) (Nat.le_of_ble_eq_true rfl) ?_
  intro p e s m below meth c A ls R args Q hR hArgs hQ hC0 hr hK hP hD hl
  obtain ⟨hx, hb, hml, hown, hts, hA, hlk⟩ := hC0
  have hS : va_S A s.heap s.heap [] := va_S.rf
  have hl : lv_has ls 7 [(0, .ref h0), (1, .int b), (2, .int (nI N))] := hl
  refine lv_iload_n hx hb d_Bl_sumOf_0 rfl (lv_at hl 1 rfl) ?_
  refine lv_aload_n hx hb d_Bl_sumOf_1 rfl (lv_at hl 0 rfl) ?_
  refine va_get (D := D) (ci := 0) (v := .int sz) (C := R_Bl) (T := F_Bl) (N := 2) hx hb hts i_Bl hown hK hP 0 rfl rfl 1 (by decide) (hts _ wd_79) (fun _ h9 => h9) rfl d_Bl_sumOf_2 ?_
  refine lv_imul hx hb d_Bl_sumOf_5 ?_
  refine lv_istore_n (lv' := [(3, .int (b * sz)), (0, .ref h0), (1, .int b), (2, .int (nI N))]) hx hb d_Bl_sumOf_6 rfl hl (by decide) rfl (fun ls hl => ?_)
  refine lv_iload_n hx hb d_Bl_sumOf_7 rfl (lv_at hl 0 rfl) ?_
  refine lv_if_lt (tgt := 22) hx hb d_Bl_sumOf_8 (by decide) (fun c_1 => ?_) (fun c_1 => ?_)
  · refine lv_iconst (v := 0) hx hb d_Bl_sumOf_22 (by decide) ?_
    rw [hQ]
    exact sf_iret 0 hx hb hr hlk hS rfl rfl (by simp only [f_Bl_sumOf, eq_true c_1, ↓reduceIte]) hP d_Bl_sumOf_23
  · refine lv_iload_n hx hb d_Bl_sumOf_11 rfl (lv_at hl 0 rfl) ?_
    refine lv_aload_n hx hb d_Bl_sumOf_12 rfl (lv_at hl 1 rfl) ?_
    refine va_get (D := D) (ci := 0) (v := .ref a0) (C := R_Bl) (T := F_Bl) (N := 2) hx hb hts i_Bl hown hK hP 0 rfl rfl 0 (by decide) (hts _ wd_78) (fun _ h9 => h9) rfl d_Bl_sumOf_13 ?_
    refine va_alen hx hb hK hP 1 0 rfl rfl (v := nI n) rfl d_Bl_sumOf_16 ?_
    refine lv_iload_n hx hb d_Bl_sumOf_17 rfl (lv_at hl 3 rfl) ?_
    refine lv_isub hx hb d_Bl_sumOf_18 ?_
    refine lv_icmp_le (tgt := 24) hx hb d_Bl_sumOf_19 (by decide) (fun c_2 => ?_) (fun c_2 => ?_)
    · refine lv_iconst (v := 0) hx hb d_Bl_sumOf_24 (by decide) ?_
      refine lv_istore (lv' := [(4, .int 0), (3, .int (b * sz)), (0, .ref h0), (1, .int b), (2, .int (nI N))]) hx hb d_Bl_sumOf_25 hl (by decide) rfl (fun ls hl => ?_)
      refine lv_iconst (v := 0) hx hb d_Bl_sumOf_27 (by decide) ?_
      refine lv_istore (lv' := [(5, .int 0), (4, .int 0), (3, .int (b * sz)), (0, .ref h0), (1, .int b), (2, .int (nI N))]) hx hb d_Bl_sumOf_28 hl (by decide) rfl (fun ls hl => ?_)
      have loop30 : ∀ (fu k : Nat) (sm : Int32), k ≤ N → k + fu = N + 1 → f_Bl_sumOf_l F sz b N fu k sm = f_Bl_sumOf n F sz b N → ∀ (H : Heap) (locs : List Loc), va_P D classes [(h0, .inr (0, [.ref a0, .int sz])), (a0, .inl (cI, n, .inl F))] H → va_D A [(h0, .inr (0, [.ref a0, .int sz])), (a0, .inl (cI, n, .inl F))] → va_S A s.heap H locs → ∀ (ls : Array Slot), lv_has ls 7 [(0, .ref h0), (1, .int b), (2, .int (nI N)), (3, .int (b * sz)), (4, .int sm), (5, .int (nI k))] → W p l e R s m args below meth c H locs 0 0 Q (F0 m 30 ls []) := by
        intro fu
        induction fu with
        | zero =>
          intro k sm h1 h2
          exact absurd h2 (by omega)
        | succ fu ih30 =>
          intro k sm hk30 hkn30 heq30 H locs hP hD hS ls hl
          refine lv_iload hx hb d_Bl_sumOf_30 (lv_at hl 5 rfl) ?_
          refine lv_iload_n hx hb d_Bl_sumOf_32 rfl (lv_at hl 2 rfl) ?_
          refine lv_icmp_ge (tgt := 72) hx hb d_Bl_sumOf_33 (by decide) (fun c_3 => ?_) (fun c_3 => ?_)
          · refine lv_iload hx hb d_Bl_sumOf_72 (lv_at hl 4 rfl) ?_
            rw [hQ]
            exact sf_iret sm hx hb hr hlk hS rfl rfl (by rw [← heq30]; simp only [f_Bl_sumOf_l, eq_true c_3, ↓reduceIte]) hP d_Bl_sumOf_74
          · have hlt : k < N := sf_lt_of (N := N) (by omega) (by omega) c_3
            refine lv_iload hx hb d_Bl_sumOf_36 (lv_at hl 4 rfl) ?_
            refine lv_aload_n hx hb d_Bl_sumOf_38 rfl (lv_at hl 0 rfl) ?_
            refine va_get (D := D) (ci := 0) (v := .ref a0) (C := R_Bl) (T := F_Bl) (N := 2) hx hb hts i_Bl hown hK hP 0 rfl rfl 0 (by decide) (hts _ wd_78) (fun _ h9 => h9) rfl d_Bl_sumOf_39 ?_
            refine lv_iload_n hx hb d_Bl_sumOf_42 rfl (lv_at hl 3 rfl) ?_
            refine lv_iload hx hb d_Bl_sumOf_43 (lv_at hl 5 rfl) ?_
            refine lv_iadd hx hb d_Bl_sumOf_45 ?_
            refine va_iald hx hb hK hP 1 0 rfl rfl (sf_sumin c_1 c_2 hN hn hlt) d_Bl_sumOf_46 ?_
            refine lv_ixor hx hb d_Bl_sumOf_47 ?_
            refine lv_istore (lv' := [(6, .int (sm ^^^ (F ((b * sz) + (nI k)).toNatClampNeg))), (0, .ref h0), (1, .int b), (2, .int (nI N)), (3, .int (b * sz)), (4, .int sm), (5, .int (nI k))]) hx hb d_Bl_sumOf_48 hl (by decide) rfl (fun ls hl => ?_)
            refine lv_iload hx hb d_Bl_sumOf_50 (lv_at hl 0 rfl) ?_
            refine lv_bipush (v := 23) hx hb d_Bl_sumOf_52 (by decide) ?_
            refine lv_ishl hx hb d_Bl_sumOf_54 ?_
            refine lv_iload hx hb d_Bl_sumOf_55 (lv_at hl 0 rfl) ?_
            refine lv_bipush (v := 9) hx hb d_Bl_sumOf_57 (by decide) ?_
            refine lv_iushr (v := (sf_ushr (sm ^^^ (F ((b * sz) + (nI k)).toNatClampNeg)) 9)) hx hb d_Bl_sumOf_59 rfl ?_
            refine lv_ior hx hb d_Bl_sumOf_60 ?_
            refine lv_ldc (v := (-1640531535)) hx hb hown (hts _ wd_186) d_Bl_sumOf_61 ?_
            refine lv_imul hx hb d_Bl_sumOf_63 ?_
            refine lv_istore (lv' := [(4, .int ((((sm ^^^ (F ((b * sz) + (nI k)).toNatClampNeg)) <<< (23 &&& 31)) ||| (sf_ushr (sm ^^^ (F ((b * sz) + (nI k)).toNatClampNeg)) 9)) * (-1640531535))), (6, .int (sm ^^^ (F ((b * sz) + (nI k)).toNatClampNeg))), (0, .ref h0), (1, .int b), (2, .int (nI N)), (3, .int (b * sz)), (5, .int (nI k))]) hx hb d_Bl_sumOf_64 hl (by decide) rfl (fun ls hl => ?_)
            refine lv_iinc (v := (nI (k + 1))) (lv' := [(5, .int (nI (k + 1))), (4, .int ((((sm ^^^ (F ((b * sz) + (nI k)).toNatClampNeg)) <<< (23 &&& 31)) ||| (sf_ushr (sm ^^^ (F ((b * sz) + (nI k)).toNatClampNeg)) 9)) * (-1640531535))), (6, .int (sm ^^^ (F ((b * sz) + (nI k)).toNatClampNeg))), (0, .ref h0), (1, .int b), (2, .int (nI N)), (3, .int (b * sz))]) hx hb d_Bl_sumOf_66 hl (k := 6) rfl (nI_1 k) (by decide) rfl (fun ls hl => ?_)
            refine lv_goto (tgt := 30) hx hb d_Bl_sumOf_69 (by decide) ?_
            exact ih30 (k + 1) ((((sm ^^^ (F ((b * sz) + (nI k)).toNatClampNeg)) <<< (23 &&& 31)) ||| (sf_ushr (sm ^^^ (F ((b * sz) + (nI k)).toNatClampNeg)) 9)) * (-1640531535)) (by omega) (by omega) (by rw [← heq30]; simp only [f_Bl_sumOf_l, eq_false c_3, ↓reduceIte]) _ _ hP hD hS ls (lv_sub hl [3, 4, 5, 6, 1, 0] rfl)
      exact loop30 (N + 1) 0 0 (by omega) (by omega) (by simp only [f_Bl_sumOf, eq_false c_1, eq_true c_2, ↓reduceIte]) _ _ hP hD hS ls (lv_sub hl [3, 4, 5, 2, 1, 0] rfl)
    · refine lv_iconst (v := 0) hx hb d_Bl_sumOf_22 (by decide) ?_
      rw [hQ]
      exact sf_iret 0 hx hb hr hlk hS rfl rfl (by simp only [f_Bl_sumOf, eq_false c_1, eq_false c_2, ↓reduceIte]) hP d_Bl_sumOf_23
def f_Bl_sumIsRight_l (n : Nat) (F : Nat → Int32) (b : Int32) (N : Nat) : Nat → Nat → Int32 → Int32
  | 0, _, _ => 0
  | fu + 1, k, hd =>
    if (nI (N + 4)) ≤ (nI (N + k)) then
      if hd = (f_Bl_sumOf n F (nI (N + 4)) b N) then
        1
      else
        0
    else
      f_Bl_sumIsRight_l n F b N fu (k + 1) ((hd <<< (8 &&& 31)) ||| (f_Bl_get n F (nI (N + 4)) b (nI (N + k))))
def f_Bl_sumIsRight (n : Nat) (F : Nat → Int32) (b : Int32) (N : Nat) : Int32 :=
  f_Bl_sumIsRight_l n F b N (4 + 1) 0 0
set_option maxHeartbeats 1000000 in
set_option maxRecDepth 100000 in
/-- sumIsRight -/
theorem c_Bl_sumIsRight (l : Launch) (D : va_G) (cI cZ cJ : ClassId) (h0 a0 n : Nat) (F : Nat → Int32) (b : Int32) (N : Nat) (hn : n < 2 ^ 31) (hN : N + 4 ≤ n) : sf_M (S := Int32) l D classes (sf_tys cI cZ cJ) y_Bl_sumIsRight (sf_ws y_Bl_sumIsRight b_Bl_sumIsRight 4 (some .boolean)) 1 26 [.ref h0, .int b] [(h0, .inr (0, [.ref a0, .int (nI (N + 4))])), (a0, .inl (cI, n, .inl F))] (fun r => some (.int r)) (fun r => r = f_Bl_sumIsRight n F b N) (fun _ => [(h0, .inr (0, [.ref a0, .int (nI (N + 4))])), (a0, .inl (cI, n, .inl F))]) := by
  refine sf_ofW (S := Int32) (by decide) (Nat.le_of_ble_eq_true rfl) ?_
  intro p e s m below meth c A ls R args Q hR hArgs hQ hC0 hr hK hP hD hl
  obtain ⟨hx, hb, hml, hown, hts, hA, hlk⟩ := hC0
  have hS : va_S A s.heap s.heap [] := va_S.rf
  have hl : lv_has ls 4 [(0, .ref h0), (1, .int b)] := hl
  refine lv_iconst (v := 0) hx hb d_Bl_sumIsRight_0 (by decide) ?_
  refine lv_istore_n (lv' := [(2, .int 0), (0, .ref h0), (1, .int b)]) hx hb d_Bl_sumIsRight_1 rfl hl (by decide) rfl (fun ls hl => ?_)
  refine lv_aload_n hx hb d_Bl_sumIsRight_2 rfl (lv_at hl 1 rfl) ?_
  refine va_get (D := D) (ci := 0) (v := .int (nI (N + 4))) (C := R_Bl) (T := F_Bl) (N := 2) hx hb hts i_Bl hown hK hP 0 rfl rfl 1 (by decide) (hts _ wd_79) (fun _ h9 => h9) rfl d_Bl_sumIsRight_3 ?_
  refine lv_iconst (v := 4) hx hb d_Bl_sumIsRight_6 (by decide) ?_
  refine lv_isub hx hb d_Bl_sumIsRight_7 ?_
  refine lv_istore_n (lv' := [(3, .int ((nI (N + 4)) - 4)), (2, .int 0), (0, .ref h0), (1, .int b)]) hx hb d_Bl_sumIsRight_8 rfl hl (by decide) rfl (fun ls hl => ?_)
  have loop9 : ∀ (fu k : Nat) (hd : Int32), k ≤ 4 → k + fu = 4 + 1 → f_Bl_sumIsRight_l n F b N fu k hd = f_Bl_sumIsRight n F b N → ∀ (H : Heap) (locs : List Loc), va_P D classes [(h0, .inr (0, [.ref a0, .int (nI (N + 4))])), (a0, .inl (cI, n, .inl F))] H → va_D A [(h0, .inr (0, [.ref a0, .int (nI (N + 4))])), (a0, .inl (cI, n, .inl F))] → va_S A s.heap H locs → ∀ (ls : Array Slot), lv_has ls 4 [(0, .ref h0), (1, .int b), (2, .int hd), (3, .int (nI (N + k)))] → W p l e R s m args below meth c H locs 0 0 Q (F0 m 9 ls []) := by
    intro fu
    induction fu with
    | zero =>
      intro k hd h1 h2
      exact absurd h2 (by omega)
    | succ fu ih9 =>
      intro k hd hk9 hkn9 heq9 H locs hP hD hS ls hl
      refine lv_iload_n hx hb d_Bl_sumIsRight_9 rfl (lv_at hl 3 rfl) ?_
      refine lv_aload_n hx hb d_Bl_sumIsRight_10 rfl (lv_at hl 0 rfl) ?_
      refine va_get (D := D) (ci := 0) (v := .int (nI (N + 4))) (C := R_Bl) (T := F_Bl) (N := 2) hx hb hts i_Bl hown hK hP 0 rfl rfl 1 (by decide) (hts _ wd_79) (fun _ h9 => h9) rfl d_Bl_sumIsRight_11 ?_
      refine lv_icmp_ge (tgt := 35) hx hb d_Bl_sumIsRight_14 (by decide) (fun c_1 => ?_) (fun c_1 => ?_)
      · refine lv_iload_n hx hb d_Bl_sumIsRight_35 rfl (lv_at hl 2 rfl) ?_
        refine lv_aload_n hx hb d_Bl_sumIsRight_36 rfl (lv_at hl 0 rfl) ?_
        refine lv_iload_n hx hb d_Bl_sumIsRight_37 rfl (lv_at hl 1 rfl) ?_
        refine lv_aload_n hx hb d_Bl_sumIsRight_38 rfl (lv_at hl 0 rfl) ?_
        refine va_get (D := D) (ci := 0) (v := .int (nI (N + 4))) (C := R_Bl) (T := F_Bl) (N := 2) hx hb hts i_Bl hown hK hP 0 rfl rfl 1 (by decide) (hts _ wd_79) (fun _ h9 => h9) rfl d_Bl_sumIsRight_39 ?_
        refine lv_iconst (v := 4) hx hb d_Bl_sumIsRight_42 (by decide) ?_
        refine lv_isub hx hb d_Bl_sumIsRight_43 ?_
        rw [sf_m4]
        refine sf_callVr (S := Int32) (rest := [.int hd]) ⟨hx, hb, hml, hown, hts⟩ (c_Bl_sumOf l D cI cZ cJ h0 a0 n F (nI (N + 4)) b N hn (by omega)) (sf_cwV lk_Bl_28 hts (fun _ h => h) (by rw [hR]; exact ⟨Nat.le_of_ble_eq_true rfl, Nat.le_of_ble_eq_true rfl⟩)) hK hP hD hS hA [0, 1] rfl rfl (fun _ => rfl) (ci := 0) (q0 := 0) rfl rfl rfl rfl rfl hl.1 (Nat.le_of_ble_eq_true rfl) d_Bl_sumIsRight_44 ⟨Nat.zero_le _, Nat.zero_le _⟩ (fun u_2 H locs hu_2 hP hS => ?_)
        refine lv_icmp_ne (tgt := 54) hx hb d_Bl_sumIsRight_47 (by decide) (fun c_3 => ?_) (fun c_3 => ?_)
        · refine lv_iconst (v := 0) hx hb d_Bl_sumIsRight_54 (by decide) ?_
          rw [hQ]
          exact sf_iret 0 hx hb hr hlk hS sf_b0 rfl (by rw [← heq9]; simp only [f_Bl_sumIsRight_l, ← hu_2, eq_true c_1, eq_false c_3, ↓reduceIte]) hP d_Bl_sumIsRight_55
        · refine lv_iconst (v := 1) hx hb d_Bl_sumIsRight_50 (by decide) ?_
          refine lv_goto (tgt := 55) hx hb d_Bl_sumIsRight_51 (by decide) ?_
          rw [hQ]
          exact sf_iret 1 hx hb hr hlk hS sf_b1 rfl (by rw [← heq9]; simp only [f_Bl_sumIsRight_l, ← hu_2, eq_true c_1, eq_true c_3, ↓reduceIte]) hP d_Bl_sumIsRight_55
      · have hlt : k < 4 := by have := sf_lt_of (N := N + 4) (k := N + k) (by omega) (by omega) c_1; omega
        refine lv_iload_n hx hb d_Bl_sumIsRight_17 rfl (lv_at hl 2 rfl) ?_
        refine lv_bipush (v := 8) hx hb d_Bl_sumIsRight_18 (by decide) ?_
        refine lv_ishl hx hb d_Bl_sumIsRight_20 ?_
        refine lv_aload_n hx hb d_Bl_sumIsRight_21 rfl (lv_at hl 0 rfl) ?_
        refine lv_iload_n hx hb d_Bl_sumIsRight_22 rfl (lv_at hl 1 rfl) ?_
        refine lv_iload_n hx hb d_Bl_sumIsRight_23 rfl (lv_at hl 3 rfl) ?_
        refine sf_callVr (S := Int32) (rest := [.int (hd <<< (8 &&& 31))]) ⟨hx, hb, hml, hown, hts⟩ (c_Bl_get l D cI cZ cJ h0 a0 n F (nI (N + 4)) b (nI (N + k)) hn) (sf_cwV lk_Bl_24 hts (fun _ h => h) (by rw [hR]; exact ⟨Nat.le_of_ble_eq_true rfl, Nat.le_of_ble_eq_true rfl⟩)) hK hP hD hS hA [0, 1] rfl rfl (fun _ => rfl) (ci := 0) (q0 := 0) rfl rfl rfl rfl rfl hl.1 (Nat.le_of_ble_eq_true rfl) d_Bl_sumIsRight_24 ⟨Nat.zero_le _, Nat.zero_le _⟩ (fun u_4 H locs hu_4 hP hS => ?_)
        refine lv_ior hx hb d_Bl_sumIsRight_27 ?_
        refine lv_istore_n (lv' := [(2, .int ((hd <<< (8 &&& 31)) ||| u_4)), (0, .ref h0), (1, .int b), (3, .int (nI (N + k)))]) hx hb d_Bl_sumIsRight_28 rfl hl (by decide) rfl (fun ls hl => ?_)
        refine lv_iinc (v := (nI (N + (k + 1)))) (lv' := [(3, .int (nI (N + (k + 1)))), (2, .int ((hd <<< (8 &&& 31)) ||| u_4)), (0, .ref h0), (1, .int b)]) hx hb d_Bl_sumIsRight_29 hl (k := 3) rfl (nI_1 (N + k)) (by decide) rfl (fun ls hl => ?_)
        refine lv_goto (tgt := 9) hx hb d_Bl_sumIsRight_32 (by decide) ?_
        exact ih9 (k + 1) ((hd <<< (8 &&& 31)) ||| u_4) (by omega) (by omega) (by rw [← heq9]; simp only [f_Bl_sumIsRight_l, ← hu_4, eq_false c_1, ↓reduceIte]) _ _ hP hD hS ls (lv_sub hl [2, 3, 1, 0] rfl)
  rw [sf_m4] at hl
  exact loop9 (4 + 1) 0 0 (by omega) (by omega) (by simp only [f_Bl_sumIsRight, ↓reduceIte]) _ _ hP hD hS ls (lv_sub hl [2, 3, 1, 0] rfl)
