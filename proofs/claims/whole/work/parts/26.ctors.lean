/-! ctors: contracts, with the pure functions that they speak of (printed by wip/gen) -/
set_option maxRecDepth 20000 in
theorem wd_77 : Cond.methodLink R_Bl 3 objectInit ∈ sf_tb := sf_tb_in 77 rfl rfl
set_option maxRecDepth 20000 in
theorem wd_70 : Cond.instanceMethod objectInit ∈ sf_tb := sf_tb_in 70 rfl rfl
set_option maxRecDepth 20000 in
theorem wd_71 : Cond.code objectInit ⟨#[0xb1]⟩ 1 none ∈ sf_tb := sf_tb_in 71 rfl rfl
set_option maxRecDepth 20000 in
theorem wd_92 : Cond.methodLink R_Ch 3 objectInit ∈ sf_tb := sf_tb_in 92 rfl rfl
set_option maxRecDepth 20000 in
theorem wd_86 : Cond.arrayClass .int ∈ sf_tb := sf_tb_in 86 rfl rfl
set_option maxRecDepth 20000 in
theorem wd_69 : Cond.methodLink R_SF 1 objectInit ∈ sf_tb := sf_tb_in 69 rfl rfl
set_option maxRecDepth 20000 in
theorem wd_72 : Cond.classLink R_SF 7 R_Bl ∈ sf_tb := sf_tb_in 72 rfl rfl
set_option maxRecDepth 20000 in
theorem wd_73 : Cond.instantiable R_Bl 2 ∈ sf_tb := sf_tb_in 73 rfl rfl
set_option maxRecDepth 20000 in
theorem wd_87 : Cond.classLink R_SF 30 R_Ch ∈ sf_tb := sf_tb_in 87 rfl rfl
set_option maxRecDepth 20000 in
theorem wd_88 : Cond.instantiable R_Ch 5 ∈ sf_tb := sf_tb_in 88 rfl rfl
set_option maxRecDepth 20000 in
theorem wd_156 : Cond.arrayClass .boolean ∈ sf_tb := sf_tb_in 156 rfl rfl
set_option maxRecDepth 20000 in
theorem wd_574 : Cond.methodLink R_MD 1 objectInit ∈ sf_tb := sf_tb_in 574 rfl rfl
set_option maxRecDepth 20000 in
theorem wd_74 : Cond.methodLink R_SF 11 y_Bl_init ∈ sf_tb := sf_tb_in 74 rfl rfl
set_option maxRecDepth 20000 in
theorem wd_76 : Cond.code y_Bl_init b_Bl_init 3 none ∈ sf_tb := sf_tb_in 76 rfl rfl
set_option maxRecDepth 20000 in
theorem wd_75 : Cond.instanceMethod y_Bl_init ∈ sf_tb := sf_tb_in 75 rfl rfl
set_option maxRecDepth 20000 in
theorem wd_89 : Cond.methodLink R_SF 32 y_Ch_init ∈ sf_tb := sf_tb_in 89 rfl rfl
set_option maxRecDepth 20000 in
theorem wd_91 : Cond.code y_Ch_init b_Ch_init 1 none ∈ sf_tb := sf_tb_in 91 rfl rfl
set_option maxRecDepth 20000 in
theorem wd_90 : Cond.instanceMethod y_Ch_init ∈ sf_tb := sf_tb_in 90 rfl rfl
theorem lk_SF_11 : sf_LI R_SF 11 y_Bl_init b_Bl_init 3 2 := ⟨wd_76, wd_74, wd_75, wd_53, by decide +kernel, rfl⟩
theorem lk_SF_32 : sf_LI R_SF 32 y_Ch_init b_Ch_init 1 0 := ⟨wd_91, wd_89, wd_90, wd_54, by decide +kernel, rfl⟩
theorem d_Bl_init_0 : decode b_Bl_init 0 = .ok (.aload_n 0, 1) := by decide +kernel
theorem d_Bl_init_1 : decode b_Bl_init 1 = .ok (.invokespecial 3, 3) := by decide +kernel
theorem d_Bl_init_4 : decode b_Bl_init 4 = .ok (.aload_n 0, 1) := by decide +kernel
theorem d_Bl_init_5 : decode b_Bl_init 5 = .ok (.aload_n 1, 1) := by decide +kernel
theorem d_Bl_init_6 : decode b_Bl_init 6 = .ok (.putfield 9, 3) := by decide +kernel
theorem d_Bl_init_9 : decode b_Bl_init 9 = .ok (.aload_n 0, 1) := by decide +kernel
theorem d_Bl_init_10 : decode b_Bl_init 10 = .ok (.iload_n 2, 1) := by decide +kernel
theorem d_Bl_init_11 : decode b_Bl_init 11 = .ok (.putfield 15, 3) := by decide +kernel
theorem d_Bl_init_14 : decode b_Bl_init 14 = .ok (.return_, 1) := by decide +kernel
theorem d_Ch_init_0 : decode b_Ch_init 0 = .ok (.aload_n 0, 1) := by decide +kernel
theorem d_Ch_init_1 : decode b_Ch_init 1 = .ok (.invokespecial 3, 3) := by decide +kernel
theorem d_Ch_init_4 : decode b_Ch_init 4 = .ok (.aload_n 0, 1) := by decide +kernel
theorem d_Ch_init_5 : decode b_Ch_init 5 = .ok (.iconst 3, 1) := by decide +kernel
theorem d_Ch_init_6 : decode b_Ch_init 6 = .ok (.newarray .int, 2) := by decide +kernel
theorem d_Ch_init_8 : decode b_Ch_init 8 = .ok (.putfield 9, 3) := by decide +kernel
theorem d_Ch_init_11 : decode b_Ch_init 11 = .ok (.aload_n 0, 1) := by decide +kernel
theorem d_Ch_init_12 : decode b_Ch_init 12 = .ok (.iconst 1, 1) := by decide +kernel
theorem d_Ch_init_13 : decode b_Ch_init 13 = .ok (.putfield 15, 3) := by decide +kernel
theorem d_Ch_init_16 : decode b_Ch_init 16 = .ok (.return_, 1) := by decide +kernel
theorem d_SF_init_0 : decode b_SF_init 0 = .ok (.aload_n 0, 1) := by decide +kernel
theorem d_SF_init_1 : decode b_SF_init 1 = .ok (.invokespecial 1, 3) := by decide +kernel
theorem d_SF_init_4 : decode b_SF_init 4 = .ok (.aload_n 0, 1) := by decide +kernel
theorem d_SF_init_5 : decode b_SF_init 5 = .ok (.new 7, 3) := by decide +kernel
theorem d_SF_init_8 : decode b_SF_init 8 = .ok (.dup, 1) := by decide +kernel
theorem d_SF_init_9 : decode b_SF_init 9 = .ok (.sipush 768, 3) := by decide +kernel
theorem d_SF_init_12 : decode b_SF_init 12 = .ok (.newarray .int, 2) := by decide +kernel
theorem d_SF_init_14 : decode b_SF_init 14 = .ok (.bipush 32, 2) := by decide +kernel
theorem d_SF_init_16 : decode b_SF_init 16 = .ok (.invokespecial 11, 3) := by decide +kernel
theorem d_SF_init_19 : decode b_SF_init 19 = .ok (.putfield 14, 3) := by decide +kernel
theorem d_SF_init_22 : decode b_SF_init 22 = .ok (.aload_n 0, 1) := by decide +kernel
theorem d_SF_init_23 : decode b_SF_init 23 = .ok (.new 7, 3) := by decide +kernel
theorem d_SF_init_26 : decode b_SF_init 26 = .ok (.dup, 1) := by decide +kernel
theorem d_SF_init_27 : decode b_SF_init 27 = .ok (.sipush 512, 3) := by decide +kernel
theorem d_SF_init_30 : decode b_SF_init 30 = .ok (.newarray .int, 2) := by decide +kernel
theorem d_SF_init_32 : decode b_SF_init 32 = .ok (.bipush 32, 2) := by decide +kernel
theorem d_SF_init_34 : decode b_SF_init 34 = .ok (.invokespecial 11, 3) := by decide +kernel
theorem d_SF_init_37 : decode b_SF_init 37 = .ok (.putfield 18, 3) := by decide +kernel
theorem d_SF_init_40 : decode b_SF_init 40 = .ok (.aload_n 0, 1) := by decide +kernel
theorem d_SF_init_41 : decode b_SF_init 41 = .ok (.new 7, 3) := by decide +kernel
theorem d_SF_init_44 : decode b_SF_init 44 = .ok (.dup, 1) := by decide +kernel
theorem d_SF_init_45 : decode b_SF_init 45 = .ok (.bipush 80, 2) := by decide +kernel
theorem d_SF_init_47 : decode b_SF_init 47 = .ok (.newarray .int, 2) := by decide +kernel
theorem d_SF_init_49 : decode b_SF_init 49 = .ok (.bipush 40, 2) := by decide +kernel
theorem d_SF_init_51 : decode b_SF_init 51 = .ok (.invokespecial 11, 3) := by decide +kernel
theorem d_SF_init_54 : decode b_SF_init 54 = .ok (.putfield 21, 3) := by decide +kernel
theorem d_SF_init_57 : decode b_SF_init 57 = .ok (.aload_n 0, 1) := by decide +kernel
theorem d_SF_init_58 : decode b_SF_init 58 = .ok (.new 7, 3) := by decide +kernel
theorem d_SF_init_61 : decode b_SF_init 61 = .ok (.dup, 1) := by decide +kernel
theorem d_SF_init_62 : decode b_SF_init 62 = .ok (.bipush 32, 2) := by decide +kernel
theorem d_SF_init_64 : decode b_SF_init 64 = .ok (.newarray .int, 2) := by decide +kernel
theorem d_SF_init_66 : decode b_SF_init 66 = .ok (.bipush 32, 2) := by decide +kernel
theorem d_SF_init_68 : decode b_SF_init 68 = .ok (.invokespecial 11, 3) := by decide +kernel
theorem d_SF_init_71 : decode b_SF_init 71 = .ok (.putfield 24, 3) := by decide +kernel
theorem d_SF_init_74 : decode b_SF_init 74 = .ok (.aload_n 0, 1) := by decide +kernel
theorem d_SF_init_75 : decode b_SF_init 75 = .ok (.new 7, 3) := by decide +kernel
theorem d_SF_init_78 : decode b_SF_init 78 = .ok (.dup, 1) := by decide +kernel
theorem d_SF_init_79 : decode b_SF_init 79 = .ok (.bipush 40, 2) := by decide +kernel
theorem d_SF_init_81 : decode b_SF_init 81 = .ok (.newarray .int, 2) := by decide +kernel
theorem d_SF_init_83 : decode b_SF_init 83 = .ok (.bipush 40, 2) := by decide +kernel
theorem d_SF_init_85 : decode b_SF_init 85 = .ok (.invokespecial 11, 3) := by decide +kernel
theorem d_SF_init_88 : decode b_SF_init 88 = .ok (.putfield 27, 3) := by decide +kernel
theorem d_SF_init_91 : decode b_SF_init 91 = .ok (.aload_n 0, 1) := by decide +kernel
theorem d_SF_init_92 : decode b_SF_init 92 = .ok (.new 30, 3) := by decide +kernel
theorem d_SF_init_95 : decode b_SF_init 95 = .ok (.dup, 1) := by decide +kernel
theorem d_SF_init_96 : decode b_SF_init 96 = .ok (.invokespecial 32, 3) := by decide +kernel
theorem d_SF_init_99 : decode b_SF_init 99 = .ok (.putfield 33, 3) := by decide +kernel
theorem d_SF_init_102 : decode b_SF_init 102 = .ok (.aload_n 0, 1) := by decide +kernel
theorem d_SF_init_103 : decode b_SF_init 103 = .ok (.new 30, 3) := by decide +kernel
theorem d_SF_init_106 : decode b_SF_init 106 = .ok (.dup, 1) := by decide +kernel
theorem d_SF_init_107 : decode b_SF_init 107 = .ok (.invokespecial 32, 3) := by decide +kernel
theorem d_SF_init_110 : decode b_SF_init 110 = .ok (.putfield 37, 3) := by decide +kernel
theorem d_SF_init_113 : decode b_SF_init 113 = .ok (.aload_n 0, 1) := by decide +kernel
theorem d_SF_init_114 : decode b_SF_init 114 = .ok (.bipush 24, 2) := by decide +kernel
theorem d_SF_init_116 : decode b_SF_init 116 = .ok (.newarray .boolean, 2) := by decide +kernel
theorem d_SF_init_118 : decode b_SF_init 118 = .ok (.putfield 40, 3) := by decide +kernel
theorem d_SF_init_121 : decode b_SF_init 121 = .ok (.aload_n 0, 1) := by decide +kernel
theorem d_SF_init_122 : decode b_SF_init 122 = .ok (.iconst 3, 1) := by decide +kernel
theorem d_SF_init_123 : decode b_SF_init 123 = .ok (.newarray .int, 2) := by decide +kernel
theorem d_SF_init_125 : decode b_SF_init 125 = .ok (.putfield 44, 3) := by decide +kernel
theorem d_SF_init_128 : decode b_SF_init 128 = .ok (.aload_n 0, 1) := by decide +kernel
theorem d_SF_init_129 : decode b_SF_init 129 = .ok (.bipush 60, 2) := by decide +kernel
theorem d_SF_init_131 : decode b_SF_init 131 = .ok (.newarray .int, 2) := by decide +kernel
theorem d_SF_init_133 : decode b_SF_init 133 = .ok (.putfield 48, 3) := by decide +kernel
theorem d_SF_init_136 : decode b_SF_init 136 = .ok (.aload_n 0, 1) := by decide +kernel
theorem d_SF_init_137 : decode b_SF_init 137 = .ok (.iconst (-1), 1) := by decide +kernel
theorem d_SF_init_138 : decode b_SF_init 138 = .ok (.putfield 51, 3) := by decide +kernel
theorem d_SF_init_141 : decode b_SF_init 141 = .ok (.return_, 1) := by decide +kernel
theorem d_MD_init_0 : decode b_MD_init 0 = .ok (.aload_n 0, 1) := by decide +kernel
theorem d_MD_init_1 : decode b_MD_init 1 = .ok (.invokespecial 1, 3) := by decide +kernel
theorem d_MD_init_4 : decode b_MD_init 4 = .ok (.aload_n 0, 1) := by decide +kernel
theorem d_MD_init_5 : decode b_MD_init 5 = .ok (.sipush 1360, 3) := by decide +kernel
theorem d_MD_init_8 : decode b_MD_init 8 = .ok (.newarray .int, 2) := by decide +kernel
theorem d_MD_init_10 : decode b_MD_init 10 = .ok (.putfield 7, 3) := by decide +kernel
theorem d_MD_init_13 : decode b_MD_init 13 = .ok (.aload_n 0, 1) := by decide +kernel
theorem d_MD_init_14 : decode b_MD_init 14 = .ok (.iconst (-1), 1) := by decide +kernel
theorem d_MD_init_15 : decode b_MD_init 15 = .ok (.putfield 13, 3) := by decide +kernel
theorem d_MD_init_18 : decode b_MD_init 18 = .ok (.aload_n 0, 1) := by decide +kernel
theorem d_MD_init_19 : decode b_MD_init 19 = .ok (.bipush 60, 2) := by decide +kernel
theorem d_MD_init_21 : decode b_MD_init 21 = .ok (.newarray .int, 2) := by decide +kernel
theorem d_MD_init_23 : decode b_MD_init 23 = .ok (.putfield 17, 3) := by decide +kernel
theorem d_MD_init_26 : decode b_MD_init 26 = .ok (.aload_n 0, 1) := by decide +kernel
theorem d_MD_init_27 : decode b_MD_init 27 = .ok (.iconst 3, 1) := by decide +kernel
theorem d_MD_init_28 : decode b_MD_init 28 = .ok (.newarray .int, 2) := by decide +kernel
theorem d_MD_init_30 : decode b_MD_init 30 = .ok (.putfield 20, 3) := by decide +kernel
theorem d_MD_init_33 : decode b_MD_init 33 = .ok (.aload_n 0, 1) := by decide +kernel
theorem d_MD_init_34 : decode b_MD_init 34 = .ok (.bipush 75, 2) := by decide +kernel
theorem d_MD_init_36 : decode b_MD_init 36 = .ok (.newarray .int, 2) := by decide +kernel
theorem d_MD_init_38 : decode b_MD_init 38 = .ok (.putfield 23, 3) := by decide +kernel
theorem d_MD_init_41 : decode b_MD_init 41 = .ok (.aload_n 0, 1) := by decide +kernel
theorem d_MD_init_42 : decode b_MD_init 42 = .ok (.bipush 24, 2) := by decide +kernel
theorem d_MD_init_44 : decode b_MD_init 44 = .ok (.newarray .boolean, 2) := by decide +kernel
theorem d_MD_init_46 : decode b_MD_init 46 = .ok (.putfield 26, 3) := by decide +kernel
theorem d_MD_init_49 : decode b_MD_init 49 = .ok (.aload_n 0, 1) := by decide +kernel
theorem d_MD_init_50 : decode b_MD_init 50 = .ok (.sipush 136, 3) := by decide +kernel
theorem d_MD_init_53 : decode b_MD_init 53 = .ok (.newarray .int, 2) := by decide +kernel
theorem d_MD_init_55 : decode b_MD_init 55 = .ok (.putfield 30, 3) := by decide +kernel
theorem d_MD_init_58 : decode b_MD_init 58 = .ok (.aload_n 0, 1) := by decide +kernel
theorem d_MD_init_59 : decode b_MD_init 59 = .ok (.sipush 136, 3) := by decide +kernel
theorem d_MD_init_62 : decode b_MD_init 62 = .ok (.newarray .int, 2) := by decide +kernel
theorem d_MD_init_64 : decode b_MD_init 64 = .ok (.putfield 33, 3) := by decide +kernel
theorem d_MD_init_67 : decode b_MD_init 67 = .ok (.return_, 1) := by decide +kernel
set_option maxHeartbeats 4000000 in
set_option maxRecDepth 100000 in
/-- Blocks(cells, size) -/
theorem c_Bl_init (l : Launch) (D : va_G) (cI cZ cJ : ClassId) (h0 : Nat) (a0 : Nat) (sz : Int32) : sf_M (S := Unit) l D classes (sf_tys cI cZ cJ) y_Bl_init (sf_ws y_Bl_init b_Bl_init 3 none) 1 12 [.ref h0, .ref a0, .int sz] [(h0, .inr (0, [.null, .int 0]))] (fun _ => none) (fun _ => True) (fun _ => [(h0, .inr (0, [.ref a0, .int sz]))]) := by
  refine sf_ofWM (S := Unit) (by decide) (Nat.le_of_ble_eq_true rfl) ?_
  intro p e s m below meth c A ls R args Q hR hArgs hQ hC0 hr hin hK hP hD hl
  obtain ⟨hx, hb, hml, hown, hts, hA, hlk⟩ := hC0
  have hS : va_S A s.heap s.heap [] := va_S.rf
  have hl : lv_has ls 3 [(0, .ref h0), (1, .ref a0), (2, .int sz)] := hl
  refine lv_aload_n hx hb d_Bl_init_0 rfl (lv_at hl 0 rfl) ?_
  refine W.objInit hx hb hown (hts _ wd_77) (hts _ wd_70) (hts _ wd_71) rfl (by rw [hml]; exact hl.1) rfl d_Bl_init_1 (by rw [hR]; exact Nat.le_of_ble_eq_true rfl) (by rw [hR]; exact Nat.le_of_ble_eq_true rfl) ?_
  refine W.eq (g2 := F0 m 4 ls []) rfl ?_
  refine lv_aload_n hx hb d_Bl_init_4 rfl (lv_at hl 0 rfl) ?_
  refine lv_aload_n hx hb d_Bl_init_5 rfl (lv_at hl 1 rfl) ?_
  refine va_putF (D := D) (ci := 0) (v := .ref a0) (ty := (.array .int)) (C := R_Bl) (T := F_Bl) (N := 2) hx hb hts i_Bl t_Bl t_Bl_ok n_Bl hown hK hP hD hS 0 rfl rfl 0 (by decide) (hts _ wd_78) (fun _ h9 => h9) rfl hin rfl (by decide +kernel) rfl rfl (Nat.le_of_ble_eq_true rfl) d_Bl_init_6 (fun H locs hP hD hS => ?_)
  have hP : va_P D classes [(h0, .inr (0, [.ref a0, .int 0]))] H := hP
  have hD : va_D A [(h0, .inr (0, [.ref a0, .int 0]))] := hD
  refine lv_aload_n hx hb d_Bl_init_9 rfl (lv_at hl 0 rfl) ?_
  refine lv_iload_n hx hb d_Bl_init_10 rfl (lv_at hl 2 rfl) ?_
  refine va_putF (D := D) (ci := 0) (v := .int sz) (ty := .int) (C := R_Bl) (T := F_Bl) (N := 2) hx hb hts i_Bl t_Bl t_Bl_ok n_Bl hown hK hP hD hS 0 rfl rfl 1 (by decide) (hts _ wd_79) (fun _ h9 => h9) rfl hin rfl (by decide +kernel) rfl rfl (Nat.le_of_ble_eq_true rfl) d_Bl_init_11 (fun H locs hP hD hS => ?_)
  have hP : va_P D classes [(h0, .inr (0, [.ref a0, .int sz]))] H := hP
  have hD : va_D A [(h0, .inr (0, [.ref a0, .int sz]))] := hD
  rw [hQ]
  exact sf_vret () hx hb hr hlk hS rfl trivial hP d_Bl_init_14
set_option maxHeartbeats 4000000 in
set_option maxRecDepth 100000 in
/-- Chain() -/
theorem c_Ch_init (l : Launch) (D : va_G) (cI cZ cJ : ClassId) (h0 : Nat) : sf_I (S := Nat) l D classes (sf_tys cI cZ cJ) y_Ch_init (sf_ws y_Ch_init b_Ch_init 1 none) 1 12 1 3 [.ref h0] [(h0, .inr (1, [.null, .int 0, .int 0, .int 0, .int 0]))] (fun _ => True) (fun u => [(h0, .inr (1, [.ref u, .int 0, .int 1, .int 0, .int 0])), (u, .inl (cI, 3, .inl (fun _ => 0)))]) := by
  refine sf_ofWI (S := Nat) (by decide) (Nat.le_of_ble_eq_true rfl) ?_
  intro p e s m below meth c A ls R args Q hR hArgs hQ hC0 hr hin hK hP hD hl
  obtain ⟨hx, hb, hml, hown, hts, hA, hlk⟩ := hC0
  have hS : va_S A s.heap s.heap [] := va_S.rf
  have hl : lv_has ls 1 [(0, .ref h0)] := hl
  refine lv_aload_n hx hb d_Ch_init_0 rfl (lv_at hl 0 rfl) ?_
  refine W.objInit hx hb hown (hts _ wd_92) (hts _ wd_70) (hts _ wd_71) rfl (by rw [hml]; exact hl.1) rfl d_Ch_init_1 (by rw [hR]; exact Nat.le_of_ble_eq_true rfl) (by rw [hR]; exact Nat.le_of_ble_eq_true rfl) ?_
  refine W.eq (g2 := F0 m 4 ls []) rfl ?_
  refine lv_aload_n hx hb d_Ch_init_4 rfl (lv_at hl 0 rfl) ?_
  refine lv_iconst (v := 3) hx hb d_Ch_init_5 (by decide) ?_
  refine sf_newi hx hb (hts _ wd_86) hK hP hD hS hA 0 rfl 3 rfl (by omega) (by rw [hR]; exact Nat.le_of_ble_eq_true rfl) (by rw [hR]; exact Nat.le_of_ble_eq_true rfl) d_Ch_init_6 (fun q_1 H hP hD hS => ?_)
  have hP : va_P D classes [(h0, .inr (1, [.null, .int 0, .int 0, .int 0, .int 0])), (q_1, .inl (cI, 3, .inl (fun _ => 0)))] H := hP
  have hD : va_D A [(h0, .inr (1, [.null, .int 0, .int 0, .int 0, .int 0])), (q_1, .inl (cI, 3, .inl (fun _ => 0)))] := hD
  refine va_putF (D := D) (ci := 1) (v := .ref q_1) (ty := (.array .int)) (C := R_Ch) (T := F_Ch) (N := 5) hx hb hts i_Ch t_Ch t_Ch_ok n_Ch hown hK hP hD hS 0 rfl rfl 0 (by decide) (hts _ wd_93) (fun _ h9 => h9) rfl hin rfl (by decide +kernel) rfl rfl (Nat.le_of_ble_eq_true rfl) d_Ch_init_8 (fun H locs hP hD hS => ?_)
  have hP : va_P D classes [(h0, .inr (1, [.ref q_1, .int 0, .int 0, .int 0, .int 0])), (q_1, .inl (cI, 3, .inl (fun _ => 0)))] H := hP
  have hD : va_D A [(h0, .inr (1, [.ref q_1, .int 0, .int 0, .int 0, .int 0])), (q_1, .inl (cI, 3, .inl (fun _ => 0)))] := hD
  refine lv_aload_n hx hb d_Ch_init_11 rfl (lv_at hl 0 rfl) ?_
  refine lv_iconst (v := 1) hx hb d_Ch_init_12 (by decide) ?_
  refine va_put (D := D) (ci := 1) (v := .int 1) (ty := .boolean) (C := R_Ch) (T := F_Ch) (N := 5) hx hb hts i_Ch t_Ch t_Ch_ok n_Ch hown hK hP hD hS 0 rfl rfl 2 (by decide) (hts _ wd_96) (fun _ h9 => h9) rfl (by decide +kernel) (sf_bp1).1 (sf_bp1).2 (Nat.le_of_ble_eq_true rfl) d_Ch_init_13 (fun H locs hP hD hS => ?_)
  have hP : va_P D classes [(h0, .inr (1, [.ref q_1, .int 0, .int 1, .int 0, .int 0])), (q_1, .inl (cI, 3, .inl (fun _ => 0)))] H := hP
  have hD : va_D A [(h0, .inr (1, [.ref q_1, .int 0, .int 1, .int 0, .int 0])), (q_1, .inl (cI, 3, .inl (fun _ => 0)))] := hD
  rw [hQ]
  exact sf_ivret q_1 hx hb hr hlk hS rfl hP hD d_Ch_init_16
set_option maxHeartbeats 4000000 in
set_option maxRecDepth 100000 in
/-- ShadowFiles() -/
theorem c_SF_init (l : Launch) (D : va_G) (cI cZ cJ : ClassId) (h0 : Nat) : sf_I (S := (Nat → Nat)) l D classes (sf_tys cI cZ cJ) y_SF_init (sf_ws y_SF_init b_SF_init 1 none) 2 34 17 1545 [.ref h0] [(h0, .inr (2, [.null, .null, .null, .null, .null, .null, .null, .null, .null, .null, .int 0, .int 0, .int 0, .int 0, .int 0]))] (fun u => u 0 = h0) (fun u => (sf_w u cI cZ (fun _ => 0) (fun _ => 0) (fun _ => 0) (fun _ => 0) (fun _ => 0) (fun _ => 0) 0 1 0 0 (fun _ => 0) 0 1 0 0 (fun _ => 0) (fun _ => 0) (fun _ => 0) 0 (-1) 0 0 0)) := by
  refine sf_ofWI (S := (Nat → Nat)) (by decide) (Nat.le_of_ble_eq_true rfl) ?_
  intro p e s m below meth c A ls R args Q hR hArgs hQ hC0 hr hin hK hP hD hl
  obtain ⟨hx, hb, hml, hown, hts, hA, hlk⟩ := hC0
  have hS : va_S A s.heap s.heap [] := va_S.rf
  have hl : lv_has ls 1 [(0, .ref h0)] := hl
  refine lv_aload_n hx hb d_SF_init_0 rfl (lv_at hl 0 rfl) ?_
  refine W.objInit hx hb hown (hts _ wd_69) (hts _ wd_70) (hts _ wd_71) rfl (by rw [hml]; exact hl.1) rfl d_SF_init_1 (by rw [hR]; exact Nat.le_of_ble_eq_true rfl) (by rw [hR]; exact Nat.le_of_ble_eq_true rfl) ?_
  refine W.eq (g2 := F0 m 4 ls []) rfl ?_
  refine lv_aload_n hx hb d_SF_init_4 rfl (lv_at hl 0 rfl) ?_
  refine va_new (ci := 0) (fs := [.null, .int 0]) (C := R_Bl) (T := F_Bl) (N := 2) hx hb hts i_Bl t_Bl t_Bl_ok hown (hts _ wd_72) (hts _ wd_73) (hts _ wd_53) hK hP hD hS hA rfl (fun j hj => by rcases (show j = 0 ∨ j = 1 by omega) with rfl | rfl <;> rfl) (by rw [hR]; exact Nat.le_of_ble_eq_true rfl) (by rw [hR]; exact Nat.le_of_ble_eq_true rfl) d_SF_init_5 (fun q_1 H hP hD hS => ?_)
  have hP : va_P D classes [(h0, .inr (2, [.null, .null, .null, .null, .null, .null, .null, .null, .null, .null, .int 0, .int 0, .int 0, .int 0, .int 0])), (q_1, .inr (0, [.null, .int 0]))] H := hP
  have hD : va_D A [(h0, .inr (2, [.null, .null, .null, .null, .null, .null, .null, .null, .null, .null, .int 0, .int 0, .int 0, .int 0, .int 0])), (q_1, .inr (0, [.null, .int 0]))] := hD
  refine lv_dup hx hb d_SF_init_8 rfl ?_
  refine lv_sipush (v := 768) hx hb d_SF_init_9 (by decide) ?_
  refine sf_newi hx hb (hts _ wd_86) hK hP hD hS hA 0 rfl 768 rfl (by omega) (by rw [hR]; exact Nat.le_of_ble_eq_true rfl) (by rw [hR]; exact Nat.le_of_ble_eq_true rfl) d_SF_init_12 (fun q_2 H hP hD hS => ?_)
  have hP : va_P D classes [(h0, .inr (2, [.null, .null, .null, .null, .null, .null, .null, .null, .null, .null, .int 0, .int 0, .int 0, .int 0, .int 0])), (q_1, .inr (0, [.null, .int 0])), (q_2, .inl (cI, 768, .inl (fun _ => 0)))] H := hP
  have hD : va_D A [(h0, .inr (2, [.null, .null, .null, .null, .null, .null, .null, .null, .null, .null, .int 0, .int 0, .int 0, .int 0, .int 0])), (q_1, .inr (0, [.null, .int 0])), (q_2, .inl (cI, 768, .inl (fun _ => 0)))] := hD
  refine lv_bipush (v := 32) hx hb d_SF_init_14 (by decide) ?_
  refine sf_callIM (S := Unit) (rest := [.ref q_1, .ref h0]) ⟨hx, hb, hml, hown, hts⟩ (c_Bl_init l D cI cZ cJ q_1 q_2 32) (sf_cwI lk_SF_11 hts (fun _ h => h) (by rw [hR]; exact ⟨Nat.le_of_ble_eq_true rfl, Nat.le_of_ble_eq_true rfl⟩)) hK hP hD hS hA [1] rfl rfl (fun _ => rfl) rfl rfl hl.1 (Nat.le_of_ble_eq_true rfl) d_SF_init_16 ⟨by rw [hR]; exact Nat.le_of_ble_eq_true rfl, by rw [hR]; exact Nat.le_of_ble_eq_true rfl⟩ (fun u H locs hu hP hD hS => ?_)
  have hP : va_P D classes [(h0, .inr (2, [.null, .null, .null, .null, .null, .null, .null, .null, .null, .null, .int 0, .int 0, .int 0, .int 0, .int 0])), (q_1, .inr (0, [.ref q_2, .int 32])), (q_2, .inl (cI, 768, .inl (fun _ => 0)))] H := hP
  have hD : va_D A [(h0, .inr (2, [.null, .null, .null, .null, .null, .null, .null, .null, .null, .null, .int 0, .int 0, .int 0, .int 0, .int 0])), (q_1, .inr (0, [.ref q_2, .int 32])), (q_2, .inl (cI, 768, .inl (fun _ => 0)))] := hD
  refine va_putF (D := D) (ci := 2) (v := .ref q_1) (ty := (.object "ShadowFiles$Blocks")) (C := R_SF) (T := F_SF) (N := 15) hx hb hts i_SF t_SF t_SF_ok n_SF hown hK hP hD hS 0 rfl rfl 0 (by decide) (hts _ wd_110) (fun _ h9 => h9) rfl hin rfl (by decide +kernel) rfl rfl (Nat.le_of_ble_eq_true rfl) d_SF_init_19 (fun H locs hP hD hS => ?_)
  have hP : va_P D classes [(h0, .inr (2, [.ref q_1, .null, .null, .null, .null, .null, .null, .null, .null, .null, .int 0, .int 0, .int 0, .int 0, .int 0])), (q_1, .inr (0, [.ref q_2, .int 32])), (q_2, .inl (cI, 768, .inl (fun _ => 0)))] H := hP
  have hD : va_D A [(h0, .inr (2, [.ref q_1, .null, .null, .null, .null, .null, .null, .null, .null, .null, .int 0, .int 0, .int 0, .int 0, .int 0])), (q_1, .inr (0, [.ref q_2, .int 32])), (q_2, .inl (cI, 768, .inl (fun _ => 0)))] := hD
  refine lv_aload_n hx hb d_SF_init_22 rfl (lv_at hl 0 rfl) ?_
  refine va_new (ci := 0) (fs := [.null, .int 0]) (C := R_Bl) (T := F_Bl) (N := 2) hx hb hts i_Bl t_Bl t_Bl_ok hown (hts _ wd_72) (hts _ wd_73) (hts _ wd_53) hK hP hD hS hA rfl (fun j hj => by rcases (show j = 0 ∨ j = 1 by omega) with rfl | rfl <;> rfl) (by rw [hR]; exact Nat.le_of_ble_eq_true rfl) (by rw [hR]; exact Nat.le_of_ble_eq_true rfl) d_SF_init_23 (fun q_3 H hP hD hS => ?_)
  have hP : va_P D classes [(h0, .inr (2, [.ref q_1, .null, .null, .null, .null, .null, .null, .null, .null, .null, .int 0, .int 0, .int 0, .int 0, .int 0])), (q_1, .inr (0, [.ref q_2, .int 32])), (q_2, .inl (cI, 768, .inl (fun _ => 0))), (q_3, .inr (0, [.null, .int 0]))] H := hP
  have hD : va_D A [(h0, .inr (2, [.ref q_1, .null, .null, .null, .null, .null, .null, .null, .null, .null, .int 0, .int 0, .int 0, .int 0, .int 0])), (q_1, .inr (0, [.ref q_2, .int 32])), (q_2, .inl (cI, 768, .inl (fun _ => 0))), (q_3, .inr (0, [.null, .int 0]))] := hD
  refine lv_dup hx hb d_SF_init_26 rfl ?_
  refine lv_sipush (v := 512) hx hb d_SF_init_27 (by decide) ?_
  refine sf_newi hx hb (hts _ wd_86) hK hP hD hS hA 0 rfl 512 rfl (by omega) (by rw [hR]; exact Nat.le_of_ble_eq_true rfl) (by rw [hR]; exact Nat.le_of_ble_eq_true rfl) d_SF_init_30 (fun q_4 H hP hD hS => ?_)
  have hP : va_P D classes [(h0, .inr (2, [.ref q_1, .null, .null, .null, .null, .null, .null, .null, .null, .null, .int 0, .int 0, .int 0, .int 0, .int 0])), (q_1, .inr (0, [.ref q_2, .int 32])), (q_2, .inl (cI, 768, .inl (fun _ => 0))), (q_3, .inr (0, [.null, .int 0])), (q_4, .inl (cI, 512, .inl (fun _ => 0)))] H := hP
  have hD : va_D A [(h0, .inr (2, [.ref q_1, .null, .null, .null, .null, .null, .null, .null, .null, .null, .int 0, .int 0, .int 0, .int 0, .int 0])), (q_1, .inr (0, [.ref q_2, .int 32])), (q_2, .inl (cI, 768, .inl (fun _ => 0))), (q_3, .inr (0, [.null, .int 0])), (q_4, .inl (cI, 512, .inl (fun _ => 0)))] := hD
  refine lv_bipush (v := 32) hx hb d_SF_init_32 (by decide) ?_
  refine sf_callIM (S := Unit) (rest := [.ref q_3, .ref h0]) ⟨hx, hb, hml, hown, hts⟩ (c_Bl_init l D cI cZ cJ q_3 q_4 32) (sf_cwI lk_SF_11 hts (fun _ h => h) (by rw [hR]; exact ⟨Nat.le_of_ble_eq_true rfl, Nat.le_of_ble_eq_true rfl⟩)) hK hP hD hS hA [3] rfl rfl (fun _ => rfl) rfl rfl hl.1 (Nat.le_of_ble_eq_true rfl) d_SF_init_34 ⟨by rw [hR]; exact Nat.le_of_ble_eq_true rfl, by rw [hR]; exact Nat.le_of_ble_eq_true rfl⟩ (fun u H locs hu hP hD hS => ?_)
  have hP : va_P D classes [(h0, .inr (2, [.ref q_1, .null, .null, .null, .null, .null, .null, .null, .null, .null, .int 0, .int 0, .int 0, .int 0, .int 0])), (q_1, .inr (0, [.ref q_2, .int 32])), (q_2, .inl (cI, 768, .inl (fun _ => 0))), (q_3, .inr (0, [.ref q_4, .int 32])), (q_4, .inl (cI, 512, .inl (fun _ => 0)))] H := hP
  have hD : va_D A [(h0, .inr (2, [.ref q_1, .null, .null, .null, .null, .null, .null, .null, .null, .null, .int 0, .int 0, .int 0, .int 0, .int 0])), (q_1, .inr (0, [.ref q_2, .int 32])), (q_2, .inl (cI, 768, .inl (fun _ => 0))), (q_3, .inr (0, [.ref q_4, .int 32])), (q_4, .inl (cI, 512, .inl (fun _ => 0)))] := hD
  refine va_putF (D := D) (ci := 2) (v := .ref q_3) (ty := (.object "ShadowFiles$Blocks")) (C := R_SF) (T := F_SF) (N := 15) hx hb hts i_SF t_SF t_SF_ok n_SF hown hK hP hD hS 0 rfl rfl 1 (by decide) (hts _ wd_111) (fun _ h9 => h9) rfl hin rfl (by decide +kernel) rfl rfl (Nat.le_of_ble_eq_true rfl) d_SF_init_37 (fun H locs hP hD hS => ?_)
  have hP : va_P D classes [(h0, .inr (2, [.ref q_1, .ref q_3, .null, .null, .null, .null, .null, .null, .null, .null, .int 0, .int 0, .int 0, .int 0, .int 0])), (q_1, .inr (0, [.ref q_2, .int 32])), (q_2, .inl (cI, 768, .inl (fun _ => 0))), (q_3, .inr (0, [.ref q_4, .int 32])), (q_4, .inl (cI, 512, .inl (fun _ => 0)))] H := hP
  have hD : va_D A [(h0, .inr (2, [.ref q_1, .ref q_3, .null, .null, .null, .null, .null, .null, .null, .null, .int 0, .int 0, .int 0, .int 0, .int 0])), (q_1, .inr (0, [.ref q_2, .int 32])), (q_2, .inl (cI, 768, .inl (fun _ => 0))), (q_3, .inr (0, [.ref q_4, .int 32])), (q_4, .inl (cI, 512, .inl (fun _ => 0)))] := hD
  refine lv_aload_n hx hb d_SF_init_40 rfl (lv_at hl 0 rfl) ?_
  refine va_new (ci := 0) (fs := [.null, .int 0]) (C := R_Bl) (T := F_Bl) (N := 2) hx hb hts i_Bl t_Bl t_Bl_ok hown (hts _ wd_72) (hts _ wd_73) (hts _ wd_53) hK hP hD hS hA rfl (fun j hj => by rcases (show j = 0 ∨ j = 1 by omega) with rfl | rfl <;> rfl) (by rw [hR]; exact Nat.le_of_ble_eq_true rfl) (by rw [hR]; exact Nat.le_of_ble_eq_true rfl) d_SF_init_41 (fun q_5 H hP hD hS => ?_)
  have hP : va_P D classes [(h0, .inr (2, [.ref q_1, .ref q_3, .null, .null, .null, .null, .null, .null, .null, .null, .int 0, .int 0, .int 0, .int 0, .int 0])), (q_1, .inr (0, [.ref q_2, .int 32])), (q_2, .inl (cI, 768, .inl (fun _ => 0))), (q_3, .inr (0, [.ref q_4, .int 32])), (q_4, .inl (cI, 512, .inl (fun _ => 0))), (q_5, .inr (0, [.null, .int 0]))] H := hP
  have hD : va_D A [(h0, .inr (2, [.ref q_1, .ref q_3, .null, .null, .null, .null, .null, .null, .null, .null, .int 0, .int 0, .int 0, .int 0, .int 0])), (q_1, .inr (0, [.ref q_2, .int 32])), (q_2, .inl (cI, 768, .inl (fun _ => 0))), (q_3, .inr (0, [.ref q_4, .int 32])), (q_4, .inl (cI, 512, .inl (fun _ => 0))), (q_5, .inr (0, [.null, .int 0]))] := hD
  refine lv_dup hx hb d_SF_init_44 rfl ?_
  refine lv_bipush (v := 80) hx hb d_SF_init_45 (by decide) ?_
  refine sf_newi hx hb (hts _ wd_86) hK hP hD hS hA 0 rfl 80 rfl (by omega) (by rw [hR]; exact Nat.le_of_ble_eq_true rfl) (by rw [hR]; exact Nat.le_of_ble_eq_true rfl) d_SF_init_47 (fun q_6 H hP hD hS => ?_)
  have hP : va_P D classes [(h0, .inr (2, [.ref q_1, .ref q_3, .null, .null, .null, .null, .null, .null, .null, .null, .int 0, .int 0, .int 0, .int 0, .int 0])), (q_1, .inr (0, [.ref q_2, .int 32])), (q_2, .inl (cI, 768, .inl (fun _ => 0))), (q_3, .inr (0, [.ref q_4, .int 32])), (q_4, .inl (cI, 512, .inl (fun _ => 0))), (q_5, .inr (0, [.null, .int 0])), (q_6, .inl (cI, 80, .inl (fun _ => 0)))] H := hP
  have hD : va_D A [(h0, .inr (2, [.ref q_1, .ref q_3, .null, .null, .null, .null, .null, .null, .null, .null, .int 0, .int 0, .int 0, .int 0, .int 0])), (q_1, .inr (0, [.ref q_2, .int 32])), (q_2, .inl (cI, 768, .inl (fun _ => 0))), (q_3, .inr (0, [.ref q_4, .int 32])), (q_4, .inl (cI, 512, .inl (fun _ => 0))), (q_5, .inr (0, [.null, .int 0])), (q_6, .inl (cI, 80, .inl (fun _ => 0)))] := hD
  refine lv_bipush (v := 40) hx hb d_SF_init_49 (by decide) ?_
  refine sf_callIM (S := Unit) (rest := [.ref q_5, .ref h0]) ⟨hx, hb, hml, hown, hts⟩ (c_Bl_init l D cI cZ cJ q_5 q_6 40) (sf_cwI lk_SF_11 hts (fun _ h => h) (by rw [hR]; exact ⟨Nat.le_of_ble_eq_true rfl, Nat.le_of_ble_eq_true rfl⟩)) hK hP hD hS hA [5] rfl rfl (fun _ => rfl) rfl rfl hl.1 (Nat.le_of_ble_eq_true rfl) d_SF_init_51 ⟨by rw [hR]; exact Nat.le_of_ble_eq_true rfl, by rw [hR]; exact Nat.le_of_ble_eq_true rfl⟩ (fun u H locs hu hP hD hS => ?_)
  have hP : va_P D classes [(h0, .inr (2, [.ref q_1, .ref q_3, .null, .null, .null, .null, .null, .null, .null, .null, .int 0, .int 0, .int 0, .int 0, .int 0])), (q_1, .inr (0, [.ref q_2, .int 32])), (q_2, .inl (cI, 768, .inl (fun _ => 0))), (q_3, .inr (0, [.ref q_4, .int 32])), (q_4, .inl (cI, 512, .inl (fun _ => 0))), (q_5, .inr (0, [.ref q_6, .int 40])), (q_6, .inl (cI, 80, .inl (fun _ => 0)))] H := hP
  have hD : va_D A [(h0, .inr (2, [.ref q_1, .ref q_3, .null, .null, .null, .null, .null, .null, .null, .null, .int 0, .int 0, .int 0, .int 0, .int 0])), (q_1, .inr (0, [.ref q_2, .int 32])), (q_2, .inl (cI, 768, .inl (fun _ => 0))), (q_3, .inr (0, [.ref q_4, .int 32])), (q_4, .inl (cI, 512, .inl (fun _ => 0))), (q_5, .inr (0, [.ref q_6, .int 40])), (q_6, .inl (cI, 80, .inl (fun _ => 0)))] := hD
  refine va_putF (D := D) (ci := 2) (v := .ref q_5) (ty := (.object "ShadowFiles$Blocks")) (C := R_SF) (T := F_SF) (N := 15) hx hb hts i_SF t_SF t_SF_ok n_SF hown hK hP hD hS 0 rfl rfl 2 (by decide) (hts _ wd_112) (fun _ h9 => h9) rfl hin rfl (by decide +kernel) rfl rfl (Nat.le_of_ble_eq_true rfl) d_SF_init_54 (fun H locs hP hD hS => ?_)
  have hP : va_P D classes [(h0, .inr (2, [.ref q_1, .ref q_3, .ref q_5, .null, .null, .null, .null, .null, .null, .null, .int 0, .int 0, .int 0, .int 0, .int 0])), (q_1, .inr (0, [.ref q_2, .int 32])), (q_2, .inl (cI, 768, .inl (fun _ => 0))), (q_3, .inr (0, [.ref q_4, .int 32])), (q_4, .inl (cI, 512, .inl (fun _ => 0))), (q_5, .inr (0, [.ref q_6, .int 40])), (q_6, .inl (cI, 80, .inl (fun _ => 0)))] H := hP
  have hD : va_D A [(h0, .inr (2, [.ref q_1, .ref q_3, .ref q_5, .null, .null, .null, .null, .null, .null, .null, .int 0, .int 0, .int 0, .int 0, .int 0])), (q_1, .inr (0, [.ref q_2, .int 32])), (q_2, .inl (cI, 768, .inl (fun _ => 0))), (q_3, .inr (0, [.ref q_4, .int 32])), (q_4, .inl (cI, 512, .inl (fun _ => 0))), (q_5, .inr (0, [.ref q_6, .int 40])), (q_6, .inl (cI, 80, .inl (fun _ => 0)))] := hD
  refine lv_aload_n hx hb d_SF_init_57 rfl (lv_at hl 0 rfl) ?_
  refine va_new (ci := 0) (fs := [.null, .int 0]) (C := R_Bl) (T := F_Bl) (N := 2) hx hb hts i_Bl t_Bl t_Bl_ok hown (hts _ wd_72) (hts _ wd_73) (hts _ wd_53) hK hP hD hS hA rfl (fun j hj => by rcases (show j = 0 ∨ j = 1 by omega) with rfl | rfl <;> rfl) (by rw [hR]; exact Nat.le_of_ble_eq_true rfl) (by rw [hR]; exact Nat.le_of_ble_eq_true rfl) d_SF_init_58 (fun q_7 H hP hD hS => ?_)
  have hP : va_P D classes [(h0, .inr (2, [.ref q_1, .ref q_3, .ref q_5, .null, .null, .null, .null, .null, .null, .null, .int 0, .int 0, .int 0, .int 0, .int 0])), (q_1, .inr (0, [.ref q_2, .int 32])), (q_2, .inl (cI, 768, .inl (fun _ => 0))), (q_3, .inr (0, [.ref q_4, .int 32])), (q_4, .inl (cI, 512, .inl (fun _ => 0))), (q_5, .inr (0, [.ref q_6, .int 40])), (q_6, .inl (cI, 80, .inl (fun _ => 0))), (q_7, .inr (0, [.null, .int 0]))] H := hP
  have hD : va_D A [(h0, .inr (2, [.ref q_1, .ref q_3, .ref q_5, .null, .null, .null, .null, .null, .null, .null, .int 0, .int 0, .int 0, .int 0, .int 0])), (q_1, .inr (0, [.ref q_2, .int 32])), (q_2, .inl (cI, 768, .inl (fun _ => 0))), (q_3, .inr (0, [.ref q_4, .int 32])), (q_4, .inl (cI, 512, .inl (fun _ => 0))), (q_5, .inr (0, [.ref q_6, .int 40])), (q_6, .inl (cI, 80, .inl (fun _ => 0))), (q_7, .inr (0, [.null, .int 0]))] := hD
  refine lv_dup hx hb d_SF_init_61 rfl ?_
  refine lv_bipush (v := 32) hx hb d_SF_init_62 (by decide) ?_
  refine sf_newi hx hb (hts _ wd_86) hK hP hD hS hA 0 rfl 32 rfl (by omega) (by rw [hR]; exact Nat.le_of_ble_eq_true rfl) (by rw [hR]; exact Nat.le_of_ble_eq_true rfl) d_SF_init_64 (fun q_8 H hP hD hS => ?_)
  have hP : va_P D classes [(h0, .inr (2, [.ref q_1, .ref q_3, .ref q_5, .null, .null, .null, .null, .null, .null, .null, .int 0, .int 0, .int 0, .int 0, .int 0])), (q_1, .inr (0, [.ref q_2, .int 32])), (q_2, .inl (cI, 768, .inl (fun _ => 0))), (q_3, .inr (0, [.ref q_4, .int 32])), (q_4, .inl (cI, 512, .inl (fun _ => 0))), (q_5, .inr (0, [.ref q_6, .int 40])), (q_6, .inl (cI, 80, .inl (fun _ => 0))), (q_7, .inr (0, [.null, .int 0])), (q_8, .inl (cI, 32, .inl (fun _ => 0)))] H := hP
  have hD : va_D A [(h0, .inr (2, [.ref q_1, .ref q_3, .ref q_5, .null, .null, .null, .null, .null, .null, .null, .int 0, .int 0, .int 0, .int 0, .int 0])), (q_1, .inr (0, [.ref q_2, .int 32])), (q_2, .inl (cI, 768, .inl (fun _ => 0))), (q_3, .inr (0, [.ref q_4, .int 32])), (q_4, .inl (cI, 512, .inl (fun _ => 0))), (q_5, .inr (0, [.ref q_6, .int 40])), (q_6, .inl (cI, 80, .inl (fun _ => 0))), (q_7, .inr (0, [.null, .int 0])), (q_8, .inl (cI, 32, .inl (fun _ => 0)))] := hD
  refine lv_bipush (v := 32) hx hb d_SF_init_66 (by decide) ?_
  refine sf_callIM (S := Unit) (rest := [.ref q_7, .ref h0]) ⟨hx, hb, hml, hown, hts⟩ (c_Bl_init l D cI cZ cJ q_7 q_8 32) (sf_cwI lk_SF_11 hts (fun _ h => h) (by rw [hR]; exact ⟨Nat.le_of_ble_eq_true rfl, Nat.le_of_ble_eq_true rfl⟩)) hK hP hD hS hA [7] rfl rfl (fun _ => rfl) rfl rfl hl.1 (Nat.le_of_ble_eq_true rfl) d_SF_init_68 ⟨by rw [hR]; exact Nat.le_of_ble_eq_true rfl, by rw [hR]; exact Nat.le_of_ble_eq_true rfl⟩ (fun u H locs hu hP hD hS => ?_)
  have hP : va_P D classes [(h0, .inr (2, [.ref q_1, .ref q_3, .ref q_5, .null, .null, .null, .null, .null, .null, .null, .int 0, .int 0, .int 0, .int 0, .int 0])), (q_1, .inr (0, [.ref q_2, .int 32])), (q_2, .inl (cI, 768, .inl (fun _ => 0))), (q_3, .inr (0, [.ref q_4, .int 32])), (q_4, .inl (cI, 512, .inl (fun _ => 0))), (q_5, .inr (0, [.ref q_6, .int 40])), (q_6, .inl (cI, 80, .inl (fun _ => 0))), (q_7, .inr (0, [.ref q_8, .int 32])), (q_8, .inl (cI, 32, .inl (fun _ => 0)))] H := hP
  have hD : va_D A [(h0, .inr (2, [.ref q_1, .ref q_3, .ref q_5, .null, .null, .null, .null, .null, .null, .null, .int 0, .int 0, .int 0, .int 0, .int 0])), (q_1, .inr (0, [.ref q_2, .int 32])), (q_2, .inl (cI, 768, .inl (fun _ => 0))), (q_3, .inr (0, [.ref q_4, .int 32])), (q_4, .inl (cI, 512, .inl (fun _ => 0))), (q_5, .inr (0, [.ref q_6, .int 40])), (q_6, .inl (cI, 80, .inl (fun _ => 0))), (q_7, .inr (0, [.ref q_8, .int 32])), (q_8, .inl (cI, 32, .inl (fun _ => 0)))] := hD
  refine va_putF (D := D) (ci := 2) (v := .ref q_7) (ty := (.object "ShadowFiles$Blocks")) (C := R_SF) (T := F_SF) (N := 15) hx hb hts i_SF t_SF t_SF_ok n_SF hown hK hP hD hS 0 rfl rfl 3 (by decide) (hts _ wd_113) (fun _ h9 => h9) rfl hin rfl (by decide +kernel) rfl rfl (Nat.le_of_ble_eq_true rfl) d_SF_init_71 (fun H locs hP hD hS => ?_)
  have hP : va_P D classes [(h0, .inr (2, [.ref q_1, .ref q_3, .ref q_5, .ref q_7, .null, .null, .null, .null, .null, .null, .int 0, .int 0, .int 0, .int 0, .int 0])), (q_1, .inr (0, [.ref q_2, .int 32])), (q_2, .inl (cI, 768, .inl (fun _ => 0))), (q_3, .inr (0, [.ref q_4, .int 32])), (q_4, .inl (cI, 512, .inl (fun _ => 0))), (q_5, .inr (0, [.ref q_6, .int 40])), (q_6, .inl (cI, 80, .inl (fun _ => 0))), (q_7, .inr (0, [.ref q_8, .int 32])), (q_8, .inl (cI, 32, .inl (fun _ => 0)))] H := hP
  have hD : va_D A [(h0, .inr (2, [.ref q_1, .ref q_3, .ref q_5, .ref q_7, .null, .null, .null, .null, .null, .null, .int 0, .int 0, .int 0, .int 0, .int 0])), (q_1, .inr (0, [.ref q_2, .int 32])), (q_2, .inl (cI, 768, .inl (fun _ => 0))), (q_3, .inr (0, [.ref q_4, .int 32])), (q_4, .inl (cI, 512, .inl (fun _ => 0))), (q_5, .inr (0, [.ref q_6, .int 40])), (q_6, .inl (cI, 80, .inl (fun _ => 0))), (q_7, .inr (0, [.ref q_8, .int 32])), (q_8, .inl (cI, 32, .inl (fun _ => 0)))] := hD
  refine lv_aload_n hx hb d_SF_init_74 rfl (lv_at hl 0 rfl) ?_
  refine va_new (ci := 0) (fs := [.null, .int 0]) (C := R_Bl) (T := F_Bl) (N := 2) hx hb hts i_Bl t_Bl t_Bl_ok hown (hts _ wd_72) (hts _ wd_73) (hts _ wd_53) hK hP hD hS hA rfl (fun j hj => by rcases (show j = 0 ∨ j = 1 by omega) with rfl | rfl <;> rfl) (by rw [hR]; exact Nat.le_of_ble_eq_true rfl) (by rw [hR]; exact Nat.le_of_ble_eq_true rfl) d_SF_init_75 (fun q_9 H hP hD hS => ?_)
  have hP : va_P D classes [(h0, .inr (2, [.ref q_1, .ref q_3, .ref q_5, .ref q_7, .null, .null, .null, .null, .null, .null, .int 0, .int 0, .int 0, .int 0, .int 0])), (q_1, .inr (0, [.ref q_2, .int 32])), (q_2, .inl (cI, 768, .inl (fun _ => 0))), (q_3, .inr (0, [.ref q_4, .int 32])), (q_4, .inl (cI, 512, .inl (fun _ => 0))), (q_5, .inr (0, [.ref q_6, .int 40])), (q_6, .inl (cI, 80, .inl (fun _ => 0))), (q_7, .inr (0, [.ref q_8, .int 32])), (q_8, .inl (cI, 32, .inl (fun _ => 0))), (q_9, .inr (0, [.null, .int 0]))] H := hP
  have hD : va_D A [(h0, .inr (2, [.ref q_1, .ref q_3, .ref q_5, .ref q_7, .null, .null, .null, .null, .null, .null, .int 0, .int 0, .int 0, .int 0, .int 0])), (q_1, .inr (0, [.ref q_2, .int 32])), (q_2, .inl (cI, 768, .inl (fun _ => 0))), (q_3, .inr (0, [.ref q_4, .int 32])), (q_4, .inl (cI, 512, .inl (fun _ => 0))), (q_5, .inr (0, [.ref q_6, .int 40])), (q_6, .inl (cI, 80, .inl (fun _ => 0))), (q_7, .inr (0, [.ref q_8, .int 32])), (q_8, .inl (cI, 32, .inl (fun _ => 0))), (q_9, .inr (0, [.null, .int 0]))] := hD
  refine lv_dup hx hb d_SF_init_78 rfl ?_
  refine lv_bipush (v := 40) hx hb d_SF_init_79 (by decide) ?_
  refine sf_newi hx hb (hts _ wd_86) hK hP hD hS hA 0 rfl 40 rfl (by omega) (by rw [hR]; exact Nat.le_of_ble_eq_true rfl) (by rw [hR]; exact Nat.le_of_ble_eq_true rfl) d_SF_init_81 (fun q_10 H hP hD hS => ?_)
  have hP : va_P D classes [(h0, .inr (2, [.ref q_1, .ref q_3, .ref q_5, .ref q_7, .null, .null, .null, .null, .null, .null, .int 0, .int 0, .int 0, .int 0, .int 0])), (q_1, .inr (0, [.ref q_2, .int 32])), (q_2, .inl (cI, 768, .inl (fun _ => 0))), (q_3, .inr (0, [.ref q_4, .int 32])), (q_4, .inl (cI, 512, .inl (fun _ => 0))), (q_5, .inr (0, [.ref q_6, .int 40])), (q_6, .inl (cI, 80, .inl (fun _ => 0))), (q_7, .inr (0, [.ref q_8, .int 32])), (q_8, .inl (cI, 32, .inl (fun _ => 0))), (q_9, .inr (0, [.null, .int 0])), (q_10, .inl (cI, 40, .inl (fun _ => 0)))] H := hP
  have hD : va_D A [(h0, .inr (2, [.ref q_1, .ref q_3, .ref q_5, .ref q_7, .null, .null, .null, .null, .null, .null, .int 0, .int 0, .int 0, .int 0, .int 0])), (q_1, .inr (0, [.ref q_2, .int 32])), (q_2, .inl (cI, 768, .inl (fun _ => 0))), (q_3, .inr (0, [.ref q_4, .int 32])), (q_4, .inl (cI, 512, .inl (fun _ => 0))), (q_5, .inr (0, [.ref q_6, .int 40])), (q_6, .inl (cI, 80, .inl (fun _ => 0))), (q_7, .inr (0, [.ref q_8, .int 32])), (q_8, .inl (cI, 32, .inl (fun _ => 0))), (q_9, .inr (0, [.null, .int 0])), (q_10, .inl (cI, 40, .inl (fun _ => 0)))] := hD
  refine lv_bipush (v := 40) hx hb d_SF_init_83 (by decide) ?_
  refine sf_callIM (S := Unit) (rest := [.ref q_9, .ref h0]) ⟨hx, hb, hml, hown, hts⟩ (c_Bl_init l D cI cZ cJ q_9 q_10 40) (sf_cwI lk_SF_11 hts (fun _ h => h) (by rw [hR]; exact ⟨Nat.le_of_ble_eq_true rfl, Nat.le_of_ble_eq_true rfl⟩)) hK hP hD hS hA [9] rfl rfl (fun _ => rfl) rfl rfl hl.1 (Nat.le_of_ble_eq_true rfl) d_SF_init_85 ⟨by rw [hR]; exact Nat.le_of_ble_eq_true rfl, by rw [hR]; exact Nat.le_of_ble_eq_true rfl⟩ (fun u H locs hu hP hD hS => ?_)
  have hP : va_P D classes [(h0, .inr (2, [.ref q_1, .ref q_3, .ref q_5, .ref q_7, .null, .null, .null, .null, .null, .null, .int 0, .int 0, .int 0, .int 0, .int 0])), (q_1, .inr (0, [.ref q_2, .int 32])), (q_2, .inl (cI, 768, .inl (fun _ => 0))), (q_3, .inr (0, [.ref q_4, .int 32])), (q_4, .inl (cI, 512, .inl (fun _ => 0))), (q_5, .inr (0, [.ref q_6, .int 40])), (q_6, .inl (cI, 80, .inl (fun _ => 0))), (q_7, .inr (0, [.ref q_8, .int 32])), (q_8, .inl (cI, 32, .inl (fun _ => 0))), (q_9, .inr (0, [.ref q_10, .int 40])), (q_10, .inl (cI, 40, .inl (fun _ => 0)))] H := hP
  have hD : va_D A [(h0, .inr (2, [.ref q_1, .ref q_3, .ref q_5, .ref q_7, .null, .null, .null, .null, .null, .null, .int 0, .int 0, .int 0, .int 0, .int 0])), (q_1, .inr (0, [.ref q_2, .int 32])), (q_2, .inl (cI, 768, .inl (fun _ => 0))), (q_3, .inr (0, [.ref q_4, .int 32])), (q_4, .inl (cI, 512, .inl (fun _ => 0))), (q_5, .inr (0, [.ref q_6, .int 40])), (q_6, .inl (cI, 80, .inl (fun _ => 0))), (q_7, .inr (0, [.ref q_8, .int 32])), (q_8, .inl (cI, 32, .inl (fun _ => 0))), (q_9, .inr (0, [.ref q_10, .int 40])), (q_10, .inl (cI, 40, .inl (fun _ => 0)))] := hD
  refine va_putF (D := D) (ci := 2) (v := .ref q_9) (ty := (.object "ShadowFiles$Blocks")) (C := R_SF) (T := F_SF) (N := 15) hx hb hts i_SF t_SF t_SF_ok n_SF hown hK hP hD hS 0 rfl rfl 4 (by decide) (hts _ wd_114) (fun _ h9 => h9) rfl hin rfl (by decide +kernel) rfl rfl (Nat.le_of_ble_eq_true rfl) d_SF_init_88 (fun H locs hP hD hS => ?_)
  have hP : va_P D classes [(h0, .inr (2, [.ref q_1, .ref q_3, .ref q_5, .ref q_7, .ref q_9, .null, .null, .null, .null, .null, .int 0, .int 0, .int 0, .int 0, .int 0])), (q_1, .inr (0, [.ref q_2, .int 32])), (q_2, .inl (cI, 768, .inl (fun _ => 0))), (q_3, .inr (0, [.ref q_4, .int 32])), (q_4, .inl (cI, 512, .inl (fun _ => 0))), (q_5, .inr (0, [.ref q_6, .int 40])), (q_6, .inl (cI, 80, .inl (fun _ => 0))), (q_7, .inr (0, [.ref q_8, .int 32])), (q_8, .inl (cI, 32, .inl (fun _ => 0))), (q_9, .inr (0, [.ref q_10, .int 40])), (q_10, .inl (cI, 40, .inl (fun _ => 0)))] H := hP
  have hD : va_D A [(h0, .inr (2, [.ref q_1, .ref q_3, .ref q_5, .ref q_7, .ref q_9, .null, .null, .null, .null, .null, .int 0, .int 0, .int 0, .int 0, .int 0])), (q_1, .inr (0, [.ref q_2, .int 32])), (q_2, .inl (cI, 768, .inl (fun _ => 0))), (q_3, .inr (0, [.ref q_4, .int 32])), (q_4, .inl (cI, 512, .inl (fun _ => 0))), (q_5, .inr (0, [.ref q_6, .int 40])), (q_6, .inl (cI, 80, .inl (fun _ => 0))), (q_7, .inr (0, [.ref q_8, .int 32])), (q_8, .inl (cI, 32, .inl (fun _ => 0))), (q_9, .inr (0, [.ref q_10, .int 40])), (q_10, .inl (cI, 40, .inl (fun _ => 0)))] := hD
  refine lv_aload_n hx hb d_SF_init_91 rfl (lv_at hl 0 rfl) ?_
  refine va_new (ci := 1) (fs := [.null, .int 0, .int 0, .int 0, .int 0]) (C := R_Ch) (T := F_Ch) (N := 5) hx hb hts i_Ch t_Ch t_Ch_ok hown (hts _ wd_87) (hts _ wd_88) (hts _ wd_54) hK hP hD hS hA rfl (fun j hj => by rcases (show j = 0 ∨ j = 1 ∨ j = 2 ∨ j = 3 ∨ j = 4 by omega) with rfl | rfl | rfl | rfl | rfl <;> rfl) (by rw [hR]; exact Nat.le_of_ble_eq_true rfl) (by rw [hR]; exact Nat.le_of_ble_eq_true rfl) d_SF_init_92 (fun q_11 H hP hD hS => ?_)
  have hP : va_P D classes [(h0, .inr (2, [.ref q_1, .ref q_3, .ref q_5, .ref q_7, .ref q_9, .null, .null, .null, .null, .null, .int 0, .int 0, .int 0, .int 0, .int 0])), (q_1, .inr (0, [.ref q_2, .int 32])), (q_2, .inl (cI, 768, .inl (fun _ => 0))), (q_3, .inr (0, [.ref q_4, .int 32])), (q_4, .inl (cI, 512, .inl (fun _ => 0))), (q_5, .inr (0, [.ref q_6, .int 40])), (q_6, .inl (cI, 80, .inl (fun _ => 0))), (q_7, .inr (0, [.ref q_8, .int 32])), (q_8, .inl (cI, 32, .inl (fun _ => 0))), (q_9, .inr (0, [.ref q_10, .int 40])), (q_10, .inl (cI, 40, .inl (fun _ => 0))), (q_11, .inr (1, [.null, .int 0, .int 0, .int 0, .int 0]))] H := hP
  have hD : va_D A [(h0, .inr (2, [.ref q_1, .ref q_3, .ref q_5, .ref q_7, .ref q_9, .null, .null, .null, .null, .null, .int 0, .int 0, .int 0, .int 0, .int 0])), (q_1, .inr (0, [.ref q_2, .int 32])), (q_2, .inl (cI, 768, .inl (fun _ => 0))), (q_3, .inr (0, [.ref q_4, .int 32])), (q_4, .inl (cI, 512, .inl (fun _ => 0))), (q_5, .inr (0, [.ref q_6, .int 40])), (q_6, .inl (cI, 80, .inl (fun _ => 0))), (q_7, .inr (0, [.ref q_8, .int 32])), (q_8, .inl (cI, 32, .inl (fun _ => 0))), (q_9, .inr (0, [.ref q_10, .int 40])), (q_10, .inl (cI, 40, .inl (fun _ => 0))), (q_11, .inr (1, [.null, .int 0, .int 0, .int 0, .int 0]))] := hD
  refine lv_dup hx hb d_SF_init_95 rfl ?_
  refine sf_callII (S := Nat) (rest := [.ref q_11, .ref h0]) ⟨hx, hb, hml, hown, hts⟩ (c_Ch_init l D cI cZ cJ q_11) (sf_cwI lk_SF_32 hts (fun _ h => h) (by rw [hR]; exact ⟨Nat.le_of_ble_eq_true rfl, Nat.le_of_ble_eq_true rfl⟩)) hK hP hD hS hA [11] [0, 1, 2, 3, 4, 5, 6, 7, 8, 9, 10] rfl rfl rfl rfl (by decide) rfl rfl hl.1 (Nat.le_of_ble_eq_true rfl) d_SF_init_96 ⟨by rw [hR]; exact Nat.le_of_ble_eq_true rfl, by rw [hR]; exact Nat.le_of_ble_eq_true rfl⟩ (fun q_12 H locs hu hP hD hS => ?_)
  have hP : va_P D classes [(h0, .inr (2, [.ref q_1, .ref q_3, .ref q_5, .ref q_7, .ref q_9, .null, .null, .null, .null, .null, .int 0, .int 0, .int 0, .int 0, .int 0])), (q_1, .inr (0, [.ref q_2, .int 32])), (q_2, .inl (cI, 768, .inl (fun _ => 0))), (q_3, .inr (0, [.ref q_4, .int 32])), (q_4, .inl (cI, 512, .inl (fun _ => 0))), (q_5, .inr (0, [.ref q_6, .int 40])), (q_6, .inl (cI, 80, .inl (fun _ => 0))), (q_7, .inr (0, [.ref q_8, .int 32])), (q_8, .inl (cI, 32, .inl (fun _ => 0))), (q_9, .inr (0, [.ref q_10, .int 40])), (q_10, .inl (cI, 40, .inl (fun _ => 0))), (q_11, .inr (1, [.ref q_12, .int 0, .int 1, .int 0, .int 0])), (q_12, .inl (cI, 3, .inl (fun _ => 0)))] H := hP
  have hD : va_D A [(h0, .inr (2, [.ref q_1, .ref q_3, .ref q_5, .ref q_7, .ref q_9, .null, .null, .null, .null, .null, .int 0, .int 0, .int 0, .int 0, .int 0])), (q_1, .inr (0, [.ref q_2, .int 32])), (q_2, .inl (cI, 768, .inl (fun _ => 0))), (q_3, .inr (0, [.ref q_4, .int 32])), (q_4, .inl (cI, 512, .inl (fun _ => 0))), (q_5, .inr (0, [.ref q_6, .int 40])), (q_6, .inl (cI, 80, .inl (fun _ => 0))), (q_7, .inr (0, [.ref q_8, .int 32])), (q_8, .inl (cI, 32, .inl (fun _ => 0))), (q_9, .inr (0, [.ref q_10, .int 40])), (q_10, .inl (cI, 40, .inl (fun _ => 0))), (q_11, .inr (1, [.ref q_12, .int 0, .int 1, .int 0, .int 0])), (q_12, .inl (cI, 3, .inl (fun _ => 0)))] := hD
  refine va_putF (D := D) (ci := 2) (v := .ref q_11) (ty := (.object "ShadowFiles$Chain")) (C := R_SF) (T := F_SF) (N := 15) hx hb hts i_SF t_SF t_SF_ok n_SF hown hK hP hD hS 0 rfl rfl 5 (by decide) (hts _ wd_115) (fun _ h9 => h9) rfl hin rfl (by decide +kernel) rfl rfl (Nat.le_of_ble_eq_true rfl) d_SF_init_99 (fun H locs hP hD hS => ?_)
  have hP : va_P D classes [(h0, .inr (2, [.ref q_1, .ref q_3, .ref q_5, .ref q_7, .ref q_9, .ref q_11, .null, .null, .null, .null, .int 0, .int 0, .int 0, .int 0, .int 0])), (q_1, .inr (0, [.ref q_2, .int 32])), (q_2, .inl (cI, 768, .inl (fun _ => 0))), (q_3, .inr (0, [.ref q_4, .int 32])), (q_4, .inl (cI, 512, .inl (fun _ => 0))), (q_5, .inr (0, [.ref q_6, .int 40])), (q_6, .inl (cI, 80, .inl (fun _ => 0))), (q_7, .inr (0, [.ref q_8, .int 32])), (q_8, .inl (cI, 32, .inl (fun _ => 0))), (q_9, .inr (0, [.ref q_10, .int 40])), (q_10, .inl (cI, 40, .inl (fun _ => 0))), (q_11, .inr (1, [.ref q_12, .int 0, .int 1, .int 0, .int 0])), (q_12, .inl (cI, 3, .inl (fun _ => 0)))] H := hP
  have hD : va_D A [(h0, .inr (2, [.ref q_1, .ref q_3, .ref q_5, .ref q_7, .ref q_9, .ref q_11, .null, .null, .null, .null, .int 0, .int 0, .int 0, .int 0, .int 0])), (q_1, .inr (0, [.ref q_2, .int 32])), (q_2, .inl (cI, 768, .inl (fun _ => 0))), (q_3, .inr (0, [.ref q_4, .int 32])), (q_4, .inl (cI, 512, .inl (fun _ => 0))), (q_5, .inr (0, [.ref q_6, .int 40])), (q_6, .inl (cI, 80, .inl (fun _ => 0))), (q_7, .inr (0, [.ref q_8, .int 32])), (q_8, .inl (cI, 32, .inl (fun _ => 0))), (q_9, .inr (0, [.ref q_10, .int 40])), (q_10, .inl (cI, 40, .inl (fun _ => 0))), (q_11, .inr (1, [.ref q_12, .int 0, .int 1, .int 0, .int 0])), (q_12, .inl (cI, 3, .inl (fun _ => 0)))] := hD
  refine lv_aload_n hx hb d_SF_init_102 rfl (lv_at hl 0 rfl) ?_
  refine va_new (ci := 1) (fs := [.null, .int 0, .int 0, .int 0, .int 0]) (C := R_Ch) (T := F_Ch) (N := 5) hx hb hts i_Ch t_Ch t_Ch_ok hown (hts _ wd_87) (hts _ wd_88) (hts _ wd_54) hK hP hD hS hA rfl (fun j hj => by rcases (show j = 0 ∨ j = 1 ∨ j = 2 ∨ j = 3 ∨ j = 4 by omega) with rfl | rfl | rfl | rfl | rfl <;> rfl) (by rw [hR]; exact Nat.le_of_ble_eq_true rfl) (by rw [hR]; exact Nat.le_of_ble_eq_true rfl) d_SF_init_103 (fun q_13 H hP hD hS => ?_)
  have hP : va_P D classes [(h0, .inr (2, [.ref q_1, .ref q_3, .ref q_5, .ref q_7, .ref q_9, .ref q_11, .null, .null, .null, .null, .int 0, .int 0, .int 0, .int 0, .int 0])), (q_1, .inr (0, [.ref q_2, .int 32])), (q_2, .inl (cI, 768, .inl (fun _ => 0))), (q_3, .inr (0, [.ref q_4, .int 32])), (q_4, .inl (cI, 512, .inl (fun _ => 0))), (q_5, .inr (0, [.ref q_6, .int 40])), (q_6, .inl (cI, 80, .inl (fun _ => 0))), (q_7, .inr (0, [.ref q_8, .int 32])), (q_8, .inl (cI, 32, .inl (fun _ => 0))), (q_9, .inr (0, [.ref q_10, .int 40])), (q_10, .inl (cI, 40, .inl (fun _ => 0))), (q_11, .inr (1, [.ref q_12, .int 0, .int 1, .int 0, .int 0])), (q_12, .inl (cI, 3, .inl (fun _ => 0))), (q_13, .inr (1, [.null, .int 0, .int 0, .int 0, .int 0]))] H := hP
  have hD : va_D A [(h0, .inr (2, [.ref q_1, .ref q_3, .ref q_5, .ref q_7, .ref q_9, .ref q_11, .null, .null, .null, .null, .int 0, .int 0, .int 0, .int 0, .int 0])), (q_1, .inr (0, [.ref q_2, .int 32])), (q_2, .inl (cI, 768, .inl (fun _ => 0))), (q_3, .inr (0, [.ref q_4, .int 32])), (q_4, .inl (cI, 512, .inl (fun _ => 0))), (q_5, .inr (0, [.ref q_6, .int 40])), (q_6, .inl (cI, 80, .inl (fun _ => 0))), (q_7, .inr (0, [.ref q_8, .int 32])), (q_8, .inl (cI, 32, .inl (fun _ => 0))), (q_9, .inr (0, [.ref q_10, .int 40])), (q_10, .inl (cI, 40, .inl (fun _ => 0))), (q_11, .inr (1, [.ref q_12, .int 0, .int 1, .int 0, .int 0])), (q_12, .inl (cI, 3, .inl (fun _ => 0))), (q_13, .inr (1, [.null, .int 0, .int 0, .int 0, .int 0]))] := hD
  refine lv_dup hx hb d_SF_init_106 rfl ?_
  refine sf_callII (S := Nat) (rest := [.ref q_13, .ref h0]) ⟨hx, hb, hml, hown, hts⟩ (c_Ch_init l D cI cZ cJ q_13) (sf_cwI lk_SF_32 hts (fun _ h => h) (by rw [hR]; exact ⟨Nat.le_of_ble_eq_true rfl, Nat.le_of_ble_eq_true rfl⟩)) hK hP hD hS hA [13] [0, 1, 2, 3, 4, 5, 6, 7, 8, 9, 10, 11, 12] rfl rfl rfl rfl (by decide) rfl rfl hl.1 (Nat.le_of_ble_eq_true rfl) d_SF_init_107 ⟨by rw [hR]; exact Nat.le_of_ble_eq_true rfl, by rw [hR]; exact Nat.le_of_ble_eq_true rfl⟩ (fun q_14 H locs hu hP hD hS => ?_)
  have hP : va_P D classes [(h0, .inr (2, [.ref q_1, .ref q_3, .ref q_5, .ref q_7, .ref q_9, .ref q_11, .null, .null, .null, .null, .int 0, .int 0, .int 0, .int 0, .int 0])), (q_1, .inr (0, [.ref q_2, .int 32])), (q_2, .inl (cI, 768, .inl (fun _ => 0))), (q_3, .inr (0, [.ref q_4, .int 32])), (q_4, .inl (cI, 512, .inl (fun _ => 0))), (q_5, .inr (0, [.ref q_6, .int 40])), (q_6, .inl (cI, 80, .inl (fun _ => 0))), (q_7, .inr (0, [.ref q_8, .int 32])), (q_8, .inl (cI, 32, .inl (fun _ => 0))), (q_9, .inr (0, [.ref q_10, .int 40])), (q_10, .inl (cI, 40, .inl (fun _ => 0))), (q_11, .inr (1, [.ref q_12, .int 0, .int 1, .int 0, .int 0])), (q_12, .inl (cI, 3, .inl (fun _ => 0))), (q_13, .inr (1, [.ref q_14, .int 0, .int 1, .int 0, .int 0])), (q_14, .inl (cI, 3, .inl (fun _ => 0)))] H := hP
  have hD : va_D A [(h0, .inr (2, [.ref q_1, .ref q_3, .ref q_5, .ref q_7, .ref q_9, .ref q_11, .null, .null, .null, .null, .int 0, .int 0, .int 0, .int 0, .int 0])), (q_1, .inr (0, [.ref q_2, .int 32])), (q_2, .inl (cI, 768, .inl (fun _ => 0))), (q_3, .inr (0, [.ref q_4, .int 32])), (q_4, .inl (cI, 512, .inl (fun _ => 0))), (q_5, .inr (0, [.ref q_6, .int 40])), (q_6, .inl (cI, 80, .inl (fun _ => 0))), (q_7, .inr (0, [.ref q_8, .int 32])), (q_8, .inl (cI, 32, .inl (fun _ => 0))), (q_9, .inr (0, [.ref q_10, .int 40])), (q_10, .inl (cI, 40, .inl (fun _ => 0))), (q_11, .inr (1, [.ref q_12, .int 0, .int 1, .int 0, .int 0])), (q_12, .inl (cI, 3, .inl (fun _ => 0))), (q_13, .inr (1, [.ref q_14, .int 0, .int 1, .int 0, .int 0])), (q_14, .inl (cI, 3, .inl (fun _ => 0)))] := hD
  refine va_putF (D := D) (ci := 2) (v := .ref q_13) (ty := (.object "ShadowFiles$Chain")) (C := R_SF) (T := F_SF) (N := 15) hx hb hts i_SF t_SF t_SF_ok n_SF hown hK hP hD hS 0 rfl rfl 6 (by decide) (hts _ wd_116) (fun _ h9 => h9) rfl hin rfl (by decide +kernel) rfl rfl (Nat.le_of_ble_eq_true rfl) d_SF_init_110 (fun H locs hP hD hS => ?_)
  have hP : va_P D classes [(h0, .inr (2, [.ref q_1, .ref q_3, .ref q_5, .ref q_7, .ref q_9, .ref q_11, .ref q_13, .null, .null, .null, .int 0, .int 0, .int 0, .int 0, .int 0])), (q_1, .inr (0, [.ref q_2, .int 32])), (q_2, .inl (cI, 768, .inl (fun _ => 0))), (q_3, .inr (0, [.ref q_4, .int 32])), (q_4, .inl (cI, 512, .inl (fun _ => 0))), (q_5, .inr (0, [.ref q_6, .int 40])), (q_6, .inl (cI, 80, .inl (fun _ => 0))), (q_7, .inr (0, [.ref q_8, .int 32])), (q_8, .inl (cI, 32, .inl (fun _ => 0))), (q_9, .inr (0, [.ref q_10, .int 40])), (q_10, .inl (cI, 40, .inl (fun _ => 0))), (q_11, .inr (1, [.ref q_12, .int 0, .int 1, .int 0, .int 0])), (q_12, .inl (cI, 3, .inl (fun _ => 0))), (q_13, .inr (1, [.ref q_14, .int 0, .int 1, .int 0, .int 0])), (q_14, .inl (cI, 3, .inl (fun _ => 0)))] H := hP
  have hD : va_D A [(h0, .inr (2, [.ref q_1, .ref q_3, .ref q_5, .ref q_7, .ref q_9, .ref q_11, .ref q_13, .null, .null, .null, .int 0, .int 0, .int 0, .int 0, .int 0])), (q_1, .inr (0, [.ref q_2, .int 32])), (q_2, .inl (cI, 768, .inl (fun _ => 0))), (q_3, .inr (0, [.ref q_4, .int 32])), (q_4, .inl (cI, 512, .inl (fun _ => 0))), (q_5, .inr (0, [.ref q_6, .int 40])), (q_6, .inl (cI, 80, .inl (fun _ => 0))), (q_7, .inr (0, [.ref q_8, .int 32])), (q_8, .inl (cI, 32, .inl (fun _ => 0))), (q_9, .inr (0, [.ref q_10, .int 40])), (q_10, .inl (cI, 40, .inl (fun _ => 0))), (q_11, .inr (1, [.ref q_12, .int 0, .int 1, .int 0, .int 0])), (q_12, .inl (cI, 3, .inl (fun _ => 0))), (q_13, .inr (1, [.ref q_14, .int 0, .int 1, .int 0, .int 0])), (q_14, .inl (cI, 3, .inl (fun _ => 0)))] := hD
  refine lv_aload_n hx hb d_SF_init_113 rfl (lv_at hl 0 rfl) ?_
  refine lv_bipush (v := 24) hx hb d_SF_init_114 (by decide) ?_
  refine sf_newz hx hb (hts _ wd_156) hK hP hD hS hA 1 rfl 24 rfl (by omega) (by rw [hR]; exact Nat.le_of_ble_eq_true rfl) (by rw [hR]; exact Nat.le_of_ble_eq_true rfl) d_SF_init_116 (fun q_15 H hP hD hS => ?_)
  have hP : va_P D classes [(h0, .inr (2, [.ref q_1, .ref q_3, .ref q_5, .ref q_7, .ref q_9, .ref q_11, .ref q_13, .null, .null, .null, .int 0, .int 0, .int 0, .int 0, .int 0])), (q_1, .inr (0, [.ref q_2, .int 32])), (q_2, .inl (cI, 768, .inl (fun _ => 0))), (q_3, .inr (0, [.ref q_4, .int 32])), (q_4, .inl (cI, 512, .inl (fun _ => 0))), (q_5, .inr (0, [.ref q_6, .int 40])), (q_6, .inl (cI, 80, .inl (fun _ => 0))), (q_7, .inr (0, [.ref q_8, .int 32])), (q_8, .inl (cI, 32, .inl (fun _ => 0))), (q_9, .inr (0, [.ref q_10, .int 40])), (q_10, .inl (cI, 40, .inl (fun _ => 0))), (q_11, .inr (1, [.ref q_12, .int 0, .int 1, .int 0, .int 0])), (q_12, .inl (cI, 3, .inl (fun _ => 0))), (q_13, .inr (1, [.ref q_14, .int 0, .int 1, .int 0, .int 0])), (q_14, .inl (cI, 3, .inl (fun _ => 0))), (q_15, .inl (cZ, 24, .inl (fun _ => 0)))] H := hP
  have hD : va_D A [(h0, .inr (2, [.ref q_1, .ref q_3, .ref q_5, .ref q_7, .ref q_9, .ref q_11, .ref q_13, .null, .null, .null, .int 0, .int 0, .int 0, .int 0, .int 0])), (q_1, .inr (0, [.ref q_2, .int 32])), (q_2, .inl (cI, 768, .inl (fun _ => 0))), (q_3, .inr (0, [.ref q_4, .int 32])), (q_4, .inl (cI, 512, .inl (fun _ => 0))), (q_5, .inr (0, [.ref q_6, .int 40])), (q_6, .inl (cI, 80, .inl (fun _ => 0))), (q_7, .inr (0, [.ref q_8, .int 32])), (q_8, .inl (cI, 32, .inl (fun _ => 0))), (q_9, .inr (0, [.ref q_10, .int 40])), (q_10, .inl (cI, 40, .inl (fun _ => 0))), (q_11, .inr (1, [.ref q_12, .int 0, .int 1, .int 0, .int 0])), (q_12, .inl (cI, 3, .inl (fun _ => 0))), (q_13, .inr (1, [.ref q_14, .int 0, .int 1, .int 0, .int 0])), (q_14, .inl (cI, 3, .inl (fun _ => 0))), (q_15, .inl (cZ, 24, .inl (fun _ => 0)))] := hD
  refine va_putF (D := D) (ci := 2) (v := .ref q_15) (ty := (.array .boolean)) (C := R_SF) (T := F_SF) (N := 15) hx hb hts i_SF t_SF t_SF_ok n_SF hown hK hP hD hS 0 rfl rfl 7 (by decide) (hts _ wd_117) (fun _ h9 => h9) rfl hin rfl (by decide +kernel) rfl rfl (Nat.le_of_ble_eq_true rfl) d_SF_init_118 (fun H locs hP hD hS => ?_)
  have hP : va_P D classes [(h0, .inr (2, [.ref q_1, .ref q_3, .ref q_5, .ref q_7, .ref q_9, .ref q_11, .ref q_13, .ref q_15, .null, .null, .int 0, .int 0, .int 0, .int 0, .int 0])), (q_1, .inr (0, [.ref q_2, .int 32])), (q_2, .inl (cI, 768, .inl (fun _ => 0))), (q_3, .inr (0, [.ref q_4, .int 32])), (q_4, .inl (cI, 512, .inl (fun _ => 0))), (q_5, .inr (0, [.ref q_6, .int 40])), (q_6, .inl (cI, 80, .inl (fun _ => 0))), (q_7, .inr (0, [.ref q_8, .int 32])), (q_8, .inl (cI, 32, .inl (fun _ => 0))), (q_9, .inr (0, [.ref q_10, .int 40])), (q_10, .inl (cI, 40, .inl (fun _ => 0))), (q_11, .inr (1, [.ref q_12, .int 0, .int 1, .int 0, .int 0])), (q_12, .inl (cI, 3, .inl (fun _ => 0))), (q_13, .inr (1, [.ref q_14, .int 0, .int 1, .int 0, .int 0])), (q_14, .inl (cI, 3, .inl (fun _ => 0))), (q_15, .inl (cZ, 24, .inl (fun _ => 0)))] H := hP
  have hD : va_D A [(h0, .inr (2, [.ref q_1, .ref q_3, .ref q_5, .ref q_7, .ref q_9, .ref q_11, .ref q_13, .ref q_15, .null, .null, .int 0, .int 0, .int 0, .int 0, .int 0])), (q_1, .inr (0, [.ref q_2, .int 32])), (q_2, .inl (cI, 768, .inl (fun _ => 0))), (q_3, .inr (0, [.ref q_4, .int 32])), (q_4, .inl (cI, 512, .inl (fun _ => 0))), (q_5, .inr (0, [.ref q_6, .int 40])), (q_6, .inl (cI, 80, .inl (fun _ => 0))), (q_7, .inr (0, [.ref q_8, .int 32])), (q_8, .inl (cI, 32, .inl (fun _ => 0))), (q_9, .inr (0, [.ref q_10, .int 40])), (q_10, .inl (cI, 40, .inl (fun _ => 0))), (q_11, .inr (1, [.ref q_12, .int 0, .int 1, .int 0, .int 0])), (q_12, .inl (cI, 3, .inl (fun _ => 0))), (q_13, .inr (1, [.ref q_14, .int 0, .int 1, .int 0, .int 0])), (q_14, .inl (cI, 3, .inl (fun _ => 0))), (q_15, .inl (cZ, 24, .inl (fun _ => 0)))] := hD
  refine lv_aload_n hx hb d_SF_init_121 rfl (lv_at hl 0 rfl) ?_
  refine lv_iconst (v := 3) hx hb d_SF_init_122 (by decide) ?_
  refine sf_newi hx hb (hts _ wd_86) hK hP hD hS hA 0 rfl 3 rfl (by omega) (by rw [hR]; exact Nat.le_of_ble_eq_true rfl) (by rw [hR]; exact Nat.le_of_ble_eq_true rfl) d_SF_init_123 (fun q_16 H hP hD hS => ?_)
  have hP : va_P D classes [(h0, .inr (2, [.ref q_1, .ref q_3, .ref q_5, .ref q_7, .ref q_9, .ref q_11, .ref q_13, .ref q_15, .null, .null, .int 0, .int 0, .int 0, .int 0, .int 0])), (q_1, .inr (0, [.ref q_2, .int 32])), (q_2, .inl (cI, 768, .inl (fun _ => 0))), (q_3, .inr (0, [.ref q_4, .int 32])), (q_4, .inl (cI, 512, .inl (fun _ => 0))), (q_5, .inr (0, [.ref q_6, .int 40])), (q_6, .inl (cI, 80, .inl (fun _ => 0))), (q_7, .inr (0, [.ref q_8, .int 32])), (q_8, .inl (cI, 32, .inl (fun _ => 0))), (q_9, .inr (0, [.ref q_10, .int 40])), (q_10, .inl (cI, 40, .inl (fun _ => 0))), (q_11, .inr (1, [.ref q_12, .int 0, .int 1, .int 0, .int 0])), (q_12, .inl (cI, 3, .inl (fun _ => 0))), (q_13, .inr (1, [.ref q_14, .int 0, .int 1, .int 0, .int 0])), (q_14, .inl (cI, 3, .inl (fun _ => 0))), (q_15, .inl (cZ, 24, .inl (fun _ => 0))), (q_16, .inl (cI, 3, .inl (fun _ => 0)))] H := hP
  have hD : va_D A [(h0, .inr (2, [.ref q_1, .ref q_3, .ref q_5, .ref q_7, .ref q_9, .ref q_11, .ref q_13, .ref q_15, .null, .null, .int 0, .int 0, .int 0, .int 0, .int 0])), (q_1, .inr (0, [.ref q_2, .int 32])), (q_2, .inl (cI, 768, .inl (fun _ => 0))), (q_3, .inr (0, [.ref q_4, .int 32])), (q_4, .inl (cI, 512, .inl (fun _ => 0))), (q_5, .inr (0, [.ref q_6, .int 40])), (q_6, .inl (cI, 80, .inl (fun _ => 0))), (q_7, .inr (0, [.ref q_8, .int 32])), (q_8, .inl (cI, 32, .inl (fun _ => 0))), (q_9, .inr (0, [.ref q_10, .int 40])), (q_10, .inl (cI, 40, .inl (fun _ => 0))), (q_11, .inr (1, [.ref q_12, .int 0, .int 1, .int 0, .int 0])), (q_12, .inl (cI, 3, .inl (fun _ => 0))), (q_13, .inr (1, [.ref q_14, .int 0, .int 1, .int 0, .int 0])), (q_14, .inl (cI, 3, .inl (fun _ => 0))), (q_15, .inl (cZ, 24, .inl (fun _ => 0))), (q_16, .inl (cI, 3, .inl (fun _ => 0)))] := hD
  refine va_putF (D := D) (ci := 2) (v := .ref q_16) (ty := (.array .int)) (C := R_SF) (T := F_SF) (N := 15) hx hb hts i_SF t_SF t_SF_ok n_SF hown hK hP hD hS 0 rfl rfl 8 (by decide) (hts _ wd_118) (fun _ h9 => h9) rfl hin rfl (by decide +kernel) rfl rfl (Nat.le_of_ble_eq_true rfl) d_SF_init_125 (fun H locs hP hD hS => ?_)
  have hP : va_P D classes [(h0, .inr (2, [.ref q_1, .ref q_3, .ref q_5, .ref q_7, .ref q_9, .ref q_11, .ref q_13, .ref q_15, .ref q_16, .null, .int 0, .int 0, .int 0, .int 0, .int 0])), (q_1, .inr (0, [.ref q_2, .int 32])), (q_2, .inl (cI, 768, .inl (fun _ => 0))), (q_3, .inr (0, [.ref q_4, .int 32])), (q_4, .inl (cI, 512, .inl (fun _ => 0))), (q_5, .inr (0, [.ref q_6, .int 40])), (q_6, .inl (cI, 80, .inl (fun _ => 0))), (q_7, .inr (0, [.ref q_8, .int 32])), (q_8, .inl (cI, 32, .inl (fun _ => 0))), (q_9, .inr (0, [.ref q_10, .int 40])), (q_10, .inl (cI, 40, .inl (fun _ => 0))), (q_11, .inr (1, [.ref q_12, .int 0, .int 1, .int 0, .int 0])), (q_12, .inl (cI, 3, .inl (fun _ => 0))), (q_13, .inr (1, [.ref q_14, .int 0, .int 1, .int 0, .int 0])), (q_14, .inl (cI, 3, .inl (fun _ => 0))), (q_15, .inl (cZ, 24, .inl (fun _ => 0))), (q_16, .inl (cI, 3, .inl (fun _ => 0)))] H := hP
  have hD : va_D A [(h0, .inr (2, [.ref q_1, .ref q_3, .ref q_5, .ref q_7, .ref q_9, .ref q_11, .ref q_13, .ref q_15, .ref q_16, .null, .int 0, .int 0, .int 0, .int 0, .int 0])), (q_1, .inr (0, [.ref q_2, .int 32])), (q_2, .inl (cI, 768, .inl (fun _ => 0))), (q_3, .inr (0, [.ref q_4, .int 32])), (q_4, .inl (cI, 512, .inl (fun _ => 0))), (q_5, .inr (0, [.ref q_6, .int 40])), (q_6, .inl (cI, 80, .inl (fun _ => 0))), (q_7, .inr (0, [.ref q_8, .int 32])), (q_8, .inl (cI, 32, .inl (fun _ => 0))), (q_9, .inr (0, [.ref q_10, .int 40])), (q_10, .inl (cI, 40, .inl (fun _ => 0))), (q_11, .inr (1, [.ref q_12, .int 0, .int 1, .int 0, .int 0])), (q_12, .inl (cI, 3, .inl (fun _ => 0))), (q_13, .inr (1, [.ref q_14, .int 0, .int 1, .int 0, .int 0])), (q_14, .inl (cI, 3, .inl (fun _ => 0))), (q_15, .inl (cZ, 24, .inl (fun _ => 0))), (q_16, .inl (cI, 3, .inl (fun _ => 0)))] := hD
  refine lv_aload_n hx hb d_SF_init_128 rfl (lv_at hl 0 rfl) ?_
  refine lv_bipush (v := 60) hx hb d_SF_init_129 (by decide) ?_
  refine sf_newi hx hb (hts _ wd_86) hK hP hD hS hA 0 rfl 60 rfl (by omega) (by rw [hR]; exact Nat.le_of_ble_eq_true rfl) (by rw [hR]; exact Nat.le_of_ble_eq_true rfl) d_SF_init_131 (fun q_17 H hP hD hS => ?_)
  have hP : va_P D classes [(h0, .inr (2, [.ref q_1, .ref q_3, .ref q_5, .ref q_7, .ref q_9, .ref q_11, .ref q_13, .ref q_15, .ref q_16, .null, .int 0, .int 0, .int 0, .int 0, .int 0])), (q_1, .inr (0, [.ref q_2, .int 32])), (q_2, .inl (cI, 768, .inl (fun _ => 0))), (q_3, .inr (0, [.ref q_4, .int 32])), (q_4, .inl (cI, 512, .inl (fun _ => 0))), (q_5, .inr (0, [.ref q_6, .int 40])), (q_6, .inl (cI, 80, .inl (fun _ => 0))), (q_7, .inr (0, [.ref q_8, .int 32])), (q_8, .inl (cI, 32, .inl (fun _ => 0))), (q_9, .inr (0, [.ref q_10, .int 40])), (q_10, .inl (cI, 40, .inl (fun _ => 0))), (q_11, .inr (1, [.ref q_12, .int 0, .int 1, .int 0, .int 0])), (q_12, .inl (cI, 3, .inl (fun _ => 0))), (q_13, .inr (1, [.ref q_14, .int 0, .int 1, .int 0, .int 0])), (q_14, .inl (cI, 3, .inl (fun _ => 0))), (q_15, .inl (cZ, 24, .inl (fun _ => 0))), (q_16, .inl (cI, 3, .inl (fun _ => 0))), (q_17, .inl (cI, 60, .inl (fun _ => 0)))] H := hP
  have hD : va_D A [(h0, .inr (2, [.ref q_1, .ref q_3, .ref q_5, .ref q_7, .ref q_9, .ref q_11, .ref q_13, .ref q_15, .ref q_16, .null, .int 0, .int 0, .int 0, .int 0, .int 0])), (q_1, .inr (0, [.ref q_2, .int 32])), (q_2, .inl (cI, 768, .inl (fun _ => 0))), (q_3, .inr (0, [.ref q_4, .int 32])), (q_4, .inl (cI, 512, .inl (fun _ => 0))), (q_5, .inr (0, [.ref q_6, .int 40])), (q_6, .inl (cI, 80, .inl (fun _ => 0))), (q_7, .inr (0, [.ref q_8, .int 32])), (q_8, .inl (cI, 32, .inl (fun _ => 0))), (q_9, .inr (0, [.ref q_10, .int 40])), (q_10, .inl (cI, 40, .inl (fun _ => 0))), (q_11, .inr (1, [.ref q_12, .int 0, .int 1, .int 0, .int 0])), (q_12, .inl (cI, 3, .inl (fun _ => 0))), (q_13, .inr (1, [.ref q_14, .int 0, .int 1, .int 0, .int 0])), (q_14, .inl (cI, 3, .inl (fun _ => 0))), (q_15, .inl (cZ, 24, .inl (fun _ => 0))), (q_16, .inl (cI, 3, .inl (fun _ => 0))), (q_17, .inl (cI, 60, .inl (fun _ => 0)))] := hD
  refine va_putF (D := D) (ci := 2) (v := .ref q_17) (ty := (.array .int)) (C := R_SF) (T := F_SF) (N := 15) hx hb hts i_SF t_SF t_SF_ok n_SF hown hK hP hD hS 0 rfl rfl 9 (by decide) (hts _ wd_119) (fun _ h9 => h9) rfl hin rfl (by decide +kernel) rfl rfl (Nat.le_of_ble_eq_true rfl) d_SF_init_133 (fun H locs hP hD hS => ?_)
  have hP : va_P D classes [(h0, .inr (2, [.ref q_1, .ref q_3, .ref q_5, .ref q_7, .ref q_9, .ref q_11, .ref q_13, .ref q_15, .ref q_16, .ref q_17, .int 0, .int 0, .int 0, .int 0, .int 0])), (q_1, .inr (0, [.ref q_2, .int 32])), (q_2, .inl (cI, 768, .inl (fun _ => 0))), (q_3, .inr (0, [.ref q_4, .int 32])), (q_4, .inl (cI, 512, .inl (fun _ => 0))), (q_5, .inr (0, [.ref q_6, .int 40])), (q_6, .inl (cI, 80, .inl (fun _ => 0))), (q_7, .inr (0, [.ref q_8, .int 32])), (q_8, .inl (cI, 32, .inl (fun _ => 0))), (q_9, .inr (0, [.ref q_10, .int 40])), (q_10, .inl (cI, 40, .inl (fun _ => 0))), (q_11, .inr (1, [.ref q_12, .int 0, .int 1, .int 0, .int 0])), (q_12, .inl (cI, 3, .inl (fun _ => 0))), (q_13, .inr (1, [.ref q_14, .int 0, .int 1, .int 0, .int 0])), (q_14, .inl (cI, 3, .inl (fun _ => 0))), (q_15, .inl (cZ, 24, .inl (fun _ => 0))), (q_16, .inl (cI, 3, .inl (fun _ => 0))), (q_17, .inl (cI, 60, .inl (fun _ => 0)))] H := hP
  have hD : va_D A [(h0, .inr (2, [.ref q_1, .ref q_3, .ref q_5, .ref q_7, .ref q_9, .ref q_11, .ref q_13, .ref q_15, .ref q_16, .ref q_17, .int 0, .int 0, .int 0, .int 0, .int 0])), (q_1, .inr (0, [.ref q_2, .int 32])), (q_2, .inl (cI, 768, .inl (fun _ => 0))), (q_3, .inr (0, [.ref q_4, .int 32])), (q_4, .inl (cI, 512, .inl (fun _ => 0))), (q_5, .inr (0, [.ref q_6, .int 40])), (q_6, .inl (cI, 80, .inl (fun _ => 0))), (q_7, .inr (0, [.ref q_8, .int 32])), (q_8, .inl (cI, 32, .inl (fun _ => 0))), (q_9, .inr (0, [.ref q_10, .int 40])), (q_10, .inl (cI, 40, .inl (fun _ => 0))), (q_11, .inr (1, [.ref q_12, .int 0, .int 1, .int 0, .int 0])), (q_12, .inl (cI, 3, .inl (fun _ => 0))), (q_13, .inr (1, [.ref q_14, .int 0, .int 1, .int 0, .int 0])), (q_14, .inl (cI, 3, .inl (fun _ => 0))), (q_15, .inl (cZ, 24, .inl (fun _ => 0))), (q_16, .inl (cI, 3, .inl (fun _ => 0))), (q_17, .inl (cI, 60, .inl (fun _ => 0)))] := hD
  refine lv_aload_n hx hb d_SF_init_136 rfl (lv_at hl 0 rfl) ?_
  refine lv_iconst (v := (-1)) hx hb d_SF_init_137 (by decide) ?_
  refine va_put (D := D) (ci := 2) (v := .int (-1)) (ty := .int) (C := R_SF) (T := F_SF) (N := 15) hx hb hts i_SF t_SF t_SF_ok n_SF hown hK hP hD hS 0 rfl rfl 11 (by decide) (hts _ wd_121) (fun _ h9 => h9) rfl (by decide +kernel) rfl rfl (Nat.le_of_ble_eq_true rfl) d_SF_init_138 (fun H locs hP hD hS => ?_)
  have hP : va_P D classes [(h0, .inr (2, [.ref q_1, .ref q_3, .ref q_5, .ref q_7, .ref q_9, .ref q_11, .ref q_13, .ref q_15, .ref q_16, .ref q_17, .int 0, .int (-1), .int 0, .int 0, .int 0])), (q_1, .inr (0, [.ref q_2, .int 32])), (q_2, .inl (cI, 768, .inl (fun _ => 0))), (q_3, .inr (0, [.ref q_4, .int 32])), (q_4, .inl (cI, 512, .inl (fun _ => 0))), (q_5, .inr (0, [.ref q_6, .int 40])), (q_6, .inl (cI, 80, .inl (fun _ => 0))), (q_7, .inr (0, [.ref q_8, .int 32])), (q_8, .inl (cI, 32, .inl (fun _ => 0))), (q_9, .inr (0, [.ref q_10, .int 40])), (q_10, .inl (cI, 40, .inl (fun _ => 0))), (q_11, .inr (1, [.ref q_12, .int 0, .int 1, .int 0, .int 0])), (q_12, .inl (cI, 3, .inl (fun _ => 0))), (q_13, .inr (1, [.ref q_14, .int 0, .int 1, .int 0, .int 0])), (q_14, .inl (cI, 3, .inl (fun _ => 0))), (q_15, .inl (cZ, 24, .inl (fun _ => 0))), (q_16, .inl (cI, 3, .inl (fun _ => 0))), (q_17, .inl (cI, 60, .inl (fun _ => 0)))] H := hP
  have hD : va_D A [(h0, .inr (2, [.ref q_1, .ref q_3, .ref q_5, .ref q_7, .ref q_9, .ref q_11, .ref q_13, .ref q_15, .ref q_16, .ref q_17, .int 0, .int (-1), .int 0, .int 0, .int 0])), (q_1, .inr (0, [.ref q_2, .int 32])), (q_2, .inl (cI, 768, .inl (fun _ => 0))), (q_3, .inr (0, [.ref q_4, .int 32])), (q_4, .inl (cI, 512, .inl (fun _ => 0))), (q_5, .inr (0, [.ref q_6, .int 40])), (q_6, .inl (cI, 80, .inl (fun _ => 0))), (q_7, .inr (0, [.ref q_8, .int 32])), (q_8, .inl (cI, 32, .inl (fun _ => 0))), (q_9, .inr (0, [.ref q_10, .int 40])), (q_10, .inl (cI, 40, .inl (fun _ => 0))), (q_11, .inr (1, [.ref q_12, .int 0, .int 1, .int 0, .int 0])), (q_12, .inl (cI, 3, .inl (fun _ => 0))), (q_13, .inr (1, [.ref q_14, .int 0, .int 1, .int 0, .int 0])), (q_14, .inl (cI, 3, .inl (fun _ => 0))), (q_15, .inl (cZ, 24, .inl (fun _ => 0))), (q_16, .inl (cI, 3, .inl (fun _ => 0))), (q_17, .inl (cI, 60, .inl (fun _ => 0)))] := hD
  rw [hQ]
  exact sf_ivret (fun i => [h0, q_1, q_2, q_3, q_4, q_5, q_6, q_7, q_8, q_9, q_10, q_11, q_12, q_13, q_14, q_15, q_16, q_17].getD i 0) hx hb hr hlk hS rfl hP hD d_SF_init_141
set_option maxHeartbeats 4000000 in
set_option maxRecDepth 100000 in
/-- ShadowFilesModel() -/
theorem c_MD_init (l : Launch) (D : va_G) (cI cZ cJ : ClassId) (h0 : Nat) : sf_I (S := (Nat → Nat)) l D classes (sf_tys cI cZ cJ) y_MD_init (sf_ws y_MD_init b_MD_init 1 none) 1 12 7 1794 [.ref h0] [(h0, .inr (3, [.int 0, .null, .int 0, .int 0, .null, .int 0, .null, .int 0, .int 0, .null, .int 0, .null, .null, .null, .int 0]))] (fun u => u 0 = h0) (fun u => (md_w u cI cZ 0 (fun _ => 0) 0 (-1) (fun _ => 0) 0 (fun _ => 0) 0 0 (fun _ => 0) 0 (fun _ => 0) (fun _ => 0) (fun _ => 0) 0)) := by
  refine sf_ofWI (S := (Nat → Nat)) (by decide) (Nat.le_of_ble_eq_true rfl) ?_
  intro p e s m below meth c A ls R args Q hR hArgs hQ hC0 hr hin hK hP hD hl
  obtain ⟨hx, hb, hml, hown, hts, hA, hlk⟩ := hC0
  have hS : va_S A s.heap s.heap [] := va_S.rf
  have hl : lv_has ls 1 [(0, .ref h0)] := hl
  refine lv_aload_n hx hb d_MD_init_0 rfl (lv_at hl 0 rfl) ?_
  refine W.objInit hx hb hown (hts _ wd_574) (hts _ wd_70) (hts _ wd_71) rfl (by rw [hml]; exact hl.1) rfl d_MD_init_1 (by rw [hR]; exact Nat.le_of_ble_eq_true rfl) (by rw [hR]; exact Nat.le_of_ble_eq_true rfl) ?_
  refine W.eq (g2 := F0 m 4 ls []) rfl ?_
  refine lv_aload_n hx hb d_MD_init_4 rfl (lv_at hl 0 rfl) ?_
  refine lv_sipush (v := 1360) hx hb d_MD_init_5 (by decide) ?_
  refine sf_newi hx hb (hts _ wd_86) hK hP hD hS hA 0 rfl 1360 rfl (by omega) (by rw [hR]; exact Nat.le_of_ble_eq_true rfl) (by rw [hR]; exact Nat.le_of_ble_eq_true rfl) d_MD_init_8 (fun q_1 H hP hD hS => ?_)
  have hP : va_P D classes [(h0, .inr (3, [.int 0, .null, .int 0, .int 0, .null, .int 0, .null, .int 0, .int 0, .null, .int 0, .null, .null, .null, .int 0])), (q_1, .inl (cI, 1360, .inl (fun _ => 0)))] H := hP
  have hD : va_D A [(h0, .inr (3, [.int 0, .null, .int 0, .int 0, .null, .int 0, .null, .int 0, .int 0, .null, .int 0, .null, .null, .null, .int 0])), (q_1, .inl (cI, 1360, .inl (fun _ => 0)))] := hD
  refine va_putF (D := D) (ci := 3) (v := .ref q_1) (ty := (.array .int)) (C := R_MD) (T := F_MD) (N := 15) hx hb hts i_MD t_MD t_MD_ok n_MD hown hK hP hD hS 0 rfl rfl 1 (by decide) (hts _ wd_576) (fun _ h9 => h9) rfl hin rfl (by decide +kernel) rfl rfl (Nat.le_of_ble_eq_true rfl) d_MD_init_10 (fun H locs hP hD hS => ?_)
  have hP : va_P D classes [(h0, .inr (3, [.int 0, .ref q_1, .int 0, .int 0, .null, .int 0, .null, .int 0, .int 0, .null, .int 0, .null, .null, .null, .int 0])), (q_1, .inl (cI, 1360, .inl (fun _ => 0)))] H := hP
  have hD : va_D A [(h0, .inr (3, [.int 0, .ref q_1, .int 0, .int 0, .null, .int 0, .null, .int 0, .int 0, .null, .int 0, .null, .null, .null, .int 0])), (q_1, .inl (cI, 1360, .inl (fun _ => 0)))] := hD
  refine lv_aload_n hx hb d_MD_init_13 rfl (lv_at hl 0 rfl) ?_
  refine lv_iconst (v := (-1)) hx hb d_MD_init_14 (by decide) ?_
  refine va_put (D := D) (ci := 3) (v := .int (-1)) (ty := .int) (C := R_MD) (T := F_MD) (N := 15) hx hb hts i_MD t_MD t_MD_ok n_MD hown hK hP hD hS 0 rfl rfl 3 (by decide) (hts _ wd_578) (fun _ h9 => h9) rfl (by decide +kernel) rfl rfl (Nat.le_of_ble_eq_true rfl) d_MD_init_15 (fun H locs hP hD hS => ?_)
  have hP : va_P D classes [(h0, .inr (3, [.int 0, .ref q_1, .int 0, .int (-1), .null, .int 0, .null, .int 0, .int 0, .null, .int 0, .null, .null, .null, .int 0])), (q_1, .inl (cI, 1360, .inl (fun _ => 0)))] H := hP
  have hD : va_D A [(h0, .inr (3, [.int 0, .ref q_1, .int 0, .int (-1), .null, .int 0, .null, .int 0, .int 0, .null, .int 0, .null, .null, .null, .int 0])), (q_1, .inl (cI, 1360, .inl (fun _ => 0)))] := hD
  refine lv_aload_n hx hb d_MD_init_18 rfl (lv_at hl 0 rfl) ?_
  refine lv_bipush (v := 60) hx hb d_MD_init_19 (by decide) ?_
  refine sf_newi hx hb (hts _ wd_86) hK hP hD hS hA 0 rfl 60 rfl (by omega) (by rw [hR]; exact Nat.le_of_ble_eq_true rfl) (by rw [hR]; exact Nat.le_of_ble_eq_true rfl) d_MD_init_21 (fun q_2 H hP hD hS => ?_)
  have hP : va_P D classes [(h0, .inr (3, [.int 0, .ref q_1, .int 0, .int (-1), .null, .int 0, .null, .int 0, .int 0, .null, .int 0, .null, .null, .null, .int 0])), (q_1, .inl (cI, 1360, .inl (fun _ => 0))), (q_2, .inl (cI, 60, .inl (fun _ => 0)))] H := hP
  have hD : va_D A [(h0, .inr (3, [.int 0, .ref q_1, .int 0, .int (-1), .null, .int 0, .null, .int 0, .int 0, .null, .int 0, .null, .null, .null, .int 0])), (q_1, .inl (cI, 1360, .inl (fun _ => 0))), (q_2, .inl (cI, 60, .inl (fun _ => 0)))] := hD
  refine va_putF (D := D) (ci := 3) (v := .ref q_2) (ty := (.array .int)) (C := R_MD) (T := F_MD) (N := 15) hx hb hts i_MD t_MD t_MD_ok n_MD hown hK hP hD hS 0 rfl rfl 4 (by decide) (hts _ wd_579) (fun _ h9 => h9) rfl hin rfl (by decide +kernel) rfl rfl (Nat.le_of_ble_eq_true rfl) d_MD_init_23 (fun H locs hP hD hS => ?_)
  have hP : va_P D classes [(h0, .inr (3, [.int 0, .ref q_1, .int 0, .int (-1), .ref q_2, .int 0, .null, .int 0, .int 0, .null, .int 0, .null, .null, .null, .int 0])), (q_1, .inl (cI, 1360, .inl (fun _ => 0))), (q_2, .inl (cI, 60, .inl (fun _ => 0)))] H := hP
  have hD : va_D A [(h0, .inr (3, [.int 0, .ref q_1, .int 0, .int (-1), .ref q_2, .int 0, .null, .int 0, .int 0, .null, .int 0, .null, .null, .null, .int 0])), (q_1, .inl (cI, 1360, .inl (fun _ => 0))), (q_2, .inl (cI, 60, .inl (fun _ => 0)))] := hD
  refine lv_aload_n hx hb d_MD_init_26 rfl (lv_at hl 0 rfl) ?_
  refine lv_iconst (v := 3) hx hb d_MD_init_27 (by decide) ?_
  refine sf_newi hx hb (hts _ wd_86) hK hP hD hS hA 0 rfl 3 rfl (by omega) (by rw [hR]; exact Nat.le_of_ble_eq_true rfl) (by rw [hR]; exact Nat.le_of_ble_eq_true rfl) d_MD_init_28 (fun q_3 H hP hD hS => ?_)
  have hP : va_P D classes [(h0, .inr (3, [.int 0, .ref q_1, .int 0, .int (-1), .ref q_2, .int 0, .null, .int 0, .int 0, .null, .int 0, .null, .null, .null, .int 0])), (q_1, .inl (cI, 1360, .inl (fun _ => 0))), (q_2, .inl (cI, 60, .inl (fun _ => 0))), (q_3, .inl (cI, 3, .inl (fun _ => 0)))] H := hP
  have hD : va_D A [(h0, .inr (3, [.int 0, .ref q_1, .int 0, .int (-1), .ref q_2, .int 0, .null, .int 0, .int 0, .null, .int 0, .null, .null, .null, .int 0])), (q_1, .inl (cI, 1360, .inl (fun _ => 0))), (q_2, .inl (cI, 60, .inl (fun _ => 0))), (q_3, .inl (cI, 3, .inl (fun _ => 0)))] := hD
  refine va_putF (D := D) (ci := 3) (v := .ref q_3) (ty := (.array .int)) (C := R_MD) (T := F_MD) (N := 15) hx hb hts i_MD t_MD t_MD_ok n_MD hown hK hP hD hS 0 rfl rfl 6 (by decide) (hts _ wd_581) (fun _ h9 => h9) rfl hin rfl (by decide +kernel) rfl rfl (Nat.le_of_ble_eq_true rfl) d_MD_init_30 (fun H locs hP hD hS => ?_)
  have hP : va_P D classes [(h0, .inr (3, [.int 0, .ref q_1, .int 0, .int (-1), .ref q_2, .int 0, .ref q_3, .int 0, .int 0, .null, .int 0, .null, .null, .null, .int 0])), (q_1, .inl (cI, 1360, .inl (fun _ => 0))), (q_2, .inl (cI, 60, .inl (fun _ => 0))), (q_3, .inl (cI, 3, .inl (fun _ => 0)))] H := hP
  have hD : va_D A [(h0, .inr (3, [.int 0, .ref q_1, .int 0, .int (-1), .ref q_2, .int 0, .ref q_3, .int 0, .int 0, .null, .int 0, .null, .null, .null, .int 0])), (q_1, .inl (cI, 1360, .inl (fun _ => 0))), (q_2, .inl (cI, 60, .inl (fun _ => 0))), (q_3, .inl (cI, 3, .inl (fun _ => 0)))] := hD
  refine lv_aload_n hx hb d_MD_init_33 rfl (lv_at hl 0 rfl) ?_
  refine lv_bipush (v := 75) hx hb d_MD_init_34 (by decide) ?_
  refine sf_newi hx hb (hts _ wd_86) hK hP hD hS hA 0 rfl 75 rfl (by omega) (by rw [hR]; exact Nat.le_of_ble_eq_true rfl) (by rw [hR]; exact Nat.le_of_ble_eq_true rfl) d_MD_init_36 (fun q_4 H hP hD hS => ?_)
  have hP : va_P D classes [(h0, .inr (3, [.int 0, .ref q_1, .int 0, .int (-1), .ref q_2, .int 0, .ref q_3, .int 0, .int 0, .null, .int 0, .null, .null, .null, .int 0])), (q_1, .inl (cI, 1360, .inl (fun _ => 0))), (q_2, .inl (cI, 60, .inl (fun _ => 0))), (q_3, .inl (cI, 3, .inl (fun _ => 0))), (q_4, .inl (cI, 75, .inl (fun _ => 0)))] H := hP
  have hD : va_D A [(h0, .inr (3, [.int 0, .ref q_1, .int 0, .int (-1), .ref q_2, .int 0, .ref q_3, .int 0, .int 0, .null, .int 0, .null, .null, .null, .int 0])), (q_1, .inl (cI, 1360, .inl (fun _ => 0))), (q_2, .inl (cI, 60, .inl (fun _ => 0))), (q_3, .inl (cI, 3, .inl (fun _ => 0))), (q_4, .inl (cI, 75, .inl (fun _ => 0)))] := hD
  refine va_putF (D := D) (ci := 3) (v := .ref q_4) (ty := (.array .int)) (C := R_MD) (T := F_MD) (N := 15) hx hb hts i_MD t_MD t_MD_ok n_MD hown hK hP hD hS 0 rfl rfl 9 (by decide) (hts _ wd_584) (fun _ h9 => h9) rfl hin rfl (by decide +kernel) rfl rfl (Nat.le_of_ble_eq_true rfl) d_MD_init_38 (fun H locs hP hD hS => ?_)
  have hP : va_P D classes [(h0, .inr (3, [.int 0, .ref q_1, .int 0, .int (-1), .ref q_2, .int 0, .ref q_3, .int 0, .int 0, .ref q_4, .int 0, .null, .null, .null, .int 0])), (q_1, .inl (cI, 1360, .inl (fun _ => 0))), (q_2, .inl (cI, 60, .inl (fun _ => 0))), (q_3, .inl (cI, 3, .inl (fun _ => 0))), (q_4, .inl (cI, 75, .inl (fun _ => 0)))] H := hP
  have hD : va_D A [(h0, .inr (3, [.int 0, .ref q_1, .int 0, .int (-1), .ref q_2, .int 0, .ref q_3, .int 0, .int 0, .ref q_4, .int 0, .null, .null, .null, .int 0])), (q_1, .inl (cI, 1360, .inl (fun _ => 0))), (q_2, .inl (cI, 60, .inl (fun _ => 0))), (q_3, .inl (cI, 3, .inl (fun _ => 0))), (q_4, .inl (cI, 75, .inl (fun _ => 0)))] := hD
  refine lv_aload_n hx hb d_MD_init_41 rfl (lv_at hl 0 rfl) ?_
  refine lv_bipush (v := 24) hx hb d_MD_init_42 (by decide) ?_
  refine sf_newz hx hb (hts _ wd_156) hK hP hD hS hA 1 rfl 24 rfl (by omega) (by rw [hR]; exact Nat.le_of_ble_eq_true rfl) (by rw [hR]; exact Nat.le_of_ble_eq_true rfl) d_MD_init_44 (fun q_5 H hP hD hS => ?_)
  have hP : va_P D classes [(h0, .inr (3, [.int 0, .ref q_1, .int 0, .int (-1), .ref q_2, .int 0, .ref q_3, .int 0, .int 0, .ref q_4, .int 0, .null, .null, .null, .int 0])), (q_1, .inl (cI, 1360, .inl (fun _ => 0))), (q_2, .inl (cI, 60, .inl (fun _ => 0))), (q_3, .inl (cI, 3, .inl (fun _ => 0))), (q_4, .inl (cI, 75, .inl (fun _ => 0))), (q_5, .inl (cZ, 24, .inl (fun _ => 0)))] H := hP
  have hD : va_D A [(h0, .inr (3, [.int 0, .ref q_1, .int 0, .int (-1), .ref q_2, .int 0, .ref q_3, .int 0, .int 0, .ref q_4, .int 0, .null, .null, .null, .int 0])), (q_1, .inl (cI, 1360, .inl (fun _ => 0))), (q_2, .inl (cI, 60, .inl (fun _ => 0))), (q_3, .inl (cI, 3, .inl (fun _ => 0))), (q_4, .inl (cI, 75, .inl (fun _ => 0))), (q_5, .inl (cZ, 24, .inl (fun _ => 0)))] := hD
  refine va_putF (D := D) (ci := 3) (v := .ref q_5) (ty := (.array .boolean)) (C := R_MD) (T := F_MD) (N := 15) hx hb hts i_MD t_MD t_MD_ok n_MD hown hK hP hD hS 0 rfl rfl 11 (by decide) (hts _ wd_586) (fun _ h9 => h9) rfl hin rfl (by decide +kernel) rfl rfl (Nat.le_of_ble_eq_true rfl) d_MD_init_46 (fun H locs hP hD hS => ?_)
  have hP : va_P D classes [(h0, .inr (3, [.int 0, .ref q_1, .int 0, .int (-1), .ref q_2, .int 0, .ref q_3, .int 0, .int 0, .ref q_4, .int 0, .ref q_5, .null, .null, .int 0])), (q_1, .inl (cI, 1360, .inl (fun _ => 0))), (q_2, .inl (cI, 60, .inl (fun _ => 0))), (q_3, .inl (cI, 3, .inl (fun _ => 0))), (q_4, .inl (cI, 75, .inl (fun _ => 0))), (q_5, .inl (cZ, 24, .inl (fun _ => 0)))] H := hP
  have hD : va_D A [(h0, .inr (3, [.int 0, .ref q_1, .int 0, .int (-1), .ref q_2, .int 0, .ref q_3, .int 0, .int 0, .ref q_4, .int 0, .ref q_5, .null, .null, .int 0])), (q_1, .inl (cI, 1360, .inl (fun _ => 0))), (q_2, .inl (cI, 60, .inl (fun _ => 0))), (q_3, .inl (cI, 3, .inl (fun _ => 0))), (q_4, .inl (cI, 75, .inl (fun _ => 0))), (q_5, .inl (cZ, 24, .inl (fun _ => 0)))] := hD
  refine lv_aload_n hx hb d_MD_init_49 rfl (lv_at hl 0 rfl) ?_
  refine lv_sipush (v := 136) hx hb d_MD_init_50 (by decide) ?_
  refine sf_newi hx hb (hts _ wd_86) hK hP hD hS hA 0 rfl 136 rfl (by omega) (by rw [hR]; exact Nat.le_of_ble_eq_true rfl) (by rw [hR]; exact Nat.le_of_ble_eq_true rfl) d_MD_init_53 (fun q_6 H hP hD hS => ?_)
  have hP : va_P D classes [(h0, .inr (3, [.int 0, .ref q_1, .int 0, .int (-1), .ref q_2, .int 0, .ref q_3, .int 0, .int 0, .ref q_4, .int 0, .ref q_5, .null, .null, .int 0])), (q_1, .inl (cI, 1360, .inl (fun _ => 0))), (q_2, .inl (cI, 60, .inl (fun _ => 0))), (q_3, .inl (cI, 3, .inl (fun _ => 0))), (q_4, .inl (cI, 75, .inl (fun _ => 0))), (q_5, .inl (cZ, 24, .inl (fun _ => 0))), (q_6, .inl (cI, 136, .inl (fun _ => 0)))] H := hP
  have hD : va_D A [(h0, .inr (3, [.int 0, .ref q_1, .int 0, .int (-1), .ref q_2, .int 0, .ref q_3, .int 0, .int 0, .ref q_4, .int 0, .ref q_5, .null, .null, .int 0])), (q_1, .inl (cI, 1360, .inl (fun _ => 0))), (q_2, .inl (cI, 60, .inl (fun _ => 0))), (q_3, .inl (cI, 3, .inl (fun _ => 0))), (q_4, .inl (cI, 75, .inl (fun _ => 0))), (q_5, .inl (cZ, 24, .inl (fun _ => 0))), (q_6, .inl (cI, 136, .inl (fun _ => 0)))] := hD
  refine va_putF (D := D) (ci := 3) (v := .ref q_6) (ty := (.array .int)) (C := R_MD) (T := F_MD) (N := 15) hx hb hts i_MD t_MD t_MD_ok n_MD hown hK hP hD hS 0 rfl rfl 12 (by decide) (hts _ wd_587) (fun _ h9 => h9) rfl hin rfl (by decide +kernel) rfl rfl (Nat.le_of_ble_eq_true rfl) d_MD_init_55 (fun H locs hP hD hS => ?_)
  have hP : va_P D classes [(h0, .inr (3, [.int 0, .ref q_1, .int 0, .int (-1), .ref q_2, .int 0, .ref q_3, .int 0, .int 0, .ref q_4, .int 0, .ref q_5, .ref q_6, .null, .int 0])), (q_1, .inl (cI, 1360, .inl (fun _ => 0))), (q_2, .inl (cI, 60, .inl (fun _ => 0))), (q_3, .inl (cI, 3, .inl (fun _ => 0))), (q_4, .inl (cI, 75, .inl (fun _ => 0))), (q_5, .inl (cZ, 24, .inl (fun _ => 0))), (q_6, .inl (cI, 136, .inl (fun _ => 0)))] H := hP
  have hD : va_D A [(h0, .inr (3, [.int 0, .ref q_1, .int 0, .int (-1), .ref q_2, .int 0, .ref q_3, .int 0, .int 0, .ref q_4, .int 0, .ref q_5, .ref q_6, .null, .int 0])), (q_1, .inl (cI, 1360, .inl (fun _ => 0))), (q_2, .inl (cI, 60, .inl (fun _ => 0))), (q_3, .inl (cI, 3, .inl (fun _ => 0))), (q_4, .inl (cI, 75, .inl (fun _ => 0))), (q_5, .inl (cZ, 24, .inl (fun _ => 0))), (q_6, .inl (cI, 136, .inl (fun _ => 0)))] := hD
  refine lv_aload_n hx hb d_MD_init_58 rfl (lv_at hl 0 rfl) ?_
  refine lv_sipush (v := 136) hx hb d_MD_init_59 (by decide) ?_
  refine sf_newi hx hb (hts _ wd_86) hK hP hD hS hA 0 rfl 136 rfl (by omega) (by rw [hR]; exact Nat.le_of_ble_eq_true rfl) (by rw [hR]; exact Nat.le_of_ble_eq_true rfl) d_MD_init_62 (fun q_7 H hP hD hS => ?_)
  have hP : va_P D classes [(h0, .inr (3, [.int 0, .ref q_1, .int 0, .int (-1), .ref q_2, .int 0, .ref q_3, .int 0, .int 0, .ref q_4, .int 0, .ref q_5, .ref q_6, .null, .int 0])), (q_1, .inl (cI, 1360, .inl (fun _ => 0))), (q_2, .inl (cI, 60, .inl (fun _ => 0))), (q_3, .inl (cI, 3, .inl (fun _ => 0))), (q_4, .inl (cI, 75, .inl (fun _ => 0))), (q_5, .inl (cZ, 24, .inl (fun _ => 0))), (q_6, .inl (cI, 136, .inl (fun _ => 0))), (q_7, .inl (cI, 136, .inl (fun _ => 0)))] H := hP
  have hD : va_D A [(h0, .inr (3, [.int 0, .ref q_1, .int 0, .int (-1), .ref q_2, .int 0, .ref q_3, .int 0, .int 0, .ref q_4, .int 0, .ref q_5, .ref q_6, .null, .int 0])), (q_1, .inl (cI, 1360, .inl (fun _ => 0))), (q_2, .inl (cI, 60, .inl (fun _ => 0))), (q_3, .inl (cI, 3, .inl (fun _ => 0))), (q_4, .inl (cI, 75, .inl (fun _ => 0))), (q_5, .inl (cZ, 24, .inl (fun _ => 0))), (q_6, .inl (cI, 136, .inl (fun _ => 0))), (q_7, .inl (cI, 136, .inl (fun _ => 0)))] := hD
  refine va_putF (D := D) (ci := 3) (v := .ref q_7) (ty := (.array .int)) (C := R_MD) (T := F_MD) (N := 15) hx hb hts i_MD t_MD t_MD_ok n_MD hown hK hP hD hS 0 rfl rfl 13 (by decide) (hts _ wd_588) (fun _ h9 => h9) rfl hin rfl (by decide +kernel) rfl rfl (Nat.le_of_ble_eq_true rfl) d_MD_init_64 (fun H locs hP hD hS => ?_)
  have hP : va_P D classes [(h0, .inr (3, [.int 0, .ref q_1, .int 0, .int (-1), .ref q_2, .int 0, .ref q_3, .int 0, .int 0, .ref q_4, .int 0, .ref q_5, .ref q_6, .ref q_7, .int 0])), (q_1, .inl (cI, 1360, .inl (fun _ => 0))), (q_2, .inl (cI, 60, .inl (fun _ => 0))), (q_3, .inl (cI, 3, .inl (fun _ => 0))), (q_4, .inl (cI, 75, .inl (fun _ => 0))), (q_5, .inl (cZ, 24, .inl (fun _ => 0))), (q_6, .inl (cI, 136, .inl (fun _ => 0))), (q_7, .inl (cI, 136, .inl (fun _ => 0)))] H := hP
  have hD : va_D A [(h0, .inr (3, [.int 0, .ref q_1, .int 0, .int (-1), .ref q_2, .int 0, .ref q_3, .int 0, .int 0, .ref q_4, .int 0, .ref q_5, .ref q_6, .ref q_7, .int 0])), (q_1, .inl (cI, 1360, .inl (fun _ => 0))), (q_2, .inl (cI, 60, .inl (fun _ => 0))), (q_3, .inl (cI, 3, .inl (fun _ => 0))), (q_4, .inl (cI, 75, .inl (fun _ => 0))), (q_5, .inl (cZ, 24, .inl (fun _ => 0))), (q_6, .inl (cI, 136, .inl (fun _ => 0))), (q_7, .inl (cI, 136, .inl (fun _ => 0)))] := hD
  rw [hQ]
  exact sf_ivret (fun i => [h0, q_1, q_2, q_3, q_4, q_5, q_6, q_7].getD i 0) hx hb hr hlk hS rfl hP hD d_MD_init_67
