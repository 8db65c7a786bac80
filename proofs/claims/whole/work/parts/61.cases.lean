set_option maxHeartbeats 2000000 in
set_option maxRecDepth 100000 in
/-- the law, case 0 -/
theorem law_0 {p : Program} {l : Launch} {e : Env} {s : State} {m : MethodId} {below : List Frame} {meth : Method} {c : Code} {b L : Nat} {xs : Nat → Int32} {D : va_G} {cI cZ cJ : ClassId} {q r : Nat → Nat} {a : Nat} {Q : State → Prop} (hL : L ≤ 2048) (C0 : lw_At p s m meth c b L xs) (hst : l.stackTraces = false) (hE : sf_EX (fun z : Nat => s.heap.size ≤ z) s s.heap) (hN : lw_NC s) (hK : va_K D classes (sf_tys cI cZ cJ) s) (j : Nat) (hj : 4 * j + 4 ≤ L) (fl : Nat → Int32) (sl : Nat → Int32) (tb : Nat → Int32) (np : Nat → Int32) (nt : Nat → Int32) (cp : Nat → Int32) (cc : Int32) (cb : Int32) (ch : Int32) (cm : Int32) (mp : Nat → Int32) (mc : Int32) (mb : Int32) (mh : Int32) (mm : Int32) (us : Nat → Int32) (ta : Nat → Int32) (tp : Nat → Int32) (tl : Int32) (cu : Int32) (bl : Int32) (pf : Int32) (sh : Int32) (xth : Int32) (xB : Nat → Int32) (xsh : Int32) (xcu : Int32) (xtp : Nat → Int32) (xpa : Nat → Int32) (xsp : Int32) (xwh : Int32) (xhe : Nat → Int32) (xho : Int32) (xtk : Nat → Int32) (xto : Nat → Int32) (xwa : Nat → Int32) (xmn : Int32) (fo : Nat → Int64) (td : Nat) (hR : r_R fl sl tb nt tp tl cu sh xB xsh xcu xtp td) (H : Heap) (locs : List Loc) (hP : va_P D classes (lw_x q a cI cZ cJ fl sl tb np nt cp cc cb ch cm mp mc mb mh mm us ta tp tl cu bl pf sh fo ++ md_w r cI cZ xth xB xsh xcu xtp (nI td) xpa xsp xwh xhe xho xtk xto xwa xmn) H) (hD : va_D (fun z : Nat => s.heap.size ≤ z) (lw_x q a cI cZ cJ fl sl tb np nt cp cc cb ch cm mp mc mb mh mm us ta tp tl cu bl pf sh fo ++ md_w r cI cZ xth xB xsh xcu xtp (nI td) xpa xsp xwh xhe xho xtk xto xwa xmn)) (hS : va_S (fun z : Nat => s.heap.size ≤ z) s.heap H locs) (ls : Array Slot) (hl : lv_has ls 7 [(0, .ref b), (1, .ref (q 0)), (2, .ref (r 0)), (3, .ref a), (4, .int (nI (4 * j)))])
    (kk : ∀ (fl : Nat → Int32) (sl : Nat → Int32) (tb : Nat → Int32) (np : Nat → Int32) (nt : Nat → Int32) (cp : Nat → Int32) (cc : Int32) (cb : Int32) (ch : Int32) (cm : Int32) (mp : Nat → Int32) (mc : Int32) (mb : Int32) (mh : Int32) (mm : Int32) (us : Nat → Int32) (ta : Nat → Int32) (tp : Nat → Int32) (tl : Int32) (cu : Int32) (bl : Int32) (pf : Int32) (sh : Int32) (xth : Int32) (xB : Nat → Int32) (xsh : Int32) (xcu : Int32) (xtp : Nat → Int32) (xpa : Nat → Int32) (xsp : Int32) (xwh : Int32) (xhe : Nat → Int32) (xho : Int32) (xtk : Nat → Int32) (xto : Nat → Int32) (xwa : Nat → Int32) (xmn : Int32) (fo : Nat → Int64) (td : Nat), r_R fl sl tb nt tp tl cu sh xB xsh xcu xtp td → ∀ (H : Heap) (locs : List Loc), va_P D classes (lw_x q a cI cZ cJ fl sl tb np nt cp cc cb ch cm mp mc mb mh mm us ta tp tl cu bl pf sh fo ++ md_w r cI cZ xth xB xsh xcu xtp (nI td) xpa xsp xwh xhe xho xtk xto xwa xmn) H → va_D (fun z : Nat => s.heap.size ≤ z) (lw_x q a cI cZ cJ fl sl tb np nt cp cc cb ch cm mp mc mb mh mm us ta tp tl cu bl pf sh fo ++ md_w r cI cZ xth xB xsh xcu xtp (nI td) xpa xsp xwh xhe xho xtk xto xwa xmn) → va_S (fun z : Nat => s.heap.size ≤ z) s.heap H locs → ∀ (ls : Array Slot), lv_has ls 7 [(0, .ref b), (1, .ref (q 0)), (2, .ref (r 0)), (3, .ref a), (4, .int (nI (4 * j)))] → W p l e room_1 s m #[Value.ref b] below meth c H locs (27 + (j + 1)) (3370 + 6 * (j + 1)) Q (F0 m 817 ls [])) : W p l e room_1 s m #[Value.ref b] below meth c H locs (27 + j) (3370 + 6 * j) Q (F0 m 100 ls []) := by
  obtain ⟨hx, hb, hr, hml, hown, hts0, hX, hbl, hlocks, hgv⟩ := id C0
  have hts : ∀ w ∈ sf_tb, w.before #[Value.ref b] s = true := fun w h => hts0 w (sf_sub w h)
  have hA : ∀ z : Nat, s.heap.size ≤ z → (fun z : Nat => s.heap.size ≤ z) z := fun _ h => h
  have hbA : ¬ (fun z : Nat => s.heap.size ≤ z) b := Nat.not_le.mpr hbl
  have htd : td ≤ 60 := hR.2.2.1.2.1
  refine lv_aload_n hx hb d_LW_law_100 rfl (lv_at hl 1 rfl) ?_
  refine lv_aload_n hx hb d_LW_law_101 rfl (lv_at hl 0 rfl) ?_
  refine lv_iload hx hb d_LW_law_102 (lv_at hl 4 rfl) ?_
  refine lv_iconst (v := 1) hx hb d_LW_law_104 (by decide) ?_
  refine lv_iadd hx hb d_LW_law_105 ?_
  rw [show (((nI (4 * j)) + 1) : Int32) = (nI ((4 * j) + 1)) from nI_add (4 * j) 1]
  refine va_sld hx hb hX hbl hbA hS (show vp_in (nI ((4 * j) + 1)) L from vp_in_nI (n := ((4 * j) + 1)) (by omega) (by omega)) d_LW_law_106 ?_
  rw [show ((nI ((4 * j) + 1)) : Int32).toNatClampNeg = ((4 * j) + 1) from nI_clamp (n := ((4 * j) + 1)) (by omega)]
  refine lv_i2l (v := ((xs ((4 * j) + 1))).toInt64) hx hb d_LW_law_107 rfl ?_
  refine lv_bipush (v := 32) hx hb d_LW_law_108 (by decide) ?_
  refine lv_lshl (v := ((((xs ((4 * j) + 1))).toInt64) <<< ((32 : Int32).toInt64 &&& 63))) hx hb d_LW_law_110 rfl ?_
  refine lv_aload_n hx hb d_LW_law_111 rfl (lv_at hl 0 rfl) ?_
  refine lv_iload hx hb d_LW_law_112 (lv_at hl 4 rfl) ?_
  refine lv_iconst (v := 2) hx hb d_LW_law_114 (by decide) ?_
  refine lv_iadd hx hb d_LW_law_115 ?_
  rw [show (((nI (4 * j)) + 2) : Int32) = (nI ((4 * j) + 2)) from nI_add (4 * j) 2]
  refine va_sld hx hb hX hbl hbA hS (show vp_in (nI ((4 * j) + 2)) L from vp_in_nI (n := ((4 * j) + 2)) (by omega) (by omega)) d_LW_law_116 ?_
  rw [show ((nI ((4 * j) + 2)) : Int32).toNatClampNeg = ((4 * j) + 2) from nI_clamp (n := ((4 * j) + 2)) (by omega)]
  refine lv_i2l (v := ((xs ((4 * j) + 2))).toInt64) hx hb d_LW_law_117 rfl ?_
  refine lv_ldc2 (v := 4294967295) hx hb hown (hts _ wd_765) d_LW_law_118 ?_
  refine lv_land hx hb d_LW_law_121 ?_
  refine lv_lor hx hb d_LW_law_122 ?_
  refine lv_aload_n hx hb d_LW_law_123 rfl (lv_at hl 0 rfl) ?_
  refine lv_iload hx hb d_LW_law_124 (lv_at hl 4 rfl) ?_
  refine lv_iconst (v := 3) hx hb d_LW_law_126 (by decide) ?_
  refine lv_iadd hx hb d_LW_law_127 ?_
  rw [show (((nI (4 * j)) + 3) : Int32) = (nI ((4 * j) + 3)) from nI_add (4 * j) 3]
  refine va_sld hx hb hX hbl hbA hS (show vp_in (nI ((4 * j) + 3)) L from vp_in_nI (n := ((4 * j) + 3)) (by omega) (by omega)) d_LW_law_128 ?_
  rw [show ((nI ((4 * j) + 3)) : Int32).toNatClampNeg = ((4 * j) + 3) from nI_clamp (n := ((4 * j) + 3)) (by omega)]
  refine lv_aload_n hx hb d_LW_law_129 rfl (lv_at hl 3 rfl) ?_
  refine sf_ncallS (S := (Int32 × Int32 × (Nat → Int32) × Int32)) (rest := []) ⟨hx, hb, hml, hown, hts⟩ (c_LW_feed l D cI cZ cJ hst q a fl sl tb np nt cp cc cb ch cm mp mc mb mh mm us ta tp tl cu bl pf sh fo (((((xs ((4 * j) + 1))).toInt64) <<< ((32 : Int32).toInt64 &&& 63)) ||| ((((xs ((4 * j) + 2))).toInt64) &&& 4294967295)) (xs ((4 * j) + 3))) (sf_cwSW lk_LW_61 hts (fun _ h => h) ⟨Nat.le_of_ble_eq_true rfl, Nat.le_of_ble_eq_true rfl⟩) hK hE hN hP hD hS hA (fun _ => rfl) rfl rfl hl.1 (Nat.le_of_ble_eq_true rfl) d_LW_law_130 ⟨by show _ ≤ 601024; omega, by show _ ≤ 7293034; omega⟩ (fun u_1 H locs hu_1 hP hD hS => ?_)
  have hP : va_P D classes (lw_x q a cI cZ cJ fl sl tb np nt cp cc cb ch cm mp mc mb mh mm us ta u_1.2.2.1 u_1.2.2.2 cu bl pf sh (lw_out u_1.1 fo u_1.2.1.toInt64) ++ md_w r cI cZ xth xB xsh xcu xtp (nI td) xpa xsp xwh xhe xho xtk xto xwa xmn) H := hP
  have hD : va_D (fun z : Nat => s.heap.size ≤ z) (lw_x q a cI cZ cJ fl sl tb np nt cp cc cb ch cm mp mc mb mh mm us ta u_1.2.2.1 u_1.2.2.2 cu bl pf sh (lw_out u_1.1 fo u_1.2.1.toInt64) ++ md_w r cI cZ xth xB xsh xcu xtp (nI td) xpa xsp xwh xhe xho xtk xto xwa xmn) := hD
  refine lv_istore (lv' := [(5, .int (lw_c 0 0 1 2 u_1.1)), (0, .ref b), (1, .ref (q 0)), (2, .ref (r 0)), (3, .ref a), (4, .int (nI (4 * j)))]) hx hb d_LW_law_133 hl (by decide) rfl (fun ls hl => ?_)
  refine lv_aload_n hx hb d_LW_law_135 rfl (lv_at hl 3 rfl) ?_
  refine lv_aload_n hx hb d_LW_law_136 rfl (lv_at hl 1 rfl) ?_
  refine lv_iload hx hb d_LW_law_137 (lv_at hl 5 rfl) ?_
  refine lv_iconst (v := 1) hx hb d_LW_law_139 (by decide) ?_
  refine lv_iadd hx hb d_LW_law_140 ?_
  rw [show (((nI (4 * j)) + 1) : Int32) = (nI ((4 * j) + 1)) from nI_add (4 * j) 1]
  refine va_sld hx hb hX hbl hbA hS (show vp_in (nI ((4 * j) + 1)) L from vp_in_nI (n := ((4 * j) + 1)) (by omega) (by omega)) d_LW_law_141 ?_
  rw [show ((nI ((4 * j) + 1)) : Int32).toNatClampNeg = ((4 * j) + 1) from nI_clamp (n := ((4 * j) + 1)) (by omega)]
  refine lv_i2l (v := ((xs ((4 * j) + 1))).toInt64) hx hb d_LW_law_142 rfl ?_
  refine lv_bipush (v := 32) hx hb d_LW_law_143 (by decide) ?_
  refine lv_lshl (v := ((((xs ((4 * j) + 1))).toInt64) <<< ((32 : Int32).toInt64 &&& 63))) hx hb d_LW_law_145 rfl ?_
  refine lv_aload_n hx hb d_LW_law_146 rfl (lv_at hl 1 rfl) ?_
  refine lv_iload hx hb d_LW_law_147 (lv_at hl 5 rfl) ?_
  refine lv_iconst (v := 2) hx hb d_LW_law_149 (by decide) ?_
  refine lv_iadd hx hb d_LW_law_150 ?_
  rw [show (((nI (4 * j)) + 2) : Int32) = (nI ((4 * j) + 2)) from nI_add (4 * j) 2]
  refine va_sld hx hb hX hbl hbA hS (show vp_in (nI ((4 * j) + 2)) L from vp_in_nI (n := ((4 * j) + 2)) (by omega) (by omega)) d_LW_law_151 ?_
  rw [show ((nI ((4 * j) + 2)) : Int32).toNatClampNeg = ((4 * j) + 2) from nI_clamp (n := ((4 * j) + 2)) (by omega)]
  refine lv_i2l (v := ((xs ((4 * j) + 2))).toInt64) hx hb d_LW_law_152 rfl ?_
  refine lv_ldc2 (v := 4294967295) hx hb hown (hts _ wd_765) d_LW_law_153 ?_
  refine lv_land hx hb d_LW_law_156 ?_
  refine lv_lor hx hb d_LW_law_157 ?_
  refine lv_aload_n hx hb d_LW_law_158 rfl (lv_at hl 1 rfl) ?_
  refine lv_iload hx hb d_LW_law_159 (lv_at hl 5 rfl) ?_
  refine lv_iconst (v := 3) hx hb d_LW_law_161 (by decide) ?_
  refine lv_iadd hx hb d_LW_law_162 ?_
  rw [show (((nI (4 * j)) + 3) : Int32) = (nI ((4 * j) + 3)) from nI_add (4 * j) 3]
  refine va_sld hx hb hX hbl hbA hS (show vp_in (nI ((4 * j) + 3)) L from vp_in_nI (n := ((4 * j) + 3)) (by omega) (by omega)) d_LW_law_163 ?_
  rw [show ((nI ((4 * j) + 3)) : Int32).toNatClampNeg = ((4 * j) + 3) from nI_clamp (n := ((4 * j) + 3)) (by omega)]
  refine sf_callVS (S := (Int32 × Int32 × (Nat → Int32) × Int32)) (rest := []) ⟨hx, hb, hml, hown, hts⟩ (c_MD_feed l D cI cZ cJ r xth xB xsh xcu xtp xpa xsp xwh xhe xho xtk xto xwa xmn td (((((xs ((4 * j) + 1))).toInt64) <<< ((32 : Int32).toInt64 &&& 63)) ||| ((((xs ((4 * j) + 2))).toInt64) &&& 4294967295)) (xs ((4 * j) + 3)) (by omega)) (sf_cwV lk_LW_66 hts (fun _ h => h) ⟨Nat.le_of_ble_eq_true rfl, Nat.le_of_ble_eq_true rfl⟩) hK hP hD hS hA (fun _ => rfl) (ci := 3) (q0 := 0) rfl rfl rfl rfl rfl hl.1 (Nat.le_of_ble_eq_true rfl) d_LW_law_164 ⟨by show _ ≤ 601024; omega, by show _ ≤ 7293034; omega⟩ (fun u_2 H locs hu_2 hP hD hS => ?_)
  have hP : va_P D classes (lw_x q a cI cZ cJ fl sl tb np nt cp cc cb ch cm mp mc mb mh mm us ta u_1.2.2.1 u_1.2.2.2 cu bl pf sh (lw_out u_1.1 fo u_1.2.1.toInt64) ++ md_w r cI cZ u_2.2.1 xB xsh xcu u_2.2.2.1 u_2.2.2.2 xpa xsp xwh xhe xho xtk xto xwa xmn) H := hP
  have hD : va_D (fun z : Nat => s.heap.size ≤ z) (lw_x q a cI cZ cJ fl sl tb np nt cp cc cb ch cm mp mc mb mh mm us ta u_1.2.2.1 u_1.2.2.2 cu bl pf sh (lw_out u_1.1 fo u_1.2.1.toInt64) ++ md_w r cI cZ u_2.2.1 xB xsh xcu u_2.2.2.1 u_2.2.2.2 xpa xsp xwh xhe xho xtk xto xwa xmn) := hD
  obtain ⟨hC, td1, htd1, etd1, hR⟩ := r_k_feed hR hu_1 hu_2
  rw [etd1] at hP hD
  have hP : va_P D classes (lw_x q a cI cZ cJ fl sl tb np nt cp cc cb ch cm mp mc mb mh mm us ta u_1.2.2.1 u_1.2.2.2 cu bl pf sh (lw_out u_1.1 fo u_1.2.1.toInt64) ++ md_w r cI cZ u_2.2.1 xB xsh xcu u_2.2.2.1 (nI td1) xpa xsp xwh xhe xho xtk xto xwa xmn) H := hP
  have hD : va_D (fun z : Nat => s.heap.size ≤ z) (lw_x q a cI cZ cJ fl sl tb np nt cp cc cb ch cm mp mc mb mh mm us ta u_1.2.2.1 u_1.2.2.2 cu bl pf sh (lw_out u_1.1 fo u_1.2.1.toInt64) ++ md_w r cI cZ u_2.2.1 xB xsh xcu u_2.2.2.1 (nI td1) xpa xsp xwh xhe xho xtk xto xwa xmn) := hD
  refine lv_istore (lv' := [(6, .int u_2.1), (5, .int (lw_c 0 0 1 2 u_1.1)), (0, .ref b), (1, .ref (q 0)), (2, .ref (r 0)), (3, .ref a), (4, .int (nI (4 * j)))]) hx hb d_LW_law_167 hl (by decide) rfl (fun ls hl => ?_)
  refine lv_aload_n hx hb d_LW_law_169 rfl (lv_at hl 4 rfl) ?_
  refine sf_callVS (S := Int32) (rest := []) ⟨hx, hb, hml, hown, hts⟩ (c_MD_thrown l D cI cZ cJ r u_2.2.1 xB xsh xcu u_2.2.2.1 (nI td1) xpa xsp xwh xhe xho xtk xto xwa xmn) (sf_cwV lk_LW_67 hts (fun _ h => h) ⟨Nat.le_of_ble_eq_true rfl, Nat.le_of_ble_eq_true rfl⟩) hK hP hD hS hA (fun _ => rfl) (ci := 3) (q0 := 0) rfl rfl rfl rfl rfl hl.1 (Nat.le_of_ble_eq_true rfl) d_LW_law_170 ⟨by show _ ≤ 601024; omega, by show _ ≤ 7293034; omega⟩ (fun u_3 H locs hu_3 hP hD hS => ?_)
  have hP : va_P D classes (lw_x q a cI cZ cJ fl sl tb np nt cp cc cb ch cm mp mc mb mh mm us ta u_1.2.2.1 u_1.2.2.2 cu bl pf sh (lw_out u_1.1 fo u_1.2.1.toInt64) ++ md_w r cI cZ u_2.2.1 xB xsh xcu u_2.2.2.1 (nI td1) xpa xsp xwh xhe xho xtk xto xwa xmn) H := hP
  have hD : va_D (fun z : Nat => s.heap.size ≤ z) (lw_x q a cI cZ cJ fl sl tb np nt cp cc cb ch cm mp mc mb mh mm us ta u_1.2.2.1 u_1.2.2.2 cu bl pf sh (lw_out u_1.1 fo u_1.2.1.toInt64) ++ md_w r cI cZ u_2.2.1 xB xsh xcu u_2.2.2.1 (nI td1) xpa xsp xwh xhe xho xtk xto xwa xmn) := hD
  refine lv_iload hx hb d_LW_law_173 (lv_at hl 1 rfl) ?_
  refine lv_icmp_eq (tgt := 180) hx hb d_LW_law_175 (by decide) (fun c_4 => ?_) (fun c_4 => absurd (by rw [hu_3]; exact hC.1) c_4)
  refine lv_iload hx hb d_LW_law_180 (lv_at hl 1 rfl) ?_
  refine lv_if_ne (tgt := 197) hx hb d_LW_law_182 (by decide) (fun c_5 => ?_) (fun c_5 => ?_)
  · refine lv_goto (tgt := 817) hx hb d_LW_law_197 (by decide) ?_
    refine W.widen (k := 27 + (j + 1)) (n := 3370 + 6 * (j + 1)) (by omega) (by omega) ?_
    exact kk fl sl tb np nt cp cc cb ch cm mp mc mb mh mm us ta u_1.2.2.1 u_1.2.2.2 cu bl pf sh u_2.2.1 xB xsh xcu u_2.2.2.1 xpa xsp xwh xhe xho xtk xto xwa xmn (lw_out u_1.1 fo u_1.2.1.toInt64) td1 hR _ _ hP hD hS ls (lv_sub hl [2, 3, 4, 5, 6] rfl)
  · refine lv_aload_n hx hb d_LW_law_185 rfl (lv_at hl 5 rfl) ?_
    refine lv_iconst (v := 0) hx hb d_LW_law_186 (by decide) ?_
    refine va_lald hx hb hK hP 18 2 rfl rfl (show vp_in 0 1 from vp_in_nI (n := 0) (by omega) (by omega)) d_LW_law_187 ?_
    refine lv_iload hx hb d_LW_law_188 (lv_at hl 0 rfl) ?_
    refine lv_i2l (v := (u_2.1).toInt64) hx hb d_LW_law_190 rfl ?_
    refine W.lcmp hx hb d_LW_law_191 ?_
    refine lv_if_eq (tgt := 197) hx hb d_LW_law_192 (by decide) (fun c_6 => ?_) (fun c_6 => absurd (r_out (r0_feed (show sf_TC [0, 3, 4] u_1 by rw [hu_1]; exact t_SF_feed _ _ _ _) c_5) (hC.2 (r0_feed (show sf_TC [0, 3, 4] u_1 by rw [hu_1]; exact t_SF_feed _ _ _ _) c_5))) c_6)
    refine lv_goto (tgt := 817) hx hb d_LW_law_197 (by decide) ?_
    refine W.widen (k := 27 + (j + 1)) (n := 3370 + 6 * (j + 1)) (by omega) (by omega) ?_
    exact kk fl sl tb np nt cp cc cb ch cm mp mc mb mh mm us ta u_1.2.2.1 u_1.2.2.2 cu bl pf sh u_2.2.1 xB xsh xcu u_2.2.2.1 xpa xsp xwh xhe xho xtk xto xwa xmn (lw_out u_1.1 fo u_1.2.1.toInt64) td1 hR _ _ hP hD hS ls (lv_sub hl [2, 3, 4, 5, 6] rfl)
set_option maxHeartbeats 2000000 in
set_option maxRecDepth 100000 in
/-- the law, case 1 -/
theorem law_1 {p : Program} {l : Launch} {e : Env} {s : State} {m : MethodId} {below : List Frame} {meth : Method} {c : Code} {b L : Nat} {xs : Nat → Int32} {D : va_G} {cI cZ cJ : ClassId} {q r : Nat → Nat} {a : Nat} {Q : State → Prop} (hL : L ≤ 2048) (C0 : lw_At p s m meth c b L xs) (hst : l.stackTraces = false) (hE : sf_EX (fun z : Nat => s.heap.size ≤ z) s s.heap) (hN : lw_NC s) (hK : va_K D classes (sf_tys cI cZ cJ) s) (j : Nat) (hj : 4 * j + 4 ≤ L) (fl : Nat → Int32) (sl : Nat → Int32) (tb : Nat → Int32) (np : Nat → Int32) (nt : Nat → Int32) (cp : Nat → Int32) (cc : Int32) (cb : Int32) (ch : Int32) (cm : Int32) (mp : Nat → Int32) (mc : Int32) (mb : Int32) (mh : Int32) (mm : Int32) (us : Nat → Int32) (ta : Nat → Int32) (tp : Nat → Int32) (tl : Int32) (cu : Int32) (bl : Int32) (pf : Int32) (sh : Int32) (xth : Int32) (xB : Nat → Int32) (xsh : Int32) (xcu : Int32) (xtp : Nat → Int32) (xpa : Nat → Int32) (xsp : Int32) (xwh : Int32) (xhe : Nat → Int32) (xho : Int32) (xtk : Nat → Int32) (xto : Nat → Int32) (xwa : Nat → Int32) (xmn : Int32) (fo : Nat → Int64) (td : Nat) (hR : r_R fl sl tb nt tp tl cu sh xB xsh xcu xtp td) (H : Heap) (locs : List Loc) (hP : va_P D classes (lw_x q a cI cZ cJ fl sl tb np nt cp cc cb ch cm mp mc mb mh mm us ta tp tl cu bl pf sh fo ++ md_w r cI cZ xth xB xsh xcu xtp (nI td) xpa xsp xwh xhe xho xtk xto xwa xmn) H) (hD : va_D (fun z : Nat => s.heap.size ≤ z) (lw_x q a cI cZ cJ fl sl tb np nt cp cc cb ch cm mp mc mb mh mm us ta tp tl cu bl pf sh fo ++ md_w r cI cZ xth xB xsh xcu xtp (nI td) xpa xsp xwh xhe xho xtk xto xwa xmn)) (hS : va_S (fun z : Nat => s.heap.size ≤ z) s.heap H locs) (ls : Array Slot) (hl : lv_has ls 7 [(0, .ref b), (1, .ref (q 0)), (2, .ref (r 0)), (3, .ref a), (4, .int (nI (4 * j)))])
    (kk : ∀ (fl : Nat → Int32) (sl : Nat → Int32) (tb : Nat → Int32) (np : Nat → Int32) (nt : Nat → Int32) (cp : Nat → Int32) (cc : Int32) (cb : Int32) (ch : Int32) (cm : Int32) (mp : Nat → Int32) (mc : Int32) (mb : Int32) (mh : Int32) (mm : Int32) (us : Nat → Int32) (ta : Nat → Int32) (tp : Nat → Int32) (tl : Int32) (cu : Int32) (bl : Int32) (pf : Int32) (sh : Int32) (xth : Int32) (xB : Nat → Int32) (xsh : Int32) (xcu : Int32) (xtp : Nat → Int32) (xpa : Nat → Int32) (xsp : Int32) (xwh : Int32) (xhe : Nat → Int32) (xho : Int32) (xtk : Nat → Int32) (xto : Nat → Int32) (xwa : Nat → Int32) (xmn : Int32) (fo : Nat → Int64) (td : Nat), r_R fl sl tb nt tp tl cu sh xB xsh xcu xtp td → ∀ (H : Heap) (locs : List Loc), va_P D classes (lw_x q a cI cZ cJ fl sl tb np nt cp cc cb ch cm mp mc mb mh mm us ta tp tl cu bl pf sh fo ++ md_w r cI cZ xth xB xsh xcu xtp (nI td) xpa xsp xwh xhe xho xtk xto xwa xmn) H → va_D (fun z : Nat => s.heap.size ≤ z) (lw_x q a cI cZ cJ fl sl tb np nt cp cc cb ch cm mp mc mb mh mm us ta tp tl cu bl pf sh fo ++ md_w r cI cZ xth xB xsh xcu xtp (nI td) xpa xsp xwh xhe xho xtk xto xwa xmn) → va_S (fun z : Nat => s.heap.size ≤ z) s.heap H locs → ∀ (ls : Array Slot), lv_has ls 7 [(0, .ref b), (1, .ref (q 0)), (2, .ref (r 0)), (3, .ref a), (4, .int (nI (4 * j)))] → W p l e room_1 s m #[Value.ref b] below meth c H locs (27 + (j + 1)) (3370 + 6 * (j + 1)) Q (F0 m 817 ls [])) : W p l e room_1 s m #[Value.ref b] below meth c H locs (27 + j) (3370 + 6 * j) Q (F0 m 200 ls []) := by
  obtain ⟨hx, hb, hr, hml, hown, hts0, hX, hbl, hlocks, hgv⟩ := id C0
  have hts : ∀ w ∈ sf_tb, w.before #[Value.ref b] s = true := fun w h => hts0 w (sf_sub w h)
  have hA : ∀ z : Nat, s.heap.size ≤ z → (fun z : Nat => s.heap.size ≤ z) z := fun _ h => h
  have hbA : ¬ (fun z : Nat => s.heap.size ≤ z) b := Nat.not_le.mpr hbl
  have htd : td ≤ 60 := hR.2.2.1.2.1
  refine lv_aload_n hx hb d_LW_law_200 rfl (lv_at hl 1 rfl) ?_
  refine lv_aload_n hx hb d_LW_law_201 rfl (lv_at hl 0 rfl) ?_
  refine lv_iload hx hb d_LW_law_202 (lv_at hl 4 rfl) ?_
  refine lv_iconst (v := 1) hx hb d_LW_law_204 (by decide) ?_
  refine lv_iadd hx hb d_LW_law_205 ?_
  rw [show (((nI (4 * j)) + 1) : Int32) = (nI ((4 * j) + 1)) from nI_add (4 * j) 1]
  refine va_sld hx hb hX hbl hbA hS (show vp_in (nI ((4 * j) + 1)) L from vp_in_nI (n := ((4 * j) + 1)) (by omega) (by omega)) d_LW_law_206 ?_
  rw [show ((nI ((4 * j) + 1)) : Int32).toNatClampNeg = ((4 * j) + 1) from nI_clamp (n := ((4 * j) + 1)) (by omega)]
  refine lv_aload_n hx hb d_LW_law_207 rfl (lv_at hl 0 rfl) ?_
  refine lv_iload hx hb d_LW_law_208 (lv_at hl 4 rfl) ?_
  refine lv_iconst (v := 2) hx hb d_LW_law_210 (by decide) ?_
  refine lv_iadd hx hb d_LW_law_211 ?_
  rw [show (((nI (4 * j)) + 2) : Int32) = (nI ((4 * j) + 2)) from nI_add (4 * j) 2]
  refine va_sld hx hb hX hbl hbA hS (show vp_in (nI ((4 * j) + 2)) L from vp_in_nI (n := ((4 * j) + 2)) (by omega) (by omega)) d_LW_law_212 ?_
  rw [show ((nI ((4 * j) + 2)) : Int32).toNatClampNeg = ((4 * j) + 2) from nI_clamp (n := ((4 * j) + 2)) (by omega)]
  refine lv_aload_n hx hb d_LW_law_213 rfl (lv_at hl 3 rfl) ?_
  refine sf_ncallS (S := (Int32 × Int32 × (Nat → Int32) × (Nat → Int32) × (Nat → Int32) × (Nat → Int32) × (Nat → Int32) × (Nat → Int32) × Int32 × Int32 × Int32 × Int32 × (Nat → Int32) × Int32 × Int32 × Int32 × Int32 × Int32)) (rest := []) ⟨hx, hb, hml, hown, hts⟩ (c_LW_write l D cI cZ cJ hst q a fl sl tb np nt cp cc cb ch cm mp mc mb mh mm us ta tp tl cu bl pf sh fo (xs ((4 * j) + 1)) (xs ((4 * j) + 2))) (sf_cwSW lk_LW_71 hts (fun _ h => h) ⟨Nat.le_of_ble_eq_true rfl, Nat.le_of_ble_eq_true rfl⟩) hK hE hN hP hD hS hA (fun _ => rfl) rfl rfl hl.1 (Nat.le_of_ble_eq_true rfl) d_LW_law_214 ⟨by show _ ≤ 601024; omega, by show _ ≤ 7293034; omega⟩ (fun u_1 H locs hu_1 hP hD hS => ?_)
  have hP : va_P D classes (lw_x q a cI cZ cJ u_1.2.2.1 sl u_1.2.2.2.1 u_1.2.2.2.2.1 u_1.2.2.2.2.2.1 cp cc cb ch cm u_1.2.2.2.2.2.2.2.1 u_1.2.2.2.2.2.2.2.2.1 u_1.2.2.2.2.2.2.2.2.2.1 u_1.2.2.2.2.2.2.2.2.2.2.1 u_1.2.2.2.2.2.2.2.2.2.2.2.1 u_1.2.2.2.2.2.2.1 u_1.2.2.2.2.2.2.2.2.2.2.2.2.1 tp u_1.2.2.2.2.2.2.2.2.2.2.2.2.2.1 u_1.2.2.2.2.2.2.2.2.2.2.2.2.2.2.1 u_1.2.2.2.2.2.2.2.2.2.2.2.2.2.2.2.1 u_1.2.2.2.2.2.2.2.2.2.2.2.2.2.2.2.2.1 u_1.2.2.2.2.2.2.2.2.2.2.2.2.2.2.2.2.2 (lw_out u_1.1 fo u_1.2.1.toInt64) ++ md_w r cI cZ xth xB xsh xcu xtp (nI td) xpa xsp xwh xhe xho xtk xto xwa xmn) H := hP
  have hD : va_D (fun z : Nat => s.heap.size ≤ z) (lw_x q a cI cZ cJ u_1.2.2.1 sl u_1.2.2.2.1 u_1.2.2.2.2.1 u_1.2.2.2.2.2.1 cp cc cb ch cm u_1.2.2.2.2.2.2.2.1 u_1.2.2.2.2.2.2.2.2.1 u_1.2.2.2.2.2.2.2.2.2.1 u_1.2.2.2.2.2.2.2.2.2.2.1 u_1.2.2.2.2.2.2.2.2.2.2.2.1 u_1.2.2.2.2.2.2.1 u_1.2.2.2.2.2.2.2.2.2.2.2.2.1 tp u_1.2.2.2.2.2.2.2.2.2.2.2.2.2.1 u_1.2.2.2.2.2.2.2.2.2.2.2.2.2.2.1 u_1.2.2.2.2.2.2.2.2.2.2.2.2.2.2.2.1 u_1.2.2.2.2.2.2.2.2.2.2.2.2.2.2.2.2.1 u_1.2.2.2.2.2.2.2.2.2.2.2.2.2.2.2.2.2 (lw_out u_1.1 fo u_1.2.1.toInt64) ++ md_w r cI cZ xth xB xsh xcu xtp (nI td) xpa xsp xwh xhe xho xtk xto xwa xmn) := hD
  refine lv_istore (lv' := [(5, .int (lw_c 1 2 3 4 u_1.1)), (0, .ref b), (1, .ref (q 0)), (2, .ref (r 0)), (3, .ref a), (4, .int (nI (4 * j)))]) hx hb d_LW_law_217 hl (by decide) rfl (fun ls hl => ?_)
  refine lv_aload_n hx hb d_LW_law_219 rfl (lv_at hl 3 rfl) ?_
  refine lv_aload_n hx hb d_LW_law_220 rfl (lv_at hl 1 rfl) ?_
  refine lv_iload hx hb d_LW_law_221 (lv_at hl 5 rfl) ?_
  refine lv_iconst (v := 1) hx hb d_LW_law_223 (by decide) ?_
  refine lv_iadd hx hb d_LW_law_224 ?_
  rw [show (((nI (4 * j)) + 1) : Int32) = (nI ((4 * j) + 1)) from nI_add (4 * j) 1]
  refine va_sld hx hb hX hbl hbA hS (show vp_in (nI ((4 * j) + 1)) L from vp_in_nI (n := ((4 * j) + 1)) (by omega) (by omega)) d_LW_law_225 ?_
  rw [show ((nI ((4 * j) + 1)) : Int32).toNatClampNeg = ((4 * j) + 1) from nI_clamp (n := ((4 * j) + 1)) (by omega)]
  refine lv_aload_n hx hb d_LW_law_226 rfl (lv_at hl 1 rfl) ?_
  refine lv_iload hx hb d_LW_law_227 (lv_at hl 5 rfl) ?_
  refine lv_iconst (v := 2) hx hb d_LW_law_229 (by decide) ?_
  refine lv_iadd hx hb d_LW_law_230 ?_
  rw [show (((nI (4 * j)) + 2) : Int32) = (nI ((4 * j) + 2)) from nI_add (4 * j) 2]
  refine va_sld hx hb hX hbl hbA hS (show vp_in (nI ((4 * j) + 2)) L from vp_in_nI (n := ((4 * j) + 2)) (by omega) (by omega)) d_LW_law_231 ?_
  rw [show ((nI ((4 * j) + 2)) : Int32).toNatClampNeg = ((4 * j) + 2) from nI_clamp (n := ((4 * j) + 2)) (by omega)]
  refine sf_callVS (S := (Int32 × Int32 × (Nat → Int32) × Int32 × Int32 × Int32 × (Nat → Int32) × Int32 × Int32 × (Nat → Int32) × Int32 × (Nat → Int32) × (Nat → Int32) × (Nat → Int32) × Int32)) (rest := []) ⟨hx, hb, hml, hown, hts⟩ (c_MD_write l D cI cZ cJ r xth xB xsh xcu xtp xpa xsp xwh xhe xho xtk xto xwa xmn td (xs ((4 * j) + 1)) (xs ((4 * j) + 2)) (by omega)) (sf_cwV lk_LW_74 hts (fun _ h => h) ⟨Nat.le_of_ble_eq_true rfl, Nat.le_of_ble_eq_true rfl⟩) hK hP hD hS hA (fun _ => rfl) (ci := 3) (q0 := 0) rfl rfl rfl rfl rfl hl.1 (Nat.le_of_ble_eq_true rfl) d_LW_law_232 ⟨by show _ ≤ 601024; omega, by show _ ≤ 7293034; omega⟩ (fun u_2 H locs hu_2 hP hD hS => ?_)
  have hP : va_P D classes (lw_x q a cI cZ cJ u_1.2.2.1 sl u_1.2.2.2.1 u_1.2.2.2.2.1 u_1.2.2.2.2.2.1 cp cc cb ch cm u_1.2.2.2.2.2.2.2.1 u_1.2.2.2.2.2.2.2.2.1 u_1.2.2.2.2.2.2.2.2.2.1 u_1.2.2.2.2.2.2.2.2.2.2.1 u_1.2.2.2.2.2.2.2.2.2.2.2.1 u_1.2.2.2.2.2.2.1 u_1.2.2.2.2.2.2.2.2.2.2.2.2.1 tp u_1.2.2.2.2.2.2.2.2.2.2.2.2.2.1 u_1.2.2.2.2.2.2.2.2.2.2.2.2.2.2.1 u_1.2.2.2.2.2.2.2.2.2.2.2.2.2.2.2.1 u_1.2.2.2.2.2.2.2.2.2.2.2.2.2.2.2.2.1 u_1.2.2.2.2.2.2.2.2.2.2.2.2.2.2.2.2.2 (lw_out u_1.1 fo u_1.2.1.toInt64) ++ md_w r cI cZ u_2.2.1 u_2.2.2.1 u_2.2.2.2.1 u_2.2.2.2.2.1 xtp u_2.2.2.2.2.2.1 u_2.2.2.2.2.2.2.1 u_2.2.2.2.2.2.2.2.1 u_2.2.2.2.2.2.2.2.2.1 u_2.2.2.2.2.2.2.2.2.2.1 u_2.2.2.2.2.2.2.2.2.2.2.1 u_2.2.2.2.2.2.2.2.2.2.2.2.1 u_2.2.2.2.2.2.2.2.2.2.2.2.2.1 u_2.2.2.2.2.2.2.2.2.2.2.2.2.2.1 u_2.2.2.2.2.2.2.2.2.2.2.2.2.2.2) H := hP
  have hD : va_D (fun z : Nat => s.heap.size ≤ z) (lw_x q a cI cZ cJ u_1.2.2.1 sl u_1.2.2.2.1 u_1.2.2.2.2.1 u_1.2.2.2.2.2.1 cp cc cb ch cm u_1.2.2.2.2.2.2.2.1 u_1.2.2.2.2.2.2.2.2.1 u_1.2.2.2.2.2.2.2.2.2.1 u_1.2.2.2.2.2.2.2.2.2.2.1 u_1.2.2.2.2.2.2.2.2.2.2.2.1 u_1.2.2.2.2.2.2.1 u_1.2.2.2.2.2.2.2.2.2.2.2.2.1 tp u_1.2.2.2.2.2.2.2.2.2.2.2.2.2.1 u_1.2.2.2.2.2.2.2.2.2.2.2.2.2.2.1 u_1.2.2.2.2.2.2.2.2.2.2.2.2.2.2.2.1 u_1.2.2.2.2.2.2.2.2.2.2.2.2.2.2.2.2.1 u_1.2.2.2.2.2.2.2.2.2.2.2.2.2.2.2.2.2 (lw_out u_1.1 fo u_1.2.1.toInt64) ++ md_w r cI cZ u_2.2.1 u_2.2.2.1 u_2.2.2.2.1 u_2.2.2.2.2.1 xtp u_2.2.2.2.2.2.1 u_2.2.2.2.2.2.2.1 u_2.2.2.2.2.2.2.2.1 u_2.2.2.2.2.2.2.2.2.1 u_2.2.2.2.2.2.2.2.2.2.1 u_2.2.2.2.2.2.2.2.2.2.2.1 u_2.2.2.2.2.2.2.2.2.2.2.2.1 u_2.2.2.2.2.2.2.2.2.2.2.2.2.1 u_2.2.2.2.2.2.2.2.2.2.2.2.2.2.1 u_2.2.2.2.2.2.2.2.2.2.2.2.2.2.2) := hD
  obtain ⟨hC, td1, htd1, etd1, hR⟩ := r_k_write hR hu_1 hu_2
  rw [etd1] at hP hD
  have hP : va_P D classes (lw_x q a cI cZ cJ u_1.2.2.1 sl u_1.2.2.2.1 u_1.2.2.2.2.1 u_1.2.2.2.2.2.1 cp cc cb ch cm u_1.2.2.2.2.2.2.2.1 u_1.2.2.2.2.2.2.2.2.1 u_1.2.2.2.2.2.2.2.2.2.1 u_1.2.2.2.2.2.2.2.2.2.2.1 u_1.2.2.2.2.2.2.2.2.2.2.2.1 u_1.2.2.2.2.2.2.1 u_1.2.2.2.2.2.2.2.2.2.2.2.2.1 tp u_1.2.2.2.2.2.2.2.2.2.2.2.2.2.1 u_1.2.2.2.2.2.2.2.2.2.2.2.2.2.2.1 u_1.2.2.2.2.2.2.2.2.2.2.2.2.2.2.2.1 u_1.2.2.2.2.2.2.2.2.2.2.2.2.2.2.2.2.1 u_1.2.2.2.2.2.2.2.2.2.2.2.2.2.2.2.2.2 (lw_out u_1.1 fo u_1.2.1.toInt64) ++ md_w r cI cZ u_2.2.1 u_2.2.2.1 u_2.2.2.2.1 u_2.2.2.2.2.1 xtp (nI td1) u_2.2.2.2.2.2.2.1 u_2.2.2.2.2.2.2.2.1 u_2.2.2.2.2.2.2.2.2.1 u_2.2.2.2.2.2.2.2.2.2.1 u_2.2.2.2.2.2.2.2.2.2.2.1 u_2.2.2.2.2.2.2.2.2.2.2.2.1 u_2.2.2.2.2.2.2.2.2.2.2.2.2.1 u_2.2.2.2.2.2.2.2.2.2.2.2.2.2.1 u_2.2.2.2.2.2.2.2.2.2.2.2.2.2.2) H := hP
  have hD : va_D (fun z : Nat => s.heap.size ≤ z) (lw_x q a cI cZ cJ u_1.2.2.1 sl u_1.2.2.2.1 u_1.2.2.2.2.1 u_1.2.2.2.2.2.1 cp cc cb ch cm u_1.2.2.2.2.2.2.2.1 u_1.2.2.2.2.2.2.2.2.1 u_1.2.2.2.2.2.2.2.2.2.1 u_1.2.2.2.2.2.2.2.2.2.2.1 u_1.2.2.2.2.2.2.2.2.2.2.2.1 u_1.2.2.2.2.2.2.1 u_1.2.2.2.2.2.2.2.2.2.2.2.2.1 tp u_1.2.2.2.2.2.2.2.2.2.2.2.2.2.1 u_1.2.2.2.2.2.2.2.2.2.2.2.2.2.2.1 u_1.2.2.2.2.2.2.2.2.2.2.2.2.2.2.2.1 u_1.2.2.2.2.2.2.2.2.2.2.2.2.2.2.2.2.1 u_1.2.2.2.2.2.2.2.2.2.2.2.2.2.2.2.2.2 (lw_out u_1.1 fo u_1.2.1.toInt64) ++ md_w r cI cZ u_2.2.1 u_2.2.2.1 u_2.2.2.2.1 u_2.2.2.2.2.1 xtp (nI td1) u_2.2.2.2.2.2.2.1 u_2.2.2.2.2.2.2.2.1 u_2.2.2.2.2.2.2.2.2.1 u_2.2.2.2.2.2.2.2.2.2.1 u_2.2.2.2.2.2.2.2.2.2.2.1 u_2.2.2.2.2.2.2.2.2.2.2.2.1 u_2.2.2.2.2.2.2.2.2.2.2.2.2.1 u_2.2.2.2.2.2.2.2.2.2.2.2.2.2.1 u_2.2.2.2.2.2.2.2.2.2.2.2.2.2.2) := hD
  refine lv_istore (lv' := [(6, .int u_2.1), (5, .int (lw_c 1 2 3 4 u_1.1)), (0, .ref b), (1, .ref (q 0)), (2, .ref (r 0)), (3, .ref a), (4, .int (nI (4 * j)))]) hx hb d_LW_law_235 hl (by decide) rfl (fun ls hl => ?_)
  refine lv_aload_n hx hb d_LW_law_237 rfl (lv_at hl 4 rfl) ?_
  refine sf_callVS (S := Int32) (rest := []) ⟨hx, hb, hml, hown, hts⟩ (c_MD_thrown l D cI cZ cJ r u_2.2.1 u_2.2.2.1 u_2.2.2.2.1 u_2.2.2.2.2.1 xtp (nI td1) u_2.2.2.2.2.2.2.1 u_2.2.2.2.2.2.2.2.1 u_2.2.2.2.2.2.2.2.2.1 u_2.2.2.2.2.2.2.2.2.2.1 u_2.2.2.2.2.2.2.2.2.2.2.1 u_2.2.2.2.2.2.2.2.2.2.2.2.1 u_2.2.2.2.2.2.2.2.2.2.2.2.2.1 u_2.2.2.2.2.2.2.2.2.2.2.2.2.2.1 u_2.2.2.2.2.2.2.2.2.2.2.2.2.2.2) (sf_cwV lk_LW_67 hts (fun _ h => h) ⟨Nat.le_of_ble_eq_true rfl, Nat.le_of_ble_eq_true rfl⟩) hK hP hD hS hA (fun _ => rfl) (ci := 3) (q0 := 0) rfl rfl rfl rfl rfl hl.1 (Nat.le_of_ble_eq_true rfl) d_LW_law_238 ⟨by show _ ≤ 601024; omega, by show _ ≤ 7293034; omega⟩ (fun u_3 H locs hu_3 hP hD hS => ?_)
  have hP : va_P D classes (lw_x q a cI cZ cJ u_1.2.2.1 sl u_1.2.2.2.1 u_1.2.2.2.2.1 u_1.2.2.2.2.2.1 cp cc cb ch cm u_1.2.2.2.2.2.2.2.1 u_1.2.2.2.2.2.2.2.2.1 u_1.2.2.2.2.2.2.2.2.2.1 u_1.2.2.2.2.2.2.2.2.2.2.1 u_1.2.2.2.2.2.2.2.2.2.2.2.1 u_1.2.2.2.2.2.2.1 u_1.2.2.2.2.2.2.2.2.2.2.2.2.1 tp u_1.2.2.2.2.2.2.2.2.2.2.2.2.2.1 u_1.2.2.2.2.2.2.2.2.2.2.2.2.2.2.1 u_1.2.2.2.2.2.2.2.2.2.2.2.2.2.2.2.1 u_1.2.2.2.2.2.2.2.2.2.2.2.2.2.2.2.2.1 u_1.2.2.2.2.2.2.2.2.2.2.2.2.2.2.2.2.2 (lw_out u_1.1 fo u_1.2.1.toInt64) ++ md_w r cI cZ u_2.2.1 u_2.2.2.1 u_2.2.2.2.1 u_2.2.2.2.2.1 xtp (nI td1) u_2.2.2.2.2.2.2.1 u_2.2.2.2.2.2.2.2.1 u_2.2.2.2.2.2.2.2.2.1 u_2.2.2.2.2.2.2.2.2.2.1 u_2.2.2.2.2.2.2.2.2.2.2.1 u_2.2.2.2.2.2.2.2.2.2.2.2.1 u_2.2.2.2.2.2.2.2.2.2.2.2.2.1 u_2.2.2.2.2.2.2.2.2.2.2.2.2.2.1 u_2.2.2.2.2.2.2.2.2.2.2.2.2.2.2) H := hP
  have hD : va_D (fun z : Nat => s.heap.size ≤ z) (lw_x q a cI cZ cJ u_1.2.2.1 sl u_1.2.2.2.1 u_1.2.2.2.2.1 u_1.2.2.2.2.2.1 cp cc cb ch cm u_1.2.2.2.2.2.2.2.1 u_1.2.2.2.2.2.2.2.2.1 u_1.2.2.2.2.2.2.2.2.2.1 u_1.2.2.2.2.2.2.2.2.2.2.1 u_1.2.2.2.2.2.2.2.2.2.2.2.1 u_1.2.2.2.2.2.2.1 u_1.2.2.2.2.2.2.2.2.2.2.2.2.1 tp u_1.2.2.2.2.2.2.2.2.2.2.2.2.2.1 u_1.2.2.2.2.2.2.2.2.2.2.2.2.2.2.1 u_1.2.2.2.2.2.2.2.2.2.2.2.2.2.2.2.1 u_1.2.2.2.2.2.2.2.2.2.2.2.2.2.2.2.2.1 u_1.2.2.2.2.2.2.2.2.2.2.2.2.2.2.2.2.2 (lw_out u_1.1 fo u_1.2.1.toInt64) ++ md_w r cI cZ u_2.2.1 u_2.2.2.1 u_2.2.2.2.1 u_2.2.2.2.2.1 xtp (nI td1) u_2.2.2.2.2.2.2.1 u_2.2.2.2.2.2.2.2.1 u_2.2.2.2.2.2.2.2.2.1 u_2.2.2.2.2.2.2.2.2.2.1 u_2.2.2.2.2.2.2.2.2.2.2.1 u_2.2.2.2.2.2.2.2.2.2.2.2.1 u_2.2.2.2.2.2.2.2.2.2.2.2.2.1 u_2.2.2.2.2.2.2.2.2.2.2.2.2.2.1 u_2.2.2.2.2.2.2.2.2.2.2.2.2.2.2) := hD
  refine lv_iload hx hb d_LW_law_241 (lv_at hl 1 rfl) ?_
  refine lv_icmp_eq (tgt := 248) hx hb d_LW_law_243 (by decide) (fun c_4 => ?_) (fun c_4 => absurd (by rw [hu_3]; exact hC.1) c_4)
  refine lv_iload hx hb d_LW_law_248 (lv_at hl 1 rfl) ?_
  refine lv_if_ne (tgt := 265) hx hb d_LW_law_250 (by decide) (fun c_5 => ?_) (fun c_5 => ?_)
  · refine lv_goto (tgt := 817) hx hb d_LW_law_265 (by decide) ?_
    refine W.widen (k := 27 + (j + 1)) (n := 3370 + 6 * (j + 1)) (by omega) (by omega) ?_
    exact kk u_1.2.2.1 sl u_1.2.2.2.1 u_1.2.2.2.2.1 u_1.2.2.2.2.2.1 cp cc cb ch cm u_1.2.2.2.2.2.2.2.1 u_1.2.2.2.2.2.2.2.2.1 u_1.2.2.2.2.2.2.2.2.2.1 u_1.2.2.2.2.2.2.2.2.2.2.1 u_1.2.2.2.2.2.2.2.2.2.2.2.1 u_1.2.2.2.2.2.2.1 u_1.2.2.2.2.2.2.2.2.2.2.2.2.1 tp u_1.2.2.2.2.2.2.2.2.2.2.2.2.2.1 u_1.2.2.2.2.2.2.2.2.2.2.2.2.2.2.1 u_1.2.2.2.2.2.2.2.2.2.2.2.2.2.2.2.1 u_1.2.2.2.2.2.2.2.2.2.2.2.2.2.2.2.2.1 u_1.2.2.2.2.2.2.2.2.2.2.2.2.2.2.2.2.2 u_2.2.1 u_2.2.2.1 u_2.2.2.2.1 u_2.2.2.2.2.1 xtp u_2.2.2.2.2.2.2.1 u_2.2.2.2.2.2.2.2.1 u_2.2.2.2.2.2.2.2.2.1 u_2.2.2.2.2.2.2.2.2.2.1 u_2.2.2.2.2.2.2.2.2.2.2.1 u_2.2.2.2.2.2.2.2.2.2.2.2.1 u_2.2.2.2.2.2.2.2.2.2.2.2.2.1 u_2.2.2.2.2.2.2.2.2.2.2.2.2.2.1 u_2.2.2.2.2.2.2.2.2.2.2.2.2.2.2 (lw_out u_1.1 fo u_1.2.1.toInt64) td1 hR _ _ hP hD hS ls (lv_sub hl [2, 3, 4, 5, 6] rfl)
  · refine lv_aload_n hx hb d_LW_law_253 rfl (lv_at hl 5 rfl) ?_
    refine lv_iconst (v := 0) hx hb d_LW_law_254 (by decide) ?_
    refine va_lald hx hb hK hP 18 2 rfl rfl (show vp_in 0 1 from vp_in_nI (n := 0) (by omega) (by omega)) d_LW_law_255 ?_
    refine lv_iload hx hb d_LW_law_256 (lv_at hl 0 rfl) ?_
    refine lv_i2l (v := (u_2.1).toInt64) hx hb d_LW_law_258 rfl ?_
    refine W.lcmp hx hb d_LW_law_259 ?_
    refine lv_if_eq (tgt := 265) hx hb d_LW_law_260 (by decide) (fun c_6 => ?_) (fun c_6 => absurd (r_out (r0_write (show sf_TC [0, 1, 2, 3, 4] u_1 by rw [hu_1]; exact t_SF_write _ _ _ _ _ _ _ _ _ _ _ _ _ _ _ _ _ _ _) c_5) (hC.2 (r0_write (show sf_TC [0, 1, 2, 3, 4] u_1 by rw [hu_1]; exact t_SF_write _ _ _ _ _ _ _ _ _ _ _ _ _ _ _ _ _ _ _) c_5))) c_6)
    refine lv_goto (tgt := 817) hx hb d_LW_law_265 (by decide) ?_
    refine W.widen (k := 27 + (j + 1)) (n := 3370 + 6 * (j + 1)) (by omega) (by omega) ?_
    exact kk u_1.2.2.1 sl u_1.2.2.2.1 u_1.2.2.2.2.1 u_1.2.2.2.2.2.1 cp cc cb ch cm u_1.2.2.2.2.2.2.2.1 u_1.2.2.2.2.2.2.2.2.1 u_1.2.2.2.2.2.2.2.2.2.1 u_1.2.2.2.2.2.2.2.2.2.2.1 u_1.2.2.2.2.2.2.2.2.2.2.2.1 u_1.2.2.2.2.2.2.1 u_1.2.2.2.2.2.2.2.2.2.2.2.2.1 tp u_1.2.2.2.2.2.2.2.2.2.2.2.2.2.1 u_1.2.2.2.2.2.2.2.2.2.2.2.2.2.2.1 u_1.2.2.2.2.2.2.2.2.2.2.2.2.2.2.2.1 u_1.2.2.2.2.2.2.2.2.2.2.2.2.2.2.2.2.1 u_1.2.2.2.2.2.2.2.2.2.2.2.2.2.2.2.2.2 u_2.2.1 u_2.2.2.1 u_2.2.2.2.1 u_2.2.2.2.2.1 xtp u_2.2.2.2.2.2.2.1 u_2.2.2.2.2.2.2.2.1 u_2.2.2.2.2.2.2.2.2.1 u_2.2.2.2.2.2.2.2.2.2.1 u_2.2.2.2.2.2.2.2.2.2.2.1 u_2.2.2.2.2.2.2.2.2.2.2.2.1 u_2.2.2.2.2.2.2.2.2.2.2.2.2.1 u_2.2.2.2.2.2.2.2.2.2.2.2.2.2.1 u_2.2.2.2.2.2.2.2.2.2.2.2.2.2.2 (lw_out u_1.1 fo u_1.2.1.toInt64) td1 hR _ _ hP hD hS ls (lv_sub hl [2, 3, 4, 5, 6] rfl)
set_option maxHeartbeats 2000000 in
set_option maxRecDepth 100000 in
/-- the law, case 2 -/
theorem law_2 {p : Program} {l : Launch} {e : Env} {s : State} {m : MethodId} {below : List Frame} {meth : Method} {c : Code} {b L : Nat} {xs : Nat → Int32} {D : va_G} {cI cZ cJ : ClassId} {q r : Nat → Nat} {a : Nat} {Q : State → Prop} (hL : L ≤ 2048) (C0 : lw_At p s m meth c b L xs) (hst : l.stackTraces = false) (hE : sf_EX (fun z : Nat => s.heap.size ≤ z) s s.heap) (hN : lw_NC s) (hK : va_K D classes (sf_tys cI cZ cJ) s) (j : Nat) (hj : 4 * j + 4 ≤ L) (fl : Nat → Int32) (sl : Nat → Int32) (tb : Nat → Int32) (np : Nat → Int32) (nt : Nat → Int32) (cp : Nat → Int32) (cc : Int32) (cb : Int32) (ch : Int32) (cm : Int32) (mp : Nat → Int32) (mc : Int32) (mb : Int32) (mh : Int32) (mm : Int32) (us : Nat → Int32) (ta : Nat → Int32) (tp : Nat → Int32) (tl : Int32) (cu : Int32) (bl : Int32) (pf : Int32) (sh : Int32) (xth : Int32) (xB : Nat → Int32) (xsh : Int32) (xcu : Int32) (xtp : Nat → Int32) (xpa : Nat → Int32) (xsp : Int32) (xwh : Int32) (xhe : Nat → Int32) (xho : Int32) (xtk : Nat → Int32) (xto : Nat → Int32) (xwa : Nat → Int32) (xmn : Int32) (fo : Nat → Int64) (td : Nat) (hR : r_R fl sl tb nt tp tl cu sh xB xsh xcu xtp td) (H : Heap) (locs : List Loc) (hP : va_P D classes (lw_x q a cI cZ cJ fl sl tb np nt cp cc cb ch cm mp mc mb mh mm us ta tp tl cu bl pf sh fo ++ md_w r cI cZ xth xB xsh xcu xtp (nI td) xpa xsp xwh xhe xho xtk xto xwa xmn) H) (hD : va_D (fun z : Nat => s.heap.size ≤ z) (lw_x q a cI cZ cJ fl sl tb np nt cp cc cb ch cm mp mc mb mh mm us ta tp tl cu bl pf sh fo ++ md_w r cI cZ xth xB xsh xcu xtp (nI td) xpa xsp xwh xhe xho xtk xto xwa xmn)) (hS : va_S (fun z : Nat => s.heap.size ≤ z) s.heap H locs) (ls : Array Slot) (hl : lv_has ls 7 [(0, .ref b), (1, .ref (q 0)), (2, .ref (r 0)), (3, .ref a), (4, .int (nI (4 * j)))])
    (kk : ∀ (fl : Nat → Int32) (sl : Nat → Int32) (tb : Nat → Int32) (np : Nat → Int32) (nt : Nat → Int32) (cp : Nat → Int32) (cc : Int32) (cb : Int32) (ch : Int32) (cm : Int32) (mp : Nat → Int32) (mc : Int32) (mb : Int32) (mh : Int32) (mm : Int32) (us : Nat → Int32) (ta : Nat → Int32) (tp : Nat → Int32) (tl : Int32) (cu : Int32) (bl : Int32) (pf : Int32) (sh : Int32) (xth : Int32) (xB : Nat → Int32) (xsh : Int32) (xcu : Int32) (xtp : Nat → Int32) (xpa : Nat → Int32) (xsp : Int32) (xwh : Int32) (xhe : Nat → Int32) (xho : Int32) (xtk : Nat → Int32) (xto : Nat → Int32) (xwa : Nat → Int32) (xmn : Int32) (fo : Nat → Int64) (td : Nat), r_R fl sl tb nt tp tl cu sh xB xsh xcu xtp td → ∀ (H : Heap) (locs : List Loc), va_P D classes (lw_x q a cI cZ cJ fl sl tb np nt cp cc cb ch cm mp mc mb mh mm us ta tp tl cu bl pf sh fo ++ md_w r cI cZ xth xB xsh xcu xtp (nI td) xpa xsp xwh xhe xho xtk xto xwa xmn) H → va_D (fun z : Nat => s.heap.size ≤ z) (lw_x q a cI cZ cJ fl sl tb np nt cp cc cb ch cm mp mc mb mh mm us ta tp tl cu bl pf sh fo ++ md_w r cI cZ xth xB xsh xcu xtp (nI td) xpa xsp xwh xhe xho xtk xto xwa xmn) → va_S (fun z : Nat => s.heap.size ≤ z) s.heap H locs → ∀ (ls : Array Slot), lv_has ls 7 [(0, .ref b), (1, .ref (q 0)), (2, .ref (r 0)), (3, .ref a), (4, .int (nI (4 * j)))] → W p l e room_1 s m #[Value.ref b] below meth c H locs (27 + (j + 1)) (3370 + 6 * (j + 1)) Q (F0 m 817 ls [])) : W p l e room_1 s m #[Value.ref b] below meth c H locs (27 + j) (3370 + 6 * j) Q (F0 m 268 ls []) := by
  obtain ⟨hx, hb, hr, hml, hown, hts0, hX, hbl, hlocks, hgv⟩ := id C0
  have hts : ∀ w ∈ sf_tb, w.before #[Value.ref b] s = true := fun w h => hts0 w (sf_sub w h)
  have hA : ∀ z : Nat, s.heap.size ≤ z → (fun z : Nat => s.heap.size ≤ z) z := fun _ h => h
  have hbA : ¬ (fun z : Nat => s.heap.size ≤ z) b := Nat.not_le.mpr hbl
  have htd : td ≤ 60 := hR.2.2.1.2.1
  refine lv_aload_n hx hb d_LW_law_268 rfl (lv_at hl 1 rfl) ?_
  refine lv_aload_n hx hb d_LW_law_269 rfl (lv_at hl 0 rfl) ?_
  refine lv_iload hx hb d_LW_law_270 (lv_at hl 4 rfl) ?_
  refine lv_iconst (v := 1) hx hb d_LW_law_272 (by decide) ?_
  refine lv_iadd hx hb d_LW_law_273 ?_
  rw [show (((nI (4 * j)) + 1) : Int32) = (nI ((4 * j) + 1)) from nI_add (4 * j) 1]
  refine va_sld hx hb hX hbl hbA hS (show vp_in (nI ((4 * j) + 1)) L from vp_in_nI (n := ((4 * j) + 1)) (by omega) (by omega)) d_LW_law_274 ?_
  rw [show ((nI ((4 * j) + 1)) : Int32).toNatClampNeg = ((4 * j) + 1) from nI_clamp (n := ((4 * j) + 1)) (by omega)]
  refine lv_aload_n hx hb d_LW_law_275 rfl (lv_at hl 3 rfl) ?_
  refine sf_ncallS (S := (Int32 × Int32 × (Nat → Int32) × (Nat → Int32) × Int32 × Int32 × Int32 × Int32)) (rest := []) ⟨hx, hb, hml, hown, hts⟩ (c_LW_remove l D cI cZ cJ hst q a fl sl tb np nt cp cc cb ch cm mp mc mb mh mm us ta tp tl cu bl pf sh fo (xs ((4 * j) + 1))) (sf_cwSW lk_LW_75 hts (fun _ h => h) ⟨Nat.le_of_ble_eq_true rfl, Nat.le_of_ble_eq_true rfl⟩) hK hE hN hP hD hS hA (fun _ => rfl) rfl rfl hl.1 (Nat.le_of_ble_eq_true rfl) d_LW_law_276 ⟨by show _ ≤ 601024; omega, by show _ ≤ 7293034; omega⟩ (fun u_1 H locs hu_1 hP hD hS => ?_)
  have hP : va_P D classes (lw_x q a cI cZ cJ fl sl u_1.2.2.1 np u_1.2.2.2.1 cp cc cb ch cm mp mc mb mh mm us ta tp tl u_1.2.2.2.2.1 u_1.2.2.2.2.2.1 u_1.2.2.2.2.2.2.1 u_1.2.2.2.2.2.2.2 (lw_out u_1.1 fo u_1.2.1.toInt64) ++ md_w r cI cZ xth xB xsh xcu xtp (nI td) xpa xsp xwh xhe xho xtk xto xwa xmn) H := hP
  have hD : va_D (fun z : Nat => s.heap.size ≤ z) (lw_x q a cI cZ cJ fl sl u_1.2.2.1 np u_1.2.2.2.1 cp cc cb ch cm mp mc mb mh mm us ta tp tl u_1.2.2.2.2.1 u_1.2.2.2.2.2.1 u_1.2.2.2.2.2.2.1 u_1.2.2.2.2.2.2.2 (lw_out u_1.1 fo u_1.2.1.toInt64) ++ md_w r cI cZ xth xB xsh xcu xtp (nI td) xpa xsp xwh xhe xho xtk xto xwa xmn) := hD
  refine lv_istore (lv' := [(5, .int (lw_c 1 2 0 0 u_1.1)), (0, .ref b), (1, .ref (q 0)), (2, .ref (r 0)), (3, .ref a), (4, .int (nI (4 * j)))]) hx hb d_LW_law_279 hl (by decide) rfl (fun ls hl => ?_)
  refine lv_aload_n hx hb d_LW_law_281 rfl (lv_at hl 3 rfl) ?_
  refine lv_aload_n hx hb d_LW_law_282 rfl (lv_at hl 1 rfl) ?_
  refine lv_iload hx hb d_LW_law_283 (lv_at hl 5 rfl) ?_
  refine lv_iconst (v := 1) hx hb d_LW_law_285 (by decide) ?_
  refine lv_iadd hx hb d_LW_law_286 ?_
  rw [show (((nI (4 * j)) + 1) : Int32) = (nI ((4 * j) + 1)) from nI_add (4 * j) 1]
  refine va_sld hx hb hX hbl hbA hS (show vp_in (nI ((4 * j) + 1)) L from vp_in_nI (n := ((4 * j) + 1)) (by omega) (by omega)) d_LW_law_287 ?_
  rw [show ((nI ((4 * j) + 1)) : Int32).toNatClampNeg = ((4 * j) + 1) from nI_clamp (n := ((4 * j) + 1)) (by omega)]
  refine sf_callVS (S := (Int32 × Int32 × (Nat → Int32) × Int32 × Int32 × (Nat → Int32) × (Nat → Int32) × Int32)) (rest := []) ⟨hx, hb, hml, hown, hts⟩ (c_MD_remove l D cI cZ cJ r xth xB xsh xcu xtp (nI td) xpa xsp xwh xhe xho xtk xto xwa xmn (xs ((4 * j) + 1))) (sf_cwV lk_LW_78 hts (fun _ h => h) ⟨Nat.le_of_ble_eq_true rfl, Nat.le_of_ble_eq_true rfl⟩) hK hP hD hS hA (fun _ => rfl) (ci := 3) (q0 := 0) rfl rfl rfl rfl rfl hl.1 (Nat.le_of_ble_eq_true rfl) d_LW_law_288 ⟨by show _ ≤ 601024; omega, by show _ ≤ 7293034; omega⟩ (fun u_2 H locs hu_2 hP hD hS => ?_)
  obtain ⟨hC, hR⟩ := r_k_remove hR hu_1 hu_2
  have hP : va_P D classes (lw_x q a cI cZ cJ fl sl u_1.2.2.1 np u_1.2.2.2.1 cp cc cb ch cm mp mc mb mh mm us ta tp tl u_1.2.2.2.2.1 u_1.2.2.2.2.2.1 u_1.2.2.2.2.2.2.1 u_1.2.2.2.2.2.2.2 (lw_out u_1.1 fo u_1.2.1.toInt64) ++ md_w r cI cZ u_2.2.1 u_2.2.2.1 u_2.2.2.2.1 u_2.2.2.2.2.1 xtp (nI td) xpa xsp xwh xhe xho xtk u_2.2.2.2.2.2.1 u_2.2.2.2.2.2.2.1 u_2.2.2.2.2.2.2.2) H := hP
  have hD : va_D (fun z : Nat => s.heap.size ≤ z) (lw_x q a cI cZ cJ fl sl u_1.2.2.1 np u_1.2.2.2.1 cp cc cb ch cm mp mc mb mh mm us ta tp tl u_1.2.2.2.2.1 u_1.2.2.2.2.2.1 u_1.2.2.2.2.2.2.1 u_1.2.2.2.2.2.2.2 (lw_out u_1.1 fo u_1.2.1.toInt64) ++ md_w r cI cZ u_2.2.1 u_2.2.2.1 u_2.2.2.2.1 u_2.2.2.2.2.1 xtp (nI td) xpa xsp xwh xhe xho xtk u_2.2.2.2.2.2.1 u_2.2.2.2.2.2.2.1 u_2.2.2.2.2.2.2.2) := hD
  refine lv_istore (lv' := [(6, .int u_2.1), (5, .int (lw_c 1 2 0 0 u_1.1)), (0, .ref b), (1, .ref (q 0)), (2, .ref (r 0)), (3, .ref a), (4, .int (nI (4 * j)))]) hx hb d_LW_law_291 hl (by decide) rfl (fun ls hl => ?_)
  refine lv_aload_n hx hb d_LW_law_293 rfl (lv_at hl 4 rfl) ?_
  refine sf_callVS (S := Int32) (rest := []) ⟨hx, hb, hml, hown, hts⟩ (c_MD_thrown l D cI cZ cJ r u_2.2.1 u_2.2.2.1 u_2.2.2.2.1 u_2.2.2.2.2.1 xtp (nI td) xpa xsp xwh xhe xho xtk u_2.2.2.2.2.2.1 u_2.2.2.2.2.2.2.1 u_2.2.2.2.2.2.2.2) (sf_cwV lk_LW_67 hts (fun _ h => h) ⟨Nat.le_of_ble_eq_true rfl, Nat.le_of_ble_eq_true rfl⟩) hK hP hD hS hA (fun _ => rfl) (ci := 3) (q0 := 0) rfl rfl rfl rfl rfl hl.1 (Nat.le_of_ble_eq_true rfl) d_LW_law_294 ⟨by show _ ≤ 601024; omega, by show _ ≤ 7293034; omega⟩ (fun u_3 H locs hu_3 hP hD hS => ?_)
  have hP : va_P D classes (lw_x q a cI cZ cJ fl sl u_1.2.2.1 np u_1.2.2.2.1 cp cc cb ch cm mp mc mb mh mm us ta tp tl u_1.2.2.2.2.1 u_1.2.2.2.2.2.1 u_1.2.2.2.2.2.2.1 u_1.2.2.2.2.2.2.2 (lw_out u_1.1 fo u_1.2.1.toInt64) ++ md_w r cI cZ u_2.2.1 u_2.2.2.1 u_2.2.2.2.1 u_2.2.2.2.2.1 xtp (nI td) xpa xsp xwh xhe xho xtk u_2.2.2.2.2.2.1 u_2.2.2.2.2.2.2.1 u_2.2.2.2.2.2.2.2) H := hP
  have hD : va_D (fun z : Nat => s.heap.size ≤ z) (lw_x q a cI cZ cJ fl sl u_1.2.2.1 np u_1.2.2.2.1 cp cc cb ch cm mp mc mb mh mm us ta tp tl u_1.2.2.2.2.1 u_1.2.2.2.2.2.1 u_1.2.2.2.2.2.2.1 u_1.2.2.2.2.2.2.2 (lw_out u_1.1 fo u_1.2.1.toInt64) ++ md_w r cI cZ u_2.2.1 u_2.2.2.1 u_2.2.2.2.1 u_2.2.2.2.2.1 xtp (nI td) xpa xsp xwh xhe xho xtk u_2.2.2.2.2.2.1 u_2.2.2.2.2.2.2.1 u_2.2.2.2.2.2.2.2) := hD
  refine lv_iload hx hb d_LW_law_297 (lv_at hl 1 rfl) ?_
  refine lv_icmp_eq (tgt := 304) hx hb d_LW_law_299 (by decide) (fun c_4 => ?_) (fun c_4 => absurd (by rw [hu_3]; exact hC.1) c_4)
  refine lv_iload hx hb d_LW_law_304 (lv_at hl 1 rfl) ?_
  refine lv_if_ne (tgt := 321) hx hb d_LW_law_306 (by decide) (fun c_5 => ?_) (fun c_5 => ?_)
  · refine lv_goto (tgt := 817) hx hb d_LW_law_321 (by decide) ?_
    refine W.widen (k := 27 + (j + 1)) (n := 3370 + 6 * (j + 1)) (by omega) (by omega) ?_
    exact kk fl sl u_1.2.2.1 np u_1.2.2.2.1 cp cc cb ch cm mp mc mb mh mm us ta tp tl u_1.2.2.2.2.1 u_1.2.2.2.2.2.1 u_1.2.2.2.2.2.2.1 u_1.2.2.2.2.2.2.2 u_2.2.1 u_2.2.2.1 u_2.2.2.2.1 u_2.2.2.2.2.1 xtp xpa xsp xwh xhe xho xtk u_2.2.2.2.2.2.1 u_2.2.2.2.2.2.2.1 u_2.2.2.2.2.2.2.2 (lw_out u_1.1 fo u_1.2.1.toInt64) td hR _ _ hP hD hS ls (lv_sub hl [2, 3, 4, 5, 6] rfl)
  · refine lv_aload_n hx hb d_LW_law_309 rfl (lv_at hl 5 rfl) ?_
    refine lv_iconst (v := 0) hx hb d_LW_law_310 (by decide) ?_
    refine va_lald hx hb hK hP 18 2 rfl rfl (show vp_in 0 1 from vp_in_nI (n := 0) (by omega) (by omega)) d_LW_law_311 ?_
    refine lv_iload hx hb d_LW_law_312 (lv_at hl 0 rfl) ?_
    refine lv_i2l (v := (u_2.1).toInt64) hx hb d_LW_law_314 rfl ?_
    refine W.lcmp hx hb d_LW_law_315 ?_
    refine lv_if_eq (tgt := 321) hx hb d_LW_law_316 (by decide) (fun c_6 => ?_) (fun c_6 => absurd (r_out (r0_remove (show sf_TC [0, 1, 2] u_1 by rw [hu_1]; exact t_SF_remove _ _ _ _ _ _ _) c_5) (hC.2 (r0_remove (show sf_TC [0, 1, 2] u_1 by rw [hu_1]; exact t_SF_remove _ _ _ _ _ _ _) c_5))) c_6)
    refine lv_goto (tgt := 817) hx hb d_LW_law_321 (by decide) ?_
    refine W.widen (k := 27 + (j + 1)) (n := 3370 + 6 * (j + 1)) (by omega) (by omega) ?_
    exact kk fl sl u_1.2.2.1 np u_1.2.2.2.1 cp cc cb ch cm mp mc mb mh mm us ta tp tl u_1.2.2.2.2.1 u_1.2.2.2.2.2.1 u_1.2.2.2.2.2.2.1 u_1.2.2.2.2.2.2.2 u_2.2.1 u_2.2.2.1 u_2.2.2.2.1 u_2.2.2.2.2.1 xtp xpa xsp xwh xhe xho xtk u_2.2.2.2.2.2.1 u_2.2.2.2.2.2.2.1 u_2.2.2.2.2.2.2.2 (lw_out u_1.1 fo u_1.2.1.toInt64) td hR _ _ hP hD hS ls (lv_sub hl [2, 3, 4, 5, 6] rfl)
set_option maxHeartbeats 2000000 in
set_option maxRecDepth 100000 in
/-- the law, case 4 -/
theorem law_4 {p : Program} {l : Launch} {e : Env} {s : State} {m : MethodId} {below : List Frame} {meth : Method} {c : Code} {b L : Nat} {xs : Nat → Int32} {D : va_G} {cI cZ cJ : ClassId} {q r : Nat → Nat} {a : Nat} {Q : State → Prop} (hL : L ≤ 2048) (C0 : lw_At p s m meth c b L xs) (hst : l.stackTraces = false) (hE : sf_EX (fun z : Nat => s.heap.size ≤ z) s s.heap) (hN : lw_NC s) (hK : va_K D classes (sf_tys cI cZ cJ) s) (j : Nat) (hj : 4 * j + 4 ≤ L) (fl : Nat → Int32) (sl : Nat → Int32) (tb : Nat → Int32) (np : Nat → Int32) (nt : Nat → Int32) (cp : Nat → Int32) (cc : Int32) (cb : Int32) (ch : Int32) (cm : Int32) (mp : Nat → Int32) (mc : Int32) (mb : Int32) (mh : Int32) (mm : Int32) (us : Nat → Int32) (ta : Nat → Int32) (tp : Nat → Int32) (tl : Int32) (cu : Int32) (bl : Int32) (pf : Int32) (sh : Int32) (xth : Int32) (xB : Nat → Int32) (xsh : Int32) (xcu : Int32) (xtp : Nat → Int32) (xpa : Nat → Int32) (xsp : Int32) (xwh : Int32) (xhe : Nat → Int32) (xho : Int32) (xtk : Nat → Int32) (xto : Nat → Int32) (xwa : Nat → Int32) (xmn : Int32) (fo : Nat → Int64) (td : Nat) (hR : r_R fl sl tb nt tp tl cu sh xB xsh xcu xtp td) (H : Heap) (locs : List Loc) (hP : va_P D classes (lw_x q a cI cZ cJ fl sl tb np nt cp cc cb ch cm mp mc mb mh mm us ta tp tl cu bl pf sh fo ++ md_w r cI cZ xth xB xsh xcu xtp (nI td) xpa xsp xwh xhe xho xtk xto xwa xmn) H) (hD : va_D (fun z : Nat => s.heap.size ≤ z) (lw_x q a cI cZ cJ fl sl tb np nt cp cc cb ch cm mp mc mb mh mm us ta tp tl cu bl pf sh fo ++ md_w r cI cZ xth xB xsh xcu xtp (nI td) xpa xsp xwh xhe xho xtk xto xwa xmn)) (hS : va_S (fun z : Nat => s.heap.size ≤ z) s.heap H locs) (ls : Array Slot) (hl : lv_has ls 7 [(0, .ref b), (1, .ref (q 0)), (2, .ref (r 0)), (3, .ref a), (4, .int (nI (4 * j)))])
    (kk : ∀ (fl : Nat → Int32) (sl : Nat → Int32) (tb : Nat → Int32) (np : Nat → Int32) (nt : Nat → Int32) (cp : Nat → Int32) (cc : Int32) (cb : Int32) (ch : Int32) (cm : Int32) (mp : Nat → Int32) (mc : Int32) (mb : Int32) (mh : Int32) (mm : Int32) (us : Nat → Int32) (ta : Nat → Int32) (tp : Nat → Int32) (tl : Int32) (cu : Int32) (bl : Int32) (pf : Int32) (sh : Int32) (xth : Int32) (xB : Nat → Int32) (xsh : Int32) (xcu : Int32) (xtp : Nat → Int32) (xpa : Nat → Int32) (xsp : Int32) (xwh : Int32) (xhe : Nat → Int32) (xho : Int32) (xtk : Nat → Int32) (xto : Nat → Int32) (xwa : Nat → Int32) (xmn : Int32) (fo : Nat → Int64) (td : Nat), r_R fl sl tb nt tp tl cu sh xB xsh xcu xtp td → ∀ (H : Heap) (locs : List Loc), va_P D classes (lw_x q a cI cZ cJ fl sl tb np nt cp cc cb ch cm mp mc mb mh mm us ta tp tl cu bl pf sh fo ++ md_w r cI cZ xth xB xsh xcu xtp (nI td) xpa xsp xwh xhe xho xtk xto xwa xmn) H → va_D (fun z : Nat => s.heap.size ≤ z) (lw_x q a cI cZ cJ fl sl tb np nt cp cc cb ch cm mp mc mb mh mm us ta tp tl cu bl pf sh fo ++ md_w r cI cZ xth xB xsh xcu xtp (nI td) xpa xsp xwh xhe xho xtk xto xwa xmn) → va_S (fun z : Nat => s.heap.size ≤ z) s.heap H locs → ∀ (ls : Array Slot), lv_has ls 7 [(0, .ref b), (1, .ref (q 0)), (2, .ref (r 0)), (3, .ref a), (4, .int (nI (4 * j)))] → W p l e room_1 s m #[Value.ref b] below meth c H locs (27 + (j + 1)) (3370 + 6 * (j + 1)) Q (F0 m 817 ls [])) : W p l e room_1 s m #[Value.ref b] below meth c H locs (27 + j) (3370 + 6 * j) Q (F0 m 380 ls []) := by
  obtain ⟨hx, hb, hr, hml, hown, hts0, hX, hbl, hlocks, hgv⟩ := id C0
  have hts : ∀ w ∈ sf_tb, w.before #[Value.ref b] s = true := fun w h => hts0 w (sf_sub w h)
  have hA : ∀ z : Nat, s.heap.size ≤ z → (fun z : Nat => s.heap.size ≤ z) z := fun _ h => h
  have hbA : ¬ (fun z : Nat => s.heap.size ≤ z) b := Nat.not_le.mpr hbl
  have htd : td ≤ 60 := hR.2.2.1.2.1
  refine lv_aload_n hx hb d_LW_law_380 rfl (lv_at hl 1 rfl) ?_
  refine lv_aload_n hx hb d_LW_law_381 rfl (lv_at hl 0 rfl) ?_
  refine lv_iload hx hb d_LW_law_382 (lv_at hl 4 rfl) ?_
  refine lv_iconst (v := 1) hx hb d_LW_law_384 (by decide) ?_
  refine lv_iadd hx hb d_LW_law_385 ?_
  rw [show (((nI (4 * j)) + 1) : Int32) = (nI ((4 * j) + 1)) from nI_add (4 * j) 1]
  refine va_sld hx hb hX hbl hbA hS (show vp_in (nI ((4 * j) + 1)) L from vp_in_nI (n := ((4 * j) + 1)) (by omega) (by omega)) d_LW_law_386 ?_
  rw [show ((nI ((4 * j) + 1)) : Int32).toNatClampNeg = ((4 * j) + 1) from nI_clamp (n := ((4 * j) + 1)) (by omega)]
  refine sf_ncallS (S := (Int32 × Int32)) (rest := []) ⟨hx, hb, hml, hown, hts⟩ (c_LW_cut l D cI cZ cJ hst q a fl sl tb np nt cp cc cb ch cm mp mc mb mh mm us ta tp tl cu bl pf sh fo (xs ((4 * j) + 1))) (sf_cwSW lk_LW_82 hts (fun _ h => h) ⟨Nat.le_of_ble_eq_true rfl, Nat.le_of_ble_eq_true rfl⟩) hK hE hN hP hD hS hA (fun _ => rfl) rfl rfl hl.1 (Nat.le_of_ble_eq_true rfl) d_LW_law_387 ⟨by show _ ≤ 601024; omega, by show _ ≤ 7293034; omega⟩ (fun u_1 H locs hu_1 hP hD hS => ?_)
  have hP : va_P D classes (lw_x q a cI cZ cJ fl sl tb np nt cp cc cb ch cm mp mc mb mh mm us ta tp tl u_1.2 bl pf sh fo ++ md_w r cI cZ xth xB xsh xcu xtp (nI td) xpa xsp xwh xhe xho xtk xto xwa xmn) H := hP
  have hD : va_D (fun z : Nat => s.heap.size ≤ z) (lw_x q a cI cZ cJ fl sl tb np nt cp cc cb ch cm mp mc mb mh mm us ta tp tl u_1.2 bl pf sh fo ++ md_w r cI cZ xth xB xsh xcu xtp (nI td) xpa xsp xwh xhe xho xtk xto xwa xmn) := hD
  refine lv_istore (lv' := [(5, .int (lw_c 0 0 1 0 u_1.1)), (0, .ref b), (1, .ref (q 0)), (2, .ref (r 0)), (3, .ref a), (4, .int (nI (4 * j)))]) hx hb d_LW_law_390 hl (by decide) rfl (fun ls hl => ?_)
  refine lv_aload_n hx hb d_LW_law_392 rfl (lv_at hl 3 rfl) ?_
  refine lv_aload_n hx hb d_LW_law_393 rfl (lv_at hl 1 rfl) ?_
  refine lv_iload hx hb d_LW_law_394 (lv_at hl 5 rfl) ?_
  refine lv_iconst (v := 1) hx hb d_LW_law_396 (by decide) ?_
  refine lv_iadd hx hb d_LW_law_397 ?_
  rw [show (((nI (4 * j)) + 1) : Int32) = (nI ((4 * j) + 1)) from nI_add (4 * j) 1]
  refine va_sld hx hb hX hbl hbA hS (show vp_in (nI ((4 * j) + 1)) L from vp_in_nI (n := ((4 * j) + 1)) (by omega) (by omega)) d_LW_law_398 ?_
  rw [show ((nI ((4 * j) + 1)) : Int32).toNatClampNeg = ((4 * j) + 1) from nI_clamp (n := ((4 * j) + 1)) (by omega)]
  refine sf_callVS (S := (Int32 × Int32)) (rest := []) ⟨hx, hb, hml, hown, hts⟩ (c_MD_cut l D cI cZ cJ r xth xB xsh xcu xtp (nI td) xpa xsp xwh xhe xho xtk xto xwa xmn (xs ((4 * j) + 1))) (sf_cwV lk_LW_85 hts (fun _ h => h) ⟨Nat.le_of_ble_eq_true rfl, Nat.le_of_ble_eq_true rfl⟩) hK hP hD hS hA (fun _ => rfl) (ci := 3) (q0 := 0) rfl rfl rfl rfl rfl hl.1 (Nat.le_of_ble_eq_true rfl) d_LW_law_399 ⟨by show _ ≤ 601024; omega, by show _ ≤ 7293034; omega⟩ (fun u_2 H locs hu_2 hP hD hS => ?_)
  obtain ⟨hC, hR⟩ := r_k_cut hR hu_1 hu_2
  have hP : va_P D classes (lw_x q a cI cZ cJ fl sl tb np nt cp cc cb ch cm mp mc mb mh mm us ta tp tl u_1.2 bl pf sh fo ++ md_w r cI cZ u_2.1 xB xsh u_2.2 xtp (nI td) xpa xsp xwh xhe xho xtk xto xwa xmn) H := hP
  have hD : va_D (fun z : Nat => s.heap.size ≤ z) (lw_x q a cI cZ cJ fl sl tb np nt cp cc cb ch cm mp mc mb mh mm us ta tp tl u_1.2 bl pf sh fo ++ md_w r cI cZ u_2.1 xB xsh u_2.2 xtp (nI td) xpa xsp xwh xhe xho xtk xto xwa xmn) := hD
  refine lv_aload_n hx hb d_LW_law_402 rfl (lv_at hl 3 rfl) ?_
  refine sf_callVS (S := Int32) (rest := []) ⟨hx, hb, hml, hown, hts⟩ (c_MD_thrown l D cI cZ cJ r u_2.1 xB xsh u_2.2 xtp (nI td) xpa xsp xwh xhe xho xtk xto xwa xmn) (sf_cwV lk_LW_67 hts (fun _ h => h) ⟨Nat.le_of_ble_eq_true rfl, Nat.le_of_ble_eq_true rfl⟩) hK hP hD hS hA (fun _ => rfl) (ci := 3) (q0 := 0) rfl rfl rfl rfl rfl hl.1 (Nat.le_of_ble_eq_true rfl) d_LW_law_403 ⟨by show _ ≤ 601024; omega, by show _ ≤ 7293034; omega⟩ (fun u_3 H locs hu_3 hP hD hS => ?_)
  have hP : va_P D classes (lw_x q a cI cZ cJ fl sl tb np nt cp cc cb ch cm mp mc mb mh mm us ta tp tl u_1.2 bl pf sh fo ++ md_w r cI cZ u_2.1 xB xsh u_2.2 xtp (nI td) xpa xsp xwh xhe xho xtk xto xwa xmn) H := hP
  have hD : va_D (fun z : Nat => s.heap.size ≤ z) (lw_x q a cI cZ cJ fl sl tb np nt cp cc cb ch cm mp mc mb mh mm us ta tp tl u_1.2 bl pf sh fo ++ md_w r cI cZ u_2.1 xB xsh u_2.2 xtp (nI td) xpa xsp xwh xhe xho xtk xto xwa xmn) := hD
  refine lv_iload hx hb d_LW_law_406 (lv_at hl 0 rfl) ?_
  refine lv_icmp_eq (tgt := 413) hx hb d_LW_law_408 (by decide) (fun c_4 => ?_) (fun c_4 => absurd (by rw [hu_3]; exact hC) c_4)
  refine lv_goto (tgt := 817) hx hb d_LW_law_413 (by decide) ?_
  refine W.widen (k := 27 + (j + 1)) (n := 3370 + 6 * (j + 1)) (by omega) (by omega) ?_
  exact kk fl sl tb np nt cp cc cb ch cm mp mc mb mh mm us ta tp tl u_1.2 bl pf sh u_2.1 xB xsh u_2.2 xtp xpa xsp xwh xhe xho xtk xto xwa xmn fo td hR _ _ hP hD hS ls (lv_sub hl [1, 2, 3, 4, 5] rfl)
set_option maxHeartbeats 2000000 in
set_option maxRecDepth 100000 in
/-- the law, case 5 -/
theorem law_5 {p : Program} {l : Launch} {e : Env} {s : State} {m : MethodId} {below : List Frame} {meth : Method} {c : Code} {b L : Nat} {xs : Nat → Int32} {D : va_G} {cI cZ cJ : ClassId} {q r : Nat → Nat} {a : Nat} {Q : State → Prop} (hL : L ≤ 2048) (C0 : lw_At p s m meth c b L xs) (hst : l.stackTraces = false) (hE : sf_EX (fun z : Nat => s.heap.size ≤ z) s s.heap) (hN : lw_NC s) (hK : va_K D classes (sf_tys cI cZ cJ) s) (j : Nat) (hj : 4 * j + 4 ≤ L) (fl : Nat → Int32) (sl : Nat → Int32) (tb : Nat → Int32) (np : Nat → Int32) (nt : Nat → Int32) (cp : Nat → Int32) (cc : Int32) (cb : Int32) (ch : Int32) (cm : Int32) (mp : Nat → Int32) (mc : Int32) (mb : Int32) (mh : Int32) (mm : Int32) (us : Nat → Int32) (ta : Nat → Int32) (tp : Nat → Int32) (tl : Int32) (cu : Int32) (bl : Int32) (pf : Int32) (sh : Int32) (xth : Int32) (xB : Nat → Int32) (xsh : Int32) (xcu : Int32) (xtp : Nat → Int32) (xpa : Nat → Int32) (xsp : Int32) (xwh : Int32) (xhe : Nat → Int32) (xho : Int32) (xtk : Nat → Int32) (xto : Nat → Int32) (xwa : Nat → Int32) (xmn : Int32) (fo : Nat → Int64) (td : Nat) (hR : r_R fl sl tb nt tp tl cu sh xB xsh xcu xtp td) (H : Heap) (locs : List Loc) (hP : va_P D classes (lw_x q a cI cZ cJ fl sl tb np nt cp cc cb ch cm mp mc mb mh mm us ta tp tl cu bl pf sh fo ++ md_w r cI cZ xth xB xsh xcu xtp (nI td) xpa xsp xwh xhe xho xtk xto xwa xmn) H) (hD : va_D (fun z : Nat => s.heap.size ≤ z) (lw_x q a cI cZ cJ fl sl tb np nt cp cc cb ch cm mp mc mb mh mm us ta tp tl cu bl pf sh fo ++ md_w r cI cZ xth xB xsh xcu xtp (nI td) xpa xsp xwh xhe xho xtk xto xwa xmn)) (hS : va_S (fun z : Nat => s.heap.size ≤ z) s.heap H locs) (ls : Array Slot) (hl : lv_has ls 7 [(0, .ref b), (1, .ref (q 0)), (2, .ref (r 0)), (3, .ref a), (4, .int (nI (4 * j)))])
    (kk : ∀ (fl : Nat → Int32) (sl : Nat → Int32) (tb : Nat → Int32) (np : Nat → Int32) (nt : Nat → Int32) (cp : Nat → Int32) (cc : Int32) (cb : Int32) (ch : Int32) (cm : Int32) (mp : Nat → Int32) (mc : Int32) (mb : Int32) (mh : Int32) (mm : Int32) (us : Nat → Int32) (ta : Nat → Int32) (tp : Nat → Int32) (tl : Int32) (cu : Int32) (bl : Int32) (pf : Int32) (sh : Int32) (xth : Int32) (xB : Nat → Int32) (xsh : Int32) (xcu : Int32) (xtp : Nat → Int32) (xpa : Nat → Int32) (xsp : Int32) (xwh : Int32) (xhe : Nat → Int32) (xho : Int32) (xtk : Nat → Int32) (xto : Nat → Int32) (xwa : Nat → Int32) (xmn : Int32) (fo : Nat → Int64) (td : Nat), r_R fl sl tb nt tp tl cu sh xB xsh xcu xtp td → ∀ (H : Heap) (locs : List Loc), va_P D classes (lw_x q a cI cZ cJ fl sl tb np nt cp cc cb ch cm mp mc mb mh mm us ta tp tl cu bl pf sh fo ++ md_w r cI cZ xth xB xsh xcu xtp (nI td) xpa xsp xwh xhe xho xtk xto xwa xmn) H → va_D (fun z : Nat => s.heap.size ≤ z) (lw_x q a cI cZ cJ fl sl tb np nt cp cc cb ch cm mp mc mb mh mm us ta tp tl cu bl pf sh fo ++ md_w r cI cZ xth xB xsh xcu xtp (nI td) xpa xsp xwh xhe xho xtk xto xwa xmn) → va_S (fun z : Nat => s.heap.size ≤ z) s.heap H locs → ∀ (ls : Array Slot), lv_has ls 7 [(0, .ref b), (1, .ref (q 0)), (2, .ref (r 0)), (3, .ref a), (4, .int (nI (4 * j)))] → W p l e room_1 s m #[Value.ref b] below meth c H locs (27 + (j + 1)) (3370 + 6 * (j + 1)) Q (F0 m 817 ls [])) : W p l e room_1 s m #[Value.ref b] below meth c H locs (27 + j) (3370 + 6 * j) Q (F0 m 416 ls []) := by
  obtain ⟨hx, hb, hr, hml, hown, hts0, hX, hbl, hlocks, hgv⟩ := id C0
  have hts : ∀ w ∈ sf_tb, w.before #[Value.ref b] s = true := fun w h => hts0 w (sf_sub w h)
  have hA : ∀ z : Nat, s.heap.size ≤ z → (fun z : Nat => s.heap.size ≤ z) z := fun _ h => h
  have hbA : ¬ (fun z : Nat => s.heap.size ≤ z) b := Nat.not_le.mpr hbl
  have htd : td ≤ 60 := hR.2.2.1.2.1
  refine lv_aload_n hx hb d_LW_law_416 rfl (lv_at hl 1 rfl) ?_
  have hP : va_P D classes (sf_w q cI cZ fl sl tb np nt cp cc cb ch cm mp mc mb mh mm us ta tp tl cu bl pf sh ++ ([(a, .inl (cJ, 1, .inr (.inl fo)))] ++ md_w r cI cZ xth xB xsh xcu xtp (nI td) xpa xsp xwh xhe xho xtk xto xwa xmn)) H := by rw [← List.append_assoc]; exact hP
  have hD : va_D (fun z : Nat => s.heap.size ≤ z) (sf_w q cI cZ fl sl tb np nt cp cc cb ch cm mp mc mb mh mm us ta tp tl cu bl pf sh ++ ([(a, .inl (cJ, 1, .inr (.inl fo)))] ++ md_w r cI cZ xth xB xsh xcu xtp (nI td) xpa xsp xwh xhe xho xtk xto xwa xmn)) := by rw [← List.append_assoc]; exact hD
  refine sf_callVP (S := (Int32 × Int32)) (rest := []) ⟨hx, hb, hml, hown, hts⟩ (c_SF_open l D cI cZ cJ q fl sl tb np nt cp cc cb ch cm mp mc mb mh mm us ta tp tl cu bl pf sh) (sf_cwV lk_LW_86 hts (fun _ h => h) ⟨Nat.le_of_ble_eq_true rfl, Nat.le_of_ble_eq_true rfl⟩) hK hP hD hS hA (fun _ => rfl) (ci := 2) (q0 := 0) rfl rfl rfl rfl rfl hl.1 (Nat.le_of_ble_eq_true rfl) d_LW_law_417 ⟨by show _ ≤ 601024; omega, by show _ ≤ 7293034; omega⟩ (fun u_1 H locs hu_1 hP hD hS => ?_)
  rw [← List.append_assoc] at hP hD
  have hP : va_P D classes (lw_x q a cI cZ cJ fl sl tb np nt cp cc cb ch cm mp mc mb mh mm us ta tp tl cu bl pf u_1.2 fo ++ md_w r cI cZ xth xB xsh xcu xtp (nI td) xpa xsp xwh xhe xho xtk xto xwa xmn) H := hP
  have hD : va_D (fun z : Nat => s.heap.size ≤ z) (lw_x q a cI cZ cJ fl sl tb np nt cp cc cb ch cm mp mc mb mh mm us ta tp tl cu bl pf u_1.2 fo ++ md_w r cI cZ xth xB xsh xcu xtp (nI td) xpa xsp xwh xhe xho xtk xto xwa xmn) := hD
  refine lv_aload_n hx hb d_LW_law_420 rfl (lv_at hl 2 rfl) ?_
  refine sf_callVS (S := (Int32 × Int32)) (rest := [.int u_1.1]) ⟨hx, hb, hml, hown, hts⟩ (c_MD_open l D cI cZ cJ r xth xB xsh xcu xtp (nI td) xpa xsp xwh xhe xho xtk xto xwa xmn) (sf_cwV lk_LW_89 hts (fun _ h => h) ⟨Nat.le_of_ble_eq_true rfl, Nat.le_of_ble_eq_true rfl⟩) hK hP hD hS hA (fun _ => rfl) (ci := 3) (q0 := 0) rfl rfl rfl rfl rfl hl.1 (Nat.le_of_ble_eq_true rfl) d_LW_law_421 ⟨by show _ ≤ 601024; omega, by show _ ≤ 7293034; omega⟩ (fun u_2 H locs hu_2 hP hD hS => ?_)
  obtain ⟨hC, hR⟩ := r_k_open hR hu_1 hu_2
  have hP : va_P D classes (lw_x q a cI cZ cJ fl sl tb np nt cp cc cb ch cm mp mc mb mh mm us ta tp tl cu bl pf u_1.2 fo ++ md_w r cI cZ 0 xB u_2.2 xcu xtp (nI td) xpa xsp xwh xhe xho xtk xto xwa xmn) H := hP
  have hD : va_D (fun z : Nat => s.heap.size ≤ z) (lw_x q a cI cZ cJ fl sl tb np nt cp cc cb ch cm mp mc mb mh mm us ta tp tl cu bl pf u_1.2 fo ++ md_w r cI cZ 0 xB u_2.2 xcu xtp (nI td) xpa xsp xwh xhe xho xtk xto xwa xmn) := hD
  refine lv_icmp_eq (tgt := 817) hx hb d_LW_law_424 (by decide) (fun c_3 => ?_) (fun c_3 => absurd hC c_3)
  refine W.widen (k := 27 + (j + 1)) (n := 3370 + 6 * (j + 1)) (by omega) (by omega) ?_
  exact kk fl sl tb np nt cp cc cb ch cm mp mc mb mh mm us ta tp tl cu bl pf u_1.2 0 xB u_2.2 xcu xtp xpa xsp xwh xhe xho xtk xto xwa xmn fo td hR _ _ hP hD hS ls (lv_sub hl [0, 1, 2, 3, 4] rfl)
set_option maxHeartbeats 2000000 in
set_option maxRecDepth 100000 in
/-- the law, case 6 -/
theorem law_6 {p : Program} {l : Launch} {e : Env} {s : State} {m : MethodId} {below : List Frame} {meth : Method} {c : Code} {b L : Nat} {xs : Nat → Int32} {D : va_G} {cI cZ cJ : ClassId} {q r : Nat → Nat} {a : Nat} {Q : State → Prop} (hL : L ≤ 2048) (C0 : lw_At p s m meth c b L xs) (hst : l.stackTraces = false) (hE : sf_EX (fun z : Nat => s.heap.size ≤ z) s s.heap) (hN : lw_NC s) (hK : va_K D classes (sf_tys cI cZ cJ) s) (j : Nat) (hj : 4 * j + 4 ≤ L) (fl : Nat → Int32) (sl : Nat → Int32) (tb : Nat → Int32) (np : Nat → Int32) (nt : Nat → Int32) (cp : Nat → Int32) (cc : Int32) (cb : Int32) (ch : Int32) (cm : Int32) (mp : Nat → Int32) (mc : Int32) (mb : Int32) (mh : Int32) (mm : Int32) (us : Nat → Int32) (ta : Nat → Int32) (tp : Nat → Int32) (tl : Int32) (cu : Int32) (bl : Int32) (pf : Int32) (sh : Int32) (xth : Int32) (xB : Nat → Int32) (xsh : Int32) (xcu : Int32) (xtp : Nat → Int32) (xpa : Nat → Int32) (xsp : Int32) (xwh : Int32) (xhe : Nat → Int32) (xho : Int32) (xtk : Nat → Int32) (xto : Nat → Int32) (xwa : Nat → Int32) (xmn : Int32) (fo : Nat → Int64) (td : Nat) (hR : r_R fl sl tb nt tp tl cu sh xB xsh xcu xtp td) (H : Heap) (locs : List Loc) (hP : va_P D classes (lw_x q a cI cZ cJ fl sl tb np nt cp cc cb ch cm mp mc mb mh mm us ta tp tl cu bl pf sh fo ++ md_w r cI cZ xth xB xsh xcu xtp (nI td) xpa xsp xwh xhe xho xtk xto xwa xmn) H) (hD : va_D (fun z : Nat => s.heap.size ≤ z) (lw_x q a cI cZ cJ fl sl tb np nt cp cc cb ch cm mp mc mb mh mm us ta tp tl cu bl pf sh fo ++ md_w r cI cZ xth xB xsh xcu xtp (nI td) xpa xsp xwh xhe xho xtk xto xwa xmn)) (hS : va_S (fun z : Nat => s.heap.size ≤ z) s.heap H locs) (ls : Array Slot) (hl : lv_has ls 7 [(0, .ref b), (1, .ref (q 0)), (2, .ref (r 0)), (3, .ref a), (4, .int (nI (4 * j)))])
    (kk : ∀ (fl : Nat → Int32) (sl : Nat → Int32) (tb : Nat → Int32) (np : Nat → Int32) (nt : Nat → Int32) (cp : Nat → Int32) (cc : Int32) (cb : Int32) (ch : Int32) (cm : Int32) (mp : Nat → Int32) (mc : Int32) (mb : Int32) (mh : Int32) (mm : Int32) (us : Nat → Int32) (ta : Nat → Int32) (tp : Nat → Int32) (tl : Int32) (cu : Int32) (bl : Int32) (pf : Int32) (sh : Int32) (xth : Int32) (xB : Nat → Int32) (xsh : Int32) (xcu : Int32) (xtp : Nat → Int32) (xpa : Nat → Int32) (xsp : Int32) (xwh : Int32) (xhe : Nat → Int32) (xho : Int32) (xtk : Nat → Int32) (xto : Nat → Int32) (xwa : Nat → Int32) (xmn : Int32) (fo : Nat → Int64) (td : Nat), r_R fl sl tb nt tp tl cu sh xB xsh xcu xtp td → ∀ (H : Heap) (locs : List Loc), va_P D classes (lw_x q a cI cZ cJ fl sl tb np nt cp cc cb ch cm mp mc mb mh mm us ta tp tl cu bl pf sh fo ++ md_w r cI cZ xth xB xsh xcu xtp (nI td) xpa xsp xwh xhe xho xtk xto xwa xmn) H → va_D (fun z : Nat => s.heap.size ≤ z) (lw_x q a cI cZ cJ fl sl tb np nt cp cc cb ch cm mp mc mb mh mm us ta tp tl cu bl pf sh fo ++ md_w r cI cZ xth xB xsh xcu xtp (nI td) xpa xsp xwh xhe xho xtk xto xwa xmn) → va_S (fun z : Nat => s.heap.size ≤ z) s.heap H locs → ∀ (ls : Array Slot), lv_has ls 7 [(0, .ref b), (1, .ref (q 0)), (2, .ref (r 0)), (3, .ref a), (4, .int (nI (4 * j)))] → W p l e room_1 s m #[Value.ref b] below meth c H locs (27 + (j + 1)) (3370 + 6 * (j + 1)) Q (F0 m 817 ls [])) : W p l e room_1 s m #[Value.ref b] below meth c H locs (27 + j) (3370 + 6 * j) Q (F0 m 429 ls []) := by
  obtain ⟨hx, hb, hr, hml, hown, hts0, hX, hbl, hlocks, hgv⟩ := id C0
  have hts : ∀ w ∈ sf_tb, w.before #[Value.ref b] s = true := fun w h => hts0 w (sf_sub w h)
  have hA : ∀ z : Nat, s.heap.size ≤ z → (fun z : Nat => s.heap.size ≤ z) z := fun _ h => h
  have hbA : ¬ (fun z : Nat => s.heap.size ≤ z) b := Nat.not_le.mpr hbl
  have htd : td ≤ 60 := hR.2.2.1.2.1
  refine lv_aload_n hx hb d_LW_law_429 rfl (lv_at hl 1 rfl) ?_
  refine lv_aload_n hx hb d_LW_law_430 rfl (lv_at hl 0 rfl) ?_
  refine lv_iload hx hb d_LW_law_431 (lv_at hl 4 rfl) ?_
  refine lv_iconst (v := 1) hx hb d_LW_law_433 (by decide) ?_
  refine lv_iadd hx hb d_LW_law_434 ?_
  rw [show (((nI (4 * j)) + 1) : Int32) = (nI ((4 * j) + 1)) from nI_add (4 * j) 1]
  refine va_sld hx hb hX hbl hbA hS (show vp_in (nI ((4 * j) + 1)) L from vp_in_nI (n := ((4 * j) + 1)) (by omega) (by omega)) d_LW_law_435 ?_
  rw [show ((nI ((4 * j) + 1)) : Int32).toNatClampNeg = ((4 * j) + 1) from nI_clamp (n := ((4 * j) + 1)) (by omega)]
  refine lv_aload_n hx hb d_LW_law_436 rfl (lv_at hl 0 rfl) ?_
  refine lv_iload hx hb d_LW_law_437 (lv_at hl 4 rfl) ?_
  refine lv_iconst (v := 2) hx hb d_LW_law_439 (by decide) ?_
  refine lv_iadd hx hb d_LW_law_440 ?_
  rw [show (((nI (4 * j)) + 2) : Int32) = (nI ((4 * j) + 2)) from nI_add (4 * j) 2]
  refine va_sld hx hb hX hbl hbA hS (show vp_in (nI ((4 * j) + 2)) L from vp_in_nI (n := ((4 * j) + 2)) (by omega) (by omega)) d_LW_law_441 ?_
  rw [show ((nI ((4 * j) + 2)) : Int32).toNatClampNeg = ((4 * j) + 2) from nI_clamp (n := ((4 * j) + 2)) (by omega)]
  refine lv_aload_n hx hb d_LW_law_442 rfl (lv_at hl 3 rfl) ?_
  refine sf_ncallS (S := (Int32 × Int32 × (Nat → Int32) × Int32 × Int32 × Int32 × Int32)) (rest := []) ⟨hx, hb, hml, hown, hts⟩ (c_LW_row l D cI cZ cJ hst q a fl sl tb np nt cp cc cb ch cm mp mc mb mh mm us ta tp tl cu bl pf sh fo (xs ((4 * j) + 1)) (xs ((4 * j) + 2))) (sf_cwSW lk_LW_90 hts (fun _ h => h) ⟨Nat.le_of_ble_eq_true rfl, Nat.le_of_ble_eq_true rfl⟩) hK hE hN hP hD hS hA (fun _ => rfl) rfl rfl hl.1 (Nat.le_of_ble_eq_true rfl) d_LW_law_443 ⟨by show _ ≤ 601024; omega, by show _ ≤ 7293034; omega⟩ (fun u_1 H locs hu_1 hP hD hS => ?_)
  have hP : va_P D classes (lw_x q a cI cZ cJ fl sl tb np nt u_1.2.2.1 u_1.2.2.2.1 u_1.2.2.2.2.1 u_1.2.2.2.2.2.1 u_1.2.2.2.2.2.2 mp mc mb mh mm us ta tp tl cu bl pf sh (lw_out u_1.1 fo u_1.2.1.toInt64) ++ md_w r cI cZ xth xB xsh xcu xtp (nI td) xpa xsp xwh xhe xho xtk xto xwa xmn) H := hP
  have hD : va_D (fun z : Nat => s.heap.size ≤ z) (lw_x q a cI cZ cJ fl sl tb np nt u_1.2.2.1 u_1.2.2.2.1 u_1.2.2.2.2.1 u_1.2.2.2.2.2.1 u_1.2.2.2.2.2.2 mp mc mb mh mm us ta tp tl cu bl pf sh (lw_out u_1.1 fo u_1.2.1.toInt64) ++ md_w r cI cZ xth xB xsh xcu xtp (nI td) xpa xsp xwh xhe xho xtk xto xwa xmn) := hD
  refine lv_istore (lv' := [(5, .int (lw_c 1 2 0 0 u_1.1)), (0, .ref b), (1, .ref (q 0)), (2, .ref (r 0)), (3, .ref a), (4, .int (nI (4 * j)))]) hx hb d_LW_law_446 hl (by decide) rfl (fun ls hl => ?_)
  refine lv_aload_n hx hb d_LW_law_448 rfl (lv_at hl 3 rfl) ?_
  refine lv_aload_n hx hb d_LW_law_449 rfl (lv_at hl 1 rfl) ?_
  refine lv_iload hx hb d_LW_law_450 (lv_at hl 5 rfl) ?_
  refine lv_iconst (v := 1) hx hb d_LW_law_452 (by decide) ?_
  refine lv_iadd hx hb d_LW_law_453 ?_
  rw [show (((nI (4 * j)) + 1) : Int32) = (nI ((4 * j) + 1)) from nI_add (4 * j) 1]
  refine va_sld hx hb hX hbl hbA hS (show vp_in (nI ((4 * j) + 1)) L from vp_in_nI (n := ((4 * j) + 1)) (by omega) (by omega)) d_LW_law_454 ?_
  rw [show ((nI ((4 * j) + 1)) : Int32).toNatClampNeg = ((4 * j) + 1) from nI_clamp (n := ((4 * j) + 1)) (by omega)]
  refine lv_aload_n hx hb d_LW_law_455 rfl (lv_at hl 1 rfl) ?_
  refine lv_iload hx hb d_LW_law_456 (lv_at hl 5 rfl) ?_
  refine lv_iconst (v := 2) hx hb d_LW_law_458 (by decide) ?_
  refine lv_iadd hx hb d_LW_law_459 ?_
  rw [show (((nI (4 * j)) + 2) : Int32) = (nI ((4 * j) + 2)) from nI_add (4 * j) 2]
  refine va_sld hx hb hX hbl hbA hS (show vp_in (nI ((4 * j) + 2)) L from vp_in_nI (n := ((4 * j) + 2)) (by omega) (by omega)) d_LW_law_460 ?_
  rw [show ((nI ((4 * j) + 2)) : Int32).toNatClampNeg = ((4 * j) + 2) from nI_clamp (n := ((4 * j) + 2)) (by omega)]
  refine sf_callVS (S := (Int32 × Int32 × (Nat → Int32) × Int32 × Int32 × (Nat → Int32) × Int32)) (rest := []) ⟨hx, hb, hml, hown, hts⟩ (c_MD_row l D cI cZ cJ r xth xB xsh xcu xtp (nI td) xpa xsp xwh xhe xho xtk xto xwa xmn (xs ((4 * j) + 1)) (xs ((4 * j) + 2))) (sf_cwV lk_LW_92 hts (fun _ h => h) ⟨Nat.le_of_ble_eq_true rfl, Nat.le_of_ble_eq_true rfl⟩) hK hP hD hS hA (fun _ => rfl) (ci := 3) (q0 := 0) rfl rfl rfl rfl rfl hl.1 (Nat.le_of_ble_eq_true rfl) d_LW_law_461 ⟨by show _ ≤ 601024; omega, by show _ ≤ 7293034; omega⟩ (fun u_2 H locs hu_2 hP hD hS => ?_)
  obtain ⟨hC, hR⟩ := r_k_row hR hu_1 hu_2
  have hP : va_P D classes (lw_x q a cI cZ cJ fl sl tb np nt u_1.2.2.1 u_1.2.2.2.1 u_1.2.2.2.2.1 u_1.2.2.2.2.2.1 u_1.2.2.2.2.2.2 mp mc mb mh mm us ta tp tl cu bl pf sh (lw_out u_1.1 fo u_1.2.1.toInt64) ++ md_w r cI cZ u_2.2.1 xB xsh xcu xtp (nI td) u_2.2.2.1 u_2.2.2.2.1 u_2.2.2.2.2.1 u_2.2.2.2.2.2.1 u_2.2.2.2.2.2.2 xtk xto xwa xmn) H := hP
  have hD : va_D (fun z : Nat => s.heap.size ≤ z) (lw_x q a cI cZ cJ fl sl tb np nt u_1.2.2.1 u_1.2.2.2.1 u_1.2.2.2.2.1 u_1.2.2.2.2.2.1 u_1.2.2.2.2.2.2 mp mc mb mh mm us ta tp tl cu bl pf sh (lw_out u_1.1 fo u_1.2.1.toInt64) ++ md_w r cI cZ u_2.2.1 xB xsh xcu xtp (nI td) u_2.2.2.1 u_2.2.2.2.1 u_2.2.2.2.2.1 u_2.2.2.2.2.2.1 u_2.2.2.2.2.2.2 xtk xto xwa xmn) := hD
  refine lv_istore (lv' := [(6, .int u_2.1), (5, .int (lw_c 1 2 0 0 u_1.1)), (0, .ref b), (1, .ref (q 0)), (2, .ref (r 0)), (3, .ref a), (4, .int (nI (4 * j)))]) hx hb d_LW_law_464 hl (by decide) rfl (fun ls hl => ?_)
  refine lv_aload_n hx hb d_LW_law_466 rfl (lv_at hl 4 rfl) ?_
  refine sf_callVS (S := Int32) (rest := []) ⟨hx, hb, hml, hown, hts⟩ (c_MD_thrown l D cI cZ cJ r u_2.2.1 xB xsh xcu xtp (nI td) u_2.2.2.1 u_2.2.2.2.1 u_2.2.2.2.2.1 u_2.2.2.2.2.2.1 u_2.2.2.2.2.2.2 xtk xto xwa xmn) (sf_cwV lk_LW_67 hts (fun _ h => h) ⟨Nat.le_of_ble_eq_true rfl, Nat.le_of_ble_eq_true rfl⟩) hK hP hD hS hA (fun _ => rfl) (ci := 3) (q0 := 0) rfl rfl rfl rfl rfl hl.1 (Nat.le_of_ble_eq_true rfl) d_LW_law_467 ⟨by show _ ≤ 601024; omega, by show _ ≤ 7293034; omega⟩ (fun u_3 H locs hu_3 hP hD hS => ?_)
  have hP : va_P D classes (lw_x q a cI cZ cJ fl sl tb np nt u_1.2.2.1 u_1.2.2.2.1 u_1.2.2.2.2.1 u_1.2.2.2.2.2.1 u_1.2.2.2.2.2.2 mp mc mb mh mm us ta tp tl cu bl pf sh (lw_out u_1.1 fo u_1.2.1.toInt64) ++ md_w r cI cZ u_2.2.1 xB xsh xcu xtp (nI td) u_2.2.2.1 u_2.2.2.2.1 u_2.2.2.2.2.1 u_2.2.2.2.2.2.1 u_2.2.2.2.2.2.2 xtk xto xwa xmn) H := hP
  have hD : va_D (fun z : Nat => s.heap.size ≤ z) (lw_x q a cI cZ cJ fl sl tb np nt u_1.2.2.1 u_1.2.2.2.1 u_1.2.2.2.2.1 u_1.2.2.2.2.2.1 u_1.2.2.2.2.2.2 mp mc mb mh mm us ta tp tl cu bl pf sh (lw_out u_1.1 fo u_1.2.1.toInt64) ++ md_w r cI cZ u_2.2.1 xB xsh xcu xtp (nI td) u_2.2.2.1 u_2.2.2.2.1 u_2.2.2.2.2.1 u_2.2.2.2.2.2.1 u_2.2.2.2.2.2.2 xtk xto xwa xmn) := hD
  refine lv_iload hx hb d_LW_law_470 (lv_at hl 1 rfl) ?_
  refine lv_icmp_eq (tgt := 477) hx hb d_LW_law_472 (by decide) (fun c_4 => ?_) (fun c_4 => absurd (by rw [hu_3]; exact hC.1) c_4)
  refine lv_iload hx hb d_LW_law_477 (lv_at hl 1 rfl) ?_
  refine lv_if_ne (tgt := 494) hx hb d_LW_law_479 (by decide) (fun c_5 => ?_) (fun c_5 => ?_)
  · refine lv_goto (tgt := 817) hx hb d_LW_law_494 (by decide) ?_
    refine W.widen (k := 27 + (j + 1)) (n := 3370 + 6 * (j + 1)) (by omega) (by omega) ?_
    exact kk fl sl tb np nt u_1.2.2.1 u_1.2.2.2.1 u_1.2.2.2.2.1 u_1.2.2.2.2.2.1 u_1.2.2.2.2.2.2 mp mc mb mh mm us ta tp tl cu bl pf sh u_2.2.1 xB xsh xcu xtp u_2.2.2.1 u_2.2.2.2.1 u_2.2.2.2.2.1 u_2.2.2.2.2.2.1 u_2.2.2.2.2.2.2 xtk xto xwa xmn (lw_out u_1.1 fo u_1.2.1.toInt64) td hR _ _ hP hD hS ls (lv_sub hl [2, 3, 4, 5, 6] rfl)
  · refine lv_aload_n hx hb d_LW_law_482 rfl (lv_at hl 5 rfl) ?_
    refine lv_iconst (v := 0) hx hb d_LW_law_483 (by decide) ?_
    refine va_lald hx hb hK hP 18 2 rfl rfl (show vp_in 0 1 from vp_in_nI (n := 0) (by omega) (by omega)) d_LW_law_484 ?_
    refine lv_iload hx hb d_LW_law_485 (lv_at hl 0 rfl) ?_
    refine lv_i2l (v := (u_2.1).toInt64) hx hb d_LW_law_487 rfl ?_
    refine W.lcmp hx hb d_LW_law_488 ?_
    refine lv_if_eq (tgt := 494) hx hb d_LW_law_489 (by decide) (fun c_6 => ?_) (fun c_6 => absurd (r_out (r0_row (show sf_TC [0, 1, 2] u_1 by rw [hu_1]; exact t_SF_row _ _ _ _ _ _ _ _ _ _ _) c_5) (hC.2 (r0_row (show sf_TC [0, 1, 2] u_1 by rw [hu_1]; exact t_SF_row _ _ _ _ _ _ _ _ _ _ _) c_5))) c_6)
    refine lv_goto (tgt := 817) hx hb d_LW_law_494 (by decide) ?_
    refine W.widen (k := 27 + (j + 1)) (n := 3370 + 6 * (j + 1)) (by omega) (by omega) ?_
    exact kk fl sl tb np nt u_1.2.2.1 u_1.2.2.2.1 u_1.2.2.2.2.1 u_1.2.2.2.2.2.1 u_1.2.2.2.2.2.2 mp mc mb mh mm us ta tp tl cu bl pf sh u_2.2.1 xB xsh xcu xtp u_2.2.2.1 u_2.2.2.2.1 u_2.2.2.2.2.1 u_2.2.2.2.2.2.1 u_2.2.2.2.2.2.2 xtk xto xwa xmn (lw_out u_1.1 fo u_1.2.1.toInt64) td hR _ _ hP hD hS ls (lv_sub hl [2, 3, 4, 5, 6] rfl)
set_option maxHeartbeats 2000000 in
set_option maxRecDepth 100000 in
/-- the law, case 7 -/
theorem law_7 {p : Program} {l : Launch} {e : Env} {s : State} {m : MethodId} {below : List Frame} {meth : Method} {c : Code} {b L : Nat} {xs : Nat → Int32} {D : va_G} {cI cZ cJ : ClassId} {q r : Nat → Nat} {a : Nat} {Q : State → Prop} (hL : L ≤ 2048) (C0 : lw_At p s m meth c b L xs) (hst : l.stackTraces = false) (hE : sf_EX (fun z : Nat => s.heap.size ≤ z) s s.heap) (hN : lw_NC s) (hK : va_K D classes (sf_tys cI cZ cJ) s) (j : Nat) (hj : 4 * j + 4 ≤ L) (fl : Nat → Int32) (sl : Nat → Int32) (tb : Nat → Int32) (np : Nat → Int32) (nt : Nat → Int32) (cp : Nat → Int32) (cc : Int32) (cb : Int32) (ch : Int32) (cm : Int32) (mp : Nat → Int32) (mc : Int32) (mb : Int32) (mh : Int32) (mm : Int32) (us : Nat → Int32) (ta : Nat → Int32) (tp : Nat → Int32) (tl : Int32) (cu : Int32) (bl : Int32) (pf : Int32) (sh : Int32) (xth : Int32) (xB : Nat → Int32) (xsh : Int32) (xcu : Int32) (xtp : Nat → Int32) (xpa : Nat → Int32) (xsp : Int32) (xwh : Int32) (xhe : Nat → Int32) (xho : Int32) (xtk : Nat → Int32) (xto : Nat → Int32) (xwa : Nat → Int32) (xmn : Int32) (fo : Nat → Int64) (td : Nat) (hR : r_R fl sl tb nt tp tl cu sh xB xsh xcu xtp td) (H : Heap) (locs : List Loc) (hP : va_P D classes (lw_x q a cI cZ cJ fl sl tb np nt cp cc cb ch cm mp mc mb mh mm us ta tp tl cu bl pf sh fo ++ md_w r cI cZ xth xB xsh xcu xtp (nI td) xpa xsp xwh xhe xho xtk xto xwa xmn) H) (hD : va_D (fun z : Nat => s.heap.size ≤ z) (lw_x q a cI cZ cJ fl sl tb np nt cp cc cb ch cm mp mc mb mh mm us ta tp tl cu bl pf sh fo ++ md_w r cI cZ xth xB xsh xcu xtp (nI td) xpa xsp xwh xhe xho xtk xto xwa xmn)) (hS : va_S (fun z : Nat => s.heap.size ≤ z) s.heap H locs) (ls : Array Slot) (hl : lv_has ls 7 [(0, .ref b), (1, .ref (q 0)), (2, .ref (r 0)), (3, .ref a), (4, .int (nI (4 * j)))])
    (kk : ∀ (fl : Nat → Int32) (sl : Nat → Int32) (tb : Nat → Int32) (np : Nat → Int32) (nt : Nat → Int32) (cp : Nat → Int32) (cc : Int32) (cb : Int32) (ch : Int32) (cm : Int32) (mp : Nat → Int32) (mc : Int32) (mb : Int32) (mh : Int32) (mm : Int32) (us : Nat → Int32) (ta : Nat → Int32) (tp : Nat → Int32) (tl : Int32) (cu : Int32) (bl : Int32) (pf : Int32) (sh : Int32) (xth : Int32) (xB : Nat → Int32) (xsh : Int32) (xcu : Int32) (xtp : Nat → Int32) (xpa : Nat → Int32) (xsp : Int32) (xwh : Int32) (xhe : Nat → Int32) (xho : Int32) (xtk : Nat → Int32) (xto : Nat → Int32) (xwa : Nat → Int32) (xmn : Int32) (fo : Nat → Int64) (td : Nat), r_R fl sl tb nt tp tl cu sh xB xsh xcu xtp td → ∀ (H : Heap) (locs : List Loc), va_P D classes (lw_x q a cI cZ cJ fl sl tb np nt cp cc cb ch cm mp mc mb mh mm us ta tp tl cu bl pf sh fo ++ md_w r cI cZ xth xB xsh xcu xtp (nI td) xpa xsp xwh xhe xho xtk xto xwa xmn) H → va_D (fun z : Nat => s.heap.size ≤ z) (lw_x q a cI cZ cJ fl sl tb np nt cp cc cb ch cm mp mc mb mh mm us ta tp tl cu bl pf sh fo ++ md_w r cI cZ xth xB xsh xcu xtp (nI td) xpa xsp xwh xhe xho xtk xto xwa xmn) → va_S (fun z : Nat => s.heap.size ≤ z) s.heap H locs → ∀ (ls : Array Slot), lv_has ls 7 [(0, .ref b), (1, .ref (q 0)), (2, .ref (r 0)), (3, .ref a), (4, .int (nI (4 * j)))] → W p l e room_1 s m #[Value.ref b] below meth c H locs (27 + (j + 1)) (3370 + 6 * (j + 1)) Q (F0 m 817 ls [])) : W p l e room_1 s m #[Value.ref b] below meth c H locs (27 + j) (3370 + 6 * j) Q (F0 m 497 ls []) := by
  obtain ⟨hx, hb, hr, hml, hown, hts0, hX, hbl, hlocks, hgv⟩ := id C0
  have hts : ∀ w ∈ sf_tb, w.before #[Value.ref b] s = true := fun w h => hts0 w (sf_sub w h)
  have hA : ∀ z : Nat, s.heap.size ≤ z → (fun z : Nat => s.heap.size ≤ z) z := fun _ h => h
  have hbA : ¬ (fun z : Nat => s.heap.size ≤ z) b := Nat.not_le.mpr hbl
  have htd : td ≤ 60 := hR.2.2.1.2.1
  refine lv_aload_n hx hb d_LW_law_497 rfl (lv_at hl 1 rfl) ?_
  refine lv_aload_n hx hb d_LW_law_498 rfl (lv_at hl 0 rfl) ?_
  refine lv_iload hx hb d_LW_law_499 (lv_at hl 4 rfl) ?_
  refine lv_iconst (v := 1) hx hb d_LW_law_501 (by decide) ?_
  refine lv_iadd hx hb d_LW_law_502 ?_
  rw [show (((nI (4 * j)) + 1) : Int32) = (nI ((4 * j) + 1)) from nI_add (4 * j) 1]
  refine va_sld hx hb hX hbl hbA hS (show vp_in (nI ((4 * j) + 1)) L from vp_in_nI (n := ((4 * j) + 1)) (by omega) (by omega)) d_LW_law_503 ?_
  rw [show ((nI ((4 * j) + 1)) : Int32).toNatClampNeg = ((4 * j) + 1) from nI_clamp (n := ((4 * j) + 1)) (by omega)]
  refine lv_aload_n hx hb d_LW_law_504 rfl (lv_at hl 0 rfl) ?_
  refine lv_iload hx hb d_LW_law_505 (lv_at hl 4 rfl) ?_
  refine lv_iconst (v := 2) hx hb d_LW_law_507 (by decide) ?_
  refine lv_iadd hx hb d_LW_law_508 ?_
  rw [show (((nI (4 * j)) + 2) : Int32) = (nI ((4 * j) + 2)) from nI_add (4 * j) 2]
  refine va_sld hx hb hX hbl hbA hS (show vp_in (nI ((4 * j) + 2)) L from vp_in_nI (n := ((4 * j) + 2)) (by omega) (by omega)) d_LW_law_509 ?_
  rw [show ((nI ((4 * j) + 2)) : Int32).toNatClampNeg = ((4 * j) + 2) from nI_clamp (n := ((4 * j) + 2)) (by omega)]
  refine lv_aload_n hx hb d_LW_law_510 rfl (lv_at hl 3 rfl) ?_
  refine sf_ncallS (S := (Int32 × Int32 × (Nat → Int32) × Int32 × Int32 × Int32 × Int32)) (rest := []) ⟨hx, hb, hml, hown, hts⟩ (c_LW_at l D cI cZ cJ hst q a fl sl tb np nt cp cc cb ch cm mp mc mb mh mm us ta tp tl cu bl pf sh fo (xs ((4 * j) + 1)) (xs ((4 * j) + 2))) (sf_cwSW lk_LW_93 hts (fun _ h => h) ⟨Nat.le_of_ble_eq_true rfl, Nat.le_of_ble_eq_true rfl⟩) hK hE hN hP hD hS hA (fun _ => rfl) rfl rfl hl.1 (Nat.le_of_ble_eq_true rfl) d_LW_law_511 ⟨by show _ ≤ 601024; omega, by show _ ≤ 7293034; omega⟩ (fun u_1 H locs hu_1 hP hD hS => ?_)
  have hP : va_P D classes (lw_x q a cI cZ cJ fl sl tb np nt u_1.2.2.1 u_1.2.2.2.1 u_1.2.2.2.2.1 u_1.2.2.2.2.2.1 u_1.2.2.2.2.2.2 mp mc mb mh mm us ta tp tl cu bl pf sh (lw_out u_1.1 fo u_1.2.1.toInt64) ++ md_w r cI cZ xth xB xsh xcu xtp (nI td) xpa xsp xwh xhe xho xtk xto xwa xmn) H := hP
  have hD : va_D (fun z : Nat => s.heap.size ≤ z) (lw_x q a cI cZ cJ fl sl tb np nt u_1.2.2.1 u_1.2.2.2.1 u_1.2.2.2.2.1 u_1.2.2.2.2.2.1 u_1.2.2.2.2.2.2 mp mc mb mh mm us ta tp tl cu bl pf sh (lw_out u_1.1 fo u_1.2.1.toInt64) ++ md_w r cI cZ xth xB xsh xcu xtp (nI td) xpa xsp xwh xhe xho xtk xto xwa xmn) := hD
  refine lv_istore (lv' := [(5, .int (lw_c 1 2 0 0 u_1.1)), (0, .ref b), (1, .ref (q 0)), (2, .ref (r 0)), (3, .ref a), (4, .int (nI (4 * j)))]) hx hb d_LW_law_514 hl (by decide) rfl (fun ls hl => ?_)
  refine lv_aload_n hx hb d_LW_law_516 rfl (lv_at hl 3 rfl) ?_
  refine lv_aload_n hx hb d_LW_law_517 rfl (lv_at hl 1 rfl) ?_
  refine lv_iload hx hb d_LW_law_518 (lv_at hl 5 rfl) ?_
  refine lv_iconst (v := 1) hx hb d_LW_law_520 (by decide) ?_
  refine lv_iadd hx hb d_LW_law_521 ?_
  rw [show (((nI (4 * j)) + 1) : Int32) = (nI ((4 * j) + 1)) from nI_add (4 * j) 1]
  refine va_sld hx hb hX hbl hbA hS (show vp_in (nI ((4 * j) + 1)) L from vp_in_nI (n := ((4 * j) + 1)) (by omega) (by omega)) d_LW_law_522 ?_
  rw [show ((nI ((4 * j) + 1)) : Int32).toNatClampNeg = ((4 * j) + 1) from nI_clamp (n := ((4 * j) + 1)) (by omega)]
  refine lv_aload_n hx hb d_LW_law_523 rfl (lv_at hl 1 rfl) ?_
  refine lv_iload hx hb d_LW_law_524 (lv_at hl 5 rfl) ?_
  refine lv_iconst (v := 2) hx hb d_LW_law_526 (by decide) ?_
  refine lv_iadd hx hb d_LW_law_527 ?_
  rw [show (((nI (4 * j)) + 2) : Int32) = (nI ((4 * j) + 2)) from nI_add (4 * j) 2]
  refine va_sld hx hb hX hbl hbA hS (show vp_in (nI ((4 * j) + 2)) L from vp_in_nI (n := ((4 * j) + 2)) (by omega) (by omega)) d_LW_law_528 ?_
  rw [show ((nI ((4 * j) + 2)) : Int32).toNatClampNeg = ((4 * j) + 2) from nI_clamp (n := ((4 * j) + 2)) (by omega)]
  refine sf_callVS (S := (Int32 × Int32 × (Nat → Int32) × Int32 × Int32 × (Nat → Int32) × Int32)) (rest := []) ⟨hx, hb, hml, hown, hts⟩ (c_MD_at l D cI cZ cJ r xth xB xsh xcu xtp (nI td) xpa xsp xwh xhe xho xtk xto xwa xmn (xs ((4 * j) + 1)) (xs ((4 * j) + 2))) (sf_cwV lk_LW_95 hts (fun _ h => h) ⟨Nat.le_of_ble_eq_true rfl, Nat.le_of_ble_eq_true rfl⟩) hK hP hD hS hA (fun _ => rfl) (ci := 3) (q0 := 0) rfl rfl rfl rfl rfl hl.1 (Nat.le_of_ble_eq_true rfl) d_LW_law_529 ⟨by show _ ≤ 601024; omega, by show _ ≤ 7293034; omega⟩ (fun u_2 H locs hu_2 hP hD hS => ?_)
  obtain ⟨hC, hR⟩ := r_k_at hR hu_1 hu_2
  have hP : va_P D classes (lw_x q a cI cZ cJ fl sl tb np nt u_1.2.2.1 u_1.2.2.2.1 u_1.2.2.2.2.1 u_1.2.2.2.2.2.1 u_1.2.2.2.2.2.2 mp mc mb mh mm us ta tp tl cu bl pf sh (lw_out u_1.1 fo u_1.2.1.toInt64) ++ md_w r cI cZ u_2.2.1 xB xsh xcu xtp (nI td) u_2.2.2.1 u_2.2.2.2.1 u_2.2.2.2.2.1 u_2.2.2.2.2.2.1 u_2.2.2.2.2.2.2 xtk xto xwa xmn) H := hP
  have hD : va_D (fun z : Nat => s.heap.size ≤ z) (lw_x q a cI cZ cJ fl sl tb np nt u_1.2.2.1 u_1.2.2.2.1 u_1.2.2.2.2.1 u_1.2.2.2.2.2.1 u_1.2.2.2.2.2.2 mp mc mb mh mm us ta tp tl cu bl pf sh (lw_out u_1.1 fo u_1.2.1.toInt64) ++ md_w r cI cZ u_2.2.1 xB xsh xcu xtp (nI td) u_2.2.2.1 u_2.2.2.2.1 u_2.2.2.2.2.1 u_2.2.2.2.2.2.1 u_2.2.2.2.2.2.2 xtk xto xwa xmn) := hD
  refine lv_istore (lv' := [(6, .int u_2.1), (5, .int (lw_c 1 2 0 0 u_1.1)), (0, .ref b), (1, .ref (q 0)), (2, .ref (r 0)), (3, .ref a), (4, .int (nI (4 * j)))]) hx hb d_LW_law_532 hl (by decide) rfl (fun ls hl => ?_)
  refine lv_aload_n hx hb d_LW_law_534 rfl (lv_at hl 4 rfl) ?_
  refine sf_callVS (S := Int32) (rest := []) ⟨hx, hb, hml, hown, hts⟩ (c_MD_thrown l D cI cZ cJ r u_2.2.1 xB xsh xcu xtp (nI td) u_2.2.2.1 u_2.2.2.2.1 u_2.2.2.2.2.1 u_2.2.2.2.2.2.1 u_2.2.2.2.2.2.2 xtk xto xwa xmn) (sf_cwV lk_LW_67 hts (fun _ h => h) ⟨Nat.le_of_ble_eq_true rfl, Nat.le_of_ble_eq_true rfl⟩) hK hP hD hS hA (fun _ => rfl) (ci := 3) (q0 := 0) rfl rfl rfl rfl rfl hl.1 (Nat.le_of_ble_eq_true rfl) d_LW_law_535 ⟨by show _ ≤ 601024; omega, by show _ ≤ 7293034; omega⟩ (fun u_3 H locs hu_3 hP hD hS => ?_)
  have hP : va_P D classes (lw_x q a cI cZ cJ fl sl tb np nt u_1.2.2.1 u_1.2.2.2.1 u_1.2.2.2.2.1 u_1.2.2.2.2.2.1 u_1.2.2.2.2.2.2 mp mc mb mh mm us ta tp tl cu bl pf sh (lw_out u_1.1 fo u_1.2.1.toInt64) ++ md_w r cI cZ u_2.2.1 xB xsh xcu xtp (nI td) u_2.2.2.1 u_2.2.2.2.1 u_2.2.2.2.2.1 u_2.2.2.2.2.2.1 u_2.2.2.2.2.2.2 xtk xto xwa xmn) H := hP
  have hD : va_D (fun z : Nat => s.heap.size ≤ z) (lw_x q a cI cZ cJ fl sl tb np nt u_1.2.2.1 u_1.2.2.2.1 u_1.2.2.2.2.1 u_1.2.2.2.2.2.1 u_1.2.2.2.2.2.2 mp mc mb mh mm us ta tp tl cu bl pf sh (lw_out u_1.1 fo u_1.2.1.toInt64) ++ md_w r cI cZ u_2.2.1 xB xsh xcu xtp (nI td) u_2.2.2.1 u_2.2.2.2.1 u_2.2.2.2.2.1 u_2.2.2.2.2.2.1 u_2.2.2.2.2.2.2 xtk xto xwa xmn) := hD
  refine lv_iload hx hb d_LW_law_538 (lv_at hl 1 rfl) ?_
  refine lv_icmp_eq (tgt := 545) hx hb d_LW_law_540 (by decide) (fun c_4 => ?_) (fun c_4 => absurd (by rw [hu_3]; exact hC.1) c_4)
  refine lv_iload hx hb d_LW_law_545 (lv_at hl 1 rfl) ?_
  refine lv_if_ne (tgt := 562) hx hb d_LW_law_547 (by decide) (fun c_5 => ?_) (fun c_5 => ?_)
  · refine lv_goto (tgt := 817) hx hb d_LW_law_562 (by decide) ?_
    refine W.widen (k := 27 + (j + 1)) (n := 3370 + 6 * (j + 1)) (by omega) (by omega) ?_
    exact kk fl sl tb np nt u_1.2.2.1 u_1.2.2.2.1 u_1.2.2.2.2.1 u_1.2.2.2.2.2.1 u_1.2.2.2.2.2.2 mp mc mb mh mm us ta tp tl cu bl pf sh u_2.2.1 xB xsh xcu xtp u_2.2.2.1 u_2.2.2.2.1 u_2.2.2.2.2.1 u_2.2.2.2.2.2.1 u_2.2.2.2.2.2.2 xtk xto xwa xmn (lw_out u_1.1 fo u_1.2.1.toInt64) td hR _ _ hP hD hS ls (lv_sub hl [2, 3, 4, 5, 6] rfl)
  · refine lv_aload_n hx hb d_LW_law_550 rfl (lv_at hl 5 rfl) ?_
    refine lv_iconst (v := 0) hx hb d_LW_law_551 (by decide) ?_
    refine va_lald hx hb hK hP 18 2 rfl rfl (show vp_in 0 1 from vp_in_nI (n := 0) (by omega) (by omega)) d_LW_law_552 ?_
    refine lv_iload hx hb d_LW_law_553 (lv_at hl 0 rfl) ?_
    refine lv_i2l (v := (u_2.1).toInt64) hx hb d_LW_law_555 rfl ?_
    refine W.lcmp hx hb d_LW_law_556 ?_
    refine lv_if_eq (tgt := 562) hx hb d_LW_law_557 (by decide) (fun c_6 => ?_) (fun c_6 => absurd (r_out (r0_at (show sf_TC [0, 1, 2] u_1 by rw [hu_1]; exact t_SF_at _ _ _ _ _ _ _ _ _ _ _) c_5) (hC.2 (r0_at (show sf_TC [0, 1, 2] u_1 by rw [hu_1]; exact t_SF_at _ _ _ _ _ _ _ _ _ _ _) c_5))) c_6)
    refine lv_goto (tgt := 817) hx hb d_LW_law_562 (by decide) ?_
    refine W.widen (k := 27 + (j + 1)) (n := 3370 + 6 * (j + 1)) (by omega) (by omega) ?_
    exact kk fl sl tb np nt u_1.2.2.1 u_1.2.2.2.1 u_1.2.2.2.2.1 u_1.2.2.2.2.2.1 u_1.2.2.2.2.2.2 mp mc mb mh mm us ta tp tl cu bl pf sh u_2.2.1 xB xsh xcu xtp u_2.2.2.1 u_2.2.2.2.1 u_2.2.2.2.2.1 u_2.2.2.2.2.2.1 u_2.2.2.2.2.2.2 xtk xto xwa xmn (lw_out u_1.1 fo u_1.2.1.toInt64) td hR _ _ hP hD hS ls (lv_sub hl [2, 3, 4, 5, 6] rfl)
set_option maxHeartbeats 2000000 in
set_option maxRecDepth 100000 in
/-- the law, case 8 -/
theorem law_8 {p : Program} {l : Launch} {e : Env} {s : State} {m : MethodId} {below : List Frame} {meth : Method} {c : Code} {b L : Nat} {xs : Nat → Int32} {D : va_G} {cI cZ cJ : ClassId} {q r : Nat → Nat} {a : Nat} {Q : State → Prop} (hL : L ≤ 2048) (C0 : lw_At p s m meth c b L xs) (hst : l.stackTraces = false) (hE : sf_EX (fun z : Nat => s.heap.size ≤ z) s s.heap) (hN : lw_NC s) (hK : va_K D classes (sf_tys cI cZ cJ) s) (j : Nat) (hj : 4 * j + 4 ≤ L) (fl : Nat → Int32) (sl : Nat → Int32) (tb : Nat → Int32) (np : Nat → Int32) (nt : Nat → Int32) (cp : Nat → Int32) (cc : Int32) (cb : Int32) (ch : Int32) (cm : Int32) (mp : Nat → Int32) (mc : Int32) (mb : Int32) (mh : Int32) (mm : Int32) (us : Nat → Int32) (ta : Nat → Int32) (tp : Nat → Int32) (tl : Int32) (cu : Int32) (bl : Int32) (pf : Int32) (sh : Int32) (xth : Int32) (xB : Nat → Int32) (xsh : Int32) (xcu : Int32) (xtp : Nat → Int32) (xpa : Nat → Int32) (xsp : Int32) (xwh : Int32) (xhe : Nat → Int32) (xho : Int32) (xtk : Nat → Int32) (xto : Nat → Int32) (xwa : Nat → Int32) (xmn : Int32) (fo : Nat → Int64) (td : Nat) (hR : r_R fl sl tb nt tp tl cu sh xB xsh xcu xtp td) (H : Heap) (locs : List Loc) (hP : va_P D classes (lw_x q a cI cZ cJ fl sl tb np nt cp cc cb ch cm mp mc mb mh mm us ta tp tl cu bl pf sh fo ++ md_w r cI cZ xth xB xsh xcu xtp (nI td) xpa xsp xwh xhe xho xtk xto xwa xmn) H) (hD : va_D (fun z : Nat => s.heap.size ≤ z) (lw_x q a cI cZ cJ fl sl tb np nt cp cc cb ch cm mp mc mb mh mm us ta tp tl cu bl pf sh fo ++ md_w r cI cZ xth xB xsh xcu xtp (nI td) xpa xsp xwh xhe xho xtk xto xwa xmn)) (hS : va_S (fun z : Nat => s.heap.size ≤ z) s.heap H locs) (ls : Array Slot) (hl : lv_has ls 7 [(0, .ref b), (1, .ref (q 0)), (2, .ref (r 0)), (3, .ref a), (4, .int (nI (4 * j)))])
    (kk : ∀ (fl : Nat → Int32) (sl : Nat → Int32) (tb : Nat → Int32) (np : Nat → Int32) (nt : Nat → Int32) (cp : Nat → Int32) (cc : Int32) (cb : Int32) (ch : Int32) (cm : Int32) (mp : Nat → Int32) (mc : Int32) (mb : Int32) (mh : Int32) (mm : Int32) (us : Nat → Int32) (ta : Nat → Int32) (tp : Nat → Int32) (tl : Int32) (cu : Int32) (bl : Int32) (pf : Int32) (sh : Int32) (xth : Int32) (xB : Nat → Int32) (xsh : Int32) (xcu : Int32) (xtp : Nat → Int32) (xpa : Nat → Int32) (xsp : Int32) (xwh : Int32) (xhe : Nat → Int32) (xho : Int32) (xtk : Nat → Int32) (xto : Nat → Int32) (xwa : Nat → Int32) (xmn : Int32) (fo : Nat → Int64) (td : Nat), r_R fl sl tb nt tp tl cu sh xB xsh xcu xtp td → ∀ (H : Heap) (locs : List Loc), va_P D classes (lw_x q a cI cZ cJ fl sl tb np nt cp cc cb ch cm mp mc mb mh mm us ta tp tl cu bl pf sh fo ++ md_w r cI cZ xth xB xsh xcu xtp (nI td) xpa xsp xwh xhe xho xtk xto xwa xmn) H → va_D (fun z : Nat => s.heap.size ≤ z) (lw_x q a cI cZ cJ fl sl tb np nt cp cc cb ch cm mp mc mb mh mm us ta tp tl cu bl pf sh fo ++ md_w r cI cZ xth xB xsh xcu xtp (nI td) xpa xsp xwh xhe xho xtk xto xwa xmn) → va_S (fun z : Nat => s.heap.size ≤ z) s.heap H locs → ∀ (ls : Array Slot), lv_has ls 7 [(0, .ref b), (1, .ref (q 0)), (2, .ref (r 0)), (3, .ref a), (4, .int (nI (4 * j)))] → W p l e room_1 s m #[Value.ref b] below meth c H locs (27 + (j + 1)) (3370 + 6 * (j + 1)) Q (F0 m 817 ls [])) : W p l e room_1 s m #[Value.ref b] below meth c H locs (27 + j) (3370 + 6 * j) Q (F0 m 565 ls []) := by
  obtain ⟨hx, hb, hr, hml, hown, hts0, hX, hbl, hlocks, hgv⟩ := id C0
  have hts : ∀ w ∈ sf_tb, w.before #[Value.ref b] s = true := fun w h => hts0 w (sf_sub w h)
  have hA : ∀ z : Nat, s.heap.size ≤ z → (fun z : Nat => s.heap.size ≤ z) z := fun _ h => h
  have hbA : ¬ (fun z : Nat => s.heap.size ≤ z) b := Nat.not_le.mpr hbl
  have htd : td ≤ 60 := hR.2.2.1.2.1
  refine lv_aload_n hx hb d_LW_law_565 rfl (lv_at hl 1 rfl) ?_
  refine lv_aload_n hx hb d_LW_law_566 rfl (lv_at hl 0 rfl) ?_
  refine lv_iload hx hb d_LW_law_567 (lv_at hl 4 rfl) ?_
  refine lv_iconst (v := 1) hx hb d_LW_law_569 (by decide) ?_
  refine lv_iadd hx hb d_LW_law_570 ?_
  rw [show (((nI (4 * j)) + 1) : Int32) = (nI ((4 * j) + 1)) from nI_add (4 * j) 1]
  refine va_sld hx hb hX hbl hbA hS (show vp_in (nI ((4 * j) + 1)) L from vp_in_nI (n := ((4 * j) + 1)) (by omega) (by omega)) d_LW_law_571 ?_
  rw [show ((nI ((4 * j) + 1)) : Int32).toNatClampNeg = ((4 * j) + 1) from nI_clamp (n := ((4 * j) + 1)) (by omega)]
  refine lv_aload_n hx hb d_LW_law_572 rfl (lv_at hl 3 rfl) ?_
  refine sf_ncallS (S := (Int32 × Int32 × (Nat → Int32) × (Nat → Int32) × Int32 × Int32 × Int32 × Int32)) (rest := []) ⟨hx, hb, hml, hown, hts⟩ (c_LW_told l D cI cZ cJ hst q a fl sl tb np nt cp cc cb ch cm mp mc mb mh mm us ta tp tl cu bl pf sh fo (xs ((4 * j) + 1))) (sf_cwSW lk_LW_96 hts (fun _ h => h) ⟨Nat.le_of_ble_eq_true rfl, Nat.le_of_ble_eq_true rfl⟩) hK hE hN hP hD hS hA (fun _ => rfl) rfl rfl hl.1 (Nat.le_of_ble_eq_true rfl) d_LW_law_573 ⟨by show _ ≤ 601024; omega, by show _ ≤ 7293034; omega⟩ (fun u_1 H locs hu_1 hP hD hS => ?_)
  have hP : va_P D classes (lw_x q a cI cZ cJ fl sl tb np nt cp cc cb ch cm u_1.2.2.2.1 u_1.2.2.2.2.1 u_1.2.2.2.2.2.1 u_1.2.2.2.2.2.2.1 u_1.2.2.2.2.2.2.2 u_1.2.2.1 ta tp tl cu bl pf sh (lw_out u_1.1 fo u_1.2.1.toInt64) ++ md_w r cI cZ xth xB xsh xcu xtp (nI td) xpa xsp xwh xhe xho xtk xto xwa xmn) H := hP
  have hD : va_D (fun z : Nat => s.heap.size ≤ z) (lw_x q a cI cZ cJ fl sl tb np nt cp cc cb ch cm u_1.2.2.2.1 u_1.2.2.2.2.1 u_1.2.2.2.2.2.1 u_1.2.2.2.2.2.2.1 u_1.2.2.2.2.2.2.2 u_1.2.2.1 ta tp tl cu bl pf sh (lw_out u_1.1 fo u_1.2.1.toInt64) ++ md_w r cI cZ xth xB xsh xcu xtp (nI td) xpa xsp xwh xhe xho xtk xto xwa xmn) := hD
  refine lv_istore (lv' := [(5, .int (lw_c 1 2 0 0 u_1.1)), (0, .ref b), (1, .ref (q 0)), (2, .ref (r 0)), (3, .ref a), (4, .int (nI (4 * j)))]) hx hb d_LW_law_576 hl (by decide) rfl (fun ls hl => ?_)
  refine lv_aload_n hx hb d_LW_law_578 rfl (lv_at hl 3 rfl) ?_
  refine lv_aload_n hx hb d_LW_law_579 rfl (lv_at hl 1 rfl) ?_
  refine lv_iload hx hb d_LW_law_580 (lv_at hl 5 rfl) ?_
  refine lv_iconst (v := 1) hx hb d_LW_law_582 (by decide) ?_
  refine lv_iadd hx hb d_LW_law_583 ?_
  rw [show (((nI (4 * j)) + 1) : Int32) = (nI ((4 * j) + 1)) from nI_add (4 * j) 1]
  refine va_sld hx hb hX hbl hbA hS (show vp_in (nI ((4 * j) + 1)) L from vp_in_nI (n := ((4 * j) + 1)) (by omega) (by omega)) d_LW_law_584 ?_
  rw [show ((nI ((4 * j) + 1)) : Int32).toNatClampNeg = ((4 * j) + 1) from nI_clamp (n := ((4 * j) + 1)) (by omega)]
  refine sf_callVS (S := (Int32 × Int32 × (Nat → Int32) × (Nat → Int32) × Int32 × Int32 × (Nat → Int32) × Int32)) (rest := []) ⟨hx, hb, hml, hown, hts⟩ (c_MD_told l D cI cZ cJ r xth xB xsh xcu xtp (nI td) xpa xsp xwh xhe xho xtk xto xwa xmn (xs ((4 * j) + 1))) (sf_cwV lk_LW_98 hts (fun _ h => h) ⟨Nat.le_of_ble_eq_true rfl, Nat.le_of_ble_eq_true rfl⟩) hK hP hD hS hA (fun _ => rfl) (ci := 3) (q0 := 0) rfl rfl rfl rfl rfl hl.1 (Nat.le_of_ble_eq_true rfl) d_LW_law_585 ⟨by show _ ≤ 601024; omega, by show _ ≤ 7293034; omega⟩ (fun u_2 H locs hu_2 hP hD hS => ?_)
  obtain ⟨hC, hR⟩ := r_k_told hR hu_1 hu_2
  have hP : va_P D classes (lw_x q a cI cZ cJ fl sl tb np nt cp cc cb ch cm u_1.2.2.2.1 u_1.2.2.2.2.1 u_1.2.2.2.2.2.1 u_1.2.2.2.2.2.2.1 u_1.2.2.2.2.2.2.2 u_1.2.2.1 ta tp tl cu bl pf sh (lw_out u_1.1 fo u_1.2.1.toInt64) ++ md_w r cI cZ u_2.2.1 xB xsh xcu xtp (nI td) u_2.2.2.2.1 u_2.2.2.2.2.1 u_2.2.2.2.2.2.1 u_2.2.2.2.2.2.2.1 u_2.2.2.2.2.2.2.2 u_2.2.2.1 xto xwa xmn) H := hP
  have hD : va_D (fun z : Nat => s.heap.size ≤ z) (lw_x q a cI cZ cJ fl sl tb np nt cp cc cb ch cm u_1.2.2.2.1 u_1.2.2.2.2.1 u_1.2.2.2.2.2.1 u_1.2.2.2.2.2.2.1 u_1.2.2.2.2.2.2.2 u_1.2.2.1 ta tp tl cu bl pf sh (lw_out u_1.1 fo u_1.2.1.toInt64) ++ md_w r cI cZ u_2.2.1 xB xsh xcu xtp (nI td) u_2.2.2.2.1 u_2.2.2.2.2.1 u_2.2.2.2.2.2.1 u_2.2.2.2.2.2.2.1 u_2.2.2.2.2.2.2.2 u_2.2.2.1 xto xwa xmn) := hD
  refine lv_istore (lv' := [(6, .int u_2.1), (5, .int (lw_c 1 2 0 0 u_1.1)), (0, .ref b), (1, .ref (q 0)), (2, .ref (r 0)), (3, .ref a), (4, .int (nI (4 * j)))]) hx hb d_LW_law_588 hl (by decide) rfl (fun ls hl => ?_)
  refine lv_aload_n hx hb d_LW_law_590 rfl (lv_at hl 4 rfl) ?_
  refine sf_callVS (S := Int32) (rest := []) ⟨hx, hb, hml, hown, hts⟩ (c_MD_thrown l D cI cZ cJ r u_2.2.1 xB xsh xcu xtp (nI td) u_2.2.2.2.1 u_2.2.2.2.2.1 u_2.2.2.2.2.2.1 u_2.2.2.2.2.2.2.1 u_2.2.2.2.2.2.2.2 u_2.2.2.1 xto xwa xmn) (sf_cwV lk_LW_67 hts (fun _ h => h) ⟨Nat.le_of_ble_eq_true rfl, Nat.le_of_ble_eq_true rfl⟩) hK hP hD hS hA (fun _ => rfl) (ci := 3) (q0 := 0) rfl rfl rfl rfl rfl hl.1 (Nat.le_of_ble_eq_true rfl) d_LW_law_591 ⟨by show _ ≤ 601024; omega, by show _ ≤ 7293034; omega⟩ (fun u_3 H locs hu_3 hP hD hS => ?_)
  have hP : va_P D classes (lw_x q a cI cZ cJ fl sl tb np nt cp cc cb ch cm u_1.2.2.2.1 u_1.2.2.2.2.1 u_1.2.2.2.2.2.1 u_1.2.2.2.2.2.2.1 u_1.2.2.2.2.2.2.2 u_1.2.2.1 ta tp tl cu bl pf sh (lw_out u_1.1 fo u_1.2.1.toInt64) ++ md_w r cI cZ u_2.2.1 xB xsh xcu xtp (nI td) u_2.2.2.2.1 u_2.2.2.2.2.1 u_2.2.2.2.2.2.1 u_2.2.2.2.2.2.2.1 u_2.2.2.2.2.2.2.2 u_2.2.2.1 xto xwa xmn) H := hP
  have hD : va_D (fun z : Nat => s.heap.size ≤ z) (lw_x q a cI cZ cJ fl sl tb np nt cp cc cb ch cm u_1.2.2.2.1 u_1.2.2.2.2.1 u_1.2.2.2.2.2.1 u_1.2.2.2.2.2.2.1 u_1.2.2.2.2.2.2.2 u_1.2.2.1 ta tp tl cu bl pf sh (lw_out u_1.1 fo u_1.2.1.toInt64) ++ md_w r cI cZ u_2.2.1 xB xsh xcu xtp (nI td) u_2.2.2.2.1 u_2.2.2.2.2.1 u_2.2.2.2.2.2.1 u_2.2.2.2.2.2.2.1 u_2.2.2.2.2.2.2.2 u_2.2.2.1 xto xwa xmn) := hD
  refine lv_iload hx hb d_LW_law_594 (lv_at hl 1 rfl) ?_
  refine lv_icmp_eq (tgt := 601) hx hb d_LW_law_596 (by decide) (fun c_4 => ?_) (fun c_4 => absurd (by rw [hu_3]; exact hC.1) c_4)
  refine lv_iload hx hb d_LW_law_601 (lv_at hl 1 rfl) ?_
  refine lv_if_ne (tgt := 618) hx hb d_LW_law_603 (by decide) (fun c_5 => ?_) (fun c_5 => ?_)
  · refine lv_goto (tgt := 817) hx hb d_LW_law_618 (by decide) ?_
    refine W.widen (k := 27 + (j + 1)) (n := 3370 + 6 * (j + 1)) (by omega) (by omega) ?_
    exact kk fl sl tb np nt cp cc cb ch cm u_1.2.2.2.1 u_1.2.2.2.2.1 u_1.2.2.2.2.2.1 u_1.2.2.2.2.2.2.1 u_1.2.2.2.2.2.2.2 u_1.2.2.1 ta tp tl cu bl pf sh u_2.2.1 xB xsh xcu xtp u_2.2.2.2.1 u_2.2.2.2.2.1 u_2.2.2.2.2.2.1 u_2.2.2.2.2.2.2.1 u_2.2.2.2.2.2.2.2 u_2.2.2.1 xto xwa xmn (lw_out u_1.1 fo u_1.2.1.toInt64) td hR _ _ hP hD hS ls (lv_sub hl [2, 3, 4, 5, 6] rfl)
  · refine lv_aload_n hx hb d_LW_law_606 rfl (lv_at hl 5 rfl) ?_
    refine lv_iconst (v := 0) hx hb d_LW_law_607 (by decide) ?_
    refine va_lald hx hb hK hP 18 2 rfl rfl (show vp_in 0 1 from vp_in_nI (n := 0) (by omega) (by omega)) d_LW_law_608 ?_
    refine lv_iload hx hb d_LW_law_609 (lv_at hl 0 rfl) ?_
    refine lv_i2l (v := (u_2.1).toInt64) hx hb d_LW_law_611 rfl ?_
    refine W.lcmp hx hb d_LW_law_612 ?_
    refine lv_if_eq (tgt := 618) hx hb d_LW_law_613 (by decide) (fun c_6 => ?_) (fun c_6 => absurd (r_out (r0_told (show sf_TC [0, 1, 2] u_1 by rw [hu_1]; exact t_SF_told _ _ _ _ _ _ _ _ _ _ _ _) c_5) (hC.2 (r0_told (show sf_TC [0, 1, 2] u_1 by rw [hu_1]; exact t_SF_told _ _ _ _ _ _ _ _ _ _ _ _) c_5))) c_6)
    refine lv_goto (tgt := 817) hx hb d_LW_law_618 (by decide) ?_
    refine W.widen (k := 27 + (j + 1)) (n := 3370 + 6 * (j + 1)) (by omega) (by omega) ?_
    exact kk fl sl tb np nt cp cc cb ch cm u_1.2.2.2.1 u_1.2.2.2.2.1 u_1.2.2.2.2.2.1 u_1.2.2.2.2.2.2.1 u_1.2.2.2.2.2.2.2 u_1.2.2.1 ta tp tl cu bl pf sh u_2.2.1 xB xsh xcu xtp u_2.2.2.2.1 u_2.2.2.2.2.1 u_2.2.2.2.2.2.1 u_2.2.2.2.2.2.2.1 u_2.2.2.2.2.2.2.2 u_2.2.2.1 xto xwa xmn (lw_out u_1.1 fo u_1.2.1.toInt64) td hR _ _ hP hD hS ls (lv_sub hl [2, 3, 4, 5, 6] rfl)
set_option maxHeartbeats 2000000 in
set_option maxRecDepth 100000 in
/-- the law, case 9 -/
theorem law_9 {p : Program} {l : Launch} {e : Env} {s : State} {m : MethodId} {below : List Frame} {meth : Method} {c : Code} {b L : Nat} {xs : Nat → Int32} {D : va_G} {cI cZ cJ : ClassId} {q r : Nat → Nat} {a : Nat} {Q : State → Prop} (hL : L ≤ 2048) (C0 : lw_At p s m meth c b L xs) (hst : l.stackTraces = false) (hE : sf_EX (fun z : Nat => s.heap.size ≤ z) s s.heap) (hN : lw_NC s) (hK : va_K D classes (sf_tys cI cZ cJ) s) (j : Nat) (hj : 4 * j + 4 ≤ L) (fl : Nat → Int32) (sl : Nat → Int32) (tb : Nat → Int32) (np : Nat → Int32) (nt : Nat → Int32) (cp : Nat → Int32) (cc : Int32) (cb : Int32) (ch : Int32) (cm : Int32) (mp : Nat → Int32) (mc : Int32) (mb : Int32) (mh : Int32) (mm : Int32) (us : Nat → Int32) (ta : Nat → Int32) (tp : Nat → Int32) (tl : Int32) (cu : Int32) (bl : Int32) (pf : Int32) (sh : Int32) (xth : Int32) (xB : Nat → Int32) (xsh : Int32) (xcu : Int32) (xtp : Nat → Int32) (xpa : Nat → Int32) (xsp : Int32) (xwh : Int32) (xhe : Nat → Int32) (xho : Int32) (xtk : Nat → Int32) (xto : Nat → Int32) (xwa : Nat → Int32) (xmn : Int32) (fo : Nat → Int64) (td : Nat) (hR : r_R fl sl tb nt tp tl cu sh xB xsh xcu xtp td) (H : Heap) (locs : List Loc) (hP : va_P D classes (lw_x q a cI cZ cJ fl sl tb np nt cp cc cb ch cm mp mc mb mh mm us ta tp tl cu bl pf sh fo ++ md_w r cI cZ xth xB xsh xcu xtp (nI td) xpa xsp xwh xhe xho xtk xto xwa xmn) H) (hD : va_D (fun z : Nat => s.heap.size ≤ z) (lw_x q a cI cZ cJ fl sl tb np nt cp cc cb ch cm mp mc mb mh mm us ta tp tl cu bl pf sh fo ++ md_w r cI cZ xth xB xsh xcu xtp (nI td) xpa xsp xwh xhe xho xtk xto xwa xmn)) (hS : va_S (fun z : Nat => s.heap.size ≤ z) s.heap H locs) (ls : Array Slot) (hl : lv_has ls 7 [(0, .ref b), (1, .ref (q 0)), (2, .ref (r 0)), (3, .ref a), (4, .int (nI (4 * j)))])
    (kk : ∀ (fl : Nat → Int32) (sl : Nat → Int32) (tb : Nat → Int32) (np : Nat → Int32) (nt : Nat → Int32) (cp : Nat → Int32) (cc : Int32) (cb : Int32) (ch : Int32) (cm : Int32) (mp : Nat → Int32) (mc : Int32) (mb : Int32) (mh : Int32) (mm : Int32) (us : Nat → Int32) (ta : Nat → Int32) (tp : Nat → Int32) (tl : Int32) (cu : Int32) (bl : Int32) (pf : Int32) (sh : Int32) (xth : Int32) (xB : Nat → Int32) (xsh : Int32) (xcu : Int32) (xtp : Nat → Int32) (xpa : Nat → Int32) (xsp : Int32) (xwh : Int32) (xhe : Nat → Int32) (xho : Int32) (xtk : Nat → Int32) (xto : Nat → Int32) (xwa : Nat → Int32) (xmn : Int32) (fo : Nat → Int64) (td : Nat), r_R fl sl tb nt tp tl cu sh xB xsh xcu xtp td → ∀ (H : Heap) (locs : List Loc), va_P D classes (lw_x q a cI cZ cJ fl sl tb np nt cp cc cb ch cm mp mc mb mh mm us ta tp tl cu bl pf sh fo ++ md_w r cI cZ xth xB xsh xcu xtp (nI td) xpa xsp xwh xhe xho xtk xto xwa xmn) H → va_D (fun z : Nat => s.heap.size ≤ z) (lw_x q a cI cZ cJ fl sl tb np nt cp cc cb ch cm mp mc mb mh mm us ta tp tl cu bl pf sh fo ++ md_w r cI cZ xth xB xsh xcu xtp (nI td) xpa xsp xwh xhe xho xtk xto xwa xmn) → va_S (fun z : Nat => s.heap.size ≤ z) s.heap H locs → ∀ (ls : Array Slot), lv_has ls 7 [(0, .ref b), (1, .ref (q 0)), (2, .ref (r 0)), (3, .ref a), (4, .int (nI (4 * j)))] → W p l e room_1 s m #[Value.ref b] below meth c H locs (27 + (j + 1)) (3370 + 6 * (j + 1)) Q (F0 m 817 ls [])) : W p l e room_1 s m #[Value.ref b] below meth c H locs (27 + j) (3370 + 6 * j) Q (F0 m 621 ls []) := by
  obtain ⟨hx, hb, hr, hml, hown, hts0, hX, hbl, hlocks, hgv⟩ := id C0
  have hts : ∀ w ∈ sf_tb, w.before #[Value.ref b] s = true := fun w h => hts0 w (sf_sub w h)
  have hA : ∀ z : Nat, s.heap.size ≤ z → (fun z : Nat => s.heap.size ≤ z) z := fun _ h => h
  have hbA : ¬ (fun z : Nat => s.heap.size ≤ z) b := Nat.not_le.mpr hbl
  have htd : td ≤ 60 := hR.2.2.1.2.1
  refine lv_aload_n hx hb d_LW_law_621 rfl (lv_at hl 1 rfl) ?_
  refine lv_aload_n hx hb d_LW_law_622 rfl (lv_at hl 0 rfl) ?_
  refine lv_iload hx hb d_LW_law_623 (lv_at hl 4 rfl) ?_
  refine lv_iconst (v := 1) hx hb d_LW_law_625 (by decide) ?_
  refine lv_iadd hx hb d_LW_law_626 ?_
  rw [show (((nI (4 * j)) + 1) : Int32) = (nI ((4 * j) + 1)) from nI_add (4 * j) 1]
  refine va_sld hx hb hX hbl hbA hS (show vp_in (nI ((4 * j) + 1)) L from vp_in_nI (n := ((4 * j) + 1)) (by omega) (by omega)) d_LW_law_627 ?_
  rw [show ((nI ((4 * j) + 1)) : Int32).toNatClampNeg = ((4 * j) + 1) from nI_clamp (n := ((4 * j) + 1)) (by omega)]
  refine lv_aload_n hx hb d_LW_law_628 rfl (lv_at hl 0 rfl) ?_
  refine lv_iload hx hb d_LW_law_629 (lv_at hl 4 rfl) ?_
  refine lv_iconst (v := 2) hx hb d_LW_law_631 (by decide) ?_
  refine lv_iadd hx hb d_LW_law_632 ?_
  rw [show (((nI (4 * j)) + 2) : Int32) = (nI ((4 * j) + 2)) from nI_add (4 * j) 2]
  refine va_sld hx hb hX hbl hbA hS (show vp_in (nI ((4 * j) + 2)) L from vp_in_nI (n := ((4 * j) + 2)) (by omega) (by omega)) d_LW_law_633 ?_
  rw [show ((nI ((4 * j) + 2)) : Int32).toNatClampNeg = ((4 * j) + 2) from nI_clamp (n := ((4 * j) + 2)) (by omega)]
  refine lv_aload_n hx hb d_LW_law_634 rfl (lv_at hl 3 rfl) ?_
  refine sf_ncallS (S := (Int32 × Int32 × (Nat → Int32) × (Nat → Int32) × Int32 × Int32 × Int32 × Int32)) (rest := []) ⟨hx, hb, hml, hown, hts⟩ (c_LW_wrong l D cI cZ cJ hst q a fl sl tb np nt cp cc cb ch cm mp mc mb mh mm us ta tp tl cu bl pf sh fo (xs ((4 * j) + 1)) (xs ((4 * j) + 2))) (sf_cwSW lk_LW_99 hts (fun _ h => h) ⟨Nat.le_of_ble_eq_true rfl, Nat.le_of_ble_eq_true rfl⟩) hK hE hN hP hD hS hA (fun _ => rfl) rfl rfl hl.1 (Nat.le_of_ble_eq_true rfl) d_LW_law_635 ⟨by show _ ≤ 601024; omega, by show _ ≤ 7293034; omega⟩ (fun u_1 H locs hu_1 hP hD hS => ?_)
  have hP : va_P D classes (lw_x q a cI cZ cJ fl sl tb np nt cp cc cb ch cm u_1.2.2.2.1 u_1.2.2.2.2.1 u_1.2.2.2.2.2.1 u_1.2.2.2.2.2.2.1 u_1.2.2.2.2.2.2.2 u_1.2.2.1 ta tp tl cu bl pf sh (lw_out u_1.1 fo u_1.2.1.toInt64) ++ md_w r cI cZ xth xB xsh xcu xtp (nI td) xpa xsp xwh xhe xho xtk xto xwa xmn) H := hP
  have hD : va_D (fun z : Nat => s.heap.size ≤ z) (lw_x q a cI cZ cJ fl sl tb np nt cp cc cb ch cm u_1.2.2.2.1 u_1.2.2.2.2.1 u_1.2.2.2.2.2.1 u_1.2.2.2.2.2.2.1 u_1.2.2.2.2.2.2.2 u_1.2.2.1 ta tp tl cu bl pf sh (lw_out u_1.1 fo u_1.2.1.toInt64) ++ md_w r cI cZ xth xB xsh xcu xtp (nI td) xpa xsp xwh xhe xho xtk xto xwa xmn) := hD
  refine lv_istore (lv' := [(5, .int (lw_c 1 0 0 0 u_1.1)), (0, .ref b), (1, .ref (q 0)), (2, .ref (r 0)), (3, .ref a), (4, .int (nI (4 * j)))]) hx hb d_LW_law_638 hl (by decide) rfl (fun ls hl => ?_)
  refine lv_aload_n hx hb d_LW_law_640 rfl (lv_at hl 3 rfl) ?_
  refine lv_aload_n hx hb d_LW_law_641 rfl (lv_at hl 1 rfl) ?_
  refine lv_iload hx hb d_LW_law_642 (lv_at hl 5 rfl) ?_
  refine lv_iconst (v := 1) hx hb d_LW_law_644 (by decide) ?_
  refine lv_iadd hx hb d_LW_law_645 ?_
  rw [show (((nI (4 * j)) + 1) : Int32) = (nI ((4 * j) + 1)) from nI_add (4 * j) 1]
  refine va_sld hx hb hX hbl hbA hS (show vp_in (nI ((4 * j) + 1)) L from vp_in_nI (n := ((4 * j) + 1)) (by omega) (by omega)) d_LW_law_646 ?_
  rw [show ((nI ((4 * j) + 1)) : Int32).toNatClampNeg = ((4 * j) + 1) from nI_clamp (n := ((4 * j) + 1)) (by omega)]
  refine lv_aload_n hx hb d_LW_law_647 rfl (lv_at hl 1 rfl) ?_
  refine lv_iload hx hb d_LW_law_648 (lv_at hl 5 rfl) ?_
  refine lv_iconst (v := 2) hx hb d_LW_law_650 (by decide) ?_
  refine lv_iadd hx hb d_LW_law_651 ?_
  rw [show (((nI (4 * j)) + 2) : Int32) = (nI ((4 * j) + 2)) from nI_add (4 * j) 2]
  refine va_sld hx hb hX hbl hbA hS (show vp_in (nI ((4 * j) + 2)) L from vp_in_nI (n := ((4 * j) + 2)) (by omega) (by omega)) d_LW_law_652 ?_
  rw [show ((nI ((4 * j) + 2)) : Int32).toNatClampNeg = ((4 * j) + 2) from nI_clamp (n := ((4 * j) + 2)) (by omega)]
  refine sf_callVS (S := (Int32 × Int32 × (Nat → Int32) × (Nat → Int32) × Int32 × Int32 × (Nat → Int32) × Int32)) (rest := []) ⟨hx, hb, hml, hown, hts⟩ (c_MD_wrong l D cI cZ cJ r xth xB xsh xcu xtp (nI td) xpa xsp xwh xhe xho xtk xto xwa xmn (xs ((4 * j) + 1)) (xs ((4 * j) + 2))) (sf_cwV lk_LW_101 hts (fun _ h => h) ⟨Nat.le_of_ble_eq_true rfl, Nat.le_of_ble_eq_true rfl⟩) hK hP hD hS hA (fun _ => rfl) (ci := 3) (q0 := 0) rfl rfl rfl rfl rfl hl.1 (Nat.le_of_ble_eq_true rfl) d_LW_law_653 ⟨by show _ ≤ 601024; omega, by show _ ≤ 7293034; omega⟩ (fun u_2 H locs hu_2 hP hD hS => ?_)
  obtain ⟨hC, hR⟩ := r_k_wrong hR hu_1 hu_2
  have hP : va_P D classes (lw_x q a cI cZ cJ fl sl tb np nt cp cc cb ch cm u_1.2.2.2.1 u_1.2.2.2.2.1 u_1.2.2.2.2.2.1 u_1.2.2.2.2.2.2.1 u_1.2.2.2.2.2.2.2 u_1.2.2.1 ta tp tl cu bl pf sh (lw_out u_1.1 fo u_1.2.1.toInt64) ++ md_w r cI cZ u_2.2.1 xB xsh xcu xtp (nI td) u_2.2.2.2.1 u_2.2.2.2.2.1 u_2.2.2.2.2.2.1 u_2.2.2.2.2.2.2.1 u_2.2.2.2.2.2.2.2 u_2.2.2.1 xto xwa xmn) H := hP
  have hD : va_D (fun z : Nat => s.heap.size ≤ z) (lw_x q a cI cZ cJ fl sl tb np nt cp cc cb ch cm u_1.2.2.2.1 u_1.2.2.2.2.1 u_1.2.2.2.2.2.1 u_1.2.2.2.2.2.2.1 u_1.2.2.2.2.2.2.2 u_1.2.2.1 ta tp tl cu bl pf sh (lw_out u_1.1 fo u_1.2.1.toInt64) ++ md_w r cI cZ u_2.2.1 xB xsh xcu xtp (nI td) u_2.2.2.2.1 u_2.2.2.2.2.1 u_2.2.2.2.2.2.1 u_2.2.2.2.2.2.2.1 u_2.2.2.2.2.2.2.2 u_2.2.2.1 xto xwa xmn) := hD
  refine lv_istore (lv' := [(6, .int u_2.1), (5, .int (lw_c 1 0 0 0 u_1.1)), (0, .ref b), (1, .ref (q 0)), (2, .ref (r 0)), (3, .ref a), (4, .int (nI (4 * j)))]) hx hb d_LW_law_656 hl (by decide) rfl (fun ls hl => ?_)
  refine lv_aload_n hx hb d_LW_law_658 rfl (lv_at hl 4 rfl) ?_
  refine sf_callVS (S := Int32) (rest := []) ⟨hx, hb, hml, hown, hts⟩ (c_MD_thrown l D cI cZ cJ r u_2.2.1 xB xsh xcu xtp (nI td) u_2.2.2.2.1 u_2.2.2.2.2.1 u_2.2.2.2.2.2.1 u_2.2.2.2.2.2.2.1 u_2.2.2.2.2.2.2.2 u_2.2.2.1 xto xwa xmn) (sf_cwV lk_LW_67 hts (fun _ h => h) ⟨Nat.le_of_ble_eq_true rfl, Nat.le_of_ble_eq_true rfl⟩) hK hP hD hS hA (fun _ => rfl) (ci := 3) (q0 := 0) rfl rfl rfl rfl rfl hl.1 (Nat.le_of_ble_eq_true rfl) d_LW_law_659 ⟨by show _ ≤ 601024; omega, by show _ ≤ 7293034; omega⟩ (fun u_3 H locs hu_3 hP hD hS => ?_)
  have hP : va_P D classes (lw_x q a cI cZ cJ fl sl tb np nt cp cc cb ch cm u_1.2.2.2.1 u_1.2.2.2.2.1 u_1.2.2.2.2.2.1 u_1.2.2.2.2.2.2.1 u_1.2.2.2.2.2.2.2 u_1.2.2.1 ta tp tl cu bl pf sh (lw_out u_1.1 fo u_1.2.1.toInt64) ++ md_w r cI cZ u_2.2.1 xB xsh xcu xtp (nI td) u_2.2.2.2.1 u_2.2.2.2.2.1 u_2.2.2.2.2.2.1 u_2.2.2.2.2.2.2.1 u_2.2.2.2.2.2.2.2 u_2.2.2.1 xto xwa xmn) H := hP
  have hD : va_D (fun z : Nat => s.heap.size ≤ z) (lw_x q a cI cZ cJ fl sl tb np nt cp cc cb ch cm u_1.2.2.2.1 u_1.2.2.2.2.1 u_1.2.2.2.2.2.1 u_1.2.2.2.2.2.2.1 u_1.2.2.2.2.2.2.2 u_1.2.2.1 ta tp tl cu bl pf sh (lw_out u_1.1 fo u_1.2.1.toInt64) ++ md_w r cI cZ u_2.2.1 xB xsh xcu xtp (nI td) u_2.2.2.2.1 u_2.2.2.2.2.1 u_2.2.2.2.2.2.1 u_2.2.2.2.2.2.2.1 u_2.2.2.2.2.2.2.2 u_2.2.2.1 xto xwa xmn) := hD
  refine lv_iload hx hb d_LW_law_662 (lv_at hl 1 rfl) ?_
  refine lv_icmp_eq (tgt := 669) hx hb d_LW_law_664 (by decide) (fun c_4 => ?_) (fun c_4 => absurd (by rw [hu_3]; exact hC.1) c_4)
  refine lv_iload hx hb d_LW_law_669 (lv_at hl 1 rfl) ?_
  refine lv_if_ne (tgt := 686) hx hb d_LW_law_671 (by decide) (fun c_5 => ?_) (fun c_5 => ?_)
  · refine lv_goto (tgt := 817) hx hb d_LW_law_686 (by decide) ?_
    refine W.widen (k := 27 + (j + 1)) (n := 3370 + 6 * (j + 1)) (by omega) (by omega) ?_
    exact kk fl sl tb np nt cp cc cb ch cm u_1.2.2.2.1 u_1.2.2.2.2.1 u_1.2.2.2.2.2.1 u_1.2.2.2.2.2.2.1 u_1.2.2.2.2.2.2.2 u_1.2.2.1 ta tp tl cu bl pf sh u_2.2.1 xB xsh xcu xtp u_2.2.2.2.1 u_2.2.2.2.2.1 u_2.2.2.2.2.2.1 u_2.2.2.2.2.2.2.1 u_2.2.2.2.2.2.2.2 u_2.2.2.1 xto xwa xmn (lw_out u_1.1 fo u_1.2.1.toInt64) td hR _ _ hP hD hS ls (lv_sub hl [2, 3, 4, 5, 6] rfl)
  · refine lv_aload_n hx hb d_LW_law_674 rfl (lv_at hl 5 rfl) ?_
    refine lv_iconst (v := 0) hx hb d_LW_law_675 (by decide) ?_
    refine va_lald hx hb hK hP 18 2 rfl rfl (show vp_in 0 1 from vp_in_nI (n := 0) (by omega) (by omega)) d_LW_law_676 ?_
    refine lv_iload hx hb d_LW_law_677 (lv_at hl 0 rfl) ?_
    refine lv_i2l (v := (u_2.1).toInt64) hx hb d_LW_law_679 rfl ?_
    refine W.lcmp hx hb d_LW_law_680 ?_
    refine lv_if_eq (tgt := 686) hx hb d_LW_law_681 (by decide) (fun c_6 => ?_) (fun c_6 => absurd (r_out (r0_wrong (show sf_TC [0, 1] u_1 by rw [hu_1]; exact t_SF_wrong _ _ _ _ _ _ _ _ _ _ _) c_5) (hC.2 (r0_wrong (show sf_TC [0, 1] u_1 by rw [hu_1]; exact t_SF_wrong _ _ _ _ _ _ _ _ _ _ _) c_5))) c_6)
    refine lv_goto (tgt := 817) hx hb d_LW_law_686 (by decide) ?_
    refine W.widen (k := 27 + (j + 1)) (n := 3370 + 6 * (j + 1)) (by omega) (by omega) ?_
    exact kk fl sl tb np nt cp cc cb ch cm u_1.2.2.2.1 u_1.2.2.2.2.1 u_1.2.2.2.2.2.1 u_1.2.2.2.2.2.2.1 u_1.2.2.2.2.2.2.2 u_1.2.2.1 ta tp tl cu bl pf sh u_2.2.1 xB xsh xcu xtp u_2.2.2.2.1 u_2.2.2.2.2.1 u_2.2.2.2.2.2.1 u_2.2.2.2.2.2.2.1 u_2.2.2.2.2.2.2.2 u_2.2.2.1 xto xwa xmn (lw_out u_1.1 fo u_1.2.1.toInt64) td hR _ _ hP hD hS ls (lv_sub hl [2, 3, 4, 5, 6] rfl)
set_option maxHeartbeats 2000000 in
set_option maxRecDepth 100000 in
/-- the law, case 10 -/
theorem law_10 {p : Program} {l : Launch} {e : Env} {s : State} {m : MethodId} {below : List Frame} {meth : Method} {c : Code} {b L : Nat} {xs : Nat → Int32} {D : va_G} {cI cZ cJ : ClassId} {q r : Nat → Nat} {a : Nat} {Q : State → Prop} (hL : L ≤ 2048) (C0 : lw_At p s m meth c b L xs) (hst : l.stackTraces = false) (hE : sf_EX (fun z : Nat => s.heap.size ≤ z) s s.heap) (hN : lw_NC s) (hK : va_K D classes (sf_tys cI cZ cJ) s) (j : Nat) (hj : 4 * j + 4 ≤ L) (fl : Nat → Int32) (sl : Nat → Int32) (tb : Nat → Int32) (np : Nat → Int32) (nt : Nat → Int32) (cp : Nat → Int32) (cc : Int32) (cb : Int32) (ch : Int32) (cm : Int32) (mp : Nat → Int32) (mc : Int32) (mb : Int32) (mh : Int32) (mm : Int32) (us : Nat → Int32) (ta : Nat → Int32) (tp : Nat → Int32) (tl : Int32) (cu : Int32) (bl : Int32) (pf : Int32) (sh : Int32) (xth : Int32) (xB : Nat → Int32) (xsh : Int32) (xcu : Int32) (xtp : Nat → Int32) (xpa : Nat → Int32) (xsp : Int32) (xwh : Int32) (xhe : Nat → Int32) (xho : Int32) (xtk : Nat → Int32) (xto : Nat → Int32) (xwa : Nat → Int32) (xmn : Int32) (fo : Nat → Int64) (td : Nat) (hR : r_R fl sl tb nt tp tl cu sh xB xsh xcu xtp td) (H : Heap) (locs : List Loc) (hP : va_P D classes (lw_x q a cI cZ cJ fl sl tb np nt cp cc cb ch cm mp mc mb mh mm us ta tp tl cu bl pf sh fo ++ md_w r cI cZ xth xB xsh xcu xtp (nI td) xpa xsp xwh xhe xho xtk xto xwa xmn) H) (hD : va_D (fun z : Nat => s.heap.size ≤ z) (lw_x q a cI cZ cJ fl sl tb np nt cp cc cb ch cm mp mc mb mh mm us ta tp tl cu bl pf sh fo ++ md_w r cI cZ xth xB xsh xcu xtp (nI td) xpa xsp xwh xhe xho xtk xto xwa xmn)) (hS : va_S (fun z : Nat => s.heap.size ≤ z) s.heap H locs) (ls : Array Slot) (hl : lv_has ls 7 [(0, .ref b), (1, .ref (q 0)), (2, .ref (r 0)), (3, .ref a), (4, .int (nI (4 * j)))])
    (kk : ∀ (fl : Nat → Int32) (sl : Nat → Int32) (tb : Nat → Int32) (np : Nat → Int32) (nt : Nat → Int32) (cp : Nat → Int32) (cc : Int32) (cb : Int32) (ch : Int32) (cm : Int32) (mp : Nat → Int32) (mc : Int32) (mb : Int32) (mh : Int32) (mm : Int32) (us : Nat → Int32) (ta : Nat → Int32) (tp : Nat → Int32) (tl : Int32) (cu : Int32) (bl : Int32) (pf : Int32) (sh : Int32) (xth : Int32) (xB : Nat → Int32) (xsh : Int32) (xcu : Int32) (xtp : Nat → Int32) (xpa : Nat → Int32) (xsp : Int32) (xwh : Int32) (xhe : Nat → Int32) (xho : Int32) (xtk : Nat → Int32) (xto : Nat → Int32) (xwa : Nat → Int32) (xmn : Int32) (fo : Nat → Int64) (td : Nat), r_R fl sl tb nt tp tl cu sh xB xsh xcu xtp td → ∀ (H : Heap) (locs : List Loc), va_P D classes (lw_x q a cI cZ cJ fl sl tb np nt cp cc cb ch cm mp mc mb mh mm us ta tp tl cu bl pf sh fo ++ md_w r cI cZ xth xB xsh xcu xtp (nI td) xpa xsp xwh xhe xho xtk xto xwa xmn) H → va_D (fun z : Nat => s.heap.size ≤ z) (lw_x q a cI cZ cJ fl sl tb np nt cp cc cb ch cm mp mc mb mh mm us ta tp tl cu bl pf sh fo ++ md_w r cI cZ xth xB xsh xcu xtp (nI td) xpa xsp xwh xhe xho xtk xto xwa xmn) → va_S (fun z : Nat => s.heap.size ≤ z) s.heap H locs → ∀ (ls : Array Slot), lv_has ls 7 [(0, .ref b), (1, .ref (q 0)), (2, .ref (r 0)), (3, .ref a), (4, .int (nI (4 * j)))] → W p l e room_1 s m #[Value.ref b] below meth c H locs (27 + (j + 1)) (3370 + 6 * (j + 1)) Q (F0 m 817 ls [])) : W p l e room_1 s m #[Value.ref b] below meth c H locs (27 + j) (3370 + 6 * j) Q (F0 m 689 ls []) := by
  obtain ⟨hx, hb, hr, hml, hown, hts0, hX, hbl, hlocks, hgv⟩ := id C0
  have hts : ∀ w ∈ sf_tb, w.before #[Value.ref b] s = true := fun w h => hts0 w (sf_sub w h)
  have hA : ∀ z : Nat, s.heap.size ≤ z → (fun z : Nat => s.heap.size ≤ z) z := fun _ h => h
  have hbA : ¬ (fun z : Nat => s.heap.size ≤ z) b := Nat.not_le.mpr hbl
  have htd : td ≤ 60 := hR.2.2.1.2.1
  refine lv_aload_n hx hb d_LW_law_689 rfl (lv_at hl 1 rfl) ?_
  refine lv_aload_n hx hb d_LW_law_690 rfl (lv_at hl 0 rfl) ?_
  refine lv_iload hx hb d_LW_law_691 (lv_at hl 4 rfl) ?_
  refine lv_iconst (v := 1) hx hb d_LW_law_693 (by decide) ?_
  refine lv_iadd hx hb d_LW_law_694 ?_
  rw [show (((nI (4 * j)) + 1) : Int32) = (nI ((4 * j) + 1)) from nI_add (4 * j) 1]
  refine va_sld hx hb hX hbl hbA hS (show vp_in (nI ((4 * j) + 1)) L from vp_in_nI (n := ((4 * j) + 1)) (by omega) (by omega)) d_LW_law_695 ?_
  rw [show ((nI ((4 * j) + 1)) : Int32).toNatClampNeg = ((4 * j) + 1) from nI_clamp (n := ((4 * j) + 1)) (by omega)]
  refine lv_aload_n hx hb d_LW_law_696 rfl (lv_at hl 0 rfl) ?_
  refine lv_iload hx hb d_LW_law_697 (lv_at hl 4 rfl) ?_
  refine lv_iconst (v := 2) hx hb d_LW_law_699 (by decide) ?_
  refine lv_iadd hx hb d_LW_law_700 ?_
  rw [show (((nI (4 * j)) + 2) : Int32) = (nI ((4 * j) + 2)) from nI_add (4 * j) 2]
  refine va_sld hx hb hX hbl hbA hS (show vp_in (nI ((4 * j) + 2)) L from vp_in_nI (n := ((4 * j) + 2)) (by omega) (by omega)) d_LW_law_701 ?_
  rw [show ((nI ((4 * j) + 2)) : Int32).toNatClampNeg = ((4 * j) + 2) from nI_clamp (n := ((4 * j) + 2)) (by omega)]
  refine lv_aload_n hx hb d_LW_law_702 rfl (lv_at hl 3 rfl) ?_
  refine sf_ncallS (S := (Int32 × Int32)) (rest := []) ⟨hx, hb, hml, hown, hts⟩ (c_LW_byteAt l D cI cZ cJ hst q a fl sl tb np nt cp cc cb ch cm mp mc mb mh mm us ta tp tl cu bl pf sh fo (xs ((4 * j) + 1)) (xs ((4 * j) + 2))) (sf_cwSW lk_LW_102 hts (fun _ h => h) ⟨Nat.le_of_ble_eq_true rfl, Nat.le_of_ble_eq_true rfl⟩) hK hE hN hP hD hS hA (fun _ => rfl) rfl rfl hl.1 (Nat.le_of_ble_eq_true rfl) d_LW_law_703 ⟨by show _ ≤ 601024; omega, by show _ ≤ 7293034; omega⟩ (fun u_1 H locs hu_1 hP hD hS => ?_)
  have hP : va_P D classes (lw_x q a cI cZ cJ fl sl tb np nt cp cc cb ch cm mp mc mb mh mm us ta tp tl cu bl pf sh (lw_out u_1.1 fo u_1.2.toInt64) ++ md_w r cI cZ xth xB xsh xcu xtp (nI td) xpa xsp xwh xhe xho xtk xto xwa xmn) H := hP
  have hD : va_D (fun z : Nat => s.heap.size ≤ z) (lw_x q a cI cZ cJ fl sl tb np nt cp cc cb ch cm mp mc mb mh mm us ta tp tl cu bl pf sh (lw_out u_1.1 fo u_1.2.toInt64) ++ md_w r cI cZ xth xB xsh xcu xtp (nI td) xpa xsp xwh xhe xho xtk xto xwa xmn) := hD
  refine lv_istore (lv' := [(5, .int (lw_c 1 0 0 0 u_1.1)), (0, .ref b), (1, .ref (q 0)), (2, .ref (r 0)), (3, .ref a), (4, .int (nI (4 * j)))]) hx hb d_LW_law_706 hl (by decide) rfl (fun ls hl => ?_)
  refine lv_aload_n hx hb d_LW_law_708 rfl (lv_at hl 3 rfl) ?_
  refine lv_aload_n hx hb d_LW_law_709 rfl (lv_at hl 1 rfl) ?_
  refine lv_iload hx hb d_LW_law_710 (lv_at hl 5 rfl) ?_
  refine lv_iconst (v := 1) hx hb d_LW_law_712 (by decide) ?_
  refine lv_iadd hx hb d_LW_law_713 ?_
  rw [show (((nI (4 * j)) + 1) : Int32) = (nI ((4 * j) + 1)) from nI_add (4 * j) 1]
  refine va_sld hx hb hX hbl hbA hS (show vp_in (nI ((4 * j) + 1)) L from vp_in_nI (n := ((4 * j) + 1)) (by omega) (by omega)) d_LW_law_714 ?_
  rw [show ((nI ((4 * j) + 1)) : Int32).toNatClampNeg = ((4 * j) + 1) from nI_clamp (n := ((4 * j) + 1)) (by omega)]
  refine lv_aload_n hx hb d_LW_law_715 rfl (lv_at hl 1 rfl) ?_
  refine lv_iload hx hb d_LW_law_716 (lv_at hl 5 rfl) ?_
  refine lv_iconst (v := 2) hx hb d_LW_law_718 (by decide) ?_
  refine lv_iadd hx hb d_LW_law_719 ?_
  rw [show (((nI (4 * j)) + 2) : Int32) = (nI ((4 * j) + 2)) from nI_add (4 * j) 2]
  refine va_sld hx hb hX hbl hbA hS (show vp_in (nI ((4 * j) + 2)) L from vp_in_nI (n := ((4 * j) + 2)) (by omega) (by omega)) d_LW_law_720 ?_
  rw [show ((nI ((4 * j) + 2)) : Int32).toNatClampNeg = ((4 * j) + 2) from nI_clamp (n := ((4 * j) + 2)) (by omega)]
  refine sf_callVS (S := (Int32 × Int32)) (rest := []) ⟨hx, hb, hml, hown, hts⟩ (c_MD_byteAt l D cI cZ cJ r xth xB xsh xcu xtp (nI td) xpa xsp xwh xhe xho xtk xto xwa xmn (xs ((4 * j) + 1)) (xs ((4 * j) + 2))) (sf_cwV lk_LW_104 hts (fun _ h => h) ⟨Nat.le_of_ble_eq_true rfl, Nat.le_of_ble_eq_true rfl⟩) hK hP hD hS hA (fun _ => rfl) (ci := 3) (q0 := 0) rfl rfl rfl rfl rfl hl.1 (Nat.le_of_ble_eq_true rfl) d_LW_law_721 ⟨by show _ ≤ 601024; omega, by show _ ≤ 7293034; omega⟩ (fun u_2 H locs hu_2 hP hD hS => ?_)
  obtain ⟨hC, hR⟩ := r_k_byteAt hR hu_1 hu_2
  have hP : va_P D classes (lw_x q a cI cZ cJ fl sl tb np nt cp cc cb ch cm mp mc mb mh mm us ta tp tl cu bl pf sh (lw_out u_1.1 fo u_1.2.toInt64) ++ md_w r cI cZ u_2.2 xB xsh xcu xtp (nI td) xpa xsp xwh xhe xho xtk xto xwa xmn) H := hP
  have hD : va_D (fun z : Nat => s.heap.size ≤ z) (lw_x q a cI cZ cJ fl sl tb np nt cp cc cb ch cm mp mc mb mh mm us ta tp tl cu bl pf sh (lw_out u_1.1 fo u_1.2.toInt64) ++ md_w r cI cZ u_2.2 xB xsh xcu xtp (nI td) xpa xsp xwh xhe xho xtk xto xwa xmn) := hD
  refine lv_istore (lv' := [(6, .int u_2.1), (5, .int (lw_c 1 0 0 0 u_1.1)), (0, .ref b), (1, .ref (q 0)), (2, .ref (r 0)), (3, .ref a), (4, .int (nI (4 * j)))]) hx hb d_LW_law_724 hl (by decide) rfl (fun ls hl => ?_)
  refine lv_aload_n hx hb d_LW_law_726 rfl (lv_at hl 4 rfl) ?_
  refine sf_callVS (S := Int32) (rest := []) ⟨hx, hb, hml, hown, hts⟩ (c_MD_thrown l D cI cZ cJ r u_2.2 xB xsh xcu xtp (nI td) xpa xsp xwh xhe xho xtk xto xwa xmn) (sf_cwV lk_LW_67 hts (fun _ h => h) ⟨Nat.le_of_ble_eq_true rfl, Nat.le_of_ble_eq_true rfl⟩) hK hP hD hS hA (fun _ => rfl) (ci := 3) (q0 := 0) rfl rfl rfl rfl rfl hl.1 (Nat.le_of_ble_eq_true rfl) d_LW_law_727 ⟨by show _ ≤ 601024; omega, by show _ ≤ 7293034; omega⟩ (fun u_3 H locs hu_3 hP hD hS => ?_)
  have hP : va_P D classes (lw_x q a cI cZ cJ fl sl tb np nt cp cc cb ch cm mp mc mb mh mm us ta tp tl cu bl pf sh (lw_out u_1.1 fo u_1.2.toInt64) ++ md_w r cI cZ u_2.2 xB xsh xcu xtp (nI td) xpa xsp xwh xhe xho xtk xto xwa xmn) H := hP
  have hD : va_D (fun z : Nat => s.heap.size ≤ z) (lw_x q a cI cZ cJ fl sl tb np nt cp cc cb ch cm mp mc mb mh mm us ta tp tl cu bl pf sh (lw_out u_1.1 fo u_1.2.toInt64) ++ md_w r cI cZ u_2.2 xB xsh xcu xtp (nI td) xpa xsp xwh xhe xho xtk xto xwa xmn) := hD
  refine lv_iload hx hb d_LW_law_730 (lv_at hl 1 rfl) ?_
  refine lv_icmp_eq (tgt := 737) hx hb d_LW_law_732 (by decide) (fun c_4 => ?_) (fun c_4 => absurd (by rw [hu_3]; exact hC.1) c_4)
  refine lv_iload hx hb d_LW_law_737 (lv_at hl 1 rfl) ?_
  refine lv_if_ne (tgt := 754) hx hb d_LW_law_739 (by decide) (fun c_5 => ?_) (fun c_5 => ?_)
  · refine lv_goto (tgt := 817) hx hb d_LW_law_754 (by decide) ?_
    refine W.widen (k := 27 + (j + 1)) (n := 3370 + 6 * (j + 1)) (by omega) (by omega) ?_
    exact kk fl sl tb np nt cp cc cb ch cm mp mc mb mh mm us ta tp tl cu bl pf sh u_2.2 xB xsh xcu xtp xpa xsp xwh xhe xho xtk xto xwa xmn (lw_out u_1.1 fo u_1.2.toInt64) td hR _ _ hP hD hS ls (lv_sub hl [2, 3, 4, 5, 6] rfl)
  · refine lv_aload_n hx hb d_LW_law_742 rfl (lv_at hl 5 rfl) ?_
    refine lv_iconst (v := 0) hx hb d_LW_law_743 (by decide) ?_
    refine va_lald hx hb hK hP 18 2 rfl rfl (show vp_in 0 1 from vp_in_nI (n := 0) (by omega) (by omega)) d_LW_law_744 ?_
    refine lv_iload hx hb d_LW_law_745 (lv_at hl 0 rfl) ?_
    refine lv_i2l (v := (u_2.1).toInt64) hx hb d_LW_law_747 rfl ?_
    refine W.lcmp hx hb d_LW_law_748 ?_
    refine lv_if_eq (tgt := 754) hx hb d_LW_law_749 (by decide) (fun c_6 => ?_) (fun c_6 => absurd (r_out (r0_byteAt (show sf_TC [0, 1] u_1 by rw [hu_1]; exact t_SF_byteAt _ _ _ _ _) c_5) (hC.2 (r0_byteAt (show sf_TC [0, 1] u_1 by rw [hu_1]; exact t_SF_byteAt _ _ _ _ _) c_5))) c_6)
    refine lv_goto (tgt := 817) hx hb d_LW_law_754 (by decide) ?_
    refine W.widen (k := 27 + (j + 1)) (n := 3370 + 6 * (j + 1)) (by omega) (by omega) ?_
    exact kk fl sl tb np nt cp cc cb ch cm mp mc mb mh mm us ta tp tl cu bl pf sh u_2.2 xB xsh xcu xtp xpa xsp xwh xhe xho xtk xto xwa xmn (lw_out u_1.1 fo u_1.2.toInt64) td hR _ _ hP hD hS ls (lv_sub hl [2, 3, 4, 5, 6] rfl)
set_option maxHeartbeats 2000000 in
set_option maxRecDepth 100000 in
/-- the law, case 11 -/
theorem law_11 {p : Program} {l : Launch} {e : Env} {s : State} {m : MethodId} {below : List Frame} {meth : Method} {c : Code} {b L : Nat} {xs : Nat → Int32} {D : va_G} {cI cZ cJ : ClassId} {q r : Nat → Nat} {a : Nat} {Q : State → Prop} (hL : L ≤ 2048) (C0 : lw_At p s m meth c b L xs) (hst : l.stackTraces = false) (hE : sf_EX (fun z : Nat => s.heap.size ≤ z) s s.heap) (hN : lw_NC s) (hK : va_K D classes (sf_tys cI cZ cJ) s) (j : Nat) (hj : 4 * j + 4 ≤ L) (fl : Nat → Int32) (sl : Nat → Int32) (tb : Nat → Int32) (np : Nat → Int32) (nt : Nat → Int32) (cp : Nat → Int32) (cc : Int32) (cb : Int32) (ch : Int32) (cm : Int32) (mp : Nat → Int32) (mc : Int32) (mb : Int32) (mh : Int32) (mm : Int32) (us : Nat → Int32) (ta : Nat → Int32) (tp : Nat → Int32) (tl : Int32) (cu : Int32) (bl : Int32) (pf : Int32) (sh : Int32) (xth : Int32) (xB : Nat → Int32) (xsh : Int32) (xcu : Int32) (xtp : Nat → Int32) (xpa : Nat → Int32) (xsp : Int32) (xwh : Int32) (xhe : Nat → Int32) (xho : Int32) (xtk : Nat → Int32) (xto : Nat → Int32) (xwa : Nat → Int32) (xmn : Int32) (fo : Nat → Int64) (td : Nat) (hR : r_R fl sl tb nt tp tl cu sh xB xsh xcu xtp td) (H : Heap) (locs : List Loc) (hP : va_P D classes (lw_x q a cI cZ cJ fl sl tb np nt cp cc cb ch cm mp mc mb mh mm us ta tp tl cu bl pf sh fo ++ md_w r cI cZ xth xB xsh xcu xtp (nI td) xpa xsp xwh xhe xho xtk xto xwa xmn) H) (hD : va_D (fun z : Nat => s.heap.size ≤ z) (lw_x q a cI cZ cJ fl sl tb np nt cp cc cb ch cm mp mc mb mh mm us ta tp tl cu bl pf sh fo ++ md_w r cI cZ xth xB xsh xcu xtp (nI td) xpa xsp xwh xhe xho xtk xto xwa xmn)) (hS : va_S (fun z : Nat => s.heap.size ≤ z) s.heap H locs) (ls : Array Slot) (hl : lv_has ls 7 [(0, .ref b), (1, .ref (q 0)), (2, .ref (r 0)), (3, .ref a), (4, .int (nI (4 * j)))])
    (kk : ∀ (fl : Nat → Int32) (sl : Nat → Int32) (tb : Nat → Int32) (np : Nat → Int32) (nt : Nat → Int32) (cp : Nat → Int32) (cc : Int32) (cb : Int32) (ch : Int32) (cm : Int32) (mp : Nat → Int32) (mc : Int32) (mb : Int32) (mh : Int32) (mm : Int32) (us : Nat → Int32) (ta : Nat → Int32) (tp : Nat → Int32) (tl : Int32) (cu : Int32) (bl : Int32) (pf : Int32) (sh : Int32) (xth : Int32) (xB : Nat → Int32) (xsh : Int32) (xcu : Int32) (xtp : Nat → Int32) (xpa : Nat → Int32) (xsp : Int32) (xwh : Int32) (xhe : Nat → Int32) (xho : Int32) (xtk : Nat → Int32) (xto : Nat → Int32) (xwa : Nat → Int32) (xmn : Int32) (fo : Nat → Int64) (td : Nat), r_R fl sl tb nt tp tl cu sh xB xsh xcu xtp td → ∀ (H : Heap) (locs : List Loc), va_P D classes (lw_x q a cI cZ cJ fl sl tb np nt cp cc cb ch cm mp mc mb mh mm us ta tp tl cu bl pf sh fo ++ md_w r cI cZ xth xB xsh xcu xtp (nI td) xpa xsp xwh xhe xho xtk xto xwa xmn) H → va_D (fun z : Nat => s.heap.size ≤ z) (lw_x q a cI cZ cJ fl sl tb np nt cp cc cb ch cm mp mc mb mh mm us ta tp tl cu bl pf sh fo ++ md_w r cI cZ xth xB xsh xcu xtp (nI td) xpa xsp xwh xhe xho xtk xto xwa xmn) → va_S (fun z : Nat => s.heap.size ≤ z) s.heap H locs → ∀ (ls : Array Slot), lv_has ls 7 [(0, .ref b), (1, .ref (q 0)), (2, .ref (r 0)), (3, .ref a), (4, .int (nI (4 * j)))] → W p l e room_1 s m #[Value.ref b] below meth c H locs (27 + (j + 1)) (3370 + 6 * (j + 1)) Q (F0 m 817 ls [])) : W p l e room_1 s m #[Value.ref b] below meth c H locs (27 + j) (3370 + 6 * j) Q (F0 m 757 ls []) := by
  obtain ⟨hx, hb, hr, hml, hown, hts0, hX, hbl, hlocks, hgv⟩ := id C0
  have hts : ∀ w ∈ sf_tb, w.before #[Value.ref b] s = true := fun w h => hts0 w (sf_sub w h)
  have hA : ∀ z : Nat, s.heap.size ≤ z → (fun z : Nat => s.heap.size ≤ z) z := fun _ h => h
  have hbA : ¬ (fun z : Nat => s.heap.size ≤ z) b := Nat.not_le.mpr hbl
  have htd : td ≤ 60 := hR.2.2.1.2.1
  refine lv_aload_n hx hb d_LW_law_757 rfl (lv_at hl 1 rfl) ?_
  refine lv_aload_n hx hb d_LW_law_758 rfl (lv_at hl 0 rfl) ?_
  refine lv_iload hx hb d_LW_law_759 (lv_at hl 4 rfl) ?_
  refine lv_iconst (v := 1) hx hb d_LW_law_761 (by decide) ?_
  refine lv_iadd hx hb d_LW_law_762 ?_
  rw [show (((nI (4 * j)) + 1) : Int32) = (nI ((4 * j) + 1)) from nI_add (4 * j) 1]
  refine va_sld hx hb hX hbl hbA hS (show vp_in (nI ((4 * j) + 1)) L from vp_in_nI (n := ((4 * j) + 1)) (by omega) (by omega)) d_LW_law_763 ?_
  rw [show ((nI ((4 * j) + 1)) : Int32).toNatClampNeg = ((4 * j) + 1) from nI_clamp (n := ((4 * j) + 1)) (by omega)]
  refine lv_aload_n hx hb d_LW_law_764 rfl (lv_at hl 0 rfl) ?_
  refine lv_iload hx hb d_LW_law_765 (lv_at hl 4 rfl) ?_
  refine lv_iconst (v := 2) hx hb d_LW_law_767 (by decide) ?_
  refine lv_iadd hx hb d_LW_law_768 ?_
  rw [show (((nI (4 * j)) + 2) : Int32) = (nI ((4 * j) + 2)) from nI_add (4 * j) 2]
  refine va_sld hx hb hX hbl hbA hS (show vp_in (nI ((4 * j) + 2)) L from vp_in_nI (n := ((4 * j) + 2)) (by omega) (by omega)) d_LW_law_769 ?_
  rw [show ((nI ((4 * j) + 2)) : Int32).toNatClampNeg = ((4 * j) + 2) from nI_clamp (n := ((4 * j) + 2)) (by omega)]
  refine lv_aload_n hx hb d_LW_law_770 rfl (lv_at hl 0 rfl) ?_
  refine lv_iload hx hb d_LW_law_771 (lv_at hl 4 rfl) ?_
  refine lv_iconst (v := 3) hx hb d_LW_law_773 (by decide) ?_
  refine lv_iadd hx hb d_LW_law_774 ?_
  rw [show (((nI (4 * j)) + 3) : Int32) = (nI ((4 * j) + 3)) from nI_add (4 * j) 3]
  refine va_sld hx hb hX hbl hbA hS (show vp_in (nI ((4 * j) + 3)) L from vp_in_nI (n := ((4 * j) + 3)) (by omega) (by omega)) d_LW_law_775 ?_
  rw [show ((nI ((4 * j) + 3)) : Int32).toNatClampNeg = ((4 * j) + 3) from nI_clamp (n := ((4 * j) + 3)) (by omega)]
  refine sf_ncallS (S := (Int32 × (Nat → Int32) × (Nat → Int32) × (Nat → Int32) × Int32)) (rest := []) ⟨hx, hb, hml, hown, hts⟩ (c_LW_poke l D cI cZ cJ hst q a fl sl tb np nt cp cc cb ch cm mp mc mb mh mm us ta tp tl cu bl pf sh fo (xs ((4 * j) + 1)) (xs ((4 * j) + 2)) (xs ((4 * j) + 3))) (sf_cwSW lk_LW_105 hts (fun _ h => h) ⟨Nat.le_of_ble_eq_true rfl, Nat.le_of_ble_eq_true rfl⟩) hK hE hN hP hD hS hA (fun _ => rfl) rfl rfl hl.1 (Nat.le_of_ble_eq_true rfl) d_LW_law_776 ⟨by show _ ≤ 601024; omega, by show _ ≤ 7293034; omega⟩ (fun u_1 H locs hu_1 hP hD hS => ?_)
  have hP : va_P D classes (lw_x q a cI cZ cJ u_1.2.1 u_1.2.2.1 u_1.2.2.2.1 np nt cp cc cb ch cm mp mc mb mh mm us ta tp tl cu bl pf u_1.2.2.2.2 fo ++ md_w r cI cZ xth xB xsh xcu xtp (nI td) xpa xsp xwh xhe xho xtk xto xwa xmn) H := hP
  have hD : va_D (fun z : Nat => s.heap.size ≤ z) (lw_x q a cI cZ cJ u_1.2.1 u_1.2.2.1 u_1.2.2.2.1 np nt cp cc cb ch cm mp mc mb mh mm us ta tp tl cu bl pf u_1.2.2.2.2 fo ++ md_w r cI cZ xth xB xsh xcu xtp (nI td) xpa xsp xwh xhe xho xtk xto xwa xmn) := hD
  refine lv_istore (lv' := [(5, .int (lw_c 1 0 2 0 u_1.1)), (0, .ref b), (1, .ref (q 0)), (2, .ref (r 0)), (3, .ref a), (4, .int (nI (4 * j)))]) hx hb d_LW_law_779 hl (by decide) rfl (fun ls hl => ?_)
  refine lv_aload_n hx hb d_LW_law_781 rfl (lv_at hl 3 rfl) ?_
  refine lv_aload_n hx hb d_LW_law_782 rfl (lv_at hl 1 rfl) ?_
  refine lv_iload hx hb d_LW_law_783 (lv_at hl 5 rfl) ?_
  refine lv_iconst (v := 1) hx hb d_LW_law_785 (by decide) ?_
  refine lv_iadd hx hb d_LW_law_786 ?_
  rw [show (((nI (4 * j)) + 1) : Int32) = (nI ((4 * j) + 1)) from nI_add (4 * j) 1]
  refine va_sld hx hb hX hbl hbA hS (show vp_in (nI ((4 * j) + 1)) L from vp_in_nI (n := ((4 * j) + 1)) (by omega) (by omega)) d_LW_law_787 ?_
  rw [show ((nI ((4 * j) + 1)) : Int32).toNatClampNeg = ((4 * j) + 1) from nI_clamp (n := ((4 * j) + 1)) (by omega)]
  refine lv_aload_n hx hb d_LW_law_788 rfl (lv_at hl 1 rfl) ?_
  refine lv_iload hx hb d_LW_law_789 (lv_at hl 5 rfl) ?_
  refine lv_iconst (v := 2) hx hb d_LW_law_791 (by decide) ?_
  refine lv_iadd hx hb d_LW_law_792 ?_
  rw [show (((nI (4 * j)) + 2) : Int32) = (nI ((4 * j) + 2)) from nI_add (4 * j) 2]
  refine va_sld hx hb hX hbl hbA hS (show vp_in (nI ((4 * j) + 2)) L from vp_in_nI (n := ((4 * j) + 2)) (by omega) (by omega)) d_LW_law_793 ?_
  rw [show ((nI ((4 * j) + 2)) : Int32).toNatClampNeg = ((4 * j) + 2) from nI_clamp (n := ((4 * j) + 2)) (by omega)]
  refine lv_aload_n hx hb d_LW_law_794 rfl (lv_at hl 1 rfl) ?_
  refine lv_iload hx hb d_LW_law_795 (lv_at hl 5 rfl) ?_
  refine lv_iconst (v := 3) hx hb d_LW_law_797 (by decide) ?_
  refine lv_iadd hx hb d_LW_law_798 ?_
  rw [show (((nI (4 * j)) + 3) : Int32) = (nI ((4 * j) + 3)) from nI_add (4 * j) 3]
  refine va_sld hx hb hX hbl hbA hS (show vp_in (nI ((4 * j) + 3)) L from vp_in_nI (n := ((4 * j) + 3)) (by omega) (by omega)) d_LW_law_799 ?_
  rw [show ((nI ((4 * j) + 3)) : Int32).toNatClampNeg = ((4 * j) + 3) from nI_clamp (n := ((4 * j) + 3)) (by omega)]
  refine sf_callVS (S := (Int32 × (Nat → Int32) × Int32)) (rest := []) ⟨hx, hb, hml, hown, hts⟩ (c_MD_poke l D cI cZ cJ r xth xB xsh xcu xtp (nI td) xpa xsp xwh xhe xho xtk xto xwa xmn (xs ((4 * j) + 1)) (xs ((4 * j) + 2)) (xs ((4 * j) + 3))) (sf_cwV lk_LW_108 hts (fun _ h => h) ⟨Nat.le_of_ble_eq_true rfl, Nat.le_of_ble_eq_true rfl⟩) hK hP hD hS hA (fun _ => rfl) (ci := 3) (q0 := 0) rfl rfl rfl rfl rfl hl.1 (Nat.le_of_ble_eq_true rfl) d_LW_law_800 ⟨by show _ ≤ 601024; omega, by show _ ≤ 7293034; omega⟩ (fun u_2 H locs hu_2 hP hD hS => ?_)
  obtain ⟨hC, hR⟩ := r_k_poke hR hu_1 hu_2
  have hP : va_P D classes (lw_x q a cI cZ cJ u_1.2.1 u_1.2.2.1 u_1.2.2.2.1 np nt cp cc cb ch cm mp mc mb mh mm us ta tp tl cu bl pf u_1.2.2.2.2 fo ++ md_w r cI cZ u_2.1 u_2.2.1 u_2.2.2 xcu xtp (nI td) xpa xsp xwh xhe xho xtk xto xwa xmn) H := hP
  have hD : va_D (fun z : Nat => s.heap.size ≤ z) (lw_x q a cI cZ cJ u_1.2.1 u_1.2.2.1 u_1.2.2.2.1 np nt cp cc cb ch cm mp mc mb mh mm us ta tp tl cu bl pf u_1.2.2.2.2 fo ++ md_w r cI cZ u_2.1 u_2.2.1 u_2.2.2 xcu xtp (nI td) xpa xsp xwh xhe xho xtk xto xwa xmn) := hD
  refine lv_aload_n hx hb d_LW_law_803 rfl (lv_at hl 3 rfl) ?_
  refine sf_callVS (S := Int32) (rest := []) ⟨hx, hb, hml, hown, hts⟩ (c_MD_thrown l D cI cZ cJ r u_2.1 u_2.2.1 u_2.2.2 xcu xtp (nI td) xpa xsp xwh xhe xho xtk xto xwa xmn) (sf_cwV lk_LW_67 hts (fun _ h => h) ⟨Nat.le_of_ble_eq_true rfl, Nat.le_of_ble_eq_true rfl⟩) hK hP hD hS hA (fun _ => rfl) (ci := 3) (q0 := 0) rfl rfl rfl rfl rfl hl.1 (Nat.le_of_ble_eq_true rfl) d_LW_law_804 ⟨by show _ ≤ 601024; omega, by show _ ≤ 7293034; omega⟩ (fun u_3 H locs hu_3 hP hD hS => ?_)
  have hP : va_P D classes (lw_x q a cI cZ cJ u_1.2.1 u_1.2.2.1 u_1.2.2.2.1 np nt cp cc cb ch cm mp mc mb mh mm us ta tp tl cu bl pf u_1.2.2.2.2 fo ++ md_w r cI cZ u_2.1 u_2.2.1 u_2.2.2 xcu xtp (nI td) xpa xsp xwh xhe xho xtk xto xwa xmn) H := hP
  have hD : va_D (fun z : Nat => s.heap.size ≤ z) (lw_x q a cI cZ cJ u_1.2.1 u_1.2.2.1 u_1.2.2.2.1 np nt cp cc cb ch cm mp mc mb mh mm us ta tp tl cu bl pf u_1.2.2.2.2 fo ++ md_w r cI cZ u_2.1 u_2.2.1 u_2.2.2 xcu xtp (nI td) xpa xsp xwh xhe xho xtk xto xwa xmn) := hD
  refine lv_iload hx hb d_LW_law_807 (lv_at hl 0 rfl) ?_
  refine lv_icmp_eq (tgt := 814) hx hb d_LW_law_809 (by decide) (fun c_4 => ?_) (fun c_4 => absurd (by rw [hu_3]; exact hC) c_4)
  refine lv_goto (tgt := 817) hx hb d_LW_law_814 (by decide) ?_
  refine W.widen (k := 27 + (j + 1)) (n := 3370 + 6 * (j + 1)) (by omega) (by omega) ?_
  exact kk u_1.2.1 u_1.2.2.1 u_1.2.2.2.1 np nt cp cc cb ch cm mp mc mb mh mm us ta tp tl cu bl pf u_1.2.2.2.2 u_2.1 u_2.2.1 u_2.2.2 xcu xtp xpa xsp xwh xhe xho xtk xto xwa xmn fo td hR _ _ hP hD hS ls (lv_sub hl [1, 2, 3, 4, 5] rfl)
