set_option maxHeartbeats 2000000 in
set_option maxRecDepth 100000 in
/-- the law, case 0 -/
theorem law_0 {p : Program} {l : Launch} {e : Env} {s : State} {m : MethodId} {below : List Frame} {meth : Method} {c : Code} {b L : Nat} {xs : Nat → Int32} {D : va_G} {cI cZ cJ : ClassId} {q r : Nat → Nat} {a : Nat} {Q : State → Prop} (hL : L ≤ 2048) (C0 : lw_At p s m meth c b L xs) (hst : l.stackTraces = false) (hE : sf_EX (fun z : Nat => s.heap.size ≤ z) s s.heap) (hN : lw_NC s) (hK : va_K D classes (sf_tys cI cZ cJ) s) (j : Nat) (hj : 4 * j + 4 ≤ L) (fl : Nat → Int32) (sl : Nat → Int32) (tb : Nat → Int32) (np : Nat → Int32) (nt : Nat → Int32) (cp : Nat → Int32) (cc : Int32) (cb : Int32) (ch : Int32) (cm : Int32) (mp : Nat → Int32) (mc : Int32) (mb : Int32) (mh : Int32) (mm : Int32) (us : Nat → Int32) (ta : Nat → Int32) (tp : Nat → Int32) (tl : Int32) (cu : Int32) (bl : Int32) (pf : Int32) (sh : Int32) (xth : Int32) (xB : Nat → Int32) (xsh : Int32) (xcu : Int32) (xtp : Nat → Int32) (xpa : Nat → Int32) (xsp : Int32) (xwh : Int32) (xhe : Nat → Int32) (xho : Int32) (xtk : Nat → Int32) (xto : Nat → Int32) (xwa : Nat → Int32) (xmn : Int32) (fo : Nat → Int64) (td : Nat) (htd : td ≤ 60) (H : Heap) (locs : List Loc) (hP : va_P D classes (lw_x q a cI cZ cJ fl sl tb np nt cp cc cb ch cm mp mc mb mh mm us ta tp tl cu bl pf sh fo ++ md_w r cI cZ xth xB xsh xcu xtp (nI td) xpa xsp xwh xhe xho xtk xto xwa xmn) H) (hD : va_D (fun z : Nat => s.heap.size ≤ z) (lw_x q a cI cZ cJ fl sl tb np nt cp cc cb ch cm mp mc mb mh mm us ta tp tl cu bl pf sh fo ++ md_w r cI cZ xth xB xsh xcu xtp (nI td) xpa xsp xwh xhe xho xtk xto xwa xmn)) (hS : va_S (fun z : Nat => s.heap.size ≤ z) s.heap H locs) (ls : Array Slot) (hl : lv_has ls 7 [(0, .ref b), (1, .ref (q 0)), (2, .ref (r 0)), (3, .ref a), (4, .int (nI (4 * j)))])
    (kk : ∀ (fl : Nat → Int32) (sl : Nat → Int32) (tb : Nat → Int32) (np : Nat → Int32) (nt : Nat → Int32) (cp : Nat → Int32) (cc : Int32) (cb : Int32) (ch : Int32) (cm : Int32) (mp : Nat → Int32) (mc : Int32) (mb : Int32) (mh : Int32) (mm : Int32) (us : Nat → Int32) (ta : Nat → Int32) (tp : Nat → Int32) (tl : Int32) (cu : Int32) (bl : Int32) (pf : Int32) (sh : Int32) (xth : Int32) (xB : Nat → Int32) (xsh : Int32) (xcu : Int32) (xtp : Nat → Int32) (xpa : Nat → Int32) (xsp : Int32) (xwh : Int32) (xhe : Nat → Int32) (xho : Int32) (xtk : Nat → Int32) (xto : Nat → Int32) (xwa : Nat → Int32) (xmn : Int32) (fo : Nat → Int64) (td : Nat), td ≤ 60 → ∀ (H : Heap) (locs : List Loc), va_P D classes (lw_x q a cI cZ cJ fl sl tb np nt cp cc cb ch cm mp mc mb mh mm us ta tp tl cu bl pf sh fo ++ md_w r cI cZ xth xB xsh xcu xtp (nI td) xpa xsp xwh xhe xho xtk xto xwa xmn) H → va_D (fun z : Nat => s.heap.size ≤ z) (lw_x q a cI cZ cJ fl sl tb np nt cp cc cb ch cm mp mc mb mh mm us ta tp tl cu bl pf sh fo ++ md_w r cI cZ xth xB xsh xcu xtp (nI td) xpa xsp xwh xhe xho xtk xto xwa xmn) → va_S (fun z : Nat => s.heap.size ≤ z) s.heap H locs → ∀ (ls : Array Slot), lv_has ls 7 [(0, .ref b), (1, .ref (q 0)), (2, .ref (r 0)), (3, .ref a), (4, .int (nI (4 * j)))] → W p l e room_1 s m #[Value.ref b] below meth c H locs (27 + (j + 1)) (3370 + 6 * (j + 1)) Q (F0 m 554 ls [])) : W p l e room_1 s m #[Value.ref b] below meth c H locs (27 + j) (3370 + 6 * j) Q (F0 m 100 ls []) := by
  obtain ⟨hx, hb, hr, hml, hown, hts0, hX, hbl, hlocks, hgv⟩ := id C0
  have hts : ∀ w ∈ sf_tb, w.before #[Value.ref b] s = true := fun w h => hts0 w (sf_sub w h)
  have hA : ∀ z : Nat, s.heap.size ≤ z → (fun z : Nat => s.heap.size ≤ z) z := fun _ h => h
  have hbA : ¬ (fun z : Nat => s.heap.size ≤ z) b := Nat.not_le.mpr hbl
  refine lv_aload_n hx hb d_LW_law_100 rfl (lv_at hl 1 rfl) ?_
  refine lv_aload_n hx hb d_LW_law_101 rfl (lv_at hl 0 rfl) ?_
  refine lv_iload hx hb d_LW_law_102 (lv_at hl 4 rfl) ?_
  refine lv_iconst (v := 1) hx hb d_LW_law_104 (by decide) ?_
  refine lv_iadd hx hb d_LW_law_105 ?_
  rw [show (((nI (4 * j)) + 1) : Int32) = (nI ((4 * j) + 1)) from nI_add (4 * j) 1]
  refine va_sld hx hb hX hbl hbA hS (show vp_in (nI ((4 * j) + 1)) L from vp_in_nI (n := ((4 * j) + 1)) (by omega) (by omega)) d_LW_law_106 ?_
  rw [show ((nI ((4 * j) + 1)) : Int32).toNatClampNeg = ((4 * j) + 1) from nI_clamp (n := ((4 * j) + 1)) (by omega)]
  refine lv_i2l (v := ((xs ((4 * j) + 1))).toInt64) hx hb d_LW_law_107 rfl ?_
  refine lv_bipush (v := 32) hx hb d_LW_law_108 (by decide) ?_
  refine lv_lshl (v := ((((xs ((4 * j) + 1))).toInt64) <<< ((32 : Int32).toInt64 &&& 63))) hx hb d_LW_law_110 rfl ?_
  refine lv_aload_n hx hb d_LW_law_111 rfl (lv_at hl 0 rfl) ?_
  refine lv_iload hx hb d_LW_law_112 (lv_at hl 4 rfl) ?_
  refine lv_iconst (v := 2) hx hb d_LW_law_114 (by decide) ?_
  refine lv_iadd hx hb d_LW_law_115 ?_
  rw [show (((nI (4 * j)) + 2) : Int32) = (nI ((4 * j) + 2)) from nI_add (4 * j) 2]
  refine va_sld hx hb hX hbl hbA hS (show vp_in (nI ((4 * j) + 2)) L from vp_in_nI (n := ((4 * j) + 2)) (by omega) (by omega)) d_LW_law_116 ?_
  rw [show ((nI ((4 * j) + 2)) : Int32).toNatClampNeg = ((4 * j) + 2) from nI_clamp (n := ((4 * j) + 2)) (by omega)]
  refine lv_i2l (v := ((xs ((4 * j) + 2))).toInt64) hx hb d_LW_law_117 rfl ?_
  refine lv_ldc2 (v := 4294967295) hx hb hown (hts _ wd_765) d_LW_law_118 ?_
  refine lv_land hx hb d_LW_law_121 ?_
  refine lv_lor hx hb d_LW_law_122 ?_
  refine lv_aload_n hx hb d_LW_law_123 rfl (lv_at hl 0 rfl) ?_
  refine lv_iload hx hb d_LW_law_124 (lv_at hl 4 rfl) ?_
  refine lv_iconst (v := 3) hx hb d_LW_law_126 (by decide) ?_
  refine lv_iadd hx hb d_LW_law_127 ?_
  rw [show (((nI (4 * j)) + 3) : Int32) = (nI ((4 * j) + 3)) from nI_add (4 * j) 3]
  refine va_sld hx hb hX hbl hbA hS (show vp_in (nI ((4 * j) + 3)) L from vp_in_nI (n := ((4 * j) + 3)) (by omega) (by omega)) d_LW_law_128 ?_
  rw [show ((nI ((4 * j) + 3)) : Int32).toNatClampNeg = ((4 * j) + 3) from nI_clamp (n := ((4 * j) + 3)) (by omega)]
  refine lv_aload_n hx hb d_LW_law_129 rfl (lv_at hl 3 rfl) ?_
  refine sf_ncallS (S := (Int32 × Int32 × (Nat → Int32) × Int32)) (rest := []) ⟨hx, hb, hml, hown, hts⟩ (c_LW_feed l D cI cZ cJ hst q a fl sl tb np nt cp cc cb ch cm mp mc mb mh mm us ta tp tl cu bl pf sh fo (((((xs ((4 * j) + 1))).toInt64) <<< ((32 : Int32).toInt64 &&& 63)) ||| ((((xs ((4 * j) + 2))).toInt64) &&& 4294967295)) (xs ((4 * j) + 3))) (sf_cwSW lk_LW_61 hts (fun _ h => h) ⟨Nat.le_of_ble_eq_true rfl, Nat.le_of_ble_eq_true rfl⟩) hK hE hN hP hD hS hA (fun _ => rfl) rfl rfl hl.1 (Nat.le_of_ble_eq_true rfl) d_LW_law_130 ⟨by show _ ≤ 601024; omega, by show _ ≤ 7293034; omega⟩ (fun u_1 H locs hu_1 hP hD hS => ?_)
  have hP : va_P D classes (lw_x q a cI cZ cJ fl sl tb np nt cp cc cb ch cm mp mc mb mh mm us ta u_1.2.2.1 u_1.2.2.2 cu bl pf sh (lw_out u_1.1 fo u_1.2.1.toInt64) ++ md_w r cI cZ xth xB xsh xcu xtp (nI td) xpa xsp xwh xhe xho xtk xto xwa xmn) H := hP
  have hD : va_D (fun z : Nat => s.heap.size ≤ z) (lw_x q a cI cZ cJ fl sl tb np nt cp cc cb ch cm mp mc mb mh mm us ta u_1.2.2.1 u_1.2.2.2 cu bl pf sh (lw_out u_1.1 fo u_1.2.1.toInt64) ++ md_w r cI cZ xth xB xsh xcu xtp (nI td) xpa xsp xwh xhe xho xtk xto xwa xmn) := hD
  refine lv_istore (lv' := [(5, .int (lw_c 0 0 1 2 u_1.1)), (0, .ref b), (1, .ref (q 0)), (2, .ref (r 0)), (3, .ref a), (4, .int (nI (4 * j)))]) hx hb d_LW_law_133 hl (by decide) rfl (fun ls hl => ?_)
  refine lv_aload_n hx hb d_LW_law_135 rfl (lv_at hl 3 rfl) ?_
  refine lv_aload_n hx hb d_LW_law_136 rfl (lv_at hl 1 rfl) ?_
  refine lv_iload hx hb d_LW_law_137 (lv_at hl 5 rfl) ?_
  refine lv_iconst (v := 1) hx hb d_LW_law_139 (by decide) ?_
  refine lv_iadd hx hb d_LW_law_140 ?_
  rw [show (((nI (4 * j)) + 1) : Int32) = (nI ((4 * j) + 1)) from nI_add (4 * j) 1]
  refine va_sld hx hb hX hbl hbA hS (show vp_in (nI ((4 * j) + 1)) L from vp_in_nI (n := ((4 * j) + 1)) (by omega) (by omega)) d_LW_law_141 ?_
  rw [show ((nI ((4 * j) + 1)) : Int32).toNatClampNeg = ((4 * j) + 1) from nI_clamp (n := ((4 * j) + 1)) (by omega)]
  refine lv_i2l (v := ((xs ((4 * j) + 1))).toInt64) hx hb d_LW_law_142 rfl ?_
  refine lv_bipush (v := 32) hx hb d_LW_law_143 (by decide) ?_
  refine lv_lshl (v := ((((xs ((4 * j) + 1))).toInt64) <<< ((32 : Int32).toInt64 &&& 63))) hx hb d_LW_law_145 rfl ?_
  refine lv_aload_n hx hb d_LW_law_146 rfl (lv_at hl 1 rfl) ?_
  refine lv_iload hx hb d_LW_law_147 (lv_at hl 5 rfl) ?_
  refine lv_iconst (v := 2) hx hb d_LW_law_149 (by decide) ?_
  refine lv_iadd hx hb d_LW_law_150 ?_
  rw [show (((nI (4 * j)) + 2) : Int32) = (nI ((4 * j) + 2)) from nI_add (4 * j) 2]
  refine va_sld hx hb hX hbl hbA hS (show vp_in (nI ((4 * j) + 2)) L from vp_in_nI (n := ((4 * j) + 2)) (by omega) (by omega)) d_LW_law_151 ?_
  rw [show ((nI ((4 * j) + 2)) : Int32).toNatClampNeg = ((4 * j) + 2) from nI_clamp (n := ((4 * j) + 2)) (by omega)]
  refine lv_i2l (v := ((xs ((4 * j) + 2))).toInt64) hx hb d_LW_law_152 rfl ?_
  refine lv_ldc2 (v := 4294967295) hx hb hown (hts _ wd_765) d_LW_law_153 ?_
  refine lv_land hx hb d_LW_law_156 ?_
  refine lv_lor hx hb d_LW_law_157 ?_
  refine lv_aload_n hx hb d_LW_law_158 rfl (lv_at hl 1 rfl) ?_
  refine lv_iload hx hb d_LW_law_159 (lv_at hl 5 rfl) ?_
  refine lv_iconst (v := 3) hx hb d_LW_law_161 (by decide) ?_
  refine lv_iadd hx hb d_LW_law_162 ?_
  rw [show (((nI (4 * j)) + 3) : Int32) = (nI ((4 * j) + 3)) from nI_add (4 * j) 3]
  refine va_sld hx hb hX hbl hbA hS (show vp_in (nI ((4 * j) + 3)) L from vp_in_nI (n := ((4 * j) + 3)) (by omega) (by omega)) d_LW_law_163 ?_
  rw [show ((nI ((4 * j) + 3)) : Int32).toNatClampNeg = ((4 * j) + 3) from nI_clamp (n := ((4 * j) + 3)) (by omega)]
  refine sf_callVS (S := (Int32 × Int32 × (Nat → Int32) × Int32)) (rest := []) ⟨hx, hb, hml, hown, hts⟩ (c_MD_feed l D cI cZ cJ r xth xB xsh xcu xtp xpa xsp xwh xhe xho xtk xto xwa xmn td (((((xs ((4 * j) + 1))).toInt64) <<< ((32 : Int32).toInt64 &&& 63)) ||| ((((xs ((4 * j) + 2))).toInt64) &&& 4294967295)) (xs ((4 * j) + 3)) (by omega)) (sf_cwV lk_LW_66 hts (fun _ h => h) ⟨Nat.le_of_ble_eq_true rfl, Nat.le_of_ble_eq_true rfl⟩) hK hP hD hS hA (fun _ => rfl) (ci := 3) (q0 := 0) rfl rfl rfl rfl rfl hl.1 (Nat.le_of_ble_eq_true rfl) d_LW_law_164 ⟨by show _ ≤ 601024; omega, by show _ ≤ 7293034; omega⟩ (fun u_2 H locs hu_2 hP hD hS => ?_)
  have hP : va_P D classes (lw_x q a cI cZ cJ fl sl tb np nt cp cc cb ch cm mp mc mb mh mm us ta u_1.2.2.1 u_1.2.2.2 cu bl pf sh (lw_out u_1.1 fo u_1.2.1.toInt64) ++ md_w r cI cZ u_2.2.1 xB xsh xcu u_2.2.2.1 u_2.2.2.2 xpa xsp xwh xhe xho xtk xto xwa xmn) H := hP
  have hD : va_D (fun z : Nat => s.heap.size ≤ z) (lw_x q a cI cZ cJ fl sl tb np nt cp cc cb ch cm mp mc mb mh mm us ta u_1.2.2.1 u_1.2.2.2 cu bl pf sh (lw_out u_1.1 fo u_1.2.1.toInt64) ++ md_w r cI cZ u_2.2.1 xB xsh xcu u_2.2.2.1 u_2.2.2.2 xpa xsp xwh xhe xho xtk xto xwa xmn) := hD
  obtain ⟨td1, htd1, etd1⟩ := md_td_feed (by omega) hu_2
  rw [etd1] at hP hD
  have hP : va_P D classes (lw_x q a cI cZ cJ fl sl tb np nt cp cc cb ch cm mp mc mb mh mm us ta u_1.2.2.1 u_1.2.2.2 cu bl pf sh (lw_out u_1.1 fo u_1.2.1.toInt64) ++ md_w r cI cZ u_2.2.1 xB xsh xcu u_2.2.2.1 (nI td1) xpa xsp xwh xhe xho xtk xto xwa xmn) H := hP
  have hD : va_D (fun z : Nat => s.heap.size ≤ z) (lw_x q a cI cZ cJ fl sl tb np nt cp cc cb ch cm mp mc mb mh mm us ta u_1.2.2.1 u_1.2.2.2 cu bl pf sh (lw_out u_1.1 fo u_1.2.1.toInt64) ++ md_w r cI cZ u_2.2.1 xB xsh xcu u_2.2.2.1 (nI td1) xpa xsp xwh xhe xho xtk xto xwa xmn) := hD
  refine lv_istore (lv' := [(6, .int u_2.1), (5, .int (lw_c 0 0 1 2 u_1.1)), (0, .ref b), (1, .ref (q 0)), (2, .ref (r 0)), (3, .ref a), (4, .int (nI (4 * j)))]) hx hb d_LW_law_167 hl (by decide) rfl (fun ls hl => ?_)
  refine lv_goto (tgt := 554) hx hb d_LW_law_169 (by decide) ?_
  refine W.widen (k := 27 + (j + 1)) (n := 3370 + 6 * (j + 1)) (by omega) (by omega) ?_
  exact kk fl sl tb np nt cp cc cb ch cm mp mc mb mh mm us ta u_1.2.2.1 u_1.2.2.2 cu bl pf sh u_2.2.1 xB xsh xcu u_2.2.2.1 xpa xsp xwh xhe xho xtk xto xwa xmn (lw_out u_1.1 fo u_1.2.1.toInt64) td1 (by omega) _ _ hP hD hS ls (lv_sub hl [2, 3, 4, 5, 6] rfl)
set_option maxHeartbeats 2000000 in
set_option maxRecDepth 100000 in
/-- the law, case 1 -/
theorem law_1 {p : Program} {l : Launch} {e : Env} {s : State} {m : MethodId} {below : List Frame} {meth : Method} {c : Code} {b L : Nat} {xs : Nat → Int32} {D : va_G} {cI cZ cJ : ClassId} {q r : Nat → Nat} {a : Nat} {Q : State → Prop} (hL : L ≤ 2048) (C0 : lw_At p s m meth c b L xs) (hst : l.stackTraces = false) (hE : sf_EX (fun z : Nat => s.heap.size ≤ z) s s.heap) (hN : lw_NC s) (hK : va_K D classes (sf_tys cI cZ cJ) s) (j : Nat) (hj : 4 * j + 4 ≤ L) (fl : Nat → Int32) (sl : Nat → Int32) (tb : Nat → Int32) (np : Nat → Int32) (nt : Nat → Int32) (cp : Nat → Int32) (cc : Int32) (cb : Int32) (ch : Int32) (cm : Int32) (mp : Nat → Int32) (mc : Int32) (mb : Int32) (mh : Int32) (mm : Int32) (us : Nat → Int32) (ta : Nat → Int32) (tp : Nat → Int32) (tl : Int32) (cu : Int32) (bl : Int32) (pf : Int32) (sh : Int32) (xth : Int32) (xB : Nat → Int32) (xsh : Int32) (xcu : Int32) (xtp : Nat → Int32) (xpa : Nat → Int32) (xsp : Int32) (xwh : Int32) (xhe : Nat → Int32) (xho : Int32) (xtk : Nat → Int32) (xto : Nat → Int32) (xwa : Nat → Int32) (xmn : Int32) (fo : Nat → Int64) (td : Nat) (htd : td ≤ 60) (H : Heap) (locs : List Loc) (hP : va_P D classes (lw_x q a cI cZ cJ fl sl tb np nt cp cc cb ch cm mp mc mb mh mm us ta tp tl cu bl pf sh fo ++ md_w r cI cZ xth xB xsh xcu xtp (nI td) xpa xsp xwh xhe xho xtk xto xwa xmn) H) (hD : va_D (fun z : Nat => s.heap.size ≤ z) (lw_x q a cI cZ cJ fl sl tb np nt cp cc cb ch cm mp mc mb mh mm us ta tp tl cu bl pf sh fo ++ md_w r cI cZ xth xB xsh xcu xtp (nI td) xpa xsp xwh xhe xho xtk xto xwa xmn)) (hS : va_S (fun z : Nat => s.heap.size ≤ z) s.heap H locs) (ls : Array Slot) (hl : lv_has ls 7 [(0, .ref b), (1, .ref (q 0)), (2, .ref (r 0)), (3, .ref a), (4, .int (nI (4 * j)))])
    (kk : ∀ (fl : Nat → Int32) (sl : Nat → Int32) (tb : Nat → Int32) (np : Nat → Int32) (nt : Nat → Int32) (cp : Nat → Int32) (cc : Int32) (cb : Int32) (ch : Int32) (cm : Int32) (mp : Nat → Int32) (mc : Int32) (mb : Int32) (mh : Int32) (mm : Int32) (us : Nat → Int32) (ta : Nat → Int32) (tp : Nat → Int32) (tl : Int32) (cu : Int32) (bl : Int32) (pf : Int32) (sh : Int32) (xth : Int32) (xB : Nat → Int32) (xsh : Int32) (xcu : Int32) (xtp : Nat → Int32) (xpa : Nat → Int32) (xsp : Int32) (xwh : Int32) (xhe : Nat → Int32) (xho : Int32) (xtk : Nat → Int32) (xto : Nat → Int32) (xwa : Nat → Int32) (xmn : Int32) (fo : Nat → Int64) (td : Nat), td ≤ 60 → ∀ (H : Heap) (locs : List Loc), va_P D classes (lw_x q a cI cZ cJ fl sl tb np nt cp cc cb ch cm mp mc mb mh mm us ta tp tl cu bl pf sh fo ++ md_w r cI cZ xth xB xsh xcu xtp (nI td) xpa xsp xwh xhe xho xtk xto xwa xmn) H → va_D (fun z : Nat => s.heap.size ≤ z) (lw_x q a cI cZ cJ fl sl tb np nt cp cc cb ch cm mp mc mb mh mm us ta tp tl cu bl pf sh fo ++ md_w r cI cZ xth xB xsh xcu xtp (nI td) xpa xsp xwh xhe xho xtk xto xwa xmn) → va_S (fun z : Nat => s.heap.size ≤ z) s.heap H locs → ∀ (ls : Array Slot), lv_has ls 7 [(0, .ref b), (1, .ref (q 0)), (2, .ref (r 0)), (3, .ref a), (4, .int (nI (4 * j)))] → W p l e room_1 s m #[Value.ref b] below meth c H locs (27 + (j + 1)) (3370 + 6 * (j + 1)) Q (F0 m 554 ls [])) : W p l e room_1 s m #[Value.ref b] below meth c H locs (27 + j) (3370 + 6 * j) Q (F0 m 172 ls []) := by
  obtain ⟨hx, hb, hr, hml, hown, hts0, hX, hbl, hlocks, hgv⟩ := id C0
  have hts : ∀ w ∈ sf_tb, w.before #[Value.ref b] s = true := fun w h => hts0 w (sf_sub w h)
  have hA : ∀ z : Nat, s.heap.size ≤ z → (fun z : Nat => s.heap.size ≤ z) z := fun _ h => h
  have hbA : ¬ (fun z : Nat => s.heap.size ≤ z) b := Nat.not_le.mpr hbl
  refine lv_aload_n hx hb d_LW_law_172 rfl (lv_at hl 1 rfl) ?_
  refine lv_aload_n hx hb d_LW_law_173 rfl (lv_at hl 0 rfl) ?_
  refine lv_iload hx hb d_LW_law_174 (lv_at hl 4 rfl) ?_
  refine lv_iconst (v := 1) hx hb d_LW_law_176 (by decide) ?_
  refine lv_iadd hx hb d_LW_law_177 ?_
  rw [show (((nI (4 * j)) + 1) : Int32) = (nI ((4 * j) + 1)) from nI_add (4 * j) 1]
  refine va_sld hx hb hX hbl hbA hS (show vp_in (nI ((4 * j) + 1)) L from vp_in_nI (n := ((4 * j) + 1)) (by omega) (by omega)) d_LW_law_178 ?_
  rw [show ((nI ((4 * j) + 1)) : Int32).toNatClampNeg = ((4 * j) + 1) from nI_clamp (n := ((4 * j) + 1)) (by omega)]
  refine lv_aload_n hx hb d_LW_law_179 rfl (lv_at hl 0 rfl) ?_
  refine lv_iload hx hb d_LW_law_180 (lv_at hl 4 rfl) ?_
  refine lv_iconst (v := 2) hx hb d_LW_law_182 (by decide) ?_
  refine lv_iadd hx hb d_LW_law_183 ?_
  rw [show (((nI (4 * j)) + 2) : Int32) = (nI ((4 * j) + 2)) from nI_add (4 * j) 2]
  refine va_sld hx hb hX hbl hbA hS (show vp_in (nI ((4 * j) + 2)) L from vp_in_nI (n := ((4 * j) + 2)) (by omega) (by omega)) d_LW_law_184 ?_
  rw [show ((nI ((4 * j) + 2)) : Int32).toNatClampNeg = ((4 * j) + 2) from nI_clamp (n := ((4 * j) + 2)) (by omega)]
  refine lv_aload_n hx hb d_LW_law_185 rfl (lv_at hl 3 rfl) ?_
  refine sf_ncallS (S := (Int32 × Int32 × (Nat → Int32) × (Nat → Int32) × (Nat → Int32) × (Nat → Int32) × (Nat → Int32) × (Nat → Int32) × Int32 × Int32 × Int32 × Int32 × (Nat → Int32) × Int32 × Int32 × Int32 × Int32 × Int32)) (rest := []) ⟨hx, hb, hml, hown, hts⟩ (c_LW_write l D cI cZ cJ hst q a fl sl tb np nt cp cc cb ch cm mp mc mb mh mm us ta tp tl cu bl pf sh fo (xs ((4 * j) + 1)) (xs ((4 * j) + 2))) (sf_cwSW lk_LW_67 hts (fun _ h => h) ⟨Nat.le_of_ble_eq_true rfl, Nat.le_of_ble_eq_true rfl⟩) hK hE hN hP hD hS hA (fun _ => rfl) rfl rfl hl.1 (Nat.le_of_ble_eq_true rfl) d_LW_law_186 ⟨by show _ ≤ 601024; omega, by show _ ≤ 7293034; omega⟩ (fun u_1 H locs hu_1 hP hD hS => ?_)
  have hP : va_P D classes (lw_x q a cI cZ cJ u_1.2.2.1 sl u_1.2.2.2.1 u_1.2.2.2.2.1 u_1.2.2.2.2.2.1 cp cc cb ch cm u_1.2.2.2.2.2.2.2.1 u_1.2.2.2.2.2.2.2.2.1 u_1.2.2.2.2.2.2.2.2.2.1 u_1.2.2.2.2.2.2.2.2.2.2.1 u_1.2.2.2.2.2.2.2.2.2.2.2.1 u_1.2.2.2.2.2.2.1 u_1.2.2.2.2.2.2.2.2.2.2.2.2.1 tp u_1.2.2.2.2.2.2.2.2.2.2.2.2.2.1 u_1.2.2.2.2.2.2.2.2.2.2.2.2.2.2.1 u_1.2.2.2.2.2.2.2.2.2.2.2.2.2.2.2.1 u_1.2.2.2.2.2.2.2.2.2.2.2.2.2.2.2.2.1 u_1.2.2.2.2.2.2.2.2.2.2.2.2.2.2.2.2.2 (lw_out u_1.1 fo u_1.2.1.toInt64) ++ md_w r cI cZ xth xB xsh xcu xtp (nI td) xpa xsp xwh xhe xho xtk xto xwa xmn) H := hP
  have hD : va_D (fun z : Nat => s.heap.size ≤ z) (lw_x q a cI cZ cJ u_1.2.2.1 sl u_1.2.2.2.1 u_1.2.2.2.2.1 u_1.2.2.2.2.2.1 cp cc cb ch cm u_1.2.2.2.2.2.2.2.1 u_1.2.2.2.2.2.2.2.2.1 u_1.2.2.2.2.2.2.2.2.2.1 u_1.2.2.2.2.2.2.2.2.2.2.1 u_1.2.2.2.2.2.2.2.2.2.2.2.1 u_1.2.2.2.2.2.2.1 u_1.2.2.2.2.2.2.2.2.2.2.2.2.1 tp u_1.2.2.2.2.2.2.2.2.2.2.2.2.2.1 u_1.2.2.2.2.2.2.2.2.2.2.2.2.2.2.1 u_1.2.2.2.2.2.2.2.2.2.2.2.2.2.2.2.1 u_1.2.2.2.2.2.2.2.2.2.2.2.2.2.2.2.2.1 u_1.2.2.2.2.2.2.2.2.2.2.2.2.2.2.2.2.2 (lw_out u_1.1 fo u_1.2.1.toInt64) ++ md_w r cI cZ xth xB xsh xcu xtp (nI td) xpa xsp xwh xhe xho xtk xto xwa xmn) := hD
  refine lv_istore (lv' := [(5, .int (lw_c 1 2 3 4 u_1.1)), (0, .ref b), (1, .ref (q 0)), (2, .ref (r 0)), (3, .ref a), (4, .int (nI (4 * j)))]) hx hb d_LW_law_189 hl (by decide) rfl (fun ls hl => ?_)
  refine lv_aload_n hx hb d_LW_law_191 rfl (lv_at hl 3 rfl) ?_
  refine lv_aload_n hx hb d_LW_law_192 rfl (lv_at hl 1 rfl) ?_
  refine lv_iload hx hb d_LW_law_193 (lv_at hl 5 rfl) ?_
  refine lv_iconst (v := 1) hx hb d_LW_law_195 (by decide) ?_
  refine lv_iadd hx hb d_LW_law_196 ?_
  rw [show (((nI (4 * j)) + 1) : Int32) = (nI ((4 * j) + 1)) from nI_add (4 * j) 1]
  refine va_sld hx hb hX hbl hbA hS (show vp_in (nI ((4 * j) + 1)) L from vp_in_nI (n := ((4 * j) + 1)) (by omega) (by omega)) d_LW_law_197 ?_
  rw [show ((nI ((4 * j) + 1)) : Int32).toNatClampNeg = ((4 * j) + 1) from nI_clamp (n := ((4 * j) + 1)) (by omega)]
  refine lv_aload_n hx hb d_LW_law_198 rfl (lv_at hl 1 rfl) ?_
  refine lv_iload hx hb d_LW_law_199 (lv_at hl 5 rfl) ?_
  refine lv_iconst (v := 2) hx hb d_LW_law_201 (by decide) ?_
  refine lv_iadd hx hb d_LW_law_202 ?_
  rw [show (((nI (4 * j)) + 2) : Int32) = (nI ((4 * j) + 2)) from nI_add (4 * j) 2]
  refine va_sld hx hb hX hbl hbA hS (show vp_in (nI ((4 * j) + 2)) L from vp_in_nI (n := ((4 * j) + 2)) (by omega) (by omega)) d_LW_law_203 ?_
  rw [show ((nI ((4 * j) + 2)) : Int32).toNatClampNeg = ((4 * j) + 2) from nI_clamp (n := ((4 * j) + 2)) (by omega)]
  refine sf_callVS (S := (Int32 × Int32 × (Nat → Int32) × Int32 × Int32 × Int32 × (Nat → Int32) × Int32 × Int32 × (Nat → Int32) × Int32 × (Nat → Int32) × (Nat → Int32) × (Nat → Int32) × Int32)) (rest := []) ⟨hx, hb, hml, hown, hts⟩ (c_MD_write l D cI cZ cJ r xth xB xsh xcu xtp xpa xsp xwh xhe xho xtk xto xwa xmn td (xs ((4 * j) + 1)) (xs ((4 * j) + 2)) (by omega)) (sf_cwV lk_LW_70 hts (fun _ h => h) ⟨Nat.le_of_ble_eq_true rfl, Nat.le_of_ble_eq_true rfl⟩) hK hP hD hS hA (fun _ => rfl) (ci := 3) (q0 := 0) rfl rfl rfl rfl rfl hl.1 (Nat.le_of_ble_eq_true rfl) d_LW_law_204 ⟨by show _ ≤ 601024; omega, by show _ ≤ 7293034; omega⟩ (fun u_2 H locs hu_2 hP hD hS => ?_)
  have hP : va_P D classes (lw_x q a cI cZ cJ u_1.2.2.1 sl u_1.2.2.2.1 u_1.2.2.2.2.1 u_1.2.2.2.2.2.1 cp cc cb ch cm u_1.2.2.2.2.2.2.2.1 u_1.2.2.2.2.2.2.2.2.1 u_1.2.2.2.2.2.2.2.2.2.1 u_1.2.2.2.2.2.2.2.2.2.2.1 u_1.2.2.2.2.2.2.2.2.2.2.2.1 u_1.2.2.2.2.2.2.1 u_1.2.2.2.2.2.2.2.2.2.2.2.2.1 tp u_1.2.2.2.2.2.2.2.2.2.2.2.2.2.1 u_1.2.2.2.2.2.2.2.2.2.2.2.2.2.2.1 u_1.2.2.2.2.2.2.2.2.2.2.2.2.2.2.2.1 u_1.2.2.2.2.2.2.2.2.2.2.2.2.2.2.2.2.1 u_1.2.2.2.2.2.2.2.2.2.2.2.2.2.2.2.2.2 (lw_out u_1.1 fo u_1.2.1.toInt64) ++ md_w r cI cZ u_2.2.1 u_2.2.2.1 u_2.2.2.2.1 u_2.2.2.2.2.1 xtp u_2.2.2.2.2.2.1 u_2.2.2.2.2.2.2.1 u_2.2.2.2.2.2.2.2.1 u_2.2.2.2.2.2.2.2.2.1 u_2.2.2.2.2.2.2.2.2.2.1 u_2.2.2.2.2.2.2.2.2.2.2.1 u_2.2.2.2.2.2.2.2.2.2.2.2.1 u_2.2.2.2.2.2.2.2.2.2.2.2.2.1 u_2.2.2.2.2.2.2.2.2.2.2.2.2.2.1 u_2.2.2.2.2.2.2.2.2.2.2.2.2.2.2) H := hP
  have hD : va_D (fun z : Nat => s.heap.size ≤ z) (lw_x q a cI cZ cJ u_1.2.2.1 sl u_1.2.2.2.1 u_1.2.2.2.2.1 u_1.2.2.2.2.2.1 cp cc cb ch cm u_1.2.2.2.2.2.2.2.1 u_1.2.2.2.2.2.2.2.2.1 u_1.2.2.2.2.2.2.2.2.2.1 u_1.2.2.2.2.2.2.2.2.2.2.1 u_1.2.2.2.2.2.2.2.2.2.2.2.1 u_1.2.2.2.2.2.2.1 u_1.2.2.2.2.2.2.2.2.2.2.2.2.1 tp u_1.2.2.2.2.2.2.2.2.2.2.2.2.2.1 u_1.2.2.2.2.2.2.2.2.2.2.2.2.2.2.1 u_1.2.2.2.2.2.2.2.2.2.2.2.2.2.2.2.1 u_1.2.2.2.2.2.2.2.2.2.2.2.2.2.2.2.2.1 u_1.2.2.2.2.2.2.2.2.2.2.2.2.2.2.2.2.2 (lw_out u_1.1 fo u_1.2.1.toInt64) ++ md_w r cI cZ u_2.2.1 u_2.2.2.1 u_2.2.2.2.1 u_2.2.2.2.2.1 xtp u_2.2.2.2.2.2.1 u_2.2.2.2.2.2.2.1 u_2.2.2.2.2.2.2.2.1 u_2.2.2.2.2.2.2.2.2.1 u_2.2.2.2.2.2.2.2.2.2.1 u_2.2.2.2.2.2.2.2.2.2.2.1 u_2.2.2.2.2.2.2.2.2.2.2.2.1 u_2.2.2.2.2.2.2.2.2.2.2.2.2.1 u_2.2.2.2.2.2.2.2.2.2.2.2.2.2.1 u_2.2.2.2.2.2.2.2.2.2.2.2.2.2.2) := hD
  obtain ⟨td1, htd1, etd1⟩ := md_td_write (by omega) hu_2
  rw [etd1] at hP hD
  have hP : va_P D classes (lw_x q a cI cZ cJ u_1.2.2.1 sl u_1.2.2.2.1 u_1.2.2.2.2.1 u_1.2.2.2.2.2.1 cp cc cb ch cm u_1.2.2.2.2.2.2.2.1 u_1.2.2.2.2.2.2.2.2.1 u_1.2.2.2.2.2.2.2.2.2.1 u_1.2.2.2.2.2.2.2.2.2.2.1 u_1.2.2.2.2.2.2.2.2.2.2.2.1 u_1.2.2.2.2.2.2.1 u_1.2.2.2.2.2.2.2.2.2.2.2.2.1 tp u_1.2.2.2.2.2.2.2.2.2.2.2.2.2.1 u_1.2.2.2.2.2.2.2.2.2.2.2.2.2.2.1 u_1.2.2.2.2.2.2.2.2.2.2.2.2.2.2.2.1 u_1.2.2.2.2.2.2.2.2.2.2.2.2.2.2.2.2.1 u_1.2.2.2.2.2.2.2.2.2.2.2.2.2.2.2.2.2 (lw_out u_1.1 fo u_1.2.1.toInt64) ++ md_w r cI cZ u_2.2.1 u_2.2.2.1 u_2.2.2.2.1 u_2.2.2.2.2.1 xtp (nI td1) u_2.2.2.2.2.2.2.1 u_2.2.2.2.2.2.2.2.1 u_2.2.2.2.2.2.2.2.2.1 u_2.2.2.2.2.2.2.2.2.2.1 u_2.2.2.2.2.2.2.2.2.2.2.1 u_2.2.2.2.2.2.2.2.2.2.2.2.1 u_2.2.2.2.2.2.2.2.2.2.2.2.2.1 u_2.2.2.2.2.2.2.2.2.2.2.2.2.2.1 u_2.2.2.2.2.2.2.2.2.2.2.2.2.2.2) H := hP
  have hD : va_D (fun z : Nat => s.heap.size ≤ z) (lw_x q a cI cZ cJ u_1.2.2.1 sl u_1.2.2.2.1 u_1.2.2.2.2.1 u_1.2.2.2.2.2.1 cp cc cb ch cm u_1.2.2.2.2.2.2.2.1 u_1.2.2.2.2.2.2.2.2.1 u_1.2.2.2.2.2.2.2.2.2.1 u_1.2.2.2.2.2.2.2.2.2.2.1 u_1.2.2.2.2.2.2.2.2.2.2.2.1 u_1.2.2.2.2.2.2.1 u_1.2.2.2.2.2.2.2.2.2.2.2.2.1 tp u_1.2.2.2.2.2.2.2.2.2.2.2.2.2.1 u_1.2.2.2.2.2.2.2.2.2.2.2.2.2.2.1 u_1.2.2.2.2.2.2.2.2.2.2.2.2.2.2.2.1 u_1.2.2.2.2.2.2.2.2.2.2.2.2.2.2.2.2.1 u_1.2.2.2.2.2.2.2.2.2.2.2.2.2.2.2.2.2 (lw_out u_1.1 fo u_1.2.1.toInt64) ++ md_w r cI cZ u_2.2.1 u_2.2.2.1 u_2.2.2.2.1 u_2.2.2.2.2.1 xtp (nI td1) u_2.2.2.2.2.2.2.1 u_2.2.2.2.2.2.2.2.1 u_2.2.2.2.2.2.2.2.2.1 u_2.2.2.2.2.2.2.2.2.2.1 u_2.2.2.2.2.2.2.2.2.2.2.1 u_2.2.2.2.2.2.2.2.2.2.2.2.1 u_2.2.2.2.2.2.2.2.2.2.2.2.2.1 u_2.2.2.2.2.2.2.2.2.2.2.2.2.2.1 u_2.2.2.2.2.2.2.2.2.2.2.2.2.2.2) := hD
  refine lv_istore (lv' := [(6, .int u_2.1), (5, .int (lw_c 1 2 3 4 u_1.1)), (0, .ref b), (1, .ref (q 0)), (2, .ref (r 0)), (3, .ref a), (4, .int (nI (4 * j)))]) hx hb d_LW_law_207 hl (by decide) rfl (fun ls hl => ?_)
  refine lv_goto (tgt := 554) hx hb d_LW_law_209 (by decide) ?_
  refine W.widen (k := 27 + (j + 1)) (n := 3370 + 6 * (j + 1)) (by omega) (by omega) ?_
  exact kk u_1.2.2.1 sl u_1.2.2.2.1 u_1.2.2.2.2.1 u_1.2.2.2.2.2.1 cp cc cb ch cm u_1.2.2.2.2.2.2.2.1 u_1.2.2.2.2.2.2.2.2.1 u_1.2.2.2.2.2.2.2.2.2.1 u_1.2.2.2.2.2.2.2.2.2.2.1 u_1.2.2.2.2.2.2.2.2.2.2.2.1 u_1.2.2.2.2.2.2.1 u_1.2.2.2.2.2.2.2.2.2.2.2.2.1 tp u_1.2.2.2.2.2.2.2.2.2.2.2.2.2.1 u_1.2.2.2.2.2.2.2.2.2.2.2.2.2.2.1 u_1.2.2.2.2.2.2.2.2.2.2.2.2.2.2.2.1 u_1.2.2.2.2.2.2.2.2.2.2.2.2.2.2.2.2.1 u_1.2.2.2.2.2.2.2.2.2.2.2.2.2.2.2.2.2 u_2.2.1 u_2.2.2.1 u_2.2.2.2.1 u_2.2.2.2.2.1 xtp u_2.2.2.2.2.2.2.1 u_2.2.2.2.2.2.2.2.1 u_2.2.2.2.2.2.2.2.2.1 u_2.2.2.2.2.2.2.2.2.2.1 u_2.2.2.2.2.2.2.2.2.2.2.1 u_2.2.2.2.2.2.2.2.2.2.2.2.1 u_2.2.2.2.2.2.2.2.2.2.2.2.2.1 u_2.2.2.2.2.2.2.2.2.2.2.2.2.2.1 u_2.2.2.2.2.2.2.2.2.2.2.2.2.2.2 (lw_out u_1.1 fo u_1.2.1.toInt64) td1 (by omega) _ _ hP hD hS ls (lv_sub hl [2, 3, 4, 5, 6] rfl)
set_option maxHeartbeats 2000000 in
set_option maxRecDepth 100000 in
/-- the law, case 2 -/
theorem law_2 {p : Program} {l : Launch} {e : Env} {s : State} {m : MethodId} {below : List Frame} {meth : Method} {c : Code} {b L : Nat} {xs : Nat → Int32} {D : va_G} {cI cZ cJ : ClassId} {q r : Nat → Nat} {a : Nat} {Q : State → Prop} (hL : L ≤ 2048) (C0 : lw_At p s m meth c b L xs) (hst : l.stackTraces = false) (hE : sf_EX (fun z : Nat => s.heap.size ≤ z) s s.heap) (hN : lw_NC s) (hK : va_K D classes (sf_tys cI cZ cJ) s) (j : Nat) (hj : 4 * j + 4 ≤ L) (fl : Nat → Int32) (sl : Nat → Int32) (tb : Nat → Int32) (np : Nat → Int32) (nt : Nat → Int32) (cp : Nat → Int32) (cc : Int32) (cb : Int32) (ch : Int32) (cm : Int32) (mp : Nat → Int32) (mc : Int32) (mb : Int32) (mh : Int32) (mm : Int32) (us : Nat → Int32) (ta : Nat → Int32) (tp : Nat → Int32) (tl : Int32) (cu : Int32) (bl : Int32) (pf : Int32) (sh : Int32) (xth : Int32) (xB : Nat → Int32) (xsh : Int32) (xcu : Int32) (xtp : Nat → Int32) (xpa : Nat → Int32) (xsp : Int32) (xwh : Int32) (xhe : Nat → Int32) (xho : Int32) (xtk : Nat → Int32) (xto : Nat → Int32) (xwa : Nat → Int32) (xmn : Int32) (fo : Nat → Int64) (td : Nat) (htd : td ≤ 60) (H : Heap) (locs : List Loc) (hP : va_P D classes (lw_x q a cI cZ cJ fl sl tb np nt cp cc cb ch cm mp mc mb mh mm us ta tp tl cu bl pf sh fo ++ md_w r cI cZ xth xB xsh xcu xtp (nI td) xpa xsp xwh xhe xho xtk xto xwa xmn) H) (hD : va_D (fun z : Nat => s.heap.size ≤ z) (lw_x q a cI cZ cJ fl sl tb np nt cp cc cb ch cm mp mc mb mh mm us ta tp tl cu bl pf sh fo ++ md_w r cI cZ xth xB xsh xcu xtp (nI td) xpa xsp xwh xhe xho xtk xto xwa xmn)) (hS : va_S (fun z : Nat => s.heap.size ≤ z) s.heap H locs) (ls : Array Slot) (hl : lv_has ls 7 [(0, .ref b), (1, .ref (q 0)), (2, .ref (r 0)), (3, .ref a), (4, .int (nI (4 * j)))])
    (kk : ∀ (fl : Nat → Int32) (sl : Nat → Int32) (tb : Nat → Int32) (np : Nat → Int32) (nt : Nat → Int32) (cp : Nat → Int32) (cc : Int32) (cb : Int32) (ch : Int32) (cm : Int32) (mp : Nat → Int32) (mc : Int32) (mb : Int32) (mh : Int32) (mm : Int32) (us : Nat → Int32) (ta : Nat → Int32) (tp : Nat → Int32) (tl : Int32) (cu : Int32) (bl : Int32) (pf : Int32) (sh : Int32) (xth : Int32) (xB : Nat → Int32) (xsh : Int32) (xcu : Int32) (xtp : Nat → Int32) (xpa : Nat → Int32) (xsp : Int32) (xwh : Int32) (xhe : Nat → Int32) (xho : Int32) (xtk : Nat → Int32) (xto : Nat → Int32) (xwa : Nat → Int32) (xmn : Int32) (fo : Nat → Int64) (td : Nat), td ≤ 60 → ∀ (H : Heap) (locs : List Loc), va_P D classes (lw_x q a cI cZ cJ fl sl tb np nt cp cc cb ch cm mp mc mb mh mm us ta tp tl cu bl pf sh fo ++ md_w r cI cZ xth xB xsh xcu xtp (nI td) xpa xsp xwh xhe xho xtk xto xwa xmn) H → va_D (fun z : Nat => s.heap.size ≤ z) (lw_x q a cI cZ cJ fl sl tb np nt cp cc cb ch cm mp mc mb mh mm us ta tp tl cu bl pf sh fo ++ md_w r cI cZ xth xB xsh xcu xtp (nI td) xpa xsp xwh xhe xho xtk xto xwa xmn) → va_S (fun z : Nat => s.heap.size ≤ z) s.heap H locs → ∀ (ls : Array Slot), lv_has ls 7 [(0, .ref b), (1, .ref (q 0)), (2, .ref (r 0)), (3, .ref a), (4, .int (nI (4 * j)))] → W p l e room_1 s m #[Value.ref b] below meth c H locs (27 + (j + 1)) (3370 + 6 * (j + 1)) Q (F0 m 554 ls [])) : W p l e room_1 s m #[Value.ref b] below meth c H locs (27 + j) (3370 + 6 * j) Q (F0 m 212 ls []) := by
  obtain ⟨hx, hb, hr, hml, hown, hts0, hX, hbl, hlocks, hgv⟩ := id C0
  have hts : ∀ w ∈ sf_tb, w.before #[Value.ref b] s = true := fun w h => hts0 w (sf_sub w h)
  have hA : ∀ z : Nat, s.heap.size ≤ z → (fun z : Nat => s.heap.size ≤ z) z := fun _ h => h
  have hbA : ¬ (fun z : Nat => s.heap.size ≤ z) b := Nat.not_le.mpr hbl
  refine lv_aload_n hx hb d_LW_law_212 rfl (lv_at hl 1 rfl) ?_
  refine lv_aload_n hx hb d_LW_law_213 rfl (lv_at hl 0 rfl) ?_
  refine lv_iload hx hb d_LW_law_214 (lv_at hl 4 rfl) ?_
  refine lv_iconst (v := 1) hx hb d_LW_law_216 (by decide) ?_
  refine lv_iadd hx hb d_LW_law_217 ?_
  rw [show (((nI (4 * j)) + 1) : Int32) = (nI ((4 * j) + 1)) from nI_add (4 * j) 1]
  refine va_sld hx hb hX hbl hbA hS (show vp_in (nI ((4 * j) + 1)) L from vp_in_nI (n := ((4 * j) + 1)) (by omega) (by omega)) d_LW_law_218 ?_
  rw [show ((nI ((4 * j) + 1)) : Int32).toNatClampNeg = ((4 * j) + 1) from nI_clamp (n := ((4 * j) + 1)) (by omega)]
  refine lv_aload_n hx hb d_LW_law_219 rfl (lv_at hl 3 rfl) ?_
  refine sf_ncallS (S := (Int32 × Int32 × (Nat → Int32) × (Nat → Int32) × Int32 × Int32 × Int32 × Int32)) (rest := []) ⟨hx, hb, hml, hown, hts⟩ (c_LW_remove l D cI cZ cJ hst q a fl sl tb np nt cp cc cb ch cm mp mc mb mh mm us ta tp tl cu bl pf sh fo (xs ((4 * j) + 1))) (sf_cwSW lk_LW_71 hts (fun _ h => h) ⟨Nat.le_of_ble_eq_true rfl, Nat.le_of_ble_eq_true rfl⟩) hK hE hN hP hD hS hA (fun _ => rfl) rfl rfl hl.1 (Nat.le_of_ble_eq_true rfl) d_LW_law_220 ⟨by show _ ≤ 601024; omega, by show _ ≤ 7293034; omega⟩ (fun u_1 H locs hu_1 hP hD hS => ?_)
  have hP : va_P D classes (lw_x q a cI cZ cJ fl sl u_1.2.2.1 np u_1.2.2.2.1 cp cc cb ch cm mp mc mb mh mm us ta tp tl u_1.2.2.2.2.1 u_1.2.2.2.2.2.1 u_1.2.2.2.2.2.2.1 u_1.2.2.2.2.2.2.2 (lw_out u_1.1 fo u_1.2.1.toInt64) ++ md_w r cI cZ xth xB xsh xcu xtp (nI td) xpa xsp xwh xhe xho xtk xto xwa xmn) H := hP
  have hD : va_D (fun z : Nat => s.heap.size ≤ z) (lw_x q a cI cZ cJ fl sl u_1.2.2.1 np u_1.2.2.2.1 cp cc cb ch cm mp mc mb mh mm us ta tp tl u_1.2.2.2.2.1 u_1.2.2.2.2.2.1 u_1.2.2.2.2.2.2.1 u_1.2.2.2.2.2.2.2 (lw_out u_1.1 fo u_1.2.1.toInt64) ++ md_w r cI cZ xth xB xsh xcu xtp (nI td) xpa xsp xwh xhe xho xtk xto xwa xmn) := hD
  refine lv_istore (lv' := [(5, .int (lw_c 1 2 0 0 u_1.1)), (0, .ref b), (1, .ref (q 0)), (2, .ref (r 0)), (3, .ref a), (4, .int (nI (4 * j)))]) hx hb d_LW_law_223 hl (by decide) rfl (fun ls hl => ?_)
  refine lv_aload_n hx hb d_LW_law_225 rfl (lv_at hl 3 rfl) ?_
  refine lv_aload_n hx hb d_LW_law_226 rfl (lv_at hl 1 rfl) ?_
  refine lv_iload hx hb d_LW_law_227 (lv_at hl 5 rfl) ?_
  refine lv_iconst (v := 1) hx hb d_LW_law_229 (by decide) ?_
  refine lv_iadd hx hb d_LW_law_230 ?_
  rw [show (((nI (4 * j)) + 1) : Int32) = (nI ((4 * j) + 1)) from nI_add (4 * j) 1]
  refine va_sld hx hb hX hbl hbA hS (show vp_in (nI ((4 * j) + 1)) L from vp_in_nI (n := ((4 * j) + 1)) (by omega) (by omega)) d_LW_law_231 ?_
  rw [show ((nI ((4 * j) + 1)) : Int32).toNatClampNeg = ((4 * j) + 1) from nI_clamp (n := ((4 * j) + 1)) (by omega)]
  refine sf_callVS (S := (Int32 × Int32 × (Nat → Int32) × Int32 × Int32 × (Nat → Int32) × (Nat → Int32) × Int32)) (rest := []) ⟨hx, hb, hml, hown, hts⟩ (c_MD_remove l D cI cZ cJ r xth xB xsh xcu xtp (nI td) xpa xsp xwh xhe xho xtk xto xwa xmn (xs ((4 * j) + 1))) (sf_cwV lk_LW_74 hts (fun _ h => h) ⟨Nat.le_of_ble_eq_true rfl, Nat.le_of_ble_eq_true rfl⟩) hK hP hD hS hA (fun _ => rfl) (ci := 3) (q0 := 0) rfl rfl rfl rfl rfl hl.1 (Nat.le_of_ble_eq_true rfl) d_LW_law_232 ⟨by show _ ≤ 601024; omega, by show _ ≤ 7293034; omega⟩ (fun u_2 H locs hu_2 hP hD hS => ?_)
  have hP : va_P D classes (lw_x q a cI cZ cJ fl sl u_1.2.2.1 np u_1.2.2.2.1 cp cc cb ch cm mp mc mb mh mm us ta tp tl u_1.2.2.2.2.1 u_1.2.2.2.2.2.1 u_1.2.2.2.2.2.2.1 u_1.2.2.2.2.2.2.2 (lw_out u_1.1 fo u_1.2.1.toInt64) ++ md_w r cI cZ u_2.2.1 u_2.2.2.1 u_2.2.2.2.1 u_2.2.2.2.2.1 xtp (nI td) xpa xsp xwh xhe xho xtk u_2.2.2.2.2.2.1 u_2.2.2.2.2.2.2.1 u_2.2.2.2.2.2.2.2) H := hP
  have hD : va_D (fun z : Nat => s.heap.size ≤ z) (lw_x q a cI cZ cJ fl sl u_1.2.2.1 np u_1.2.2.2.1 cp cc cb ch cm mp mc mb mh mm us ta tp tl u_1.2.2.2.2.1 u_1.2.2.2.2.2.1 u_1.2.2.2.2.2.2.1 u_1.2.2.2.2.2.2.2 (lw_out u_1.1 fo u_1.2.1.toInt64) ++ md_w r cI cZ u_2.2.1 u_2.2.2.1 u_2.2.2.2.1 u_2.2.2.2.2.1 xtp (nI td) xpa xsp xwh xhe xho xtk u_2.2.2.2.2.2.1 u_2.2.2.2.2.2.2.1 u_2.2.2.2.2.2.2.2) := hD
  refine lv_istore (lv' := [(6, .int u_2.1), (5, .int (lw_c 1 2 0 0 u_1.1)), (0, .ref b), (1, .ref (q 0)), (2, .ref (r 0)), (3, .ref a), (4, .int (nI (4 * j)))]) hx hb d_LW_law_235 hl (by decide) rfl (fun ls hl => ?_)
  refine lv_goto (tgt := 554) hx hb d_LW_law_237 (by decide) ?_
  refine W.widen (k := 27 + (j + 1)) (n := 3370 + 6 * (j + 1)) (by omega) (by omega) ?_
  exact kk fl sl u_1.2.2.1 np u_1.2.2.2.1 cp cc cb ch cm mp mc mb mh mm us ta tp tl u_1.2.2.2.2.1 u_1.2.2.2.2.2.1 u_1.2.2.2.2.2.2.1 u_1.2.2.2.2.2.2.2 u_2.2.1 u_2.2.2.1 u_2.2.2.2.1 u_2.2.2.2.2.1 xtp xpa xsp xwh xhe xho xtk u_2.2.2.2.2.2.1 u_2.2.2.2.2.2.2.1 u_2.2.2.2.2.2.2.2 (lw_out u_1.1 fo u_1.2.1.toInt64) td (by omega) _ _ hP hD hS ls (lv_sub hl [2, 3, 4, 5, 6] rfl)
set_option maxHeartbeats 2000000 in
set_option maxRecDepth 100000 in
/-- the law, case 3 -/
theorem law_3 {p : Program} {l : Launch} {e : Env} {s : State} {m : MethodId} {below : List Frame} {meth : Method} {c : Code} {b L : Nat} {xs : Nat → Int32} {D : va_G} {cI cZ cJ : ClassId} {q r : Nat → Nat} {a : Nat} {Q : State → Prop} (hL : L ≤ 2048) (C0 : lw_At p s m meth c b L xs) (hst : l.stackTraces = false) (hE : sf_EX (fun z : Nat => s.heap.size ≤ z) s s.heap) (hN : lw_NC s) (hK : va_K D classes (sf_tys cI cZ cJ) s) (j : Nat) (hj : 4 * j + 4 ≤ L) (fl : Nat → Int32) (sl : Nat → Int32) (tb : Nat → Int32) (np : Nat → Int32) (nt : Nat → Int32) (cp : Nat → Int32) (cc : Int32) (cb : Int32) (ch : Int32) (cm : Int32) (mp : Nat → Int32) (mc : Int32) (mb : Int32) (mh : Int32) (mm : Int32) (us : Nat → Int32) (ta : Nat → Int32) (tp : Nat → Int32) (tl : Int32) (cu : Int32) (bl : Int32) (pf : Int32) (sh : Int32) (xth : Int32) (xB : Nat → Int32) (xsh : Int32) (xcu : Int32) (xtp : Nat → Int32) (xpa : Nat → Int32) (xsp : Int32) (xwh : Int32) (xhe : Nat → Int32) (xho : Int32) (xtk : Nat → Int32) (xto : Nat → Int32) (xwa : Nat → Int32) (xmn : Int32) (fo : Nat → Int64) (td : Nat) (htd : td ≤ 60) (H : Heap) (locs : List Loc) (hP : va_P D classes (lw_x q a cI cZ cJ fl sl tb np nt cp cc cb ch cm mp mc mb mh mm us ta tp tl cu bl pf sh fo ++ md_w r cI cZ xth xB xsh xcu xtp (nI td) xpa xsp xwh xhe xho xtk xto xwa xmn) H) (hD : va_D (fun z : Nat => s.heap.size ≤ z) (lw_x q a cI cZ cJ fl sl tb np nt cp cc cb ch cm mp mc mb mh mm us ta tp tl cu bl pf sh fo ++ md_w r cI cZ xth xB xsh xcu xtp (nI td) xpa xsp xwh xhe xho xtk xto xwa xmn)) (hS : va_S (fun z : Nat => s.heap.size ≤ z) s.heap H locs) (ls : Array Slot) (hl : lv_has ls 7 [(0, .ref b), (1, .ref (q 0)), (2, .ref (r 0)), (3, .ref a), (4, .int (nI (4 * j)))])
    (kk : ∀ (fl : Nat → Int32) (sl : Nat → Int32) (tb : Nat → Int32) (np : Nat → Int32) (nt : Nat → Int32) (cp : Nat → Int32) (cc : Int32) (cb : Int32) (ch : Int32) (cm : Int32) (mp : Nat → Int32) (mc : Int32) (mb : Int32) (mh : Int32) (mm : Int32) (us : Nat → Int32) (ta : Nat → Int32) (tp : Nat → Int32) (tl : Int32) (cu : Int32) (bl : Int32) (pf : Int32) (sh : Int32) (xth : Int32) (xB : Nat → Int32) (xsh : Int32) (xcu : Int32) (xtp : Nat → Int32) (xpa : Nat → Int32) (xsp : Int32) (xwh : Int32) (xhe : Nat → Int32) (xho : Int32) (xtk : Nat → Int32) (xto : Nat → Int32) (xwa : Nat → Int32) (xmn : Int32) (fo : Nat → Int64) (td : Nat), td ≤ 60 → ∀ (H : Heap) (locs : List Loc), va_P D classes (lw_x q a cI cZ cJ fl sl tb np nt cp cc cb ch cm mp mc mb mh mm us ta tp tl cu bl pf sh fo ++ md_w r cI cZ xth xB xsh xcu xtp (nI td) xpa xsp xwh xhe xho xtk xto xwa xmn) H → va_D (fun z : Nat => s.heap.size ≤ z) (lw_x q a cI cZ cJ fl sl tb np nt cp cc cb ch cm mp mc mb mh mm us ta tp tl cu bl pf sh fo ++ md_w r cI cZ xth xB xsh xcu xtp (nI td) xpa xsp xwh xhe xho xtk xto xwa xmn) → va_S (fun z : Nat => s.heap.size ≤ z) s.heap H locs → ∀ (ls : Array Slot), lv_has ls 7 [(0, .ref b), (1, .ref (q 0)), (2, .ref (r 0)), (3, .ref a), (4, .int (nI (4 * j)))] → W p l e room_1 s m #[Value.ref b] below meth c H locs (27 + (j + 1)) (3370 + 6 * (j + 1)) Q (F0 m 554 ls [])) : W p l e room_1 s m #[Value.ref b] below meth c H locs (27 + j) (3370 + 6 * j) Q (F0 m 240 ls []) := by
  obtain ⟨hx, hb, hr, hml, hown, hts0, hX, hbl, hlocks, hgv⟩ := id C0
  have hts : ∀ w ∈ sf_tb, w.before #[Value.ref b] s = true := fun w h => hts0 w (sf_sub w h)
  have hA : ∀ z : Nat, s.heap.size ≤ z → (fun z : Nat => s.heap.size ≤ z) z := fun _ h => h
  have hbA : ¬ (fun z : Nat => s.heap.size ≤ z) b := Nat.not_le.mpr hbl
  refine lv_aload_n hx hb d_LW_law_240 rfl (lv_at hl 1 rfl) ?_
  refine lv_aload_n hx hb d_LW_law_241 rfl (lv_at hl 0 rfl) ?_
  refine lv_iload hx hb d_LW_law_242 (lv_at hl 4 rfl) ?_
  refine lv_iconst (v := 1) hx hb d_LW_law_244 (by decide) ?_
  refine lv_iadd hx hb d_LW_law_245 ?_
  rw [show (((nI (4 * j)) + 1) : Int32) = (nI ((4 * j) + 1)) from nI_add (4 * j) 1]
  refine va_sld hx hb hX hbl hbA hS (show vp_in (nI ((4 * j) + 1)) L from vp_in_nI (n := ((4 * j) + 1)) (by omega) (by omega)) d_LW_law_246 ?_
  rw [show ((nI ((4 * j) + 1)) : Int32).toNatClampNeg = ((4 * j) + 1) from nI_clamp (n := ((4 * j) + 1)) (by omega)]
  refine lv_aload_n hx hb d_LW_law_247 rfl (lv_at hl 3 rfl) ?_
  refine sf_ncallS (S := (Int32 × Int32 × (Nat → Int32) × (Nat → Int32) × (Nat → Int32) × (Nat → Int32) × (Nat → Int32) × Int32 × Int32 × Int32 × Int32 × (Nat → Int32) × (Nat → Int32) × Int32 × Int32 × Int32 × Int32 × (Nat → Int32) × Int32 × Int32 × Int32 × Int32)) (rest := []) ⟨hx, hb, hml, hown, hts⟩ (c_LW_move l D cI cZ cJ hst q a fl sl tb np nt cp cc cb ch cm mp mc mb mh mm us ta tp tl cu bl pf sh fo (xs ((4 * j) + 1))) (sf_cwSW lk_LW_75 hts (fun _ h => h) ⟨Nat.le_of_ble_eq_true rfl, Nat.le_of_ble_eq_true rfl⟩) hK hE hN hP hD hS hA (fun _ => rfl) rfl rfl hl.1 (Nat.le_of_ble_eq_true rfl) d_LW_law_248 ⟨by show _ ≤ 601024; omega, by show _ ≤ 7293034; omega⟩ (fun u_1 H locs hu_1 hP hD hS => ?_)
  have hP : va_P D classes (lw_x q a cI cZ cJ fl u_1.2.2.1 u_1.2.2.2.1 u_1.2.2.2.2.1 u_1.2.2.2.2.2.1 u_1.2.2.2.2.2.2.1 u_1.2.2.2.2.2.2.2.1 u_1.2.2.2.2.2.2.2.2.1 u_1.2.2.2.2.2.2.2.2.2.1 u_1.2.2.2.2.2.2.2.2.2.2.1 u_1.2.2.2.2.2.2.2.2.2.2.2.2.1 u_1.2.2.2.2.2.2.2.2.2.2.2.2.2.1 u_1.2.2.2.2.2.2.2.2.2.2.2.2.2.2.1 u_1.2.2.2.2.2.2.2.2.2.2.2.2.2.2.2.1 u_1.2.2.2.2.2.2.2.2.2.2.2.2.2.2.2.2.1 u_1.2.2.2.2.2.2.2.2.2.2.2.1 u_1.2.2.2.2.2.2.2.2.2.2.2.2.2.2.2.2.2.1 tp tl u_1.2.2.2.2.2.2.2.2.2.2.2.2.2.2.2.2.2.2.1 u_1.2.2.2.2.2.2.2.2.2.2.2.2.2.2.2.2.2.2.2.1 u_1.2.2.2.2.2.2.2.2.2.2.2.2.2.2.2.2.2.2.2.2.1 u_1.2.2.2.2.2.2.2.2.2.2.2.2.2.2.2.2.2.2.2.2.2 (lw_out u_1.1 fo u_1.2.1.toInt64) ++ md_w r cI cZ xth xB xsh xcu xtp (nI td) xpa xsp xwh xhe xho xtk xto xwa xmn) H := hP
  have hD : va_D (fun z : Nat => s.heap.size ≤ z) (lw_x q a cI cZ cJ fl u_1.2.2.1 u_1.2.2.2.1 u_1.2.2.2.2.1 u_1.2.2.2.2.2.1 u_1.2.2.2.2.2.2.1 u_1.2.2.2.2.2.2.2.1 u_1.2.2.2.2.2.2.2.2.1 u_1.2.2.2.2.2.2.2.2.2.1 u_1.2.2.2.2.2.2.2.2.2.2.1 u_1.2.2.2.2.2.2.2.2.2.2.2.2.1 u_1.2.2.2.2.2.2.2.2.2.2.2.2.2.1 u_1.2.2.2.2.2.2.2.2.2.2.2.2.2.2.1 u_1.2.2.2.2.2.2.2.2.2.2.2.2.2.2.2.1 u_1.2.2.2.2.2.2.2.2.2.2.2.2.2.2.2.2.1 u_1.2.2.2.2.2.2.2.2.2.2.2.1 u_1.2.2.2.2.2.2.2.2.2.2.2.2.2.2.2.2.2.1 tp tl u_1.2.2.2.2.2.2.2.2.2.2.2.2.2.2.2.2.2.2.1 u_1.2.2.2.2.2.2.2.2.2.2.2.2.2.2.2.2.2.2.2.1 u_1.2.2.2.2.2.2.2.2.2.2.2.2.2.2.2.2.2.2.2.2.1 u_1.2.2.2.2.2.2.2.2.2.2.2.2.2.2.2.2.2.2.2.2.2 (lw_out u_1.1 fo u_1.2.1.toInt64) ++ md_w r cI cZ xth xB xsh xcu xtp (nI td) xpa xsp xwh xhe xho xtk xto xwa xmn) := hD
  refine lv_istore (lv' := [(5, .int (lw_c 0 1 2 3 u_1.1)), (0, .ref b), (1, .ref (q 0)), (2, .ref (r 0)), (3, .ref a), (4, .int (nI (4 * j)))]) hx hb d_LW_law_251 hl (by decide) rfl (fun ls hl => ?_)
  refine lv_aload_n hx hb d_LW_law_253 rfl (lv_at hl 3 rfl) ?_
  refine lv_aload_n hx hb d_LW_law_254 rfl (lv_at hl 1 rfl) ?_
  refine lv_iload hx hb d_LW_law_255 (lv_at hl 5 rfl) ?_
  refine lv_iconst (v := 1) hx hb d_LW_law_257 (by decide) ?_
  refine lv_iadd hx hb d_LW_law_258 ?_
  rw [show (((nI (4 * j)) + 1) : Int32) = (nI ((4 * j) + 1)) from nI_add (4 * j) 1]
  refine va_sld hx hb hX hbl hbA hS (show vp_in (nI ((4 * j) + 1)) L from vp_in_nI (n := ((4 * j) + 1)) (by omega) (by omega)) d_LW_law_259 ?_
  rw [show ((nI ((4 * j) + 1)) : Int32).toNatClampNeg = ((4 * j) + 1) from nI_clamp (n := ((4 * j) + 1)) (by omega)]
  refine sf_callVS (S := (Int32 × Int32 × (Nat → Int32) × Int32 × Int32 × (Nat → Int32) × Int32 × Int32 × (Nat → Int32) × Int32 × (Nat → Int32) × (Nat → Int32) × (Nat → Int32) × Int32)) (rest := []) ⟨hx, hb, hml, hown, hts⟩ (c_MD_move l D cI cZ cJ r xth xB xsh xcu xtp (nI td) xpa xsp xwh xhe xho xtk xto xwa xmn (xs ((4 * j) + 1))) (sf_cwV lk_LW_77 hts (fun _ h => h) ⟨Nat.le_of_ble_eq_true rfl, Nat.le_of_ble_eq_true rfl⟩) hK hP hD hS hA (fun _ => rfl) (ci := 3) (q0 := 0) rfl rfl rfl rfl rfl hl.1 (Nat.le_of_ble_eq_true rfl) d_LW_law_260 ⟨by show _ ≤ 601024; omega, by show _ ≤ 7293034; omega⟩ (fun u_2 H locs hu_2 hP hD hS => ?_)
  have hP : va_P D classes (lw_x q a cI cZ cJ fl u_1.2.2.1 u_1.2.2.2.1 u_1.2.2.2.2.1 u_1.2.2.2.2.2.1 u_1.2.2.2.2.2.2.1 u_1.2.2.2.2.2.2.2.1 u_1.2.2.2.2.2.2.2.2.1 u_1.2.2.2.2.2.2.2.2.2.1 u_1.2.2.2.2.2.2.2.2.2.2.1 u_1.2.2.2.2.2.2.2.2.2.2.2.2.1 u_1.2.2.2.2.2.2.2.2.2.2.2.2.2.1 u_1.2.2.2.2.2.2.2.2.2.2.2.2.2.2.1 u_1.2.2.2.2.2.2.2.2.2.2.2.2.2.2.2.1 u_1.2.2.2.2.2.2.2.2.2.2.2.2.2.2.2.2.1 u_1.2.2.2.2.2.2.2.2.2.2.2.1 u_1.2.2.2.2.2.2.2.2.2.2.2.2.2.2.2.2.2.1 tp tl u_1.2.2.2.2.2.2.2.2.2.2.2.2.2.2.2.2.2.2.1 u_1.2.2.2.2.2.2.2.2.2.2.2.2.2.2.2.2.2.2.2.1 u_1.2.2.2.2.2.2.2.2.2.2.2.2.2.2.2.2.2.2.2.2.1 u_1.2.2.2.2.2.2.2.2.2.2.2.2.2.2.2.2.2.2.2.2.2 (lw_out u_1.1 fo u_1.2.1.toInt64) ++ md_w r cI cZ u_2.2.1 u_2.2.2.1 u_2.2.2.2.1 u_2.2.2.2.2.1 xtp (nI td) u_2.2.2.2.2.2.1 u_2.2.2.2.2.2.2.1 u_2.2.2.2.2.2.2.2.1 u_2.2.2.2.2.2.2.2.2.1 u_2.2.2.2.2.2.2.2.2.2.1 u_2.2.2.2.2.2.2.2.2.2.2.1 u_2.2.2.2.2.2.2.2.2.2.2.2.1 u_2.2.2.2.2.2.2.2.2.2.2.2.2.1 u_2.2.2.2.2.2.2.2.2.2.2.2.2.2) H := hP
  have hD : va_D (fun z : Nat => s.heap.size ≤ z) (lw_x q a cI cZ cJ fl u_1.2.2.1 u_1.2.2.2.1 u_1.2.2.2.2.1 u_1.2.2.2.2.2.1 u_1.2.2.2.2.2.2.1 u_1.2.2.2.2.2.2.2.1 u_1.2.2.2.2.2.2.2.2.1 u_1.2.2.2.2.2.2.2.2.2.1 u_1.2.2.2.2.2.2.2.2.2.2.1 u_1.2.2.2.2.2.2.2.2.2.2.2.2.1 u_1.2.2.2.2.2.2.2.2.2.2.2.2.2.1 u_1.2.2.2.2.2.2.2.2.2.2.2.2.2.2.1 u_1.2.2.2.2.2.2.2.2.2.2.2.2.2.2.2.1 u_1.2.2.2.2.2.2.2.2.2.2.2.2.2.2.2.2.1 u_1.2.2.2.2.2.2.2.2.2.2.2.1 u_1.2.2.2.2.2.2.2.2.2.2.2.2.2.2.2.2.2.1 tp tl u_1.2.2.2.2.2.2.2.2.2.2.2.2.2.2.2.2.2.2.1 u_1.2.2.2.2.2.2.2.2.2.2.2.2.2.2.2.2.2.2.2.1 u_1.2.2.2.2.2.2.2.2.2.2.2.2.2.2.2.2.2.2.2.2.1 u_1.2.2.2.2.2.2.2.2.2.2.2.2.2.2.2.2.2.2.2.2.2 (lw_out u_1.1 fo u_1.2.1.toInt64) ++ md_w r cI cZ u_2.2.1 u_2.2.2.1 u_2.2.2.2.1 u_2.2.2.2.2.1 xtp (nI td) u_2.2.2.2.2.2.1 u_2.2.2.2.2.2.2.1 u_2.2.2.2.2.2.2.2.1 u_2.2.2.2.2.2.2.2.2.1 u_2.2.2.2.2.2.2.2.2.2.1 u_2.2.2.2.2.2.2.2.2.2.2.1 u_2.2.2.2.2.2.2.2.2.2.2.2.1 u_2.2.2.2.2.2.2.2.2.2.2.2.2.1 u_2.2.2.2.2.2.2.2.2.2.2.2.2.2) := hD
  refine lv_istore (lv' := [(6, .int u_2.1), (5, .int (lw_c 0 1 2 3 u_1.1)), (0, .ref b), (1, .ref (q 0)), (2, .ref (r 0)), (3, .ref a), (4, .int (nI (4 * j)))]) hx hb d_LW_law_263 hl (by decide) rfl (fun ls hl => ?_)
  refine lv_goto (tgt := 554) hx hb d_LW_law_265 (by decide) ?_
  refine W.widen (k := 27 + (j + 1)) (n := 3370 + 6 * (j + 1)) (by omega) (by omega) ?_
  exact kk fl u_1.2.2.1 u_1.2.2.2.1 u_1.2.2.2.2.1 u_1.2.2.2.2.2.1 u_1.2.2.2.2.2.2.1 u_1.2.2.2.2.2.2.2.1 u_1.2.2.2.2.2.2.2.2.1 u_1.2.2.2.2.2.2.2.2.2.1 u_1.2.2.2.2.2.2.2.2.2.2.1 u_1.2.2.2.2.2.2.2.2.2.2.2.2.1 u_1.2.2.2.2.2.2.2.2.2.2.2.2.2.1 u_1.2.2.2.2.2.2.2.2.2.2.2.2.2.2.1 u_1.2.2.2.2.2.2.2.2.2.2.2.2.2.2.2.1 u_1.2.2.2.2.2.2.2.2.2.2.2.2.2.2.2.2.1 u_1.2.2.2.2.2.2.2.2.2.2.2.1 u_1.2.2.2.2.2.2.2.2.2.2.2.2.2.2.2.2.2.1 tp tl u_1.2.2.2.2.2.2.2.2.2.2.2.2.2.2.2.2.2.2.1 u_1.2.2.2.2.2.2.2.2.2.2.2.2.2.2.2.2.2.2.2.1 u_1.2.2.2.2.2.2.2.2.2.2.2.2.2.2.2.2.2.2.2.2.1 u_1.2.2.2.2.2.2.2.2.2.2.2.2.2.2.2.2.2.2.2.2.2 u_2.2.1 u_2.2.2.1 u_2.2.2.2.1 u_2.2.2.2.2.1 xtp u_2.2.2.2.2.2.1 u_2.2.2.2.2.2.2.1 u_2.2.2.2.2.2.2.2.1 u_2.2.2.2.2.2.2.2.2.1 u_2.2.2.2.2.2.2.2.2.2.1 u_2.2.2.2.2.2.2.2.2.2.2.1 u_2.2.2.2.2.2.2.2.2.2.2.2.1 u_2.2.2.2.2.2.2.2.2.2.2.2.2.1 u_2.2.2.2.2.2.2.2.2.2.2.2.2.2 (lw_out u_1.1 fo u_1.2.1.toInt64) td (by omega) _ _ hP hD hS ls (lv_sub hl [2, 3, 4, 5, 6] rfl)
set_option maxHeartbeats 2000000 in
set_option maxRecDepth 100000 in
/-- the law, case 4 -/
theorem law_4 {p : Program} {l : Launch} {e : Env} {s : State} {m : MethodId} {below : List Frame} {meth : Method} {c : Code} {b L : Nat} {xs : Nat → Int32} {D : va_G} {cI cZ cJ : ClassId} {q r : Nat → Nat} {a : Nat} {Q : State → Prop} (hL : L ≤ 2048) (C0 : lw_At p s m meth c b L xs) (hst : l.stackTraces = false) (hE : sf_EX (fun z : Nat => s.heap.size ≤ z) s s.heap) (hN : lw_NC s) (hK : va_K D classes (sf_tys cI cZ cJ) s) (j : Nat) (hj : 4 * j + 4 ≤ L) (fl : Nat → Int32) (sl : Nat → Int32) (tb : Nat → Int32) (np : Nat → Int32) (nt : Nat → Int32) (cp : Nat → Int32) (cc : Int32) (cb : Int32) (ch : Int32) (cm : Int32) (mp : Nat → Int32) (mc : Int32) (mb : Int32) (mh : Int32) (mm : Int32) (us : Nat → Int32) (ta : Nat → Int32) (tp : Nat → Int32) (tl : Int32) (cu : Int32) (bl : Int32) (pf : Int32) (sh : Int32) (xth : Int32) (xB : Nat → Int32) (xsh : Int32) (xcu : Int32) (xtp : Nat → Int32) (xpa : Nat → Int32) (xsp : Int32) (xwh : Int32) (xhe : Nat → Int32) (xho : Int32) (xtk : Nat → Int32) (xto : Nat → Int32) (xwa : Nat → Int32) (xmn : Int32) (fo : Nat → Int64) (td : Nat) (htd : td ≤ 60) (H : Heap) (locs : List Loc) (hP : va_P D classes (lw_x q a cI cZ cJ fl sl tb np nt cp cc cb ch cm mp mc mb mh mm us ta tp tl cu bl pf sh fo ++ md_w r cI cZ xth xB xsh xcu xtp (nI td) xpa xsp xwh xhe xho xtk xto xwa xmn) H) (hD : va_D (fun z : Nat => s.heap.size ≤ z) (lw_x q a cI cZ cJ fl sl tb np nt cp cc cb ch cm mp mc mb mh mm us ta tp tl cu bl pf sh fo ++ md_w r cI cZ xth xB xsh xcu xtp (nI td) xpa xsp xwh xhe xho xtk xto xwa xmn)) (hS : va_S (fun z : Nat => s.heap.size ≤ z) s.heap H locs) (ls : Array Slot) (hl : lv_has ls 7 [(0, .ref b), (1, .ref (q 0)), (2, .ref (r 0)), (3, .ref a), (4, .int (nI (4 * j)))])
    (kk : ∀ (fl : Nat → Int32) (sl : Nat → Int32) (tb : Nat → Int32) (np : Nat → Int32) (nt : Nat → Int32) (cp : Nat → Int32) (cc : Int32) (cb : Int32) (ch : Int32) (cm : Int32) (mp : Nat → Int32) (mc : Int32) (mb : Int32) (mh : Int32) (mm : Int32) (us : Nat → Int32) (ta : Nat → Int32) (tp : Nat → Int32) (tl : Int32) (cu : Int32) (bl : Int32) (pf : Int32) (sh : Int32) (xth : Int32) (xB : Nat → Int32) (xsh : Int32) (xcu : Int32) (xtp : Nat → Int32) (xpa : Nat → Int32) (xsp : Int32) (xwh : Int32) (xhe : Nat → Int32) (xho : Int32) (xtk : Nat → Int32) (xto : Nat → Int32) (xwa : Nat → Int32) (xmn : Int32) (fo : Nat → Int64) (td : Nat), td ≤ 60 → ∀ (H : Heap) (locs : List Loc), va_P D classes (lw_x q a cI cZ cJ fl sl tb np nt cp cc cb ch cm mp mc mb mh mm us ta tp tl cu bl pf sh fo ++ md_w r cI cZ xth xB xsh xcu xtp (nI td) xpa xsp xwh xhe xho xtk xto xwa xmn) H → va_D (fun z : Nat => s.heap.size ≤ z) (lw_x q a cI cZ cJ fl sl tb np nt cp cc cb ch cm mp mc mb mh mm us ta tp tl cu bl pf sh fo ++ md_w r cI cZ xth xB xsh xcu xtp (nI td) xpa xsp xwh xhe xho xtk xto xwa xmn) → va_S (fun z : Nat => s.heap.size ≤ z) s.heap H locs → ∀ (ls : Array Slot), lv_has ls 7 [(0, .ref b), (1, .ref (q 0)), (2, .ref (r 0)), (3, .ref a), (4, .int (nI (4 * j)))] → W p l e room_1 s m #[Value.ref b] below meth c H locs (27 + (j + 1)) (3370 + 6 * (j + 1)) Q (F0 m 554 ls [])) : W p l e room_1 s m #[Value.ref b] below meth c H locs (27 + j) (3370 + 6 * j) Q (F0 m 268 ls []) := by
  obtain ⟨hx, hb, hr, hml, hown, hts0, hX, hbl, hlocks, hgv⟩ := id C0
  have hts : ∀ w ∈ sf_tb, w.before #[Value.ref b] s = true := fun w h => hts0 w (sf_sub w h)
  have hA : ∀ z : Nat, s.heap.size ≤ z → (fun z : Nat => s.heap.size ≤ z) z := fun _ h => h
  have hbA : ¬ (fun z : Nat => s.heap.size ≤ z) b := Nat.not_le.mpr hbl
  refine lv_aload_n hx hb d_LW_law_268 rfl (lv_at hl 1 rfl) ?_
  refine lv_aload_n hx hb d_LW_law_269 rfl (lv_at hl 0 rfl) ?_
  refine lv_iload hx hb d_LW_law_270 (lv_at hl 4 rfl) ?_
  refine lv_iconst (v := 1) hx hb d_LW_law_272 (by decide) ?_
  refine lv_iadd hx hb d_LW_law_273 ?_
  rw [show (((nI (4 * j)) + 1) : Int32) = (nI ((4 * j) + 1)) from nI_add (4 * j) 1]
  refine va_sld hx hb hX hbl hbA hS (show vp_in (nI ((4 * j) + 1)) L from vp_in_nI (n := ((4 * j) + 1)) (by omega) (by omega)) d_LW_law_274 ?_
  rw [show ((nI ((4 * j) + 1)) : Int32).toNatClampNeg = ((4 * j) + 1) from nI_clamp (n := ((4 * j) + 1)) (by omega)]
  refine sf_ncallS (S := (Int32 × Int32)) (rest := []) ⟨hx, hb, hml, hown, hts⟩ (c_LW_cut l D cI cZ cJ hst q a fl sl tb np nt cp cc cb ch cm mp mc mb mh mm us ta tp tl cu bl pf sh fo (xs ((4 * j) + 1))) (sf_cwSW lk_LW_78 hts (fun _ h => h) ⟨Nat.le_of_ble_eq_true rfl, Nat.le_of_ble_eq_true rfl⟩) hK hE hN hP hD hS hA (fun _ => rfl) rfl rfl hl.1 (Nat.le_of_ble_eq_true rfl) d_LW_law_275 ⟨by show _ ≤ 601024; omega, by show _ ≤ 7293034; omega⟩ (fun u_1 H locs hu_1 hP hD hS => ?_)
  have hP : va_P D classes (lw_x q a cI cZ cJ fl sl tb np nt cp cc cb ch cm mp mc mb mh mm us ta tp tl u_1.2 bl pf sh fo ++ md_w r cI cZ xth xB xsh xcu xtp (nI td) xpa xsp xwh xhe xho xtk xto xwa xmn) H := hP
  have hD : va_D (fun z : Nat => s.heap.size ≤ z) (lw_x q a cI cZ cJ fl sl tb np nt cp cc cb ch cm mp mc mb mh mm us ta tp tl u_1.2 bl pf sh fo ++ md_w r cI cZ xth xB xsh xcu xtp (nI td) xpa xsp xwh xhe xho xtk xto xwa xmn) := hD
  refine lv_istore (lv' := [(5, .int (lw_c 0 0 1 0 u_1.1)), (0, .ref b), (1, .ref (q 0)), (2, .ref (r 0)), (3, .ref a), (4, .int (nI (4 * j)))]) hx hb d_LW_law_278 hl (by decide) rfl (fun ls hl => ?_)
  refine lv_aload_n hx hb d_LW_law_280 rfl (lv_at hl 3 rfl) ?_
  refine lv_aload_n hx hb d_LW_law_281 rfl (lv_at hl 1 rfl) ?_
  refine lv_iload hx hb d_LW_law_282 (lv_at hl 5 rfl) ?_
  refine lv_iconst (v := 1) hx hb d_LW_law_284 (by decide) ?_
  refine lv_iadd hx hb d_LW_law_285 ?_
  rw [show (((nI (4 * j)) + 1) : Int32) = (nI ((4 * j) + 1)) from nI_add (4 * j) 1]
  refine va_sld hx hb hX hbl hbA hS (show vp_in (nI ((4 * j) + 1)) L from vp_in_nI (n := ((4 * j) + 1)) (by omega) (by omega)) d_LW_law_286 ?_
  rw [show ((nI ((4 * j) + 1)) : Int32).toNatClampNeg = ((4 * j) + 1) from nI_clamp (n := ((4 * j) + 1)) (by omega)]
  refine sf_callVS (S := (Int32 × Int32)) (rest := []) ⟨hx, hb, hml, hown, hts⟩ (c_MD_cut l D cI cZ cJ r xth xB xsh xcu xtp (nI td) xpa xsp xwh xhe xho xtk xto xwa xmn (xs ((4 * j) + 1))) (sf_cwV lk_LW_81 hts (fun _ h => h) ⟨Nat.le_of_ble_eq_true rfl, Nat.le_of_ble_eq_true rfl⟩) hK hP hD hS hA (fun _ => rfl) (ci := 3) (q0 := 0) rfl rfl rfl rfl rfl hl.1 (Nat.le_of_ble_eq_true rfl) d_LW_law_287 ⟨by show _ ≤ 601024; omega, by show _ ≤ 7293034; omega⟩ (fun u_2 H locs hu_2 hP hD hS => ?_)
  have hP : va_P D classes (lw_x q a cI cZ cJ fl sl tb np nt cp cc cb ch cm mp mc mb mh mm us ta tp tl u_1.2 bl pf sh fo ++ md_w r cI cZ u_2.1 xB xsh u_2.2 xtp (nI td) xpa xsp xwh xhe xho xtk xto xwa xmn) H := hP
  have hD : va_D (fun z : Nat => s.heap.size ≤ z) (lw_x q a cI cZ cJ fl sl tb np nt cp cc cb ch cm mp mc mb mh mm us ta tp tl u_1.2 bl pf sh fo ++ md_w r cI cZ u_2.1 xB xsh u_2.2 xtp (nI td) xpa xsp xwh xhe xho xtk xto xwa xmn) := hD
  refine lv_goto (tgt := 554) hx hb d_LW_law_290 (by decide) ?_
  refine W.widen (k := 27 + (j + 1)) (n := 3370 + 6 * (j + 1)) (by omega) (by omega) ?_
  exact kk fl sl tb np nt cp cc cb ch cm mp mc mb mh mm us ta tp tl u_1.2 bl pf sh u_2.1 xB xsh u_2.2 xtp xpa xsp xwh xhe xho xtk xto xwa xmn fo td (by omega) _ _ hP hD hS ls (lv_sub hl [1, 2, 3, 4, 5] rfl)
set_option maxHeartbeats 2000000 in
set_option maxRecDepth 100000 in
/-- the law, case 5 -/
theorem law_5 {p : Program} {l : Launch} {e : Env} {s : State} {m : MethodId} {below : List Frame} {meth : Method} {c : Code} {b L : Nat} {xs : Nat → Int32} {D : va_G} {cI cZ cJ : ClassId} {q r : Nat → Nat} {a : Nat} {Q : State → Prop} (hL : L ≤ 2048) (C0 : lw_At p s m meth c b L xs) (hst : l.stackTraces = false) (hE : sf_EX (fun z : Nat => s.heap.size ≤ z) s s.heap) (hN : lw_NC s) (hK : va_K D classes (sf_tys cI cZ cJ) s) (j : Nat) (hj : 4 * j + 4 ≤ L) (fl : Nat → Int32) (sl : Nat → Int32) (tb : Nat → Int32) (np : Nat → Int32) (nt : Nat → Int32) (cp : Nat → Int32) (cc : Int32) (cb : Int32) (ch : Int32) (cm : Int32) (mp : Nat → Int32) (mc : Int32) (mb : Int32) (mh : Int32) (mm : Int32) (us : Nat → Int32) (ta : Nat → Int32) (tp : Nat → Int32) (tl : Int32) (cu : Int32) (bl : Int32) (pf : Int32) (sh : Int32) (xth : Int32) (xB : Nat → Int32) (xsh : Int32) (xcu : Int32) (xtp : Nat → Int32) (xpa : Nat → Int32) (xsp : Int32) (xwh : Int32) (xhe : Nat → Int32) (xho : Int32) (xtk : Nat → Int32) (xto : Nat → Int32) (xwa : Nat → Int32) (xmn : Int32) (fo : Nat → Int64) (td : Nat) (htd : td ≤ 60) (H : Heap) (locs : List Loc) (hP : va_P D classes (lw_x q a cI cZ cJ fl sl tb np nt cp cc cb ch cm mp mc mb mh mm us ta tp tl cu bl pf sh fo ++ md_w r cI cZ xth xB xsh xcu xtp (nI td) xpa xsp xwh xhe xho xtk xto xwa xmn) H) (hD : va_D (fun z : Nat => s.heap.size ≤ z) (lw_x q a cI cZ cJ fl sl tb np nt cp cc cb ch cm mp mc mb mh mm us ta tp tl cu bl pf sh fo ++ md_w r cI cZ xth xB xsh xcu xtp (nI td) xpa xsp xwh xhe xho xtk xto xwa xmn)) (hS : va_S (fun z : Nat => s.heap.size ≤ z) s.heap H locs) (ls : Array Slot) (hl : lv_has ls 7 [(0, .ref b), (1, .ref (q 0)), (2, .ref (r 0)), (3, .ref a), (4, .int (nI (4 * j)))])
    (kk : ∀ (fl : Nat → Int32) (sl : Nat → Int32) (tb : Nat → Int32) (np : Nat → Int32) (nt : Nat → Int32) (cp : Nat → Int32) (cc : Int32) (cb : Int32) (ch : Int32) (cm : Int32) (mp : Nat → Int32) (mc : Int32) (mb : Int32) (mh : Int32) (mm : Int32) (us : Nat → Int32) (ta : Nat → Int32) (tp : Nat → Int32) (tl : Int32) (cu : Int32) (bl : Int32) (pf : Int32) (sh : Int32) (xth : Int32) (xB : Nat → Int32) (xsh : Int32) (xcu : Int32) (xtp : Nat → Int32) (xpa : Nat → Int32) (xsp : Int32) (xwh : Int32) (xhe : Nat → Int32) (xho : Int32) (xtk : Nat → Int32) (xto : Nat → Int32) (xwa : Nat → Int32) (xmn : Int32) (fo : Nat → Int64) (td : Nat), td ≤ 60 → ∀ (H : Heap) (locs : List Loc), va_P D classes (lw_x q a cI cZ cJ fl sl tb np nt cp cc cb ch cm mp mc mb mh mm us ta tp tl cu bl pf sh fo ++ md_w r cI cZ xth xB xsh xcu xtp (nI td) xpa xsp xwh xhe xho xtk xto xwa xmn) H → va_D (fun z : Nat => s.heap.size ≤ z) (lw_x q a cI cZ cJ fl sl tb np nt cp cc cb ch cm mp mc mb mh mm us ta tp tl cu bl pf sh fo ++ md_w r cI cZ xth xB xsh xcu xtp (nI td) xpa xsp xwh xhe xho xtk xto xwa xmn) → va_S (fun z : Nat => s.heap.size ≤ z) s.heap H locs → ∀ (ls : Array Slot), lv_has ls 7 [(0, .ref b), (1, .ref (q 0)), (2, .ref (r 0)), (3, .ref a), (4, .int (nI (4 * j)))] → W p l e room_1 s m #[Value.ref b] below meth c H locs (27 + (j + 1)) (3370 + 6 * (j + 1)) Q (F0 m 554 ls [])) : W p l e room_1 s m #[Value.ref b] below meth c H locs (27 + j) (3370 + 6 * j) Q (F0 m 293 ls []) := by
  obtain ⟨hx, hb, hr, hml, hown, hts0, hX, hbl, hlocks, hgv⟩ := id C0
  have hts : ∀ w ∈ sf_tb, w.before #[Value.ref b] s = true := fun w h => hts0 w (sf_sub w h)
  have hA : ∀ z : Nat, s.heap.size ≤ z → (fun z : Nat => s.heap.size ≤ z) z := fun _ h => h
  have hbA : ¬ (fun z : Nat => s.heap.size ≤ z) b := Nat.not_le.mpr hbl
  refine lv_aload_n hx hb d_LW_law_293 rfl (lv_at hl 1 rfl) ?_
  have hP : va_P D classes (sf_w q cI cZ fl sl tb np nt cp cc cb ch cm mp mc mb mh mm us ta tp tl cu bl pf sh ++ ([(a, .inl (cJ, 1, .inr (.inl fo)))] ++ md_w r cI cZ xth xB xsh xcu xtp (nI td) xpa xsp xwh xhe xho xtk xto xwa xmn)) H := by rw [← List.append_assoc]; exact hP
  have hD : va_D (fun z : Nat => s.heap.size ≤ z) (sf_w q cI cZ fl sl tb np nt cp cc cb ch cm mp mc mb mh mm us ta tp tl cu bl pf sh ++ ([(a, .inl (cJ, 1, .inr (.inl fo)))] ++ md_w r cI cZ xth xB xsh xcu xtp (nI td) xpa xsp xwh xhe xho xtk xto xwa xmn)) := by rw [← List.append_assoc]; exact hD
  refine sf_callVP (S := (Int32 × Int32)) (rest := []) ⟨hx, hb, hml, hown, hts⟩ (c_SF_open l D cI cZ cJ q fl sl tb np nt cp cc cb ch cm mp mc mb mh mm us ta tp tl cu bl pf sh) (sf_cwV lk_LW_82 hts (fun _ h => h) ⟨Nat.le_of_ble_eq_true rfl, Nat.le_of_ble_eq_true rfl⟩) hK hP hD hS hA (fun _ => rfl) (ci := 2) (q0 := 0) rfl rfl rfl rfl rfl hl.1 (Nat.le_of_ble_eq_true rfl) d_LW_law_294 ⟨by show _ ≤ 601024; omega, by show _ ≤ 7293034; omega⟩ (fun u_1 H locs hu_1 hP hD hS => ?_)
  rw [← List.append_assoc] at hP hD
  have hP : va_P D classes (lw_x q a cI cZ cJ fl sl tb np nt cp cc cb ch cm mp mc mb mh mm us ta tp tl cu bl pf u_1.2 fo ++ md_w r cI cZ xth xB xsh xcu xtp (nI td) xpa xsp xwh xhe xho xtk xto xwa xmn) H := hP
  have hD : va_D (fun z : Nat => s.heap.size ≤ z) (lw_x q a cI cZ cJ fl sl tb np nt cp cc cb ch cm mp mc mb mh mm us ta tp tl cu bl pf u_1.2 fo ++ md_w r cI cZ xth xB xsh xcu xtp (nI td) xpa xsp xwh xhe xho xtk xto xwa xmn) := hD
  refine lv_pop hx hb d_LW_law_297 rfl ?_
  refine lv_aload_n hx hb d_LW_law_298 rfl (lv_at hl 2 rfl) ?_
  refine sf_callVS (S := (Int32 × Int32)) (rest := []) ⟨hx, hb, hml, hown, hts⟩ (c_MD_open l D cI cZ cJ r xth xB xsh xcu xtp (nI td) xpa xsp xwh xhe xho xtk xto xwa xmn) (sf_cwV lk_LW_86 hts (fun _ h => h) ⟨Nat.le_of_ble_eq_true rfl, Nat.le_of_ble_eq_true rfl⟩) hK hP hD hS hA (fun _ => rfl) (ci := 3) (q0 := 0) rfl rfl rfl rfl rfl hl.1 (Nat.le_of_ble_eq_true rfl) d_LW_law_299 ⟨by show _ ≤ 601024; omega, by show _ ≤ 7293034; omega⟩ (fun u_2 H locs hu_2 hP hD hS => ?_)
  have hP : va_P D classes (lw_x q a cI cZ cJ fl sl tb np nt cp cc cb ch cm mp mc mb mh mm us ta tp tl cu bl pf u_1.2 fo ++ md_w r cI cZ 0 xB u_2.2 xcu xtp (nI td) xpa xsp xwh xhe xho xtk xto xwa xmn) H := hP
  have hD : va_D (fun z : Nat => s.heap.size ≤ z) (lw_x q a cI cZ cJ fl sl tb np nt cp cc cb ch cm mp mc mb mh mm us ta tp tl cu bl pf u_1.2 fo ++ md_w r cI cZ 0 xB u_2.2 xcu xtp (nI td) xpa xsp xwh xhe xho xtk xto xwa xmn) := hD
  refine lv_pop hx hb d_LW_law_302 rfl ?_
  refine lv_goto (tgt := 554) hx hb d_LW_law_303 (by decide) ?_
  refine W.widen (k := 27 + (j + 1)) (n := 3370 + 6 * (j + 1)) (by omega) (by omega) ?_
  exact kk fl sl tb np nt cp cc cb ch cm mp mc mb mh mm us ta tp tl cu bl pf u_1.2 0 xB u_2.2 xcu xtp xpa xsp xwh xhe xho xtk xto xwa xmn fo td (by omega) _ _ hP hD hS ls (lv_sub hl [0, 1, 2, 3, 4] rfl)
set_option maxHeartbeats 2000000 in
set_option maxRecDepth 100000 in
/-- the law, case 6 -/
theorem law_6 {p : Program} {l : Launch} {e : Env} {s : State} {m : MethodId} {below : List Frame} {meth : Method} {c : Code} {b L : Nat} {xs : Nat → Int32} {D : va_G} {cI cZ cJ : ClassId} {q r : Nat → Nat} {a : Nat} {Q : State → Prop} (hL : L ≤ 2048) (C0 : lw_At p s m meth c b L xs) (hst : l.stackTraces = false) (hE : sf_EX (fun z : Nat => s.heap.size ≤ z) s s.heap) (hN : lw_NC s) (hK : va_K D classes (sf_tys cI cZ cJ) s) (j : Nat) (hj : 4 * j + 4 ≤ L) (fl : Nat → Int32) (sl : Nat → Int32) (tb : Nat → Int32) (np : Nat → Int32) (nt : Nat → Int32) (cp : Nat → Int32) (cc : Int32) (cb : Int32) (ch : Int32) (cm : Int32) (mp : Nat → Int32) (mc : Int32) (mb : Int32) (mh : Int32) (mm : Int32) (us : Nat → Int32) (ta : Nat → Int32) (tp : Nat → Int32) (tl : Int32) (cu : Int32) (bl : Int32) (pf : Int32) (sh : Int32) (xth : Int32) (xB : Nat → Int32) (xsh : Int32) (xcu : Int32) (xtp : Nat → Int32) (xpa : Nat → Int32) (xsp : Int32) (xwh : Int32) (xhe : Nat → Int32) (xho : Int32) (xtk : Nat → Int32) (xto : Nat → Int32) (xwa : Nat → Int32) (xmn : Int32) (fo : Nat → Int64) (td : Nat) (htd : td ≤ 60) (H : Heap) (locs : List Loc) (hP : va_P D classes (lw_x q a cI cZ cJ fl sl tb np nt cp cc cb ch cm mp mc mb mh mm us ta tp tl cu bl pf sh fo ++ md_w r cI cZ xth xB xsh xcu xtp (nI td) xpa xsp xwh xhe xho xtk xto xwa xmn) H) (hD : va_D (fun z : Nat => s.heap.size ≤ z) (lw_x q a cI cZ cJ fl sl tb np nt cp cc cb ch cm mp mc mb mh mm us ta tp tl cu bl pf sh fo ++ md_w r cI cZ xth xB xsh xcu xtp (nI td) xpa xsp xwh xhe xho xtk xto xwa xmn)) (hS : va_S (fun z : Nat => s.heap.size ≤ z) s.heap H locs) (ls : Array Slot) (hl : lv_has ls 7 [(0, .ref b), (1, .ref (q 0)), (2, .ref (r 0)), (3, .ref a), (4, .int (nI (4 * j)))])
    (kk : ∀ (fl : Nat → Int32) (sl : Nat → Int32) (tb : Nat → Int32) (np : Nat → Int32) (nt : Nat → Int32) (cp : Nat → Int32) (cc : Int32) (cb : Int32) (ch : Int32) (cm : Int32) (mp : Nat → Int32) (mc : Int32) (mb : Int32) (mh : Int32) (mm : Int32) (us : Nat → Int32) (ta : Nat → Int32) (tp : Nat → Int32) (tl : Int32) (cu : Int32) (bl : Int32) (pf : Int32) (sh : Int32) (xth : Int32) (xB : Nat → Int32) (xsh : Int32) (xcu : Int32) (xtp : Nat → Int32) (xpa : Nat → Int32) (xsp : Int32) (xwh : Int32) (xhe : Nat → Int32) (xho : Int32) (xtk : Nat → Int32) (xto : Nat → Int32) (xwa : Nat → Int32) (xmn : Int32) (fo : Nat → Int64) (td : Nat), td ≤ 60 → ∀ (H : Heap) (locs : List Loc), va_P D classes (lw_x q a cI cZ cJ fl sl tb np nt cp cc cb ch cm mp mc mb mh mm us ta tp tl cu bl pf sh fo ++ md_w r cI cZ xth xB xsh xcu xtp (nI td) xpa xsp xwh xhe xho xtk xto xwa xmn) H → va_D (fun z : Nat => s.heap.size ≤ z) (lw_x q a cI cZ cJ fl sl tb np nt cp cc cb ch cm mp mc mb mh mm us ta tp tl cu bl pf sh fo ++ md_w r cI cZ xth xB xsh xcu xtp (nI td) xpa xsp xwh xhe xho xtk xto xwa xmn) → va_S (fun z : Nat => s.heap.size ≤ z) s.heap H locs → ∀ (ls : Array Slot), lv_has ls 7 [(0, .ref b), (1, .ref (q 0)), (2, .ref (r 0)), (3, .ref a), (4, .int (nI (4 * j)))] → W p l e room_1 s m #[Value.ref b] below meth c H locs (27 + (j + 1)) (3370 + 6 * (j + 1)) Q (F0 m 554 ls [])) : W p l e room_1 s m #[Value.ref b] below meth c H locs (27 + j) (3370 + 6 * j) Q (F0 m 306 ls []) := by
  obtain ⟨hx, hb, hr, hml, hown, hts0, hX, hbl, hlocks, hgv⟩ := id C0
  have hts : ∀ w ∈ sf_tb, w.before #[Value.ref b] s = true := fun w h => hts0 w (sf_sub w h)
  have hA : ∀ z : Nat, s.heap.size ≤ z → (fun z : Nat => s.heap.size ≤ z) z := fun _ h => h
  have hbA : ¬ (fun z : Nat => s.heap.size ≤ z) b := Nat.not_le.mpr hbl
  refine lv_aload_n hx hb d_LW_law_306 rfl (lv_at hl 1 rfl) ?_
  refine lv_aload_n hx hb d_LW_law_307 rfl (lv_at hl 0 rfl) ?_
  refine lv_iload hx hb d_LW_law_308 (lv_at hl 4 rfl) ?_
  refine lv_iconst (v := 1) hx hb d_LW_law_310 (by decide) ?_
  refine lv_iadd hx hb d_LW_law_311 ?_
  rw [show (((nI (4 * j)) + 1) : Int32) = (nI ((4 * j) + 1)) from nI_add (4 * j) 1]
  refine va_sld hx hb hX hbl hbA hS (show vp_in (nI ((4 * j) + 1)) L from vp_in_nI (n := ((4 * j) + 1)) (by omega) (by omega)) d_LW_law_312 ?_
  rw [show ((nI ((4 * j) + 1)) : Int32).toNatClampNeg = ((4 * j) + 1) from nI_clamp (n := ((4 * j) + 1)) (by omega)]
  refine lv_aload_n hx hb d_LW_law_313 rfl (lv_at hl 0 rfl) ?_
  refine lv_iload hx hb d_LW_law_314 (lv_at hl 4 rfl) ?_
  refine lv_iconst (v := 2) hx hb d_LW_law_316 (by decide) ?_
  refine lv_iadd hx hb d_LW_law_317 ?_
  rw [show (((nI (4 * j)) + 2) : Int32) = (nI ((4 * j) + 2)) from nI_add (4 * j) 2]
  refine va_sld hx hb hX hbl hbA hS (show vp_in (nI ((4 * j) + 2)) L from vp_in_nI (n := ((4 * j) + 2)) (by omega) (by omega)) d_LW_law_318 ?_
  rw [show ((nI ((4 * j) + 2)) : Int32).toNatClampNeg = ((4 * j) + 2) from nI_clamp (n := ((4 * j) + 2)) (by omega)]
  refine lv_aload_n hx hb d_LW_law_319 rfl (lv_at hl 3 rfl) ?_
  refine sf_ncallS (S := (Int32 × Int32 × (Nat → Int32) × Int32 × Int32 × Int32 × Int32)) (rest := []) ⟨hx, hb, hml, hown, hts⟩ (c_LW_row l D cI cZ cJ hst q a fl sl tb np nt cp cc cb ch cm mp mc mb mh mm us ta tp tl cu bl pf sh fo (xs ((4 * j) + 1)) (xs ((4 * j) + 2))) (sf_cwSW lk_LW_87 hts (fun _ h => h) ⟨Nat.le_of_ble_eq_true rfl, Nat.le_of_ble_eq_true rfl⟩) hK hE hN hP hD hS hA (fun _ => rfl) rfl rfl hl.1 (Nat.le_of_ble_eq_true rfl) d_LW_law_320 ⟨by show _ ≤ 601024; omega, by show _ ≤ 7293034; omega⟩ (fun u_1 H locs hu_1 hP hD hS => ?_)
  have hP : va_P D classes (lw_x q a cI cZ cJ fl sl tb np nt u_1.2.2.1 u_1.2.2.2.1 u_1.2.2.2.2.1 u_1.2.2.2.2.2.1 u_1.2.2.2.2.2.2 mp mc mb mh mm us ta tp tl cu bl pf sh (lw_out u_1.1 fo u_1.2.1.toInt64) ++ md_w r cI cZ xth xB xsh xcu xtp (nI td) xpa xsp xwh xhe xho xtk xto xwa xmn) H := hP
  have hD : va_D (fun z : Nat => s.heap.size ≤ z) (lw_x q a cI cZ cJ fl sl tb np nt u_1.2.2.1 u_1.2.2.2.1 u_1.2.2.2.2.1 u_1.2.2.2.2.2.1 u_1.2.2.2.2.2.2 mp mc mb mh mm us ta tp tl cu bl pf sh (lw_out u_1.1 fo u_1.2.1.toInt64) ++ md_w r cI cZ xth xB xsh xcu xtp (nI td) xpa xsp xwh xhe xho xtk xto xwa xmn) := hD
  refine lv_istore (lv' := [(5, .int (lw_c 1 2 0 0 u_1.1)), (0, .ref b), (1, .ref (q 0)), (2, .ref (r 0)), (3, .ref a), (4, .int (nI (4 * j)))]) hx hb d_LW_law_323 hl (by decide) rfl (fun ls hl => ?_)
  refine lv_aload_n hx hb d_LW_law_325 rfl (lv_at hl 3 rfl) ?_
  refine lv_aload_n hx hb d_LW_law_326 rfl (lv_at hl 1 rfl) ?_
  refine lv_iload hx hb d_LW_law_327 (lv_at hl 5 rfl) ?_
  refine lv_iconst (v := 1) hx hb d_LW_law_329 (by decide) ?_
  refine lv_iadd hx hb d_LW_law_330 ?_
  rw [show (((nI (4 * j)) + 1) : Int32) = (nI ((4 * j) + 1)) from nI_add (4 * j) 1]
  refine va_sld hx hb hX hbl hbA hS (show vp_in (nI ((4 * j) + 1)) L from vp_in_nI (n := ((4 * j) + 1)) (by omega) (by omega)) d_LW_law_331 ?_
  rw [show ((nI ((4 * j) + 1)) : Int32).toNatClampNeg = ((4 * j) + 1) from nI_clamp (n := ((4 * j) + 1)) (by omega)]
  refine lv_aload_n hx hb d_LW_law_332 rfl (lv_at hl 1 rfl) ?_
  refine lv_iload hx hb d_LW_law_333 (lv_at hl 5 rfl) ?_
  refine lv_iconst (v := 2) hx hb d_LW_law_335 (by decide) ?_
  refine lv_iadd hx hb d_LW_law_336 ?_
  rw [show (((nI (4 * j)) + 2) : Int32) = (nI ((4 * j) + 2)) from nI_add (4 * j) 2]
  refine va_sld hx hb hX hbl hbA hS (show vp_in (nI ((4 * j) + 2)) L from vp_in_nI (n := ((4 * j) + 2)) (by omega) (by omega)) d_LW_law_337 ?_
  rw [show ((nI ((4 * j) + 2)) : Int32).toNatClampNeg = ((4 * j) + 2) from nI_clamp (n := ((4 * j) + 2)) (by omega)]
  refine sf_callVS (S := (Int32 × Int32 × (Nat → Int32) × Int32 × Int32 × (Nat → Int32) × Int32)) (rest := []) ⟨hx, hb, hml, hown, hts⟩ (c_MD_row l D cI cZ cJ r xth xB xsh xcu xtp (nI td) xpa xsp xwh xhe xho xtk xto xwa xmn (xs ((4 * j) + 1)) (xs ((4 * j) + 2))) (sf_cwV lk_LW_89 hts (fun _ h => h) ⟨Nat.le_of_ble_eq_true rfl, Nat.le_of_ble_eq_true rfl⟩) hK hP hD hS hA (fun _ => rfl) (ci := 3) (q0 := 0) rfl rfl rfl rfl rfl hl.1 (Nat.le_of_ble_eq_true rfl) d_LW_law_338 ⟨by show _ ≤ 601024; omega, by show _ ≤ 7293034; omega⟩ (fun u_2 H locs hu_2 hP hD hS => ?_)
  have hP : va_P D classes (lw_x q a cI cZ cJ fl sl tb np nt u_1.2.2.1 u_1.2.2.2.1 u_1.2.2.2.2.1 u_1.2.2.2.2.2.1 u_1.2.2.2.2.2.2 mp mc mb mh mm us ta tp tl cu bl pf sh (lw_out u_1.1 fo u_1.2.1.toInt64) ++ md_w r cI cZ u_2.2.1 xB xsh xcu xtp (nI td) u_2.2.2.1 u_2.2.2.2.1 u_2.2.2.2.2.1 u_2.2.2.2.2.2.1 u_2.2.2.2.2.2.2 xtk xto xwa xmn) H := hP
  have hD : va_D (fun z : Nat => s.heap.size ≤ z) (lw_x q a cI cZ cJ fl sl tb np nt u_1.2.2.1 u_1.2.2.2.1 u_1.2.2.2.2.1 u_1.2.2.2.2.2.1 u_1.2.2.2.2.2.2 mp mc mb mh mm us ta tp tl cu bl pf sh (lw_out u_1.1 fo u_1.2.1.toInt64) ++ md_w r cI cZ u_2.2.1 xB xsh xcu xtp (nI td) u_2.2.2.1 u_2.2.2.2.1 u_2.2.2.2.2.1 u_2.2.2.2.2.2.1 u_2.2.2.2.2.2.2 xtk xto xwa xmn) := hD
  refine lv_istore (lv' := [(6, .int u_2.1), (5, .int (lw_c 1 2 0 0 u_1.1)), (0, .ref b), (1, .ref (q 0)), (2, .ref (r 0)), (3, .ref a), (4, .int (nI (4 * j)))]) hx hb d_LW_law_341 hl (by decide) rfl (fun ls hl => ?_)
  refine lv_goto (tgt := 554) hx hb d_LW_law_343 (by decide) ?_
  refine W.widen (k := 27 + (j + 1)) (n := 3370 + 6 * (j + 1)) (by omega) (by omega) ?_
  exact kk fl sl tb np nt u_1.2.2.1 u_1.2.2.2.1 u_1.2.2.2.2.1 u_1.2.2.2.2.2.1 u_1.2.2.2.2.2.2 mp mc mb mh mm us ta tp tl cu bl pf sh u_2.2.1 xB xsh xcu xtp u_2.2.2.1 u_2.2.2.2.1 u_2.2.2.2.2.1 u_2.2.2.2.2.2.1 u_2.2.2.2.2.2.2 xtk xto xwa xmn (lw_out u_1.1 fo u_1.2.1.toInt64) td (by omega) _ _ hP hD hS ls (lv_sub hl [2, 3, 4, 5, 6] rfl)
set_option maxHeartbeats 2000000 in
set_option maxRecDepth 100000 in
/-- the law, case 7 -/
theorem law_7 {p : Program} {l : Launch} {e : Env} {s : State} {m : MethodId} {below : List Frame} {meth : Method} {c : Code} {b L : Nat} {xs : Nat → Int32} {D : va_G} {cI cZ cJ : ClassId} {q r : Nat → Nat} {a : Nat} {Q : State → Prop} (hL : L ≤ 2048) (C0 : lw_At p s m meth c b L xs) (hst : l.stackTraces = false) (hE : sf_EX (fun z : Nat => s.heap.size ≤ z) s s.heap) (hN : lw_NC s) (hK : va_K D classes (sf_tys cI cZ cJ) s) (j : Nat) (hj : 4 * j + 4 ≤ L) (fl : Nat → Int32) (sl : Nat → Int32) (tb : Nat → Int32) (np : Nat → Int32) (nt : Nat → Int32) (cp : Nat → Int32) (cc : Int32) (cb : Int32) (ch : Int32) (cm : Int32) (mp : Nat → Int32) (mc : Int32) (mb : Int32) (mh : Int32) (mm : Int32) (us : Nat → Int32) (ta : Nat → Int32) (tp : Nat → Int32) (tl : Int32) (cu : Int32) (bl : Int32) (pf : Int32) (sh : Int32) (xth : Int32) (xB : Nat → Int32) (xsh : Int32) (xcu : Int32) (xtp : Nat → Int32) (xpa : Nat → Int32) (xsp : Int32) (xwh : Int32) (xhe : Nat → Int32) (xho : Int32) (xtk : Nat → Int32) (xto : Nat → Int32) (xwa : Nat → Int32) (xmn : Int32) (fo : Nat → Int64) (td : Nat) (htd : td ≤ 60) (H : Heap) (locs : List Loc) (hP : va_P D classes (lw_x q a cI cZ cJ fl sl tb np nt cp cc cb ch cm mp mc mb mh mm us ta tp tl cu bl pf sh fo ++ md_w r cI cZ xth xB xsh xcu xtp (nI td) xpa xsp xwh xhe xho xtk xto xwa xmn) H) (hD : va_D (fun z : Nat => s.heap.size ≤ z) (lw_x q a cI cZ cJ fl sl tb np nt cp cc cb ch cm mp mc mb mh mm us ta tp tl cu bl pf sh fo ++ md_w r cI cZ xth xB xsh xcu xtp (nI td) xpa xsp xwh xhe xho xtk xto xwa xmn)) (hS : va_S (fun z : Nat => s.heap.size ≤ z) s.heap H locs) (ls : Array Slot) (hl : lv_has ls 7 [(0, .ref b), (1, .ref (q 0)), (2, .ref (r 0)), (3, .ref a), (4, .int (nI (4 * j)))])
    (kk : ∀ (fl : Nat → Int32) (sl : Nat → Int32) (tb : Nat → Int32) (np : Nat → Int32) (nt : Nat → Int32) (cp : Nat → Int32) (cc : Int32) (cb : Int32) (ch : Int32) (cm : Int32) (mp : Nat → Int32) (mc : Int32) (mb : Int32) (mh : Int32) (mm : Int32) (us : Nat → Int32) (ta : Nat → Int32) (tp : Nat → Int32) (tl : Int32) (cu : Int32) (bl : Int32) (pf : Int32) (sh : Int32) (xth : Int32) (xB : Nat → Int32) (xsh : Int32) (xcu : Int32) (xtp : Nat → Int32) (xpa : Nat → Int32) (xsp : Int32) (xwh : Int32) (xhe : Nat → Int32) (xho : Int32) (xtk : Nat → Int32) (xto : Nat → Int32) (xwa : Nat → Int32) (xmn : Int32) (fo : Nat → Int64) (td : Nat), td ≤ 60 → ∀ (H : Heap) (locs : List Loc), va_P D classes (lw_x q a cI cZ cJ fl sl tb np nt cp cc cb ch cm mp mc mb mh mm us ta tp tl cu bl pf sh fo ++ md_w r cI cZ xth xB xsh xcu xtp (nI td) xpa xsp xwh xhe xho xtk xto xwa xmn) H → va_D (fun z : Nat => s.heap.size ≤ z) (lw_x q a cI cZ cJ fl sl tb np nt cp cc cb ch cm mp mc mb mh mm us ta tp tl cu bl pf sh fo ++ md_w r cI cZ xth xB xsh xcu xtp (nI td) xpa xsp xwh xhe xho xtk xto xwa xmn) → va_S (fun z : Nat => s.heap.size ≤ z) s.heap H locs → ∀ (ls : Array Slot), lv_has ls 7 [(0, .ref b), (1, .ref (q 0)), (2, .ref (r 0)), (3, .ref a), (4, .int (nI (4 * j)))] → W p l e room_1 s m #[Value.ref b] below meth c H locs (27 + (j + 1)) (3370 + 6 * (j + 1)) Q (F0 m 554 ls [])) : W p l e room_1 s m #[Value.ref b] below meth c H locs (27 + j) (3370 + 6 * j) Q (F0 m 346 ls []) := by
  obtain ⟨hx, hb, hr, hml, hown, hts0, hX, hbl, hlocks, hgv⟩ := id C0
  have hts : ∀ w ∈ sf_tb, w.before #[Value.ref b] s = true := fun w h => hts0 w (sf_sub w h)
  have hA : ∀ z : Nat, s.heap.size ≤ z → (fun z : Nat => s.heap.size ≤ z) z := fun _ h => h
  have hbA : ¬ (fun z : Nat => s.heap.size ≤ z) b := Nat.not_le.mpr hbl
  refine lv_aload_n hx hb d_LW_law_346 rfl (lv_at hl 1 rfl) ?_
  refine lv_aload_n hx hb d_LW_law_347 rfl (lv_at hl 0 rfl) ?_
  refine lv_iload hx hb d_LW_law_348 (lv_at hl 4 rfl) ?_
  refine lv_iconst (v := 1) hx hb d_LW_law_350 (by decide) ?_
  refine lv_iadd hx hb d_LW_law_351 ?_
  rw [show (((nI (4 * j)) + 1) : Int32) = (nI ((4 * j) + 1)) from nI_add (4 * j) 1]
  refine va_sld hx hb hX hbl hbA hS (show vp_in (nI ((4 * j) + 1)) L from vp_in_nI (n := ((4 * j) + 1)) (by omega) (by omega)) d_LW_law_352 ?_
  rw [show ((nI ((4 * j) + 1)) : Int32).toNatClampNeg = ((4 * j) + 1) from nI_clamp (n := ((4 * j) + 1)) (by omega)]
  refine lv_aload_n hx hb d_LW_law_353 rfl (lv_at hl 0 rfl) ?_
  refine lv_iload hx hb d_LW_law_354 (lv_at hl 4 rfl) ?_
  refine lv_iconst (v := 2) hx hb d_LW_law_356 (by decide) ?_
  refine lv_iadd hx hb d_LW_law_357 ?_
  rw [show (((nI (4 * j)) + 2) : Int32) = (nI ((4 * j) + 2)) from nI_add (4 * j) 2]
  refine va_sld hx hb hX hbl hbA hS (show vp_in (nI ((4 * j) + 2)) L from vp_in_nI (n := ((4 * j) + 2)) (by omega) (by omega)) d_LW_law_358 ?_
  rw [show ((nI ((4 * j) + 2)) : Int32).toNatClampNeg = ((4 * j) + 2) from nI_clamp (n := ((4 * j) + 2)) (by omega)]
  refine lv_aload_n hx hb d_LW_law_359 rfl (lv_at hl 3 rfl) ?_
  refine sf_ncallS (S := (Int32 × Int32 × (Nat → Int32) × Int32 × Int32 × Int32 × Int32)) (rest := []) ⟨hx, hb, hml, hown, hts⟩ (c_LW_at l D cI cZ cJ hst q a fl sl tb np nt cp cc cb ch cm mp mc mb mh mm us ta tp tl cu bl pf sh fo (xs ((4 * j) + 1)) (xs ((4 * j) + 2))) (sf_cwSW lk_LW_90 hts (fun _ h => h) ⟨Nat.le_of_ble_eq_true rfl, Nat.le_of_ble_eq_true rfl⟩) hK hE hN hP hD hS hA (fun _ => rfl) rfl rfl hl.1 (Nat.le_of_ble_eq_true rfl) d_LW_law_360 ⟨by show _ ≤ 601024; omega, by show _ ≤ 7293034; omega⟩ (fun u_1 H locs hu_1 hP hD hS => ?_)
  have hP : va_P D classes (lw_x q a cI cZ cJ fl sl tb np nt u_1.2.2.1 u_1.2.2.2.1 u_1.2.2.2.2.1 u_1.2.2.2.2.2.1 u_1.2.2.2.2.2.2 mp mc mb mh mm us ta tp tl cu bl pf sh (lw_out u_1.1 fo u_1.2.1.toInt64) ++ md_w r cI cZ xth xB xsh xcu xtp (nI td) xpa xsp xwh xhe xho xtk xto xwa xmn) H := hP
  have hD : va_D (fun z : Nat => s.heap.size ≤ z) (lw_x q a cI cZ cJ fl sl tb np nt u_1.2.2.1 u_1.2.2.2.1 u_1.2.2.2.2.1 u_1.2.2.2.2.2.1 u_1.2.2.2.2.2.2 mp mc mb mh mm us ta tp tl cu bl pf sh (lw_out u_1.1 fo u_1.2.1.toInt64) ++ md_w r cI cZ xth xB xsh xcu xtp (nI td) xpa xsp xwh xhe xho xtk xto xwa xmn) := hD
  refine lv_istore (lv' := [(5, .int (lw_c 1 2 0 0 u_1.1)), (0, .ref b), (1, .ref (q 0)), (2, .ref (r 0)), (3, .ref a), (4, .int (nI (4 * j)))]) hx hb d_LW_law_363 hl (by decide) rfl (fun ls hl => ?_)
  refine lv_aload_n hx hb d_LW_law_365 rfl (lv_at hl 3 rfl) ?_
  refine lv_aload_n hx hb d_LW_law_366 rfl (lv_at hl 1 rfl) ?_
  refine lv_iload hx hb d_LW_law_367 (lv_at hl 5 rfl) ?_
  refine lv_iconst (v := 1) hx hb d_LW_law_369 (by decide) ?_
  refine lv_iadd hx hb d_LW_law_370 ?_
  rw [show (((nI (4 * j)) + 1) : Int32) = (nI ((4 * j) + 1)) from nI_add (4 * j) 1]
  refine va_sld hx hb hX hbl hbA hS (show vp_in (nI ((4 * j) + 1)) L from vp_in_nI (n := ((4 * j) + 1)) (by omega) (by omega)) d_LW_law_371 ?_
  rw [show ((nI ((4 * j) + 1)) : Int32).toNatClampNeg = ((4 * j) + 1) from nI_clamp (n := ((4 * j) + 1)) (by omega)]
  refine lv_aload_n hx hb d_LW_law_372 rfl (lv_at hl 1 rfl) ?_
  refine lv_iload hx hb d_LW_law_373 (lv_at hl 5 rfl) ?_
  refine lv_iconst (v := 2) hx hb d_LW_law_375 (by decide) ?_
  refine lv_iadd hx hb d_LW_law_376 ?_
  rw [show (((nI (4 * j)) + 2) : Int32) = (nI ((4 * j) + 2)) from nI_add (4 * j) 2]
  refine va_sld hx hb hX hbl hbA hS (show vp_in (nI ((4 * j) + 2)) L from vp_in_nI (n := ((4 * j) + 2)) (by omega) (by omega)) d_LW_law_377 ?_
  rw [show ((nI ((4 * j) + 2)) : Int32).toNatClampNeg = ((4 * j) + 2) from nI_clamp (n := ((4 * j) + 2)) (by omega)]
  refine sf_callVS (S := (Int32 × Int32 × (Nat → Int32) × Int32 × Int32 × (Nat → Int32) × Int32)) (rest := []) ⟨hx, hb, hml, hown, hts⟩ (c_MD_at l D cI cZ cJ r xth xB xsh xcu xtp (nI td) xpa xsp xwh xhe xho xtk xto xwa xmn (xs ((4 * j) + 1)) (xs ((4 * j) + 2))) (sf_cwV lk_LW_92 hts (fun _ h => h) ⟨Nat.le_of_ble_eq_true rfl, Nat.le_of_ble_eq_true rfl⟩) hK hP hD hS hA (fun _ => rfl) (ci := 3) (q0 := 0) rfl rfl rfl rfl rfl hl.1 (Nat.le_of_ble_eq_true rfl) d_LW_law_378 ⟨by show _ ≤ 601024; omega, by show _ ≤ 7293034; omega⟩ (fun u_2 H locs hu_2 hP hD hS => ?_)
  have hP : va_P D classes (lw_x q a cI cZ cJ fl sl tb np nt u_1.2.2.1 u_1.2.2.2.1 u_1.2.2.2.2.1 u_1.2.2.2.2.2.1 u_1.2.2.2.2.2.2 mp mc mb mh mm us ta tp tl cu bl pf sh (lw_out u_1.1 fo u_1.2.1.toInt64) ++ md_w r cI cZ u_2.2.1 xB xsh xcu xtp (nI td) u_2.2.2.1 u_2.2.2.2.1 u_2.2.2.2.2.1 u_2.2.2.2.2.2.1 u_2.2.2.2.2.2.2 xtk xto xwa xmn) H := hP
  have hD : va_D (fun z : Nat => s.heap.size ≤ z) (lw_x q a cI cZ cJ fl sl tb np nt u_1.2.2.1 u_1.2.2.2.1 u_1.2.2.2.2.1 u_1.2.2.2.2.2.1 u_1.2.2.2.2.2.2 mp mc mb mh mm us ta tp tl cu bl pf sh (lw_out u_1.1 fo u_1.2.1.toInt64) ++ md_w r cI cZ u_2.2.1 xB xsh xcu xtp (nI td) u_2.2.2.1 u_2.2.2.2.1 u_2.2.2.2.2.1 u_2.2.2.2.2.2.1 u_2.2.2.2.2.2.2 xtk xto xwa xmn) := hD
  refine lv_istore (lv' := [(6, .int u_2.1), (5, .int (lw_c 1 2 0 0 u_1.1)), (0, .ref b), (1, .ref (q 0)), (2, .ref (r 0)), (3, .ref a), (4, .int (nI (4 * j)))]) hx hb d_LW_law_381 hl (by decide) rfl (fun ls hl => ?_)
  refine lv_goto (tgt := 554) hx hb d_LW_law_383 (by decide) ?_
  refine W.widen (k := 27 + (j + 1)) (n := 3370 + 6 * (j + 1)) (by omega) (by omega) ?_
  exact kk fl sl tb np nt u_1.2.2.1 u_1.2.2.2.1 u_1.2.2.2.2.1 u_1.2.2.2.2.2.1 u_1.2.2.2.2.2.2 mp mc mb mh mm us ta tp tl cu bl pf sh u_2.2.1 xB xsh xcu xtp u_2.2.2.1 u_2.2.2.2.1 u_2.2.2.2.2.1 u_2.2.2.2.2.2.1 u_2.2.2.2.2.2.2 xtk xto xwa xmn (lw_out u_1.1 fo u_1.2.1.toInt64) td (by omega) _ _ hP hD hS ls (lv_sub hl [2, 3, 4, 5, 6] rfl)
set_option maxHeartbeats 2000000 in
set_option maxRecDepth 100000 in
/-- the law, case 8 -/
theorem law_8 {p : Program} {l : Launch} {e : Env} {s : State} {m : MethodId} {below : List Frame} {meth : Method} {c : Code} {b L : Nat} {xs : Nat → Int32} {D : va_G} {cI cZ cJ : ClassId} {q r : Nat → Nat} {a : Nat} {Q : State → Prop} (hL : L ≤ 2048) (C0 : lw_At p s m meth c b L xs) (hst : l.stackTraces = false) (hE : sf_EX (fun z : Nat => s.heap.size ≤ z) s s.heap) (hN : lw_NC s) (hK : va_K D classes (sf_tys cI cZ cJ) s) (j : Nat) (hj : 4 * j + 4 ≤ L) (fl : Nat → Int32) (sl : Nat → Int32) (tb : Nat → Int32) (np : Nat → Int32) (nt : Nat → Int32) (cp : Nat → Int32) (cc : Int32) (cb : Int32) (ch : Int32) (cm : Int32) (mp : Nat → Int32) (mc : Int32) (mb : Int32) (mh : Int32) (mm : Int32) (us : Nat → Int32) (ta : Nat → Int32) (tp : Nat → Int32) (tl : Int32) (cu : Int32) (bl : Int32) (pf : Int32) (sh : Int32) (xth : Int32) (xB : Nat → Int32) (xsh : Int32) (xcu : Int32) (xtp : Nat → Int32) (xpa : Nat → Int32) (xsp : Int32) (xwh : Int32) (xhe : Nat → Int32) (xho : Int32) (xtk : Nat → Int32) (xto : Nat → Int32) (xwa : Nat → Int32) (xmn : Int32) (fo : Nat → Int64) (td : Nat) (htd : td ≤ 60) (H : Heap) (locs : List Loc) (hP : va_P D classes (lw_x q a cI cZ cJ fl sl tb np nt cp cc cb ch cm mp mc mb mh mm us ta tp tl cu bl pf sh fo ++ md_w r cI cZ xth xB xsh xcu xtp (nI td) xpa xsp xwh xhe xho xtk xto xwa xmn) H) (hD : va_D (fun z : Nat => s.heap.size ≤ z) (lw_x q a cI cZ cJ fl sl tb np nt cp cc cb ch cm mp mc mb mh mm us ta tp tl cu bl pf sh fo ++ md_w r cI cZ xth xB xsh xcu xtp (nI td) xpa xsp xwh xhe xho xtk xto xwa xmn)) (hS : va_S (fun z : Nat => s.heap.size ≤ z) s.heap H locs) (ls : Array Slot) (hl : lv_has ls 7 [(0, .ref b), (1, .ref (q 0)), (2, .ref (r 0)), (3, .ref a), (4, .int (nI (4 * j)))])
    (kk : ∀ (fl : Nat → Int32) (sl : Nat → Int32) (tb : Nat → Int32) (np : Nat → Int32) (nt : Nat → Int32) (cp : Nat → Int32) (cc : Int32) (cb : Int32) (ch : Int32) (cm : Int32) (mp : Nat → Int32) (mc : Int32) (mb : Int32) (mh : Int32) (mm : Int32) (us : Nat → Int32) (ta : Nat → Int32) (tp : Nat → Int32) (tl : Int32) (cu : Int32) (bl : Int32) (pf : Int32) (sh : Int32) (xth : Int32) (xB : Nat → Int32) (xsh : Int32) (xcu : Int32) (xtp : Nat → Int32) (xpa : Nat → Int32) (xsp : Int32) (xwh : Int32) (xhe : Nat → Int32) (xho : Int32) (xtk : Nat → Int32) (xto : Nat → Int32) (xwa : Nat → Int32) (xmn : Int32) (fo : Nat → Int64) (td : Nat), td ≤ 60 → ∀ (H : Heap) (locs : List Loc), va_P D classes (lw_x q a cI cZ cJ fl sl tb np nt cp cc cb ch cm mp mc mb mh mm us ta tp tl cu bl pf sh fo ++ md_w r cI cZ xth xB xsh xcu xtp (nI td) xpa xsp xwh xhe xho xtk xto xwa xmn) H → va_D (fun z : Nat => s.heap.size ≤ z) (lw_x q a cI cZ cJ fl sl tb np nt cp cc cb ch cm mp mc mb mh mm us ta tp tl cu bl pf sh fo ++ md_w r cI cZ xth xB xsh xcu xtp (nI td) xpa xsp xwh xhe xho xtk xto xwa xmn) → va_S (fun z : Nat => s.heap.size ≤ z) s.heap H locs → ∀ (ls : Array Slot), lv_has ls 7 [(0, .ref b), (1, .ref (q 0)), (2, .ref (r 0)), (3, .ref a), (4, .int (nI (4 * j)))] → W p l e room_1 s m #[Value.ref b] below meth c H locs (27 + (j + 1)) (3370 + 6 * (j + 1)) Q (F0 m 554 ls [])) : W p l e room_1 s m #[Value.ref b] below meth c H locs (27 + j) (3370 + 6 * j) Q (F0 m 386 ls []) := by
  obtain ⟨hx, hb, hr, hml, hown, hts0, hX, hbl, hlocks, hgv⟩ := id C0
  have hts : ∀ w ∈ sf_tb, w.before #[Value.ref b] s = true := fun w h => hts0 w (sf_sub w h)
  have hA : ∀ z : Nat, s.heap.size ≤ z → (fun z : Nat => s.heap.size ≤ z) z := fun _ h => h
  have hbA : ¬ (fun z : Nat => s.heap.size ≤ z) b := Nat.not_le.mpr hbl
  refine lv_aload_n hx hb d_LW_law_386 rfl (lv_at hl 1 rfl) ?_
  refine lv_aload_n hx hb d_LW_law_387 rfl (lv_at hl 0 rfl) ?_
  refine lv_iload hx hb d_LW_law_388 (lv_at hl 4 rfl) ?_
  refine lv_iconst (v := 1) hx hb d_LW_law_390 (by decide) ?_
  refine lv_iadd hx hb d_LW_law_391 ?_
  rw [show (((nI (4 * j)) + 1) : Int32) = (nI ((4 * j) + 1)) from nI_add (4 * j) 1]
  refine va_sld hx hb hX hbl hbA hS (show vp_in (nI ((4 * j) + 1)) L from vp_in_nI (n := ((4 * j) + 1)) (by omega) (by omega)) d_LW_law_392 ?_
  rw [show ((nI ((4 * j) + 1)) : Int32).toNatClampNeg = ((4 * j) + 1) from nI_clamp (n := ((4 * j) + 1)) (by omega)]
  refine lv_aload_n hx hb d_LW_law_393 rfl (lv_at hl 3 rfl) ?_
  refine sf_ncallS (S := (Int32 × Int32 × (Nat → Int32) × (Nat → Int32) × Int32 × Int32 × Int32 × Int32)) (rest := []) ⟨hx, hb, hml, hown, hts⟩ (c_LW_told l D cI cZ cJ hst q a fl sl tb np nt cp cc cb ch cm mp mc mb mh mm us ta tp tl cu bl pf sh fo (xs ((4 * j) + 1))) (sf_cwSW lk_LW_93 hts (fun _ h => h) ⟨Nat.le_of_ble_eq_true rfl, Nat.le_of_ble_eq_true rfl⟩) hK hE hN hP hD hS hA (fun _ => rfl) rfl rfl hl.1 (Nat.le_of_ble_eq_true rfl) d_LW_law_394 ⟨by show _ ≤ 601024; omega, by show _ ≤ 7293034; omega⟩ (fun u_1 H locs hu_1 hP hD hS => ?_)
  have hP : va_P D classes (lw_x q a cI cZ cJ fl sl tb np nt cp cc cb ch cm u_1.2.2.2.1 u_1.2.2.2.2.1 u_1.2.2.2.2.2.1 u_1.2.2.2.2.2.2.1 u_1.2.2.2.2.2.2.2 u_1.2.2.1 ta tp tl cu bl pf sh (lw_out u_1.1 fo u_1.2.1.toInt64) ++ md_w r cI cZ xth xB xsh xcu xtp (nI td) xpa xsp xwh xhe xho xtk xto xwa xmn) H := hP
  have hD : va_D (fun z : Nat => s.heap.size ≤ z) (lw_x q a cI cZ cJ fl sl tb np nt cp cc cb ch cm u_1.2.2.2.1 u_1.2.2.2.2.1 u_1.2.2.2.2.2.1 u_1.2.2.2.2.2.2.1 u_1.2.2.2.2.2.2.2 u_1.2.2.1 ta tp tl cu bl pf sh (lw_out u_1.1 fo u_1.2.1.toInt64) ++ md_w r cI cZ xth xB xsh xcu xtp (nI td) xpa xsp xwh xhe xho xtk xto xwa xmn) := hD
  refine lv_istore (lv' := [(5, .int (lw_c 1 2 0 0 u_1.1)), (0, .ref b), (1, .ref (q 0)), (2, .ref (r 0)), (3, .ref a), (4, .int (nI (4 * j)))]) hx hb d_LW_law_397 hl (by decide) rfl (fun ls hl => ?_)
  refine lv_aload_n hx hb d_LW_law_399 rfl (lv_at hl 3 rfl) ?_
  refine lv_aload_n hx hb d_LW_law_400 rfl (lv_at hl 1 rfl) ?_
  refine lv_iload hx hb d_LW_law_401 (lv_at hl 5 rfl) ?_
  refine lv_iconst (v := 1) hx hb d_LW_law_403 (by decide) ?_
  refine lv_iadd hx hb d_LW_law_404 ?_
  rw [show (((nI (4 * j)) + 1) : Int32) = (nI ((4 * j) + 1)) from nI_add (4 * j) 1]
  refine va_sld hx hb hX hbl hbA hS (show vp_in (nI ((4 * j) + 1)) L from vp_in_nI (n := ((4 * j) + 1)) (by omega) (by omega)) d_LW_law_405 ?_
  rw [show ((nI ((4 * j) + 1)) : Int32).toNatClampNeg = ((4 * j) + 1) from nI_clamp (n := ((4 * j) + 1)) (by omega)]
  refine sf_callVS (S := (Int32 × Int32 × (Nat → Int32) × (Nat → Int32) × Int32 × Int32 × (Nat → Int32) × Int32)) (rest := []) ⟨hx, hb, hml, hown, hts⟩ (c_MD_told l D cI cZ cJ r xth xB xsh xcu xtp (nI td) xpa xsp xwh xhe xho xtk xto xwa xmn (xs ((4 * j) + 1))) (sf_cwV lk_LW_95 hts (fun _ h => h) ⟨Nat.le_of_ble_eq_true rfl, Nat.le_of_ble_eq_true rfl⟩) hK hP hD hS hA (fun _ => rfl) (ci := 3) (q0 := 0) rfl rfl rfl rfl rfl hl.1 (Nat.le_of_ble_eq_true rfl) d_LW_law_406 ⟨by show _ ≤ 601024; omega, by show _ ≤ 7293034; omega⟩ (fun u_2 H locs hu_2 hP hD hS => ?_)
  have hP : va_P D classes (lw_x q a cI cZ cJ fl sl tb np nt cp cc cb ch cm u_1.2.2.2.1 u_1.2.2.2.2.1 u_1.2.2.2.2.2.1 u_1.2.2.2.2.2.2.1 u_1.2.2.2.2.2.2.2 u_1.2.2.1 ta tp tl cu bl pf sh (lw_out u_1.1 fo u_1.2.1.toInt64) ++ md_w r cI cZ u_2.2.1 xB xsh xcu xtp (nI td) u_2.2.2.2.1 u_2.2.2.2.2.1 u_2.2.2.2.2.2.1 u_2.2.2.2.2.2.2.1 u_2.2.2.2.2.2.2.2 u_2.2.2.1 xto xwa xmn) H := hP
  have hD : va_D (fun z : Nat => s.heap.size ≤ z) (lw_x q a cI cZ cJ fl sl tb np nt cp cc cb ch cm u_1.2.2.2.1 u_1.2.2.2.2.1 u_1.2.2.2.2.2.1 u_1.2.2.2.2.2.2.1 u_1.2.2.2.2.2.2.2 u_1.2.2.1 ta tp tl cu bl pf sh (lw_out u_1.1 fo u_1.2.1.toInt64) ++ md_w r cI cZ u_2.2.1 xB xsh xcu xtp (nI td) u_2.2.2.2.1 u_2.2.2.2.2.1 u_2.2.2.2.2.2.1 u_2.2.2.2.2.2.2.1 u_2.2.2.2.2.2.2.2 u_2.2.2.1 xto xwa xmn) := hD
  refine lv_istore (lv' := [(6, .int u_2.1), (5, .int (lw_c 1 2 0 0 u_1.1)), (0, .ref b), (1, .ref (q 0)), (2, .ref (r 0)), (3, .ref a), (4, .int (nI (4 * j)))]) hx hb d_LW_law_409 hl (by decide) rfl (fun ls hl => ?_)
  refine lv_goto (tgt := 554) hx hb d_LW_law_411 (by decide) ?_
  refine W.widen (k := 27 + (j + 1)) (n := 3370 + 6 * (j + 1)) (by omega) (by omega) ?_
  exact kk fl sl tb np nt cp cc cb ch cm u_1.2.2.2.1 u_1.2.2.2.2.1 u_1.2.2.2.2.2.1 u_1.2.2.2.2.2.2.1 u_1.2.2.2.2.2.2.2 u_1.2.2.1 ta tp tl cu bl pf sh u_2.2.1 xB xsh xcu xtp u_2.2.2.2.1 u_2.2.2.2.2.1 u_2.2.2.2.2.2.1 u_2.2.2.2.2.2.2.1 u_2.2.2.2.2.2.2.2 u_2.2.2.1 xto xwa xmn (lw_out u_1.1 fo u_1.2.1.toInt64) td (by omega) _ _ hP hD hS ls (lv_sub hl [2, 3, 4, 5, 6] rfl)
set_option maxHeartbeats 2000000 in
set_option maxRecDepth 100000 in
/-- the law, case 9 -/
theorem law_9 {p : Program} {l : Launch} {e : Env} {s : State} {m : MethodId} {below : List Frame} {meth : Method} {c : Code} {b L : Nat} {xs : Nat → Int32} {D : va_G} {cI cZ cJ : ClassId} {q r : Nat → Nat} {a : Nat} {Q : State → Prop} (hL : L ≤ 2048) (C0 : lw_At p s m meth c b L xs) (hst : l.stackTraces = false) (hE : sf_EX (fun z : Nat => s.heap.size ≤ z) s s.heap) (hN : lw_NC s) (hK : va_K D classes (sf_tys cI cZ cJ) s) (j : Nat) (hj : 4 * j + 4 ≤ L) (fl : Nat → Int32) (sl : Nat → Int32) (tb : Nat → Int32) (np : Nat → Int32) (nt : Nat → Int32) (cp : Nat → Int32) (cc : Int32) (cb : Int32) (ch : Int32) (cm : Int32) (mp : Nat → Int32) (mc : Int32) (mb : Int32) (mh : Int32) (mm : Int32) (us : Nat → Int32) (ta : Nat → Int32) (tp : Nat → Int32) (tl : Int32) (cu : Int32) (bl : Int32) (pf : Int32) (sh : Int32) (xth : Int32) (xB : Nat → Int32) (xsh : Int32) (xcu : Int32) (xtp : Nat → Int32) (xpa : Nat → Int32) (xsp : Int32) (xwh : Int32) (xhe : Nat → Int32) (xho : Int32) (xtk : Nat → Int32) (xto : Nat → Int32) (xwa : Nat → Int32) (xmn : Int32) (fo : Nat → Int64) (td : Nat) (htd : td ≤ 60) (H : Heap) (locs : List Loc) (hP : va_P D classes (lw_x q a cI cZ cJ fl sl tb np nt cp cc cb ch cm mp mc mb mh mm us ta tp tl cu bl pf sh fo ++ md_w r cI cZ xth xB xsh xcu xtp (nI td) xpa xsp xwh xhe xho xtk xto xwa xmn) H) (hD : va_D (fun z : Nat => s.heap.size ≤ z) (lw_x q a cI cZ cJ fl sl tb np nt cp cc cb ch cm mp mc mb mh mm us ta tp tl cu bl pf sh fo ++ md_w r cI cZ xth xB xsh xcu xtp (nI td) xpa xsp xwh xhe xho xtk xto xwa xmn)) (hS : va_S (fun z : Nat => s.heap.size ≤ z) s.heap H locs) (ls : Array Slot) (hl : lv_has ls 7 [(0, .ref b), (1, .ref (q 0)), (2, .ref (r 0)), (3, .ref a), (4, .int (nI (4 * j)))])
    (kk : ∀ (fl : Nat → Int32) (sl : Nat → Int32) (tb : Nat → Int32) (np : Nat → Int32) (nt : Nat → Int32) (cp : Nat → Int32) (cc : Int32) (cb : Int32) (ch : Int32) (cm : Int32) (mp : Nat → Int32) (mc : Int32) (mb : Int32) (mh : Int32) (mm : Int32) (us : Nat → Int32) (ta : Nat → Int32) (tp : Nat → Int32) (tl : Int32) (cu : Int32) (bl : Int32) (pf : Int32) (sh : Int32) (xth : Int32) (xB : Nat → Int32) (xsh : Int32) (xcu : Int32) (xtp : Nat → Int32) (xpa : Nat → Int32) (xsp : Int32) (xwh : Int32) (xhe : Nat → Int32) (xho : Int32) (xtk : Nat → Int32) (xto : Nat → Int32) (xwa : Nat → Int32) (xmn : Int32) (fo : Nat → Int64) (td : Nat), td ≤ 60 → ∀ (H : Heap) (locs : List Loc), va_P D classes (lw_x q a cI cZ cJ fl sl tb np nt cp cc cb ch cm mp mc mb mh mm us ta tp tl cu bl pf sh fo ++ md_w r cI cZ xth xB xsh xcu xtp (nI td) xpa xsp xwh xhe xho xtk xto xwa xmn) H → va_D (fun z : Nat => s.heap.size ≤ z) (lw_x q a cI cZ cJ fl sl tb np nt cp cc cb ch cm mp mc mb mh mm us ta tp tl cu bl pf sh fo ++ md_w r cI cZ xth xB xsh xcu xtp (nI td) xpa xsp xwh xhe xho xtk xto xwa xmn) → va_S (fun z : Nat => s.heap.size ≤ z) s.heap H locs → ∀ (ls : Array Slot), lv_has ls 7 [(0, .ref b), (1, .ref (q 0)), (2, .ref (r 0)), (3, .ref a), (4, .int (nI (4 * j)))] → W p l e room_1 s m #[Value.ref b] below meth c H locs (27 + (j + 1)) (3370 + 6 * (j + 1)) Q (F0 m 554 ls [])) : W p l e room_1 s m #[Value.ref b] below meth c H locs (27 + j) (3370 + 6 * j) Q (F0 m 414 ls []) := by
  obtain ⟨hx, hb, hr, hml, hown, hts0, hX, hbl, hlocks, hgv⟩ := id C0
  have hts : ∀ w ∈ sf_tb, w.before #[Value.ref b] s = true := fun w h => hts0 w (sf_sub w h)
  have hA : ∀ z : Nat, s.heap.size ≤ z → (fun z : Nat => s.heap.size ≤ z) z := fun _ h => h
  have hbA : ¬ (fun z : Nat => s.heap.size ≤ z) b := Nat.not_le.mpr hbl
  refine lv_aload_n hx hb d_LW_law_414 rfl (lv_at hl 1 rfl) ?_
  refine lv_aload_n hx hb d_LW_law_415 rfl (lv_at hl 0 rfl) ?_
  refine lv_iload hx hb d_LW_law_416 (lv_at hl 4 rfl) ?_
  refine lv_iconst (v := 1) hx hb d_LW_law_418 (by decide) ?_
  refine lv_iadd hx hb d_LW_law_419 ?_
  rw [show (((nI (4 * j)) + 1) : Int32) = (nI ((4 * j) + 1)) from nI_add (4 * j) 1]
  refine va_sld hx hb hX hbl hbA hS (show vp_in (nI ((4 * j) + 1)) L from vp_in_nI (n := ((4 * j) + 1)) (by omega) (by omega)) d_LW_law_420 ?_
  rw [show ((nI ((4 * j) + 1)) : Int32).toNatClampNeg = ((4 * j) + 1) from nI_clamp (n := ((4 * j) + 1)) (by omega)]
  refine lv_aload_n hx hb d_LW_law_421 rfl (lv_at hl 0 rfl) ?_
  refine lv_iload hx hb d_LW_law_422 (lv_at hl 4 rfl) ?_
  refine lv_iconst (v := 2) hx hb d_LW_law_424 (by decide) ?_
  refine lv_iadd hx hb d_LW_law_425 ?_
  rw [show (((nI (4 * j)) + 2) : Int32) = (nI ((4 * j) + 2)) from nI_add (4 * j) 2]
  refine va_sld hx hb hX hbl hbA hS (show vp_in (nI ((4 * j) + 2)) L from vp_in_nI (n := ((4 * j) + 2)) (by omega) (by omega)) d_LW_law_426 ?_
  rw [show ((nI ((4 * j) + 2)) : Int32).toNatClampNeg = ((4 * j) + 2) from nI_clamp (n := ((4 * j) + 2)) (by omega)]
  refine lv_aload_n hx hb d_LW_law_427 rfl (lv_at hl 3 rfl) ?_
  refine sf_ncallS (S := (Int32 × Int32 × (Nat → Int32) × (Nat → Int32) × Int32 × Int32 × Int32 × Int32)) (rest := []) ⟨hx, hb, hml, hown, hts⟩ (c_LW_wrong l D cI cZ cJ hst q a fl sl tb np nt cp cc cb ch cm mp mc mb mh mm us ta tp tl cu bl pf sh fo (xs ((4 * j) + 1)) (xs ((4 * j) + 2))) (sf_cwSW lk_LW_96 hts (fun _ h => h) ⟨Nat.le_of_ble_eq_true rfl, Nat.le_of_ble_eq_true rfl⟩) hK hE hN hP hD hS hA (fun _ => rfl) rfl rfl hl.1 (Nat.le_of_ble_eq_true rfl) d_LW_law_428 ⟨by show _ ≤ 601024; omega, by show _ ≤ 7293034; omega⟩ (fun u_1 H locs hu_1 hP hD hS => ?_)
  have hP : va_P D classes (lw_x q a cI cZ cJ fl sl tb np nt cp cc cb ch cm u_1.2.2.2.1 u_1.2.2.2.2.1 u_1.2.2.2.2.2.1 u_1.2.2.2.2.2.2.1 u_1.2.2.2.2.2.2.2 u_1.2.2.1 ta tp tl cu bl pf sh (lw_out u_1.1 fo u_1.2.1.toInt64) ++ md_w r cI cZ xth xB xsh xcu xtp (nI td) xpa xsp xwh xhe xho xtk xto xwa xmn) H := hP
  have hD : va_D (fun z : Nat => s.heap.size ≤ z) (lw_x q a cI cZ cJ fl sl tb np nt cp cc cb ch cm u_1.2.2.2.1 u_1.2.2.2.2.1 u_1.2.2.2.2.2.1 u_1.2.2.2.2.2.2.1 u_1.2.2.2.2.2.2.2 u_1.2.2.1 ta tp tl cu bl pf sh (lw_out u_1.1 fo u_1.2.1.toInt64) ++ md_w r cI cZ xth xB xsh xcu xtp (nI td) xpa xsp xwh xhe xho xtk xto xwa xmn) := hD
  refine lv_istore (lv' := [(5, .int (lw_c 1 0 0 0 u_1.1)), (0, .ref b), (1, .ref (q 0)), (2, .ref (r 0)), (3, .ref a), (4, .int (nI (4 * j)))]) hx hb d_LW_law_431 hl (by decide) rfl (fun ls hl => ?_)
  refine lv_aload_n hx hb d_LW_law_433 rfl (lv_at hl 3 rfl) ?_
  refine lv_aload_n hx hb d_LW_law_434 rfl (lv_at hl 1 rfl) ?_
  refine lv_iload hx hb d_LW_law_435 (lv_at hl 5 rfl) ?_
  refine lv_iconst (v := 1) hx hb d_LW_law_437 (by decide) ?_
  refine lv_iadd hx hb d_LW_law_438 ?_
  rw [show (((nI (4 * j)) + 1) : Int32) = (nI ((4 * j) + 1)) from nI_add (4 * j) 1]
  refine va_sld hx hb hX hbl hbA hS (show vp_in (nI ((4 * j) + 1)) L from vp_in_nI (n := ((4 * j) + 1)) (by omega) (by omega)) d_LW_law_439 ?_
  rw [show ((nI ((4 * j) + 1)) : Int32).toNatClampNeg = ((4 * j) + 1) from nI_clamp (n := ((4 * j) + 1)) (by omega)]
  refine lv_aload_n hx hb d_LW_law_440 rfl (lv_at hl 1 rfl) ?_
  refine lv_iload hx hb d_LW_law_441 (lv_at hl 5 rfl) ?_
  refine lv_iconst (v := 2) hx hb d_LW_law_443 (by decide) ?_
  refine lv_iadd hx hb d_LW_law_444 ?_
  rw [show (((nI (4 * j)) + 2) : Int32) = (nI ((4 * j) + 2)) from nI_add (4 * j) 2]
  refine va_sld hx hb hX hbl hbA hS (show vp_in (nI ((4 * j) + 2)) L from vp_in_nI (n := ((4 * j) + 2)) (by omega) (by omega)) d_LW_law_445 ?_
  rw [show ((nI ((4 * j) + 2)) : Int32).toNatClampNeg = ((4 * j) + 2) from nI_clamp (n := ((4 * j) + 2)) (by omega)]
  refine sf_callVS (S := (Int32 × Int32 × (Nat → Int32) × (Nat → Int32) × Int32 × Int32 × (Nat → Int32) × Int32)) (rest := []) ⟨hx, hb, hml, hown, hts⟩ (c_MD_wrong l D cI cZ cJ r xth xB xsh xcu xtp (nI td) xpa xsp xwh xhe xho xtk xto xwa xmn (xs ((4 * j) + 1)) (xs ((4 * j) + 2))) (sf_cwV lk_LW_98 hts (fun _ h => h) ⟨Nat.le_of_ble_eq_true rfl, Nat.le_of_ble_eq_true rfl⟩) hK hP hD hS hA (fun _ => rfl) (ci := 3) (q0 := 0) rfl rfl rfl rfl rfl hl.1 (Nat.le_of_ble_eq_true rfl) d_LW_law_446 ⟨by show _ ≤ 601024; omega, by show _ ≤ 7293034; omega⟩ (fun u_2 H locs hu_2 hP hD hS => ?_)
  have hP : va_P D classes (lw_x q a cI cZ cJ fl sl tb np nt cp cc cb ch cm u_1.2.2.2.1 u_1.2.2.2.2.1 u_1.2.2.2.2.2.1 u_1.2.2.2.2.2.2.1 u_1.2.2.2.2.2.2.2 u_1.2.2.1 ta tp tl cu bl pf sh (lw_out u_1.1 fo u_1.2.1.toInt64) ++ md_w r cI cZ u_2.2.1 xB xsh xcu xtp (nI td) u_2.2.2.2.1 u_2.2.2.2.2.1 u_2.2.2.2.2.2.1 u_2.2.2.2.2.2.2.1 u_2.2.2.2.2.2.2.2 u_2.2.2.1 xto xwa xmn) H := hP
  have hD : va_D (fun z : Nat => s.heap.size ≤ z) (lw_x q a cI cZ cJ fl sl tb np nt cp cc cb ch cm u_1.2.2.2.1 u_1.2.2.2.2.1 u_1.2.2.2.2.2.1 u_1.2.2.2.2.2.2.1 u_1.2.2.2.2.2.2.2 u_1.2.2.1 ta tp tl cu bl pf sh (lw_out u_1.1 fo u_1.2.1.toInt64) ++ md_w r cI cZ u_2.2.1 xB xsh xcu xtp (nI td) u_2.2.2.2.1 u_2.2.2.2.2.1 u_2.2.2.2.2.2.1 u_2.2.2.2.2.2.2.1 u_2.2.2.2.2.2.2.2 u_2.2.2.1 xto xwa xmn) := hD
  refine lv_istore (lv' := [(6, .int u_2.1), (5, .int (lw_c 1 0 0 0 u_1.1)), (0, .ref b), (1, .ref (q 0)), (2, .ref (r 0)), (3, .ref a), (4, .int (nI (4 * j)))]) hx hb d_LW_law_449 hl (by decide) rfl (fun ls hl => ?_)
  refine lv_goto (tgt := 554) hx hb d_LW_law_451 (by decide) ?_
  refine W.widen (k := 27 + (j + 1)) (n := 3370 + 6 * (j + 1)) (by omega) (by omega) ?_
  exact kk fl sl tb np nt cp cc cb ch cm u_1.2.2.2.1 u_1.2.2.2.2.1 u_1.2.2.2.2.2.1 u_1.2.2.2.2.2.2.1 u_1.2.2.2.2.2.2.2 u_1.2.2.1 ta tp tl cu bl pf sh u_2.2.1 xB xsh xcu xtp u_2.2.2.2.1 u_2.2.2.2.2.1 u_2.2.2.2.2.2.1 u_2.2.2.2.2.2.2.1 u_2.2.2.2.2.2.2.2 u_2.2.2.1 xto xwa xmn (lw_out u_1.1 fo u_1.2.1.toInt64) td (by omega) _ _ hP hD hS ls (lv_sub hl [2, 3, 4, 5, 6] rfl)
set_option maxHeartbeats 2000000 in
set_option maxRecDepth 100000 in
/-- the law, case 10 -/
theorem law_10 {p : Program} {l : Launch} {e : Env} {s : State} {m : MethodId} {below : List Frame} {meth : Method} {c : Code} {b L : Nat} {xs : Nat → Int32} {D : va_G} {cI cZ cJ : ClassId} {q r : Nat → Nat} {a : Nat} {Q : State → Prop} (hL : L ≤ 2048) (C0 : lw_At p s m meth c b L xs) (hst : l.stackTraces = false) (hE : sf_EX (fun z : Nat => s.heap.size ≤ z) s s.heap) (hN : lw_NC s) (hK : va_K D classes (sf_tys cI cZ cJ) s) (j : Nat) (hj : 4 * j + 4 ≤ L) (fl : Nat → Int32) (sl : Nat → Int32) (tb : Nat → Int32) (np : Nat → Int32) (nt : Nat → Int32) (cp : Nat → Int32) (cc : Int32) (cb : Int32) (ch : Int32) (cm : Int32) (mp : Nat → Int32) (mc : Int32) (mb : Int32) (mh : Int32) (mm : Int32) (us : Nat → Int32) (ta : Nat → Int32) (tp : Nat → Int32) (tl : Int32) (cu : Int32) (bl : Int32) (pf : Int32) (sh : Int32) (xth : Int32) (xB : Nat → Int32) (xsh : Int32) (xcu : Int32) (xtp : Nat → Int32) (xpa : Nat → Int32) (xsp : Int32) (xwh : Int32) (xhe : Nat → Int32) (xho : Int32) (xtk : Nat → Int32) (xto : Nat → Int32) (xwa : Nat → Int32) (xmn : Int32) (fo : Nat → Int64) (td : Nat) (htd : td ≤ 60) (H : Heap) (locs : List Loc) (hP : va_P D classes (lw_x q a cI cZ cJ fl sl tb np nt cp cc cb ch cm mp mc mb mh mm us ta tp tl cu bl pf sh fo ++ md_w r cI cZ xth xB xsh xcu xtp (nI td) xpa xsp xwh xhe xho xtk xto xwa xmn) H) (hD : va_D (fun z : Nat => s.heap.size ≤ z) (lw_x q a cI cZ cJ fl sl tb np nt cp cc cb ch cm mp mc mb mh mm us ta tp tl cu bl pf sh fo ++ md_w r cI cZ xth xB xsh xcu xtp (nI td) xpa xsp xwh xhe xho xtk xto xwa xmn)) (hS : va_S (fun z : Nat => s.heap.size ≤ z) s.heap H locs) (ls : Array Slot) (hl : lv_has ls 7 [(0, .ref b), (1, .ref (q 0)), (2, .ref (r 0)), (3, .ref a), (4, .int (nI (4 * j)))])
    (kk : ∀ (fl : Nat → Int32) (sl : Nat → Int32) (tb : Nat → Int32) (np : Nat → Int32) (nt : Nat → Int32) (cp : Nat → Int32) (cc : Int32) (cb : Int32) (ch : Int32) (cm : Int32) (mp : Nat → Int32) (mc : Int32) (mb : Int32) (mh : Int32) (mm : Int32) (us : Nat → Int32) (ta : Nat → Int32) (tp : Nat → Int32) (tl : Int32) (cu : Int32) (bl : Int32) (pf : Int32) (sh : Int32) (xth : Int32) (xB : Nat → Int32) (xsh : Int32) (xcu : Int32) (xtp : Nat → Int32) (xpa : Nat → Int32) (xsp : Int32) (xwh : Int32) (xhe : Nat → Int32) (xho : Int32) (xtk : Nat → Int32) (xto : Nat → Int32) (xwa : Nat → Int32) (xmn : Int32) (fo : Nat → Int64) (td : Nat), td ≤ 60 → ∀ (H : Heap) (locs : List Loc), va_P D classes (lw_x q a cI cZ cJ fl sl tb np nt cp cc cb ch cm mp mc mb mh mm us ta tp tl cu bl pf sh fo ++ md_w r cI cZ xth xB xsh xcu xtp (nI td) xpa xsp xwh xhe xho xtk xto xwa xmn) H → va_D (fun z : Nat => s.heap.size ≤ z) (lw_x q a cI cZ cJ fl sl tb np nt cp cc cb ch cm mp mc mb mh mm us ta tp tl cu bl pf sh fo ++ md_w r cI cZ xth xB xsh xcu xtp (nI td) xpa xsp xwh xhe xho xtk xto xwa xmn) → va_S (fun z : Nat => s.heap.size ≤ z) s.heap H locs → ∀ (ls : Array Slot), lv_has ls 7 [(0, .ref b), (1, .ref (q 0)), (2, .ref (r 0)), (3, .ref a), (4, .int (nI (4 * j)))] → W p l e room_1 s m #[Value.ref b] below meth c H locs (27 + (j + 1)) (3370 + 6 * (j + 1)) Q (F0 m 554 ls [])) : W p l e room_1 s m #[Value.ref b] below meth c H locs (27 + j) (3370 + 6 * j) Q (F0 m 454 ls []) := by
  obtain ⟨hx, hb, hr, hml, hown, hts0, hX, hbl, hlocks, hgv⟩ := id C0
  have hts : ∀ w ∈ sf_tb, w.before #[Value.ref b] s = true := fun w h => hts0 w (sf_sub w h)
  have hA : ∀ z : Nat, s.heap.size ≤ z → (fun z : Nat => s.heap.size ≤ z) z := fun _ h => h
  have hbA : ¬ (fun z : Nat => s.heap.size ≤ z) b := Nat.not_le.mpr hbl
  refine lv_aload_n hx hb d_LW_law_454 rfl (lv_at hl 1 rfl) ?_
  refine lv_aload_n hx hb d_LW_law_455 rfl (lv_at hl 0 rfl) ?_
  refine lv_iload hx hb d_LW_law_456 (lv_at hl 4 rfl) ?_
  refine lv_iconst (v := 1) hx hb d_LW_law_458 (by decide) ?_
  refine lv_iadd hx hb d_LW_law_459 ?_
  rw [show (((nI (4 * j)) + 1) : Int32) = (nI ((4 * j) + 1)) from nI_add (4 * j) 1]
  refine va_sld hx hb hX hbl hbA hS (show vp_in (nI ((4 * j) + 1)) L from vp_in_nI (n := ((4 * j) + 1)) (by omega) (by omega)) d_LW_law_460 ?_
  rw [show ((nI ((4 * j) + 1)) : Int32).toNatClampNeg = ((4 * j) + 1) from nI_clamp (n := ((4 * j) + 1)) (by omega)]
  refine lv_aload_n hx hb d_LW_law_461 rfl (lv_at hl 0 rfl) ?_
  refine lv_iload hx hb d_LW_law_462 (lv_at hl 4 rfl) ?_
  refine lv_iconst (v := 2) hx hb d_LW_law_464 (by decide) ?_
  refine lv_iadd hx hb d_LW_law_465 ?_
  rw [show (((nI (4 * j)) + 2) : Int32) = (nI ((4 * j) + 2)) from nI_add (4 * j) 2]
  refine va_sld hx hb hX hbl hbA hS (show vp_in (nI ((4 * j) + 2)) L from vp_in_nI (n := ((4 * j) + 2)) (by omega) (by omega)) d_LW_law_466 ?_
  rw [show ((nI ((4 * j) + 2)) : Int32).toNatClampNeg = ((4 * j) + 2) from nI_clamp (n := ((4 * j) + 2)) (by omega)]
  refine lv_aload_n hx hb d_LW_law_467 rfl (lv_at hl 3 rfl) ?_
  refine sf_ncallS (S := (Int32 × Int32)) (rest := []) ⟨hx, hb, hml, hown, hts⟩ (c_LW_byteAt l D cI cZ cJ hst q a fl sl tb np nt cp cc cb ch cm mp mc mb mh mm us ta tp tl cu bl pf sh fo (xs ((4 * j) + 1)) (xs ((4 * j) + 2))) (sf_cwSW lk_LW_99 hts (fun _ h => h) ⟨Nat.le_of_ble_eq_true rfl, Nat.le_of_ble_eq_true rfl⟩) hK hE hN hP hD hS hA (fun _ => rfl) rfl rfl hl.1 (Nat.le_of_ble_eq_true rfl) d_LW_law_468 ⟨by show _ ≤ 601024; omega, by show _ ≤ 7293034; omega⟩ (fun u_1 H locs hu_1 hP hD hS => ?_)
  have hP : va_P D classes (lw_x q a cI cZ cJ fl sl tb np nt cp cc cb ch cm mp mc mb mh mm us ta tp tl cu bl pf sh (lw_out u_1.1 fo u_1.2.toInt64) ++ md_w r cI cZ xth xB xsh xcu xtp (nI td) xpa xsp xwh xhe xho xtk xto xwa xmn) H := hP
  have hD : va_D (fun z : Nat => s.heap.size ≤ z) (lw_x q a cI cZ cJ fl sl tb np nt cp cc cb ch cm mp mc mb mh mm us ta tp tl cu bl pf sh (lw_out u_1.1 fo u_1.2.toInt64) ++ md_w r cI cZ xth xB xsh xcu xtp (nI td) xpa xsp xwh xhe xho xtk xto xwa xmn) := hD
  refine lv_istore (lv' := [(5, .int (lw_c 1 0 0 0 u_1.1)), (0, .ref b), (1, .ref (q 0)), (2, .ref (r 0)), (3, .ref a), (4, .int (nI (4 * j)))]) hx hb d_LW_law_471 hl (by decide) rfl (fun ls hl => ?_)
  refine lv_aload_n hx hb d_LW_law_473 rfl (lv_at hl 3 rfl) ?_
  refine lv_aload_n hx hb d_LW_law_474 rfl (lv_at hl 1 rfl) ?_
  refine lv_iload hx hb d_LW_law_475 (lv_at hl 5 rfl) ?_
  refine lv_iconst (v := 1) hx hb d_LW_law_477 (by decide) ?_
  refine lv_iadd hx hb d_LW_law_478 ?_
  rw [show (((nI (4 * j)) + 1) : Int32) = (nI ((4 * j) + 1)) from nI_add (4 * j) 1]
  refine va_sld hx hb hX hbl hbA hS (show vp_in (nI ((4 * j) + 1)) L from vp_in_nI (n := ((4 * j) + 1)) (by omega) (by omega)) d_LW_law_479 ?_
  rw [show ((nI ((4 * j) + 1)) : Int32).toNatClampNeg = ((4 * j) + 1) from nI_clamp (n := ((4 * j) + 1)) (by omega)]
  refine lv_aload_n hx hb d_LW_law_480 rfl (lv_at hl 1 rfl) ?_
  refine lv_iload hx hb d_LW_law_481 (lv_at hl 5 rfl) ?_
  refine lv_iconst (v := 2) hx hb d_LW_law_483 (by decide) ?_
  refine lv_iadd hx hb d_LW_law_484 ?_
  rw [show (((nI (4 * j)) + 2) : Int32) = (nI ((4 * j) + 2)) from nI_add (4 * j) 2]
  refine va_sld hx hb hX hbl hbA hS (show vp_in (nI ((4 * j) + 2)) L from vp_in_nI (n := ((4 * j) + 2)) (by omega) (by omega)) d_LW_law_485 ?_
  rw [show ((nI ((4 * j) + 2)) : Int32).toNatClampNeg = ((4 * j) + 2) from nI_clamp (n := ((4 * j) + 2)) (by omega)]
  refine sf_callVS (S := (Int32 × Int32)) (rest := []) ⟨hx, hb, hml, hown, hts⟩ (c_MD_byteAt l D cI cZ cJ r xth xB xsh xcu xtp (nI td) xpa xsp xwh xhe xho xtk xto xwa xmn (xs ((4 * j) + 1)) (xs ((4 * j) + 2))) (sf_cwV lk_LW_101 hts (fun _ h => h) ⟨Nat.le_of_ble_eq_true rfl, Nat.le_of_ble_eq_true rfl⟩) hK hP hD hS hA (fun _ => rfl) (ci := 3) (q0 := 0) rfl rfl rfl rfl rfl hl.1 (Nat.le_of_ble_eq_true rfl) d_LW_law_486 ⟨by show _ ≤ 601024; omega, by show _ ≤ 7293034; omega⟩ (fun u_2 H locs hu_2 hP hD hS => ?_)
  have hP : va_P D classes (lw_x q a cI cZ cJ fl sl tb np nt cp cc cb ch cm mp mc mb mh mm us ta tp tl cu bl pf sh (lw_out u_1.1 fo u_1.2.toInt64) ++ md_w r cI cZ u_2.2 xB xsh xcu xtp (nI td) xpa xsp xwh xhe xho xtk xto xwa xmn) H := hP
  have hD : va_D (fun z : Nat => s.heap.size ≤ z) (lw_x q a cI cZ cJ fl sl tb np nt cp cc cb ch cm mp mc mb mh mm us ta tp tl cu bl pf sh (lw_out u_1.1 fo u_1.2.toInt64) ++ md_w r cI cZ u_2.2 xB xsh xcu xtp (nI td) xpa xsp xwh xhe xho xtk xto xwa xmn) := hD
  refine lv_istore (lv' := [(6, .int u_2.1), (5, .int (lw_c 1 0 0 0 u_1.1)), (0, .ref b), (1, .ref (q 0)), (2, .ref (r 0)), (3, .ref a), (4, .int (nI (4 * j)))]) hx hb d_LW_law_489 hl (by decide) rfl (fun ls hl => ?_)
  refine lv_goto (tgt := 554) hx hb d_LW_law_491 (by decide) ?_
  refine W.widen (k := 27 + (j + 1)) (n := 3370 + 6 * (j + 1)) (by omega) (by omega) ?_
  exact kk fl sl tb np nt cp cc cb ch cm mp mc mb mh mm us ta tp tl cu bl pf sh u_2.2 xB xsh xcu xtp xpa xsp xwh xhe xho xtk xto xwa xmn (lw_out u_1.1 fo u_1.2.toInt64) td (by omega) _ _ hP hD hS ls (lv_sub hl [2, 3, 4, 5, 6] rfl)
set_option maxHeartbeats 2000000 in
set_option maxRecDepth 100000 in
/-- the law, case 11 -/
theorem law_11 {p : Program} {l : Launch} {e : Env} {s : State} {m : MethodId} {below : List Frame} {meth : Method} {c : Code} {b L : Nat} {xs : Nat → Int32} {D : va_G} {cI cZ cJ : ClassId} {q r : Nat → Nat} {a : Nat} {Q : State → Prop} (hL : L ≤ 2048) (C0 : lw_At p s m meth c b L xs) (hst : l.stackTraces = false) (hE : sf_EX (fun z : Nat => s.heap.size ≤ z) s s.heap) (hN : lw_NC s) (hK : va_K D classes (sf_tys cI cZ cJ) s) (j : Nat) (hj : 4 * j + 4 ≤ L) (fl : Nat → Int32) (sl : Nat → Int32) (tb : Nat → Int32) (np : Nat → Int32) (nt : Nat → Int32) (cp : Nat → Int32) (cc : Int32) (cb : Int32) (ch : Int32) (cm : Int32) (mp : Nat → Int32) (mc : Int32) (mb : Int32) (mh : Int32) (mm : Int32) (us : Nat → Int32) (ta : Nat → Int32) (tp : Nat → Int32) (tl : Int32) (cu : Int32) (bl : Int32) (pf : Int32) (sh : Int32) (xth : Int32) (xB : Nat → Int32) (xsh : Int32) (xcu : Int32) (xtp : Nat → Int32) (xpa : Nat → Int32) (xsp : Int32) (xwh : Int32) (xhe : Nat → Int32) (xho : Int32) (xtk : Nat → Int32) (xto : Nat → Int32) (xwa : Nat → Int32) (xmn : Int32) (fo : Nat → Int64) (td : Nat) (htd : td ≤ 60) (H : Heap) (locs : List Loc) (hP : va_P D classes (lw_x q a cI cZ cJ fl sl tb np nt cp cc cb ch cm mp mc mb mh mm us ta tp tl cu bl pf sh fo ++ md_w r cI cZ xth xB xsh xcu xtp (nI td) xpa xsp xwh xhe xho xtk xto xwa xmn) H) (hD : va_D (fun z : Nat => s.heap.size ≤ z) (lw_x q a cI cZ cJ fl sl tb np nt cp cc cb ch cm mp mc mb mh mm us ta tp tl cu bl pf sh fo ++ md_w r cI cZ xth xB xsh xcu xtp (nI td) xpa xsp xwh xhe xho xtk xto xwa xmn)) (hS : va_S (fun z : Nat => s.heap.size ≤ z) s.heap H locs) (ls : Array Slot) (hl : lv_has ls 7 [(0, .ref b), (1, .ref (q 0)), (2, .ref (r 0)), (3, .ref a), (4, .int (nI (4 * j)))])
    (kk : ∀ (fl : Nat → Int32) (sl : Nat → Int32) (tb : Nat → Int32) (np : Nat → Int32) (nt : Nat → Int32) (cp : Nat → Int32) (cc : Int32) (cb : Int32) (ch : Int32) (cm : Int32) (mp : Nat → Int32) (mc : Int32) (mb : Int32) (mh : Int32) (mm : Int32) (us : Nat → Int32) (ta : Nat → Int32) (tp : Nat → Int32) (tl : Int32) (cu : Int32) (bl : Int32) (pf : Int32) (sh : Int32) (xth : Int32) (xB : Nat → Int32) (xsh : Int32) (xcu : Int32) (xtp : Nat → Int32) (xpa : Nat → Int32) (xsp : Int32) (xwh : Int32) (xhe : Nat → Int32) (xho : Int32) (xtk : Nat → Int32) (xto : Nat → Int32) (xwa : Nat → Int32) (xmn : Int32) (fo : Nat → Int64) (td : Nat), td ≤ 60 → ∀ (H : Heap) (locs : List Loc), va_P D classes (lw_x q a cI cZ cJ fl sl tb np nt cp cc cb ch cm mp mc mb mh mm us ta tp tl cu bl pf sh fo ++ md_w r cI cZ xth xB xsh xcu xtp (nI td) xpa xsp xwh xhe xho xtk xto xwa xmn) H → va_D (fun z : Nat => s.heap.size ≤ z) (lw_x q a cI cZ cJ fl sl tb np nt cp cc cb ch cm mp mc mb mh mm us ta tp tl cu bl pf sh fo ++ md_w r cI cZ xth xB xsh xcu xtp (nI td) xpa xsp xwh xhe xho xtk xto xwa xmn) → va_S (fun z : Nat => s.heap.size ≤ z) s.heap H locs → ∀ (ls : Array Slot), lv_has ls 7 [(0, .ref b), (1, .ref (q 0)), (2, .ref (r 0)), (3, .ref a), (4, .int (nI (4 * j)))] → W p l e room_1 s m #[Value.ref b] below meth c H locs (27 + (j + 1)) (3370 + 6 * (j + 1)) Q (F0 m 554 ls [])) : W p l e room_1 s m #[Value.ref b] below meth c H locs (27 + j) (3370 + 6 * j) Q (F0 m 494 ls []) := by
  obtain ⟨hx, hb, hr, hml, hown, hts0, hX, hbl, hlocks, hgv⟩ := id C0
  have hts : ∀ w ∈ sf_tb, w.before #[Value.ref b] s = true := fun w h => hts0 w (sf_sub w h)
  have hA : ∀ z : Nat, s.heap.size ≤ z → (fun z : Nat => s.heap.size ≤ z) z := fun _ h => h
  have hbA : ¬ (fun z : Nat => s.heap.size ≤ z) b := Nat.not_le.mpr hbl
  refine lv_aload_n hx hb d_LW_law_494 rfl (lv_at hl 1 rfl) ?_
  refine lv_aload_n hx hb d_LW_law_495 rfl (lv_at hl 0 rfl) ?_
  refine lv_iload hx hb d_LW_law_496 (lv_at hl 4 rfl) ?_
  refine lv_iconst (v := 1) hx hb d_LW_law_498 (by decide) ?_
  refine lv_iadd hx hb d_LW_law_499 ?_
  rw [show (((nI (4 * j)) + 1) : Int32) = (nI ((4 * j) + 1)) from nI_add (4 * j) 1]
  refine va_sld hx hb hX hbl hbA hS (show vp_in (nI ((4 * j) + 1)) L from vp_in_nI (n := ((4 * j) + 1)) (by omega) (by omega)) d_LW_law_500 ?_
  rw [show ((nI ((4 * j) + 1)) : Int32).toNatClampNeg = ((4 * j) + 1) from nI_clamp (n := ((4 * j) + 1)) (by omega)]
  refine lv_aload_n hx hb d_LW_law_501 rfl (lv_at hl 0 rfl) ?_
  refine lv_iload hx hb d_LW_law_502 (lv_at hl 4 rfl) ?_
  refine lv_iconst (v := 2) hx hb d_LW_law_504 (by decide) ?_
  refine lv_iadd hx hb d_LW_law_505 ?_
  rw [show (((nI (4 * j)) + 2) : Int32) = (nI ((4 * j) + 2)) from nI_add (4 * j) 2]
  refine va_sld hx hb hX hbl hbA hS (show vp_in (nI ((4 * j) + 2)) L from vp_in_nI (n := ((4 * j) + 2)) (by omega) (by omega)) d_LW_law_506 ?_
  rw [show ((nI ((4 * j) + 2)) : Int32).toNatClampNeg = ((4 * j) + 2) from nI_clamp (n := ((4 * j) + 2)) (by omega)]
  refine lv_aload_n hx hb d_LW_law_507 rfl (lv_at hl 0 rfl) ?_
  refine lv_iload hx hb d_LW_law_508 (lv_at hl 4 rfl) ?_
  refine lv_iconst (v := 3) hx hb d_LW_law_510 (by decide) ?_
  refine lv_iadd hx hb d_LW_law_511 ?_
  rw [show (((nI (4 * j)) + 3) : Int32) = (nI ((4 * j) + 3)) from nI_add (4 * j) 3]
  refine va_sld hx hb hX hbl hbA hS (show vp_in (nI ((4 * j) + 3)) L from vp_in_nI (n := ((4 * j) + 3)) (by omega) (by omega)) d_LW_law_512 ?_
  rw [show ((nI ((4 * j) + 3)) : Int32).toNatClampNeg = ((4 * j) + 3) from nI_clamp (n := ((4 * j) + 3)) (by omega)]
  refine sf_ncallS (S := (Int32 × (Nat → Int32) × (Nat → Int32) × (Nat → Int32) × Int32)) (rest := []) ⟨hx, hb, hml, hown, hts⟩ (c_LW_poke l D cI cZ cJ hst q a fl sl tb np nt cp cc cb ch cm mp mc mb mh mm us ta tp tl cu bl pf sh fo (xs ((4 * j) + 1)) (xs ((4 * j) + 2)) (xs ((4 * j) + 3))) (sf_cwSW lk_LW_102 hts (fun _ h => h) ⟨Nat.le_of_ble_eq_true rfl, Nat.le_of_ble_eq_true rfl⟩) hK hE hN hP hD hS hA (fun _ => rfl) rfl rfl hl.1 (Nat.le_of_ble_eq_true rfl) d_LW_law_513 ⟨by show _ ≤ 601024; omega, by show _ ≤ 7293034; omega⟩ (fun u_1 H locs hu_1 hP hD hS => ?_)
  have hP : va_P D classes (lw_x q a cI cZ cJ u_1.2.1 u_1.2.2.1 u_1.2.2.2.1 np nt cp cc cb ch cm mp mc mb mh mm us ta tp tl cu bl pf u_1.2.2.2.2 fo ++ md_w r cI cZ xth xB xsh xcu xtp (nI td) xpa xsp xwh xhe xho xtk xto xwa xmn) H := hP
  have hD : va_D (fun z : Nat => s.heap.size ≤ z) (lw_x q a cI cZ cJ u_1.2.1 u_1.2.2.1 u_1.2.2.2.1 np nt cp cc cb ch cm mp mc mb mh mm us ta tp tl cu bl pf u_1.2.2.2.2 fo ++ md_w r cI cZ xth xB xsh xcu xtp (nI td) xpa xsp xwh xhe xho xtk xto xwa xmn) := hD
  refine lv_istore (lv' := [(5, .int (lw_c 1 0 2 0 u_1.1)), (0, .ref b), (1, .ref (q 0)), (2, .ref (r 0)), (3, .ref a), (4, .int (nI (4 * j)))]) hx hb d_LW_law_516 hl (by decide) rfl (fun ls hl => ?_)
  refine lv_aload_n hx hb d_LW_law_518 rfl (lv_at hl 3 rfl) ?_
  refine lv_aload_n hx hb d_LW_law_519 rfl (lv_at hl 1 rfl) ?_
  refine lv_iload hx hb d_LW_law_520 (lv_at hl 5 rfl) ?_
  refine lv_iconst (v := 1) hx hb d_LW_law_522 (by decide) ?_
  refine lv_iadd hx hb d_LW_law_523 ?_
  rw [show (((nI (4 * j)) + 1) : Int32) = (nI ((4 * j) + 1)) from nI_add (4 * j) 1]
  refine va_sld hx hb hX hbl hbA hS (show vp_in (nI ((4 * j) + 1)) L from vp_in_nI (n := ((4 * j) + 1)) (by omega) (by omega)) d_LW_law_524 ?_
  rw [show ((nI ((4 * j) + 1)) : Int32).toNatClampNeg = ((4 * j) + 1) from nI_clamp (n := ((4 * j) + 1)) (by omega)]
  refine lv_aload_n hx hb d_LW_law_525 rfl (lv_at hl 1 rfl) ?_
  refine lv_iload hx hb d_LW_law_526 (lv_at hl 5 rfl) ?_
  refine lv_iconst (v := 2) hx hb d_LW_law_528 (by decide) ?_
  refine lv_iadd hx hb d_LW_law_529 ?_
  rw [show (((nI (4 * j)) + 2) : Int32) = (nI ((4 * j) + 2)) from nI_add (4 * j) 2]
  refine va_sld hx hb hX hbl hbA hS (show vp_in (nI ((4 * j) + 2)) L from vp_in_nI (n := ((4 * j) + 2)) (by omega) (by omega)) d_LW_law_530 ?_
  rw [show ((nI ((4 * j) + 2)) : Int32).toNatClampNeg = ((4 * j) + 2) from nI_clamp (n := ((4 * j) + 2)) (by omega)]
  refine lv_aload_n hx hb d_LW_law_531 rfl (lv_at hl 1 rfl) ?_
  refine lv_iload hx hb d_LW_law_532 (lv_at hl 5 rfl) ?_
  refine lv_iconst (v := 3) hx hb d_LW_law_534 (by decide) ?_
  refine lv_iadd hx hb d_LW_law_535 ?_
  rw [show (((nI (4 * j)) + 3) : Int32) = (nI ((4 * j) + 3)) from nI_add (4 * j) 3]
  refine va_sld hx hb hX hbl hbA hS (show vp_in (nI ((4 * j) + 3)) L from vp_in_nI (n := ((4 * j) + 3)) (by omega) (by omega)) d_LW_law_536 ?_
  rw [show ((nI ((4 * j) + 3)) : Int32).toNatClampNeg = ((4 * j) + 3) from nI_clamp (n := ((4 * j) + 3)) (by omega)]
  refine sf_callVS (S := (Int32 × (Nat → Int32) × Int32)) (rest := []) ⟨hx, hb, hml, hown, hts⟩ (c_MD_poke l D cI cZ cJ r xth xB xsh xcu xtp (nI td) xpa xsp xwh xhe xho xtk xto xwa xmn (xs ((4 * j) + 1)) (xs ((4 * j) + 2)) (xs ((4 * j) + 3))) (sf_cwV lk_LW_105 hts (fun _ h => h) ⟨Nat.le_of_ble_eq_true rfl, Nat.le_of_ble_eq_true rfl⟩) hK hP hD hS hA (fun _ => rfl) (ci := 3) (q0 := 0) rfl rfl rfl rfl rfl hl.1 (Nat.le_of_ble_eq_true rfl) d_LW_law_537 ⟨by show _ ≤ 601024; omega, by show _ ≤ 7293034; omega⟩ (fun u_2 H locs hu_2 hP hD hS => ?_)
  have hP : va_P D classes (lw_x q a cI cZ cJ u_1.2.1 u_1.2.2.1 u_1.2.2.2.1 np nt cp cc cb ch cm mp mc mb mh mm us ta tp tl cu bl pf u_1.2.2.2.2 fo ++ md_w r cI cZ u_2.1 u_2.2.1 u_2.2.2 xcu xtp (nI td) xpa xsp xwh xhe xho xtk xto xwa xmn) H := hP
  have hD : va_D (fun z : Nat => s.heap.size ≤ z) (lw_x q a cI cZ cJ u_1.2.1 u_1.2.2.1 u_1.2.2.2.1 np nt cp cc cb ch cm mp mc mb mh mm us ta tp tl cu bl pf u_1.2.2.2.2 fo ++ md_w r cI cZ u_2.1 u_2.2.1 u_2.2.2 xcu xtp (nI td) xpa xsp xwh xhe xho xtk xto xwa xmn) := hD
  refine lv_aload_n hx hb d_LW_law_540 rfl (lv_at hl 3 rfl) ?_
  refine sf_callVS (S := Int32) (rest := []) ⟨hx, hb, hml, hown, hts⟩ (c_MD_thrown l D cI cZ cJ r u_2.1 u_2.2.1 u_2.2.2 xcu xtp (nI td) xpa xsp xwh xhe xho xtk xto xwa xmn) (sf_cwV lk_LW_106 hts (fun _ h => h) ⟨Nat.le_of_ble_eq_true rfl, Nat.le_of_ble_eq_true rfl⟩) hK hP hD hS hA (fun _ => rfl) (ci := 3) (q0 := 0) rfl rfl rfl rfl rfl hl.1 (Nat.le_of_ble_eq_true rfl) d_LW_law_541 ⟨by show _ ≤ 601024; omega, by show _ ≤ 7293034; omega⟩ (fun u_3 H locs hu_3 hP hD hS => ?_)
  have hP : va_P D classes (lw_x q a cI cZ cJ u_1.2.1 u_1.2.2.1 u_1.2.2.2.1 np nt cp cc cb ch cm mp mc mb mh mm us ta tp tl cu bl pf u_1.2.2.2.2 fo ++ md_w r cI cZ u_2.1 u_2.2.1 u_2.2.2 xcu xtp (nI td) xpa xsp xwh xhe xho xtk xto xwa xmn) H := hP
  have hD : va_D (fun z : Nat => s.heap.size ≤ z) (lw_x q a cI cZ cJ u_1.2.1 u_1.2.2.1 u_1.2.2.2.1 np nt cp cc cb ch cm mp mc mb mh mm us ta tp tl cu bl pf u_1.2.2.2.2 fo ++ md_w r cI cZ u_2.1 u_2.2.1 u_2.2.2 xcu xtp (nI td) xpa xsp xwh xhe xho xtk xto xwa xmn) := hD
  refine lv_iload hx hb d_LW_law_544 (lv_at hl 0 rfl) ?_
  refine lv_icmp_eq (tgt := 551) hx hb d_LW_law_546 (by decide) (fun c_4 => ?_) (fun c_4 => absurd (by rw [hu_3, hu_2, hu_1]; exact lw_cmp_poke _ _ _ _ _ _ _ _ _) c_4)
  refine lv_goto (tgt := 554) hx hb d_LW_law_551 (by decide) ?_
  refine W.widen (k := 27 + (j + 1)) (n := 3370 + 6 * (j + 1)) (by omega) (by omega) ?_
  exact kk u_1.2.1 u_1.2.2.1 u_1.2.2.2.1 np nt cp cc cb ch cm mp mc mb mh mm us ta tp tl cu bl pf u_1.2.2.2.2 u_2.1 u_2.2.1 u_2.2.2 xcu xtp xpa xsp xwh xhe xho xtk xto xwa xmn fo td (by omega) _ _ hP hD hS ls (lv_sub hl [1, 2, 3, 4, 5] rfl)
