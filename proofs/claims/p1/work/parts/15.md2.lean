/-! md2: contracts, with the pure functions that they speak of (printed by wip/gen) -/
theorem d_MD_entry_0 : decode b_MD_entry 0 = .ok (.aload_n 0, 1) := by decide +kernel
theorem d_MD_entry_1 : decode b_MD_entry 1 = .ok (.invokevirtual 60, 3) := by decide +kernel
theorem d_MD_entry_4 : decode b_MD_entry 4 = .ok (.istore_n 2, 1) := by decide +kernel
theorem d_MD_entry_5 : decode b_MD_entry 5 = .ok (.iload_n 2, 1) := by decide +kernel
theorem d_MD_entry_6 : decode b_MD_entry 6 = .ok (.ifCond .ge 7, 3) := by decide +kernel
theorem d_MD_entry_9 : decode b_MD_entry 9 = .ok (.iconst 0, 1) := by decide +kernel
theorem d_MD_entry_10 : decode b_MD_entry 10 = .ok (.goto 18, 3) := by decide +kernel
theorem d_MD_entry_13 : decode b_MD_entry 13 = .ok (.aload_n 0, 1) := by decide +kernel
theorem d_MD_entry_14 : decode b_MD_entry 14 = .ok (.getfield 7, 3) := by decide +kernel
theorem d_MD_entry_17 : decode b_MD_entry 17 = .ok (.sipush 1280, 3) := by decide +kernel
theorem d_MD_entry_20 : decode b_MD_entry 20 = .ok (.bipush 40, 2) := by decide +kernel
theorem d_MD_entry_22 : decode b_MD_entry 22 = .ok (.iload_n 2, 1) := by decide +kernel
theorem d_MD_entry_23 : decode b_MD_entry 23 = .ok (.imul, 1) := by decide +kernel
theorem d_MD_entry_24 : decode b_MD_entry 24 = .ok (.iadd, 1) := by decide +kernel
theorem d_MD_entry_25 : decode b_MD_entry 25 = .ok (.iload_n 1, 1) := by decide +kernel
theorem d_MD_entry_26 : decode b_MD_entry 26 = .ok (.iadd, 1) := by decide +kernel
theorem d_MD_entry_27 : decode b_MD_entry 27 = .ok (.iaload, 1) := by decide +kernel
theorem d_MD_entry_28 : decode b_MD_entry 28 = .ok (.ireturn, 1) := by decide +kernel
theorem d_MD_isSlow_0 : decode b_MD_isSlow 0 = .ok (.aload_n 0, 1) := by decide +kernel
theorem d_MD_isSlow_1 : decode b_MD_isSlow 1 = .ok (.bipush 13, 2) := by decide +kernel
theorem d_MD_isSlow_3 : decode b_MD_isSlow 3 = .ok (.iload_n 1, 1) := by decide +kernel
theorem d_MD_isSlow_4 : decode b_MD_isSlow 4 = .ok (.iadd, 1) := by decide +kernel
theorem d_MD_isSlow_5 : decode b_MD_isSlow 5 = .ok (.invokevirtual 64, 3) := by decide +kernel
theorem d_MD_isSlow_8 : decode b_MD_isSlow 8 = .ok (.ifCond .eq 7, 3) := by decide +kernel
theorem d_MD_isSlow_11 : decode b_MD_isSlow 11 = .ok (.iconst 1, 1) := by decide +kernel
theorem d_MD_isSlow_12 : decode b_MD_isSlow 12 = .ok (.goto 4, 3) := by decide +kernel
theorem d_MD_isSlow_15 : decode b_MD_isSlow 15 = .ok (.iconst 0, 1) := by decide +kernel
theorem d_MD_isSlow_16 : decode b_MD_isSlow 16 = .ok (.ireturn, 1) := by decide +kernel
theorem d_MD_isThere_0 : decode b_MD_isThere 0 = .ok (.aload_n 0, 1) := by decide +kernel
theorem d_MD_isThere_1 : decode b_MD_isThere 1 = .ok (.iconst 1, 1) := by decide +kernel
theorem d_MD_isThere_2 : decode b_MD_isThere 2 = .ok (.iload_n 1, 1) := by decide +kernel
theorem d_MD_isThere_3 : decode b_MD_isThere 3 = .ok (.iadd, 1) := by decide +kernel
theorem d_MD_isThere_4 : decode b_MD_isThere 4 = .ok (.invokevirtual 64, 3) := by decide +kernel
theorem d_MD_isThere_7 : decode b_MD_isThere 7 = .ok (.ifCond .ne 11, 3) := by decide +kernel
theorem d_MD_isThere_10 : decode b_MD_isThere 10 = .ok (.aload_n 0, 1) := by decide +kernel
theorem d_MD_isThere_11 : decode b_MD_isThere 11 = .ok (.iload_n 1, 1) := by decide +kernel
theorem d_MD_isThere_12 : decode b_MD_isThere 12 = .ok (.invokevirtual 67, 3) := by decide +kernel
theorem d_MD_isThere_15 : decode b_MD_isThere 15 = .ok (.ifCond .eq 7, 3) := by decide +kernel
theorem d_MD_isThere_18 : decode b_MD_isThere 18 = .ok (.iconst 1, 1) := by decide +kernel
theorem d_MD_isThere_19 : decode b_MD_isThere 19 = .ok (.goto 4, 3) := by decide +kernel
theorem d_MD_isThere_22 : decode b_MD_isThere 22 = .ok (.iconst 0, 1) := by decide +kernel
theorem d_MD_isThere_23 : decode b_MD_isThere 23 = .ok (.ireturn, 1) := by decide +kernel
theorem f_MD_counting_3 (xB : Nat → Int32) : f_MD_counting xB = -1 ∨ f_MD_counting xB = 0 ∨ f_MD_counting xB = 1 := by
  unfold f_MD_counting
  repeat (first | split | exact Or.inl rfl | exact Or.inr (Or.inl rfl) | exact Or.inr (Or.inr rfl))
def f_MD_entry (xB : Nat → Int32) (ea : Nat) : Int32 :=
  if (f_MD_counting xB) = (-1) then
    0
  else
    if (f_MD_counting xB) = 0 then
      (xB (1280 + ea))
    else
      (xB (1320 + ea))
set_option maxHeartbeats 1000000 in
set_option maxRecDepth 100000 in
/-- entry -/
theorem c_MD_entry (l : Launch) (D : va_G) (cI cZ cJ : ClassId) (q : Nat → Nat) (xth : Int32) (xB : Nat → Int32) (xsh : Int32) (xcu : Int32) (xtp : Nat → Int32) (xtd : Int32) (xpa : Nat → Int32) (xsp : Int32) (xwh : Int32) (xhe : Nat → Int32) (xho : Int32) (xtk : Nat → Int32) (xto : Nat → Int32) (xwa : Nat → Int32) (xmn : Int32) (ea : Nat) (he : ea < 40) : sf_M (S := Int32) l D classes (sf_tys cI cZ cJ) y_MD_entry (sf_ws y_MD_entry b_MD_entry 3 (some .int)) 4 88 [.ref (q 0), .int (nI ea)] (md_w q cI cZ xth xB xsh xcu xtp xtd xpa xsp xwh xhe xho xtk xto xwa xmn) (fun r => some (.int r)) (fun r => r = f_MD_entry xB ea) (fun r => (md_w q cI cZ xth xB xsh xcu xtp xtd xpa xsp xwh xhe xho xtk xto xwa xmn)) := by
  refine sf_ofW (S := Int32) (by decide) (Nat.le_of_ble_eq_true rfl) ?_
  intro p e s m below meth c A ls R args Q hR hArgs hQ hC0 hr hK hP hD hl
  obtain ⟨hx, hb, hml, hown, hts, hA, hlk⟩ := hC0
  have hS : va_S A s.heap s.heap [] := va_S.rf
  have hl : lv_has ls 3 [(0, .ref (q 0)), (1, .int (nI ea))] := hl
  refine lv_aload_n hx hb d_MD_entry_0 rfl (lv_at hl 0 rfl) ?_
  refine sf_callVw (S := Int32) (rest := []) ⟨hx, hb, hml, hown, hts⟩ (c_MD_counting l D cI cZ cJ q xth xB xsh xcu xtp xtd xpa xsp xwh xhe xho xtk xto xwa xmn) (sf_cwV lk_MD_60 hts (fun _ h => h) (by rw [hR]; exact ⟨Nat.le_of_ble_eq_true rfl, Nat.le_of_ble_eq_true rfl⟩)) hK hP hD hS hA (fun _ => by simp only [md_w_fst]) (ci := 3) (q0 := 0) rfl rfl rfl rfl rfl hl.1 (Nat.le_of_ble_eq_true rfl) d_MD_entry_1 ⟨Nat.zero_le _, Nat.zero_le _⟩ (fun u_1 H locs hu_1 hP hD hS => ?_)
  have hP : va_P D classes (md_w q cI cZ xth xB xsh xcu xtp xtd xpa xsp xwh xhe xho xtk xto xwa xmn) H := hP
  have hD : va_D A (md_w q cI cZ xth xB xsh xcu xtp xtd xpa xsp xwh xhe xho xtk xto xwa xmn) := hD
  refine lv_istore_n (lv' := [(2, .int u_1), (0, .ref (q 0)), (1, .int (nI ea))]) hx hb d_MD_entry_4 rfl hl (by decide) rfl (fun ls hl => ?_)
  rcases (show u_1 = -1 ∨ u_1 = 0 ∨ u_1 = 1 by rw [hu_1]; exact f_MD_counting_3 _) with hw | hw | hw
  · rw [hw] at hl
    have hw9 : u_1 = (-1) := by rw [hw]
    refine lv_iload_n hx hb d_MD_entry_5 rfl (lv_at hl 0 rfl) ?_
    refine lv_if_ge (tgt := 13) hx hb d_MD_entry_6 (by decide) (fun c_2 => absurd c_2 (by decide)) (fun c_2 => ?_)
    refine lv_iconst (v := 0) hx hb d_MD_entry_9 (by decide) ?_
    refine lv_goto (tgt := 28) hx hb d_MD_entry_10 (by decide) ?_
    rw [hQ]
    exact sf_iret 0 hx hb hr hlk hS rfl rfl (by simp only [f_MD_entry, ← hu_1, eq_true hw9, ↓reduceIte]) hP d_MD_entry_28
  · rw [hw] at hl
    have hw9 : ¬ u_1 = (-1) := by rw [hw]; decide
    have hw0 : u_1 = 0 := by rw [hw]
    refine lv_iload_n hx hb d_MD_entry_5 rfl (lv_at hl 0 rfl) ?_
    refine lv_if_ge (tgt := 13) hx hb d_MD_entry_6 (by decide) (fun c_3 => ?_) (fun c_3 => absurd (by decide) c_3)
    refine lv_aload_n hx hb d_MD_entry_13 rfl (lv_at hl 1 rfl) ?_
    refine va_get (D := D) (ci := 3) (v := .ref (q 1)) (C := R_MD) (T := F_MD) (N := 15) hx hb hts i_MD hown hK hP 0 rfl rfl 1 (by decide) (hts _ wd_576) (fun _ h9 => h9) rfl d_MD_entry_14 ?_
    refine lv_sipush (v := 1280) hx hb d_MD_entry_17 (by decide) ?_
    refine lv_bipush (v := 40) hx hb d_MD_entry_20 (by decide) ?_
    refine lv_iload_n hx hb d_MD_entry_22 rfl (lv_at hl 0 rfl) ?_
    refine lv_imul hx hb d_MD_entry_23 ?_
    rw [show ((40 * 0) : Int32) = 0 from by decide]
    refine lv_iadd hx hb d_MD_entry_24 ?_
    rw [show ((1280 + 0) : Int32) = 1280 from by decide]
    refine lv_iload_n hx hb d_MD_entry_25 rfl (lv_at hl 2 rfl) ?_
    refine lv_iadd hx hb d_MD_entry_26 ?_
    rw [show ((1280 + (nI ea)) : Int32) = (nI (1280 + ea)) from nI_add 1280 ea]
    refine va_iald hx hb hK hP 1 0 rfl rfl (show vp_in (nI (1280 + ea)) 1360 from vp_in_nI (n := (1280 + ea)) (by omega) (by omega)) d_MD_entry_27 ?_
    rw [show ((nI (1280 + ea)) : Int32).toNatClampNeg = (1280 + ea) from nI_clamp (n := (1280 + ea)) (by omega)]
    rw [hQ]
    exact sf_iret (xB (1280 + ea)) hx hb hr hlk hS rfl rfl (by simp only [f_MD_entry, ← hu_1, eq_false hw9, eq_true hw0, ↓reduceIte]) hP d_MD_entry_28
  · rw [hw] at hl
    have hw9 : ¬ u_1 = (-1) := by rw [hw]; decide
    have hw0 : ¬ u_1 = 0 := by rw [hw]; decide
    refine lv_iload_n hx hb d_MD_entry_5 rfl (lv_at hl 0 rfl) ?_
    refine lv_if_ge (tgt := 13) hx hb d_MD_entry_6 (by decide) (fun c_4 => ?_) (fun c_4 => absurd (by decide) c_4)
    refine lv_aload_n hx hb d_MD_entry_13 rfl (lv_at hl 1 rfl) ?_
    refine va_get (D := D) (ci := 3) (v := .ref (q 1)) (C := R_MD) (T := F_MD) (N := 15) hx hb hts i_MD hown hK hP 0 rfl rfl 1 (by decide) (hts _ wd_576) (fun _ h9 => h9) rfl d_MD_entry_14 ?_
    refine lv_sipush (v := 1280) hx hb d_MD_entry_17 (by decide) ?_
    refine lv_bipush (v := 40) hx hb d_MD_entry_20 (by decide) ?_
    refine lv_iload_n hx hb d_MD_entry_22 rfl (lv_at hl 0 rfl) ?_
    refine lv_imul hx hb d_MD_entry_23 ?_
    rw [show ((40 * 1) : Int32) = 40 from by decide]
    refine lv_iadd hx hb d_MD_entry_24 ?_
    rw [show ((1280 + 40) : Int32) = 1320 from by decide]
    refine lv_iload_n hx hb d_MD_entry_25 rfl (lv_at hl 2 rfl) ?_
    refine lv_iadd hx hb d_MD_entry_26 ?_
    rw [show ((1320 + (nI ea)) : Int32) = (nI (1320 + ea)) from nI_add 1320 ea]
    refine va_iald hx hb hK hP 1 0 rfl rfl (show vp_in (nI (1320 + ea)) 1360 from vp_in_nI (n := (1320 + ea)) (by omega) (by omega)) d_MD_entry_27 ?_
    rw [show ((nI (1320 + ea)) : Int32).toNatClampNeg = (1320 + ea) from nI_clamp (n := (1320 + ea)) (by omega)]
    rw [hQ]
    exact sf_iret (xB (1320 + ea)) hx hb hr hlk hS rfl rfl (by simp only [f_MD_entry, ← hu_1, eq_false hw9, eq_false hw0, ↓reduceIte]) hP d_MD_entry_28
def f_MD_isSlow (xB : Nat → Int32) (ro : Nat) : Int32 :=
  if (f_MD_entry xB (13 + ro)) = 0 then
    0
  else
    1
set_option maxHeartbeats 1000000 in
set_option maxRecDepth 100000 in
/-- isSlow -/
theorem c_MD_isSlow (l : Launch) (D : va_G) (cI cZ cJ : ClassId) (q : Nat → Nat) (xth : Int32) (xB : Nat → Int32) (xsh : Int32) (xcu : Int32) (xtp : Nat → Int32) (xtd : Int32) (xpa : Nat → Int32) (xsp : Int32) (xwh : Int32) (xhe : Nat → Int32) (xho : Int32) (xtk : Nat → Int32) (xto : Nat → Int32) (xwa : Nat → Int32) (xmn : Int32) (ro : Nat) (hro : ro < 12) : sf_M (S := Int32) l D classes (sf_tys cI cZ cJ) y_MD_isSlow (sf_ws y_MD_isSlow b_MD_isSlow 2 (some .boolean)) 5 110 [.ref (q 0), .int (nI ro)] (md_w q cI cZ xth xB xsh xcu xtp xtd xpa xsp xwh xhe xho xtk xto xwa xmn) (fun r => some (.int r)) (fun r => r = f_MD_isSlow xB ro) (fun r => (md_w q cI cZ xth xB xsh xcu xtp xtd xpa xsp xwh xhe xho xtk xto xwa xmn)) := by
  refine sf_ofW (S := Int32) (by decide) (Nat.le_of_ble_eq_true rfl) ?_
  intro p e s m below meth c A ls R args Q hR hArgs hQ hC0 hr hK hP hD hl
  obtain ⟨hx, hb, hml, hown, hts, hA, hlk⟩ := hC0
  have hS : va_S A s.heap s.heap [] := va_S.rf
  have hl : lv_has ls 2 [(0, .ref (q 0)), (1, .int (nI ro))] := hl
  refine lv_aload_n hx hb d_MD_isSlow_0 rfl (lv_at hl 0 rfl) ?_
  refine lv_bipush (v := 13) hx hb d_MD_isSlow_1 (by decide) ?_
  refine lv_iload_n hx hb d_MD_isSlow_3 rfl (lv_at hl 1 rfl) ?_
  refine lv_iadd hx hb d_MD_isSlow_4 ?_
  rw [show ((13 + (nI ro)) : Int32) = (nI (13 + ro)) from nI_add 13 ro]
  refine sf_callVw (S := Int32) (rest := []) ⟨hx, hb, hml, hown, hts⟩ (c_MD_entry l D cI cZ cJ q xth xB xsh xcu xtp xtd xpa xsp xwh xhe xho xtk xto xwa xmn (13 + ro) (by omega)) (sf_cwV lk_MD_64 hts (fun _ h => h) (by rw [hR]; exact ⟨Nat.le_of_ble_eq_true rfl, Nat.le_of_ble_eq_true rfl⟩)) hK hP hD hS hA (fun _ => by simp only [md_w_fst]) (ci := 3) (q0 := 0) rfl rfl rfl rfl rfl hl.1 (Nat.le_of_ble_eq_true rfl) d_MD_isSlow_5 ⟨Nat.zero_le _, Nat.zero_le _⟩ (fun u_1 H locs hu_1 hP hD hS => ?_)
  have hP : va_P D classes (md_w q cI cZ xth xB xsh xcu xtp xtd xpa xsp xwh xhe xho xtk xto xwa xmn) H := hP
  have hD : va_D A (md_w q cI cZ xth xB xsh xcu xtp xtd xpa xsp xwh xhe xho xtk xto xwa xmn) := hD
  refine lv_if_eq (tgt := 15) hx hb d_MD_isSlow_8 (by decide) (fun c_2 => ?_) (fun c_2 => ?_)
  · refine lv_iconst (v := 0) hx hb d_MD_isSlow_15 (by decide) ?_
    rw [hQ]
    exact sf_iret 0 hx hb hr hlk hS sf_b0 rfl (by simp only [f_MD_isSlow, ← hu_1, eq_true c_2, ↓reduceIte]) hP d_MD_isSlow_16
  · refine lv_iconst (v := 1) hx hb d_MD_isSlow_11 (by decide) ?_
    refine lv_goto (tgt := 16) hx hb d_MD_isSlow_12 (by decide) ?_
    rw [hQ]
    exact sf_iret 1 hx hb hr hlk hS sf_b1 rfl (by simp only [f_MD_isSlow, ← hu_1, eq_false c_2, ↓reduceIte]) hP d_MD_isSlow_16
def f_MD_isThere (xB : Nat → Int32) (ro : Nat) : Int32 :=
  if (f_MD_entry xB (1 + ro)) = 0 then
    if (f_MD_isSlow xB ro) = 0 then
      0
    else
      1
  else
    1
set_option maxHeartbeats 1000000 in
set_option maxRecDepth 100000 in
/-- isThere -/
theorem c_MD_isThere (l : Launch) (D : va_G) (cI cZ cJ : ClassId) (q : Nat → Nat) (xth : Int32) (xB : Nat → Int32) (xsh : Int32) (xcu : Int32) (xtp : Nat → Int32) (xtd : Int32) (xpa : Nat → Int32) (xsp : Int32) (xwh : Int32) (xhe : Nat → Int32) (xho : Int32) (xtk : Nat → Int32) (xto : Nat → Int32) (xwa : Nat → Int32) (xmn : Int32) (ro : Nat) (hro : ro < 12) : sf_M (S := Int32) l D classes (sf_tys cI cZ cJ) y_MD_isThere (sf_ws y_MD_isThere b_MD_isThere 2 (some .boolean)) 6 131 [.ref (q 0), .int (nI ro)] (md_w q cI cZ xth xB xsh xcu xtp xtd xpa xsp xwh xhe xho xtk xto xwa xmn) (fun r => some (.int r)) (fun r => r = f_MD_isThere xB ro) (fun r => (md_w q cI cZ xth xB xsh xcu xtp xtd xpa xsp xwh xhe xho xtk xto xwa xmn)) := by
  refine sf_ofW (S := Int32) (by decide) (Nat.le_of_ble_eq_true rfl) ?_
  intro p e s m below meth c A ls R args Q hR hArgs hQ hC0 hr hK hP hD hl
  obtain ⟨hx, hb, hml, hown, hts, hA, hlk⟩ := hC0
  have hS : va_S A s.heap s.heap [] := va_S.rf
  have hl : lv_has ls 2 [(0, .ref (q 0)), (1, .int (nI ro))] := hl
  refine lv_aload_n hx hb d_MD_isThere_0 rfl (lv_at hl 0 rfl) ?_
  refine lv_iconst (v := 1) hx hb d_MD_isThere_1 (by decide) ?_
  refine lv_iload_n hx hb d_MD_isThere_2 rfl (lv_at hl 1 rfl) ?_
  refine lv_iadd hx hb d_MD_isThere_3 ?_
  rw [show ((1 + (nI ro)) : Int32) = (nI (1 + ro)) from nI_add 1 ro]
  refine sf_callVw (S := Int32) (rest := []) ⟨hx, hb, hml, hown, hts⟩ (c_MD_entry l D cI cZ cJ q xth xB xsh xcu xtp xtd xpa xsp xwh xhe xho xtk xto xwa xmn (1 + ro) (by omega)) (sf_cwV lk_MD_64 hts (fun _ h => h) (by rw [hR]; exact ⟨Nat.le_of_ble_eq_true rfl, Nat.le_of_ble_eq_true rfl⟩)) hK hP hD hS hA (fun _ => by simp only [md_w_fst]) (ci := 3) (q0 := 0) rfl rfl rfl rfl rfl hl.1 (Nat.le_of_ble_eq_true rfl) d_MD_isThere_4 ⟨Nat.zero_le _, Nat.zero_le _⟩ (fun u_1 H locs hu_1 hP hD hS => ?_)
  have hP : va_P D classes (md_w q cI cZ xth xB xsh xcu xtp xtd xpa xsp xwh xhe xho xtk xto xwa xmn) H := hP
  have hD : va_D A (md_w q cI cZ xth xB xsh xcu xtp xtd xpa xsp xwh xhe xho xtk xto xwa xmn) := hD
  refine lv_if_ne (tgt := 18) hx hb d_MD_isThere_7 (by decide) (fun c_2 => ?_) (fun c_2 => ?_)
  · refine lv_iconst (v := 1) hx hb d_MD_isThere_18 (by decide) ?_
    refine lv_goto (tgt := 23) hx hb d_MD_isThere_19 (by decide) ?_
    rw [hQ]
    exact sf_iret 1 hx hb hr hlk hS sf_b1 rfl (by simp only [f_MD_isThere, ← hu_1, eq_false c_2, ↓reduceIte]) hP d_MD_isThere_23
  · refine lv_aload_n hx hb d_MD_isThere_10 rfl (lv_at hl 0 rfl) ?_
    refine lv_iload_n hx hb d_MD_isThere_11 rfl (lv_at hl 1 rfl) ?_
    refine sf_callVw (S := Int32) (rest := []) ⟨hx, hb, hml, hown, hts⟩ (c_MD_isSlow l D cI cZ cJ q xth xB xsh xcu xtp xtd xpa xsp xwh xhe xho xtk xto xwa xmn ro (by omega)) (sf_cwV lk_MD_67 hts (fun _ h => h) (by rw [hR]; exact ⟨Nat.le_of_ble_eq_true rfl, Nat.le_of_ble_eq_true rfl⟩)) hK hP hD hS hA (fun _ => by simp only [md_w_fst]) (ci := 3) (q0 := 0) rfl rfl rfl rfl rfl hl.1 (Nat.le_of_ble_eq_true rfl) d_MD_isThere_12 ⟨Nat.zero_le _, Nat.zero_le _⟩ (fun u_3 H locs hu_3 hP hD hS => ?_)
    have hP : va_P D classes (md_w q cI cZ xth xB xsh xcu xtp xtd xpa xsp xwh xhe xho xtk xto xwa xmn) H := hP
    have hD : va_D A (md_w q cI cZ xth xB xsh xcu xtp xtd xpa xsp xwh xhe xho xtk xto xwa xmn) := hD
    refine lv_if_eq (tgt := 22) hx hb d_MD_isThere_15 (by decide) (fun c_4 => ?_) (fun c_4 => ?_)
    · refine lv_iconst (v := 0) hx hb d_MD_isThere_22 (by decide) ?_
      rw [hQ]
      exact sf_iret 0 hx hb hr hlk hS sf_b0 rfl (by simp only [f_MD_isThere, ← hu_1, ← hu_3, eq_true c_2, eq_true c_4, ↓reduceIte]) hP d_MD_isThere_23
    · refine lv_iconst (v := 1) hx hb d_MD_isThere_18 (by decide) ?_
      refine lv_goto (tgt := 23) hx hb d_MD_isThere_19 (by decide) ?_
      rw [hQ]
      exact sf_iret 1 hx hb hr hlk hS sf_b1 rfl (by simp only [f_MD_isThere, ← hu_1, ← hu_3, eq_true c_2, eq_false c_4, ↓reduceIte]) hP d_MD_isThere_23
