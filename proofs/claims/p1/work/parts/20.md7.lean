/-! md7: contracts, with the pure functions that they speak of (printed by wip/gen) -/
set_option maxRecDepth 20000 in
theorem wd_578 : Cond.fieldLink R_MD 13 "ShadowFilesModel" "cut" "I" ∈ sf_tb := sf_tb_in 578 rfl rfl
set_option maxRecDepth 20000 in
theorem wd_577 : Cond.fieldLink R_MD 111 "ShadowFilesModel" "shut" "Z" ∈ sf_tb := sf_tb_in 577 rfl rfl
set_option maxRecDepth 20000 in
theorem wd_694 : Cond.methodLink R_MD 105 y_MD_freeFrom ∈ sf_tb := sf_tb_in 694 rfl rfl
set_option maxRecDepth 20000 in
theorem wd_697 : Cond.code y_MD_freeFrom b_MD_freeFrom 3 (some .int) ∈ sf_tb := sf_tb_in 697 rfl rfl
set_option maxRecDepth 20000 in
theorem wd_696 : Cond.instanceMethod y_MD_freeFrom ∈ sf_tb := sf_tb_in 696 rfl rfl
set_option maxRecDepth 20000 in
theorem wd_44 : Cond.selects R_MD y_MD_freeFrom y_MD_freeFrom ∈ sf_tb := sf_tb_in 44 rfl rfl
set_option maxRecDepth 20000 in
theorem wd_702 : Cond.methodLink R_MD 108 y_MD_putSum ∈ sf_tb := sf_tb_in 702 rfl rfl
set_option maxRecDepth 20000 in
theorem wd_705 : Cond.code y_MD_putSum b_MD_putSum 5 none ∈ sf_tb := sf_tb_in 705 rfl rfl
set_option maxRecDepth 20000 in
theorem wd_704 : Cond.instanceMethod y_MD_putSum ∈ sf_tb := sf_tb_in 704 rfl rfl
set_option maxRecDepth 20000 in
theorem wd_46 : Cond.selects R_MD y_MD_putSum y_MD_putSum ∈ sf_tb := sf_tb_in 46 rfl rfl
theorem lk_MD_105 : sf_LV R_MD 105 y_MD_freeFrom b_MD_freeFrom 3 (some .int) 1 := ⟨wd_697, wd_694, wd_696, wd_44, wd_55, by decide +kernel⟩
theorem lk_MD_108 : sf_LV R_MD 108 y_MD_putSum b_MD_putSum 5 none 2 := ⟨wd_705, wd_702, wd_704, wd_46, wd_55, by decide +kernel⟩
theorem d_MD_monthOf_0 : decode b_MD_monthOf 0 = .ok (.aload_n 0, 1) := by decide +kernel
theorem d_MD_monthOf_1 : decode b_MD_monthOf 1 = .ok (.iload_n 1, 1) := by decide +kernel
theorem d_MD_monthOf_2 : decode b_MD_monthOf 2 = .ok (.invokevirtual 91, 3) := by decide +kernel
theorem d_MD_monthOf_5 : decode b_MD_monthOf 5 = .ok (.aload_n 0, 1) := by decide +kernel
theorem d_MD_monthOf_6 : decode b_MD_monthOf 6 = .ok (.getfield 76, 3) := by decide +kernel
theorem d_MD_monthOf_9 : decode b_MD_monthOf 9 = .ok (.ifCond .eq 27, 3) := by decide +kernel
theorem d_MD_monthOf_12 : decode b_MD_monthOf 12 = .ok (.aload_n 0, 1) := by decide +kernel
theorem d_MD_monthOf_13 : decode b_MD_monthOf 13 = .ok (.getfield 7, 3) := by decide +kernel
theorem d_MD_monthOf_16 : decode b_MD_monthOf 16 = .ok (.aload_n 0, 1) := by decide +kernel
theorem d_MD_monthOf_17 : decode b_MD_monthOf 17 = .ok (.iload_n 1, 1) := by decide +kernel
theorem d_MD_monthOf_18 : decode b_MD_monthOf 18 = .ok (.invokevirtual 67, 3) := by decide +kernel
theorem d_MD_monthOf_21 : decode b_MD_monthOf 21 = .ok (.aload_n 0, 1) := by decide +kernel
theorem d_MD_monthOf_22 : decode b_MD_monthOf 22 = .ok (.getfield 20, 3) := by decide +kernel
theorem d_MD_monthOf_25 : decode b_MD_monthOf 25 = .ok (.iconst 0, 1) := by decide +kernel
theorem d_MD_monthOf_26 : decode b_MD_monthOf 26 = .ok (.iaload, 1) := by decide +kernel
theorem d_MD_monthOf_27 : decode b_MD_monthOf 27 = .ok (.invokestatic 84, 3) := by decide +kernel
theorem d_MD_monthOf_30 : decode b_MD_monthOf 30 = .ok (.iconst 2, 1) := by decide +kernel
theorem d_MD_monthOf_31 : decode b_MD_monthOf 31 = .ok (.iadd, 1) := by decide +kernel
theorem d_MD_monthOf_32 : decode b_MD_monthOf 32 = .ok (.iaload, 1) := by decide +kernel
theorem d_MD_monthOf_33 : decode b_MD_monthOf 33 = .ok (.goto 4, 3) := by decide +kernel
theorem d_MD_monthOf_36 : decode b_MD_monthOf 36 = .ok (.iconst (-1), 1) := by decide +kernel
theorem d_MD_monthOf_37 : decode b_MD_monthOf 37 = .ok (.ireturn, 1) := by decide +kernel
theorem d_MD_freeFrom_0 : decode b_MD_freeFrom 0 = .ok (.iload_n 1, 1) := by decide +kernel
theorem d_MD_freeFrom_1 : decode b_MD_freeFrom 1 = .ok (.istore_n 2, 1) := by decide +kernel
theorem d_MD_freeFrom_2 : decode b_MD_freeFrom 2 = .ok (.aload_n 0, 1) := by decide +kernel
theorem d_MD_freeFrom_3 : decode b_MD_freeFrom 3 = .ok (.getfield 26, 3) := by decide +kernel
theorem d_MD_freeFrom_6 : decode b_MD_freeFrom 6 = .ok (.iload_n 2, 1) := by decide +kernel
theorem d_MD_freeFrom_7 : decode b_MD_freeFrom 7 = .ok (.baload, 1) := by decide +kernel
theorem d_MD_freeFrom_8 : decode b_MD_freeFrom 8 = .ok (.ifCond .eq 9, 3) := by decide +kernel
theorem d_MD_freeFrom_11 : decode b_MD_freeFrom 11 = .ok (.iinc 2 1, 3) := by decide +kernel
theorem d_MD_freeFrom_14 : decode b_MD_freeFrom 14 = .ok (.goto (-12), 3) := by decide +kernel
theorem d_MD_freeFrom_17 : decode b_MD_freeFrom 17 = .ok (.iload_n 2, 1) := by decide +kernel
theorem d_MD_freeFrom_18 : decode b_MD_freeFrom 18 = .ok (.ireturn, 1) := by decide +kernel
theorem f_MD_go_okF {xB xpa xhe : Nat → Int32} {ro : Nat} (h : f_MD_isSlow xB ro = 0) : md_GO 24 (f_MD_go xB xpa xhe ro) := by
  have := f_MD_go_ok xB xpa xhe ro
  rwa [if_pos h] at this
theorem f_MD_go_okS {xB xpa xhe : Nat → Int32} {ro : Nat} (h : ¬ f_MD_isSlow xB ro = 0) : md_GO 16 (f_MD_go xB xpa xhe ro) := by
  have := f_MD_go_ok xB xpa xhe ro
  rwa [if_neg h] at this
/-- where the chain begins, if it is whole -/
theorem md_GO.path0 {B : Nat} {r : (Nat → Int32) × Int32 × Int32 × (Nat → Int32) × Int32} {z : Nat} (h : md_GO B r) (hB : B ≤ 24) (hw : ¬ r.2.2.1 = 0) (hz : z = (r.1 0).toNatClampNeg) : r.1 0 = nI z ∧ z < B := by
  obtain ⟨s, h1, h2, h3, h4, -⟩ := h
  obtain ⟨y, hy, e⟩ := h3 0 (h4 hw)
  rw [e, nI_clamp (by omega)] at hz
  subst hz
  exact ⟨e, hy⟩
/-- how many places from a on, n of them, are free -/
def md_nf (tk : Nat → Int32) (a : Nat) : Nat → Nat
  | 0 => 0
  | n + 1 => (if tk a = 0 then 1 else 0) + md_nf tk (a + 1) n
theorem md_nf_ex {tk : Nat → Int32} : ∀ (n : Nat) {a : Nat}, 1 ≤ md_nf tk a n → ∃ j, a ≤ j ∧ j < a + n ∧ tk j = 0
  | 0, _, h => absurd h (by unfold md_nf; omega)
  | n + 1, a, h => by
    by_cases c : tk a = 0
    · exact ⟨a, Nat.le_refl _, by omega, c⟩
    · unfold md_nf at h
      rw [if_neg c] at h
      obtain ⟨j, h1, h2, h3⟩ := md_nf_ex (tk := tk) n (a := a + 1) (by omega)
      exact ⟨j, by omega, by omega, h3⟩
theorem md_nf_ex24 {tk : Nat → Int32} {a P : Nat} (hP : P ≤ 24) (h : 1 ≤ md_nf tk a (P - a)) : ∃ j, a ≤ j ∧ j < 24 ∧ tk j = 0 := by
  obtain ⟨j, h1, h2, h3⟩ := md_nf_ex _ h
  exact ⟨j, h1, by omega, h3⟩
def f_MD_monthOf (xB : Nat → Int32) (xpa : Nat → Int32) (xhe : Nat → Int32) (ro : Nat) : (Int32 × (Nat → Int32) × Int32 × Int32 × (Nat → Int32) × Int32) :=
  if (f_MD_go xB xpa xhe ro).2.2.1 = 0 then
    ((-1), (f_MD_go xB xpa xhe ro).1, (f_MD_go xB xpa xhe ro).2.1, (f_MD_go xB xpa xhe ro).2.2.1, (f_MD_go xB xpa xhe ro).2.2.2.1, (f_MD_go xB xpa xhe ro).2.2.2.2)
  else
    if (f_MD_isSlow xB ro) = 0 then
      ((xB ((0 + (32 * (((f_MD_go xB xpa xhe ro).1 0).toNatClampNeg))) + 2)), (f_MD_go xB xpa xhe ro).1, (f_MD_go xB xpa xhe ro).2.1, (f_MD_go xB xpa xhe ro).2.2.1, (f_MD_go xB xpa xhe ro).2.2.2.1, (f_MD_go xB xpa xhe ro).2.2.2.2)
    else
      ((xB ((768 + (32 * (((f_MD_go xB xpa xhe ro).1 0).toNatClampNeg))) + 2)), (f_MD_go xB xpa xhe ro).1, (f_MD_go xB xpa xhe ro).2.1, (f_MD_go xB xpa xhe ro).2.2.1, (f_MD_go xB xpa xhe ro).2.2.2.1, (f_MD_go xB xpa xhe ro).2.2.2.2)
set_option maxHeartbeats 1000000 in
set_option maxRecDepth 100000 in
/-- monthOf -/
theorem c_MD_monthOf (l : Launch) (D : va_G) (cI cZ cJ : ClassId) (q : Nat → Nat) (xth : Int32) (xB : Nat → Int32) (xsh : Int32) (xcu : Int32) (xtp : Nat → Int32) (xtd : Int32) (xpa : Nat → Int32) (xsp : Int32) (xwh : Int32) (xhe : Nat → Int32) (xho : Int32) (xtk : Nat → Int32) (xto : Nat → Int32) (xwa : Nat → Int32) (xmn : Int32) (ro : Nat) (hro : ro < 12) : sf_M (S := (Int32 × (Nat → Int32) × Int32 × Int32 × (Nat → Int32) × Int32)) l D classes (sf_tys cI cZ cJ) y_MD_monthOf (sf_ws y_MD_monthOf b_MD_monthOf 2 (some .int)) 7 159 [.ref (q 0), .int (nI ro)] (md_w q cI cZ xth xB xsh xcu xtp xtd xpa xsp xwh xhe xho xtk xto xwa xmn) (fun r => some (.int r.1)) (fun r => r = f_MD_monthOf xB xpa xhe ro) (fun r => (md_w q cI cZ xth xB xsh xcu xtp xtd r.2.1 r.2.2.1 r.2.2.2.1 r.2.2.2.2.1 r.2.2.2.2.2 xtk xto xwa xmn)) := by
  refine sf_ofW (S := (Int32 × (Nat → Int32) × Int32 × Int32 × (Nat → Int32) × Int32)) (by decide) (Nat.le_of_ble_eq_true rfl) ?_
  intro p e s m below meth c A ls R args Q hR hArgs hQ hC0 hr hK hP hD hl
  obtain ⟨hx, hb, hml, hown, hts, hA, hlk⟩ := hC0
  have hS : va_S A s.heap s.heap [] := va_S.rf
  have hl : lv_has ls 2 [(0, .ref (q 0)), (1, .int (nI ro))] := hl
  refine lv_aload_n hx hb d_MD_monthOf_0 rfl (lv_at hl 0 rfl) ?_
  refine lv_iload_n hx hb d_MD_monthOf_1 rfl (lv_at hl 1 rfl) ?_
  refine sf_callVw (S := ((Nat → Int32) × Int32 × Int32 × (Nat → Int32) × Int32)) (rest := []) ⟨hx, hb, hml, hown, hts⟩ (c_MD_go l D cI cZ cJ q xth xB xsh xcu xtp xtd xpa xsp xwh xhe xho xtk xto xwa xmn ro (by omega)) (sf_cwV lk_MD_91 hts (fun _ h => h) (by rw [hR]; exact ⟨Nat.le_of_ble_eq_true rfl, Nat.le_of_ble_eq_true rfl⟩)) hK hP hD hS hA (fun _ => by simp only [md_w_fst]) (ci := 3) (q0 := 0) rfl rfl rfl rfl rfl hl.1 (Nat.le_of_ble_eq_true rfl) d_MD_monthOf_2 ⟨Nat.zero_le _, Nat.zero_le _⟩ (fun u_1 H locs hu_1 hP hD hS => ?_)
  have hP : va_P D classes (md_w q cI cZ xth xB xsh xcu xtp xtd u_1.1 u_1.2.1 u_1.2.2.1 u_1.2.2.2.1 u_1.2.2.2.2 xtk xto xwa xmn) H := hP
  have hD : va_D A (md_w q cI cZ xth xB xsh xcu xtp xtd u_1.1 u_1.2.1 u_1.2.2.1 u_1.2.2.2.1 u_1.2.2.2.2 xtk xto xwa xmn) := hD
  refine lv_aload_n hx hb d_MD_monthOf_5 rfl (lv_at hl 0 rfl) ?_
  refine va_get (D := D) (ci := 3) (v := .int u_1.2.2.1) (C := R_MD) (T := F_MD) (N := 15) hx hb hts i_MD hown hK hP 0 rfl rfl 8 (by decide) (hts _ wd_583) (fun _ h9 => h9) rfl d_MD_monthOf_6 ?_
  refine lv_if_eq (tgt := 36) hx hb d_MD_monthOf_9 (by decide) (fun c_2 => ?_) (fun c_2 => ?_)
  · refine lv_iconst (v := (-1)) hx hb d_MD_monthOf_36 (by decide) ?_
    rw [hQ]
    exact sf_iret ((-1), u_1.1, u_1.2.1, u_1.2.2.1, u_1.2.2.2.1, u_1.2.2.2.2) hx hb hr hlk hS rfl rfl (by simp only [f_MD_monthOf, ← hu_1, eq_true c_2, ↓reduceIte]) hP d_MD_monthOf_37
  · refine lv_aload_n hx hb d_MD_monthOf_12 rfl (lv_at hl 0 rfl) ?_
    refine va_get (D := D) (ci := 3) (v := .ref (q 1)) (C := R_MD) (T := F_MD) (N := 15) hx hb hts i_MD hown hK hP 0 rfl rfl 1 (by decide) (hts _ wd_576) (fun _ h9 => h9) rfl d_MD_monthOf_13 ?_
    refine lv_aload_n hx hb d_MD_monthOf_16 rfl (lv_at hl 0 rfl) ?_
    refine lv_iload_n hx hb d_MD_monthOf_17 rfl (lv_at hl 1 rfl) ?_
    refine sf_callVw (S := Int32) (rest := [.ref (q 1)]) ⟨hx, hb, hml, hown, hts⟩ (c_MD_isSlow l D cI cZ cJ q xth xB xsh xcu xtp xtd u_1.1 u_1.2.1 u_1.2.2.1 u_1.2.2.2.1 u_1.2.2.2.2 xtk xto xwa xmn ro (by omega)) (sf_cwV lk_MD_67 hts (fun _ h => h) (by rw [hR]; exact ⟨Nat.le_of_ble_eq_true rfl, Nat.le_of_ble_eq_true rfl⟩)) hK hP hD hS hA (fun _ => by simp only [md_w_fst]) (ci := 3) (q0 := 0) rfl rfl rfl rfl rfl hl.1 (Nat.le_of_ble_eq_true rfl) d_MD_monthOf_18 ⟨Nat.zero_le _, Nat.zero_le _⟩ (fun u_3 H locs hu_3 hP hD hS => ?_)
    have hP : va_P D classes (md_w q cI cZ xth xB xsh xcu xtp xtd u_1.1 u_1.2.1 u_1.2.2.1 u_1.2.2.2.1 u_1.2.2.2.2 xtk xto xwa xmn) H := hP
    have hD : va_D A (md_w q cI cZ xth xB xsh xcu xtp xtd u_1.1 u_1.2.1 u_1.2.2.1 u_1.2.2.2.1 u_1.2.2.2.2 xtk xto xwa xmn) := hD
    refine lv_aload_n hx hb d_MD_monthOf_21 rfl (lv_at hl 0 rfl) ?_
    refine va_get (D := D) (ci := 3) (v := .ref (q 3)) (C := R_MD) (T := F_MD) (N := 15) hx hb hts i_MD hown hK hP 0 rfl rfl 6 (by decide) (hts _ wd_581) (fun _ h9 => h9) rfl d_MD_monthOf_22 ?_
    refine lv_iconst (v := 0) hx hb d_MD_monthOf_25 (by decide) ?_
    refine va_iald hx hb hK hP 3 0 rfl rfl (show vp_in 0 3 from vp_in_nI (n := 0) (by omega) (by omega)) d_MD_monthOf_26 ?_
    rw [show (0 : Int32).toNatClampNeg = 0 from nI_clamp (n := 0) (by omega)]
    rcases (show u_3 = 0 ∨ u_3 = 1 by rw [hu_3]; exact f_MD_isSlow_b _ _) with hz | hz
    · have hz0 : u_3 = 0 := by rw [hz]
      obtain ⟨u_4, hu_4⟩ : ∃ z, z = (u_1.1 0).toNatClampNeg := ⟨_, rfl⟩
      obtain ⟨he_u_4, hb_u_4⟩ := md_GO.path0 (B := 24) (r := u_1) (by rw [hu_1]; exact f_MD_go_okF (by rw [← hu_3]; exact hz0)) (by omega) c_2 hu_4
      rw [he_u_4, hz]
      refine sf_callSr (S := Unit) (rest := [.ref (q 1)]) ⟨hx, hb, hml, hown, hts⟩ (c_MD_begin_0 l D cI cZ cJ u_4) (sf_cwS lk_MD_84 hts (fun _ h => h) (by rw [hR]; exact ⟨Nat.le_of_ble_eq_true rfl, Nat.le_of_ble_eq_true rfl⟩)) hK hP hD hS hA [] rfl rfl (fun _ => rfl) rfl rfl hl.1 (Nat.le_of_ble_eq_true rfl) d_MD_monthOf_27 ⟨Nat.zero_le _, Nat.zero_le _⟩ (fun u H locs hu hP hS => ?_)
      refine lv_iconst (v := 2) hx hb d_MD_monthOf_30 (by decide) ?_
      refine lv_iadd hx hb d_MD_monthOf_31 ?_
      rw [show (((nI (0 + (32 * u_4))) + 2) : Int32) = (nI ((0 + (32 * u_4)) + 2)) from nI_add (0 + (32 * u_4)) 2]
      refine va_iald hx hb hK hP 1 0 rfl rfl (show vp_in (nI ((0 + (32 * u_4)) + 2)) 1360 from vp_in_nI (n := ((0 + (32 * u_4)) + 2)) (by omega) (by omega)) d_MD_monthOf_32 ?_
      rw [show ((nI ((0 + (32 * u_4)) + 2)) : Int32).toNatClampNeg = ((0 + (32 * u_4)) + 2) from nI_clamp (n := ((0 + (32 * u_4)) + 2)) (by omega)]
      refine lv_goto (tgt := 37) hx hb d_MD_monthOf_33 (by decide) ?_
      rw [hQ]
      exact sf_iret ((xB ((0 + (32 * u_4)) + 2)), u_1.1, u_1.2.1, u_1.2.2.1, u_1.2.2.2.1, u_1.2.2.2.2) hx hb hr hlk hS rfl rfl (by simp only [f_MD_monthOf, ← hu_1, ← hu_3, ← hu_4, eq_false c_2, eq_true hz0, ↓reduceIte]) hP d_MD_monthOf_37
    · have hz0 : ¬ u_3 = 0 := by rw [hz]; decide
      obtain ⟨u_5, hu_5⟩ : ∃ z, z = (u_1.1 0).toNatClampNeg := ⟨_, rfl⟩
      obtain ⟨he_u_5, hb_u_5⟩ := md_GO.path0 (B := 16) (r := u_1) (by rw [hu_1]; exact f_MD_go_okS (by rw [← hu_3]; exact hz0)) (by omega) c_2 hu_5
      rw [he_u_5, hz]
      refine sf_callSr (S := Unit) (rest := [.ref (q 1)]) ⟨hx, hb, hml, hown, hts⟩ (c_MD_begin_1 l D cI cZ cJ u_5) (sf_cwS lk_MD_84 hts (fun _ h => h) (by rw [hR]; exact ⟨Nat.le_of_ble_eq_true rfl, Nat.le_of_ble_eq_true rfl⟩)) hK hP hD hS hA [] rfl rfl (fun _ => rfl) rfl rfl hl.1 (Nat.le_of_ble_eq_true rfl) d_MD_monthOf_27 ⟨Nat.zero_le _, Nat.zero_le _⟩ (fun u H locs hu hP hS => ?_)
      refine lv_iconst (v := 2) hx hb d_MD_monthOf_30 (by decide) ?_
      refine lv_iadd hx hb d_MD_monthOf_31 ?_
      rw [show (((nI (768 + (32 * u_5))) + 2) : Int32) = (nI ((768 + (32 * u_5)) + 2)) from nI_add (768 + (32 * u_5)) 2]
      refine va_iald hx hb hK hP 1 0 rfl rfl (show vp_in (nI ((768 + (32 * u_5)) + 2)) 1360 from vp_in_nI (n := ((768 + (32 * u_5)) + 2)) (by omega) (by omega)) d_MD_monthOf_32 ?_
      rw [show ((nI ((768 + (32 * u_5)) + 2)) : Int32).toNatClampNeg = ((768 + (32 * u_5)) + 2) from nI_clamp (n := ((768 + (32 * u_5)) + 2)) (by omega)]
      refine lv_goto (tgt := 37) hx hb d_MD_monthOf_33 (by decide) ?_
      rw [hQ]
      exact sf_iret ((xB ((768 + (32 * u_5)) + 2)), u_1.1, u_1.2.1, u_1.2.2.1, u_1.2.2.2.1, u_1.2.2.2.2) hx hb hr hlk hS rfl rfl (by simp only [f_MD_monthOf, ← hu_1, ← hu_3, ← hu_5, eq_false c_2, eq_false hz0, ↓reduceIte]) hP d_MD_monthOf_37
def f_MD_freeFrom_l2 (xtk : Nat → Int32) (fr : Nat) : Nat → Nat → Int32
  | 0, _ => 0
  | fu + 1, k =>
    if (xtk (fr + k)) = 0 then
      (nI (fr + k))
    else
      f_MD_freeFrom_l2 xtk fr fu (k + 1)
def f_MD_freeFrom (xtk : Nat → Int32) (fr : Nat) : Int32 :=
  f_MD_freeFrom_l2 xtk fr (24 + 1) 0
set_option maxHeartbeats 1000000 in
set_option maxRecDepth 100000 in
/-- freeFrom -/
theorem c_MD_freeFrom (l : Launch) (D : va_G) (cI cZ cJ : ClassId) (q : Nat → Nat) (xth : Int32) (xB : Nat → Int32) (xsh : Int32) (xcu : Int32) (xtp : Nat → Int32) (xtd : Int32) (xpa : Nat → Int32) (xsp : Int32) (xwh : Int32) (xhe : Nat → Int32) (xho : Int32) (xtk : Nat → Int32) (xto : Nat → Int32) (xwa : Nat → Int32) (xmn : Int32) (fr : Nat) (hj : ∃ j, fr ≤ j ∧ j < 24 ∧ xtk j = 0) : sf_M (S := Int32) l D classes (sf_tys cI cZ cJ) y_MD_freeFrom (sf_ws y_MD_freeFrom b_MD_freeFrom 3 (some .int)) 0 0 [.ref (q 0), .int (nI fr)] (md_w q cI cZ xth xB xsh xcu xtp xtd xpa xsp xwh xhe xho xtk xto xwa xmn) (fun r => some (.int r)) (fun r => r = f_MD_freeFrom xtk fr) (fun r => (md_w q cI cZ xth xB xsh xcu xtp xtd xpa xsp xwh xhe xho xtk xto xwa xmn)) := by
  refine sf_ofW (S := Int32) (by decide) (Nat.le_of_ble_eq_true rfl) ?_
  intro p e s m below meth c A ls R args Q hR hArgs hQ hC0 hr hK hP hD hl
  obtain ⟨hx, hb, hml, hown, hts, hA, hlk⟩ := hC0
  have hS : va_S A s.heap s.heap [] := va_S.rf
  have hl : lv_has ls 3 [(0, .ref (q 0)), (1, .int (nI fr))] := hl
  obtain ⟨jj, hj1, hj2, hj3⟩ := hj
  refine lv_iload_n hx hb d_MD_freeFrom_0 rfl (lv_at hl 1 rfl) ?_
  refine lv_istore_n (lv' := [(2, .int (nI fr)), (0, .ref (q 0)), (1, .int (nI fr))]) hx hb d_MD_freeFrom_1 rfl hl (by decide) rfl (fun ls hl => ?_)
  have loop2 : ∀ (fu k : Nat), k ≤ 24 → k + fu = 24 + 1 → fr + k ≤ jj → f_MD_freeFrom_l2 xtk fr fu k = f_MD_freeFrom xtk fr → ∀ (H : Heap) (locs : List Loc), va_P D classes (md_w q cI cZ xth xB xsh xcu xtp xtd xpa xsp xwh xhe xho xtk xto xwa xmn) H → va_D A (md_w q cI cZ xth xB xsh xcu xtp xtd xpa xsp xwh xhe xho xtk xto xwa xmn) → va_S A s.heap H locs → ∀ (ls : Array Slot), lv_has ls 3 [(0, .ref (q 0)), (1, .int (nI fr)), (2, .int (nI (fr + k)))] → W p l e R s m args below meth c H locs 0 0 Q (F0 m 2 ls []) := by
    intro fu
    induction fu with
    | zero =>
      intro k h1 h2
      exact absurd h2 (by omega)
    | succ fu ih2 =>
      intro k hk2 hkn2 hi20 heq2 H locs hP hD hS ls hl
      refine lv_aload_n hx hb d_MD_freeFrom_2 rfl (lv_at hl 0 rfl) ?_
      refine va_get (D := D) (ci := 3) (v := .ref (q 5)) (C := R_MD) (T := F_MD) (N := 15) hx hb hts i_MD hown hK hP 0 rfl rfl 11 (by decide) (hts _ wd_586) (fun _ h9 => h9) rfl d_MD_freeFrom_3 ?_
      refine lv_iload_n hx hb d_MD_freeFrom_6 rfl (lv_at hl 2 rfl) ?_
      refine va_zald hx hb hK hP 5 1 rfl rfl (show vp_in (nI (fr + k)) 24 from vp_in_nI (n := (fr + k)) (by omega) (by omega)) d_MD_freeFrom_7 ?_
      rw [show ((nI (fr + k)) : Int32).toNatClampNeg = (fr + k) from nI_clamp (n := (fr + k)) (by omega)]
      refine lv_if_eq (tgt := 17) hx hb d_MD_freeFrom_8 (by decide) (fun c_1 => ?_) (fun c_1 => ?_)
      · refine lv_iload_n hx hb d_MD_freeFrom_17 rfl (lv_at hl 2 rfl) ?_
        rw [hQ]
        exact sf_iret (nI (fr + k)) hx hb hr hlk hS rfl rfl (by rw [← heq2]; simp only [f_MD_freeFrom_l2, eq_true c_1, ↓reduceIte]) hP d_MD_freeFrom_18
      · have hlt : fr + k < jj := (Nat.lt_or_ge (fr + k) jj).elim id (fun h9 => absurd (by rw [show fr + k = jj by omega]; exact hj3) c_1)
        refine lv_iinc (v := (nI (fr + (k + 1)))) (lv' := [(2, .int (nI (fr + (k + 1)))), (0, .ref (q 0)), (1, .int (nI fr))]) hx hb d_MD_freeFrom_11 hl (k := 2) rfl (nI_1 (fr + k)) (by decide) rfl (fun ls hl => ?_)
        refine lv_goto (tgt := 2) hx hb d_MD_freeFrom_14 (by decide) ?_
        exact ih2 (k + 1) (by omega) (by omega) (by omega) (by rw [← heq2]; simp only [f_MD_freeFrom_l2, eq_false c_1, ↓reduceIte]) _ _ hP hD hS ls (lv_sub hl [1, 2, 0] rfl)
  skip
  exact loop2 (24 + 1) 0 (by omega) (by omega) (by omega) (by simp only [f_MD_freeFrom, ↓reduceIte]) _ _ hP hD hS ls (lv_sub hl [1, 2, 0] rfl)
