/-! md3: contracts, with the pure functions that they speak of (printed by wip/gen) -/
set_option maxRecDepth 20000 in
theorem wd_582 : Cond.fieldLink R_MD 70 "ShadowFilesModel" "steps" "I" ∈ sf_tb := sf_tb_in 582 rfl rfl
set_option maxRecDepth 20000 in
theorem wd_581 : Cond.fieldLink R_MD 20 "ShadowFilesModel" "path" "[I" ∈ sf_tb := sf_tb_in 581 rfl rfl
set_option maxRecDepth 20000 in
theorem wd_587 : Cond.fieldLink R_MD 30 "ShadowFilesModel" "to" "[I" ∈ sf_tb := sf_tb_in 587 rfl rfl
set_option maxRecDepth 20000 in
theorem wd_589 : Cond.fieldLink R_MD 98 "ShadowFilesModel" "many" "I" ∈ sf_tb := sf_tb_in 589 rfl rfl
set_option maxRecDepth 20000 in
theorem wd_588 : Cond.fieldLink R_MD 33 "ShadowFilesModel" "what" "[I" ∈ sf_tb := sf_tb_in 588 rfl rfl
theorem d_MD_isThrough_0 : decode b_MD_isThrough 0 = .ok (.iconst 0, 1) := by decide +kernel
theorem d_MD_isThrough_1 : decode b_MD_isThrough 1 = .ok (.istore_n 2, 1) := by decide +kernel
theorem d_MD_isThrough_2 : decode b_MD_isThrough 2 = .ok (.iconst 0, 1) := by decide +kernel
theorem d_MD_isThrough_3 : decode b_MD_isThrough 3 = .ok (.istore_n 3, 1) := by decide +kernel
theorem d_MD_isThrough_4 : decode b_MD_isThrough 4 = .ok (.iload_n 3, 1) := by decide +kernel
theorem d_MD_isThrough_5 : decode b_MD_isThrough 5 = .ok (.aload_n 0, 1) := by decide +kernel
theorem d_MD_isThrough_6 : decode b_MD_isThrough 6 = .ok (.getfield 70, 3) := by decide +kernel
theorem d_MD_isThrough_9 : decode b_MD_isThrough 9 = .ok (.if_icmp .ge 29, 3) := by decide +kernel
theorem d_MD_isThrough_12 : decode b_MD_isThrough 12 = .ok (.iload_n 2, 1) := by decide +kernel
theorem d_MD_isThrough_13 : decode b_MD_isThrough 13 = .ok (.ifCond .ne 13, 3) := by decide +kernel
theorem d_MD_isThrough_16 : decode b_MD_isThrough 16 = .ok (.aload_n 0, 1) := by decide +kernel
theorem d_MD_isThrough_17 : decode b_MD_isThrough 17 = .ok (.getfield 20, 3) := by decide +kernel
theorem d_MD_isThrough_20 : decode b_MD_isThrough 20 = .ok (.iload_n 3, 1) := by decide +kernel
theorem d_MD_isThrough_21 : decode b_MD_isThrough 21 = .ok (.iaload, 1) := by decide +kernel
theorem d_MD_isThrough_22 : decode b_MD_isThrough 22 = .ok (.iload_n 1, 1) := by decide +kernel
theorem d_MD_isThrough_23 : decode b_MD_isThrough 23 = .ok (.if_icmp .ne 7, 3) := by decide +kernel
theorem d_MD_isThrough_26 : decode b_MD_isThrough 26 = .ok (.iconst 1, 1) := by decide +kernel
theorem d_MD_isThrough_27 : decode b_MD_isThrough 27 = .ok (.goto 4, 3) := by decide +kernel
theorem d_MD_isThrough_30 : decode b_MD_isThrough 30 = .ok (.iconst 0, 1) := by decide +kernel
theorem d_MD_isThrough_31 : decode b_MD_isThrough 31 = .ok (.istore_n 2, 1) := by decide +kernel
theorem d_MD_isThrough_32 : decode b_MD_isThrough 32 = .ok (.iinc 3 1, 3) := by decide +kernel
theorem d_MD_isThrough_35 : decode b_MD_isThrough 35 = .ok (.goto (-31), 3) := by decide +kernel
theorem d_MD_isThrough_38 : decode b_MD_isThrough 38 = .ok (.iload_n 2, 1) := by decide +kernel
theorem d_MD_isThrough_39 : decode b_MD_isThrough 39 = .ok (.ireturn, 1) := by decide +kernel
theorem d_MD_put_0 : decode b_MD_put 0 = .ok (.aload_n 0, 1) := by decide +kernel
theorem d_MD_put_1 : decode b_MD_put 1 = .ok (.getfield 30, 3) := by decide +kernel
theorem d_MD_put_4 : decode b_MD_put 4 = .ok (.aload_n 0, 1) := by decide +kernel
theorem d_MD_put_5 : decode b_MD_put 5 = .ok (.getfield 98, 3) := by decide +kernel
theorem d_MD_put_8 : decode b_MD_put 8 = .ok (.iload_n 1, 1) := by decide +kernel
theorem d_MD_put_9 : decode b_MD_put 9 = .ok (.iastore, 1) := by decide +kernel
theorem d_MD_put_10 : decode b_MD_put 10 = .ok (.aload_n 0, 1) := by decide +kernel
theorem d_MD_put_11 : decode b_MD_put 11 = .ok (.getfield 33, 3) := by decide +kernel
theorem d_MD_put_14 : decode b_MD_put 14 = .ok (.aload_n 0, 1) := by decide +kernel
theorem d_MD_put_15 : decode b_MD_put 15 = .ok (.getfield 98, 3) := by decide +kernel
theorem d_MD_put_18 : decode b_MD_put 18 = .ok (.iload_n 2, 1) := by decide +kernel
theorem d_MD_put_19 : decode b_MD_put 19 = .ok (.iastore, 1) := by decide +kernel
theorem d_MD_put_20 : decode b_MD_put 20 = .ok (.aload_n 0, 1) := by decide +kernel
theorem d_MD_put_21 : decode b_MD_put 21 = .ok (.dup, 1) := by decide +kernel
theorem d_MD_put_22 : decode b_MD_put 22 = .ok (.getfield 98, 3) := by decide +kernel
theorem d_MD_put_25 : decode b_MD_put 25 = .ok (.iconst 1, 1) := by decide +kernel
theorem d_MD_put_26 : decode b_MD_put 26 = .ok (.iadd, 1) := by decide +kernel
theorem d_MD_put_27 : decode b_MD_put 27 = .ok (.putfield 98, 3) := by decide +kernel
theorem d_MD_put_30 : decode b_MD_put 30 = .ok (.return_, 1) := by decide +kernel
def f_MD_isThrough_l4 (xpa : Nat → Int32) (sn : Nat) (zp : Int32) : Nat → Nat → Int32 → Int32
  | 0, _, _ => 0
  | fu + 1, k, vi =>
    if (nI sn) ≤ (nI k) then
      vi
    else
      if vi = 0 then
        if (xpa k) = zp then
          f_MD_isThrough_l4 xpa sn zp fu (k + 1) 1
        else
          f_MD_isThrough_l4 xpa sn zp fu (k + 1) 0
      else
        f_MD_isThrough_l4 xpa sn zp fu (k + 1) 1
def f_MD_isThrough (xpa : Nat → Int32) (sn : Nat) (zp : Int32) : Int32 :=
  f_MD_isThrough_l4 xpa sn zp (sn + 1) 0 0
set_option maxHeartbeats 1000000 in
set_option maxRecDepth 100000 in
/-- isThrough -/
theorem c_MD_isThrough (l : Launch) (D : va_G) (cI cZ cJ : ClassId) (q : Nat → Nat) (xth : Int32) (xB : Nat → Int32) (xsh : Int32) (xcu : Int32) (xtp : Nat → Int32) (xtd : Int32) (xpa : Nat → Int32) (xwh : Int32) (xhe : Nat → Int32) (xho : Int32) (xtk : Nat → Int32) (xto : Nat → Int32) (xwa : Nat → Int32) (xmn : Int32) (sn : Nat) (zp : Int32) (hs : sn ≤ 3) : sf_M (S := Int32) l D classes (sf_tys cI cZ cJ) y_MD_isThrough (sf_ws y_MD_isThrough b_MD_isThrough 4 (some .boolean)) 0 0 [.ref (q 0), .int zp] (md_w q cI cZ xth xB xsh xcu xtp xtd xpa (nI sn) xwh xhe xho xtk xto xwa xmn) (fun r => some (.int r)) (fun r => r = f_MD_isThrough xpa sn zp) (fun r => (md_w q cI cZ xth xB xsh xcu xtp xtd xpa (nI sn) xwh xhe xho xtk xto xwa xmn)) := by
  refine sf_ofW (S := Int32) (by decide) (Nat.le_of_ble_eq_true rfl) ?_
  intro p e s m below meth c A ls R args Q hR hArgs hQ hC0 hr hK hP hD hl
  obtain ⟨hx, hb, hml, hown, hts, hA, hlk⟩ := hC0
  have hS : va_S A s.heap s.heap [] := va_S.rf
  have hl : lv_has ls 4 [(0, .ref (q 0)), (1, .int zp)] := hl
  refine lv_iconst (v := 0) hx hb d_MD_isThrough_0 (by decide) ?_
  refine lv_istore_n (lv' := [(2, .int 0), (0, .ref (q 0)), (1, .int zp)]) hx hb d_MD_isThrough_1 rfl hl (by decide) rfl (fun ls hl => ?_)
  refine lv_iconst (v := 0) hx hb d_MD_isThrough_2 (by decide) ?_
  refine lv_istore_n (lv' := [(3, .int 0), (2, .int 0), (0, .ref (q 0)), (1, .int zp)]) hx hb d_MD_isThrough_3 rfl hl (by decide) rfl (fun ls hl => ?_)
  have loop4 : ∀ (fu k : Nat) (vi : Int32), k ≤ sn → k + fu = sn + 1 → vi = 0 ∨ vi = 1 → f_MD_isThrough_l4 xpa sn zp fu k vi = f_MD_isThrough xpa sn zp → ∀ (H : Heap) (locs : List Loc), va_P D classes (md_w q cI cZ xth xB xsh xcu xtp xtd xpa (nI sn) xwh xhe xho xtk xto xwa xmn) H → va_D A (md_w q cI cZ xth xB xsh xcu xtp xtd xpa (nI sn) xwh xhe xho xtk xto xwa xmn) → va_S A s.heap H locs → ∀ (ls : Array Slot), lv_has ls 4 [(0, .ref (q 0)), (1, .int zp), (2, .int vi), (3, .int (nI k))] → W p l e R s m args below meth c H locs 0 0 Q (F0 m 4 ls []) := by
    intro fu
    induction fu with
    | zero =>
      intro k vi h1 h2
      exact absurd h2 (by omega)
    | succ fu ih4 =>
      intro k vi hk4 hkn4 hi40 heq4 H locs hP hD hS ls hl
      refine lv_iload_n hx hb d_MD_isThrough_4 rfl (lv_at hl 3 rfl) ?_
      refine lv_aload_n hx hb d_MD_isThrough_5 rfl (lv_at hl 0 rfl) ?_
      refine va_get (D := D) (ci := 3) (v := .int (nI sn)) (C := R_MD) (T := F_MD) (N := 15) hx hb hts i_MD hown hK hP 0 rfl rfl 7 (by decide) (hts _ wd_582) (fun _ h9 => h9) rfl d_MD_isThrough_6 ?_
      refine lv_icmp_ge (tgt := 38) hx hb d_MD_isThrough_9 (by decide) (fun c_1 => ?_) (fun c_1 => ?_)
      · refine lv_iload_n hx hb d_MD_isThrough_38 rfl (lv_at hl 2 rfl) ?_
        rw [hQ]
        exact sf_iret vi hx hb hr hlk hS (sf_nb hi40) rfl (by rw [← heq4]; simp only [f_MD_isThrough_l4, eq_true c_1, ↓reduceIte]) hP d_MD_isThrough_39
      · have hlt : k < sn := sf_lt_of (N := sn) (by omega) (by omega) c_1
        refine lv_iload_n hx hb d_MD_isThrough_12 rfl (lv_at hl 2 rfl) ?_
        refine lv_if_ne (tgt := 26) hx hb d_MD_isThrough_13 (by decide) (fun c_2 => ?_) (fun c_2 => ?_)
        · refine lv_iconst (v := 1) hx hb d_MD_isThrough_26 (by decide) ?_
          refine lv_goto (tgt := 31) hx hb d_MD_isThrough_27 (by decide) ?_
          refine lv_istore_n (lv' := [(2, .int 1), (0, .ref (q 0)), (1, .int zp), (3, .int (nI k))]) hx hb d_MD_isThrough_31 rfl hl (by decide) rfl (fun ls hl => ?_)
          refine lv_iinc (v := (nI (k + 1))) (lv' := [(3, .int (nI (k + 1))), (2, .int 1), (0, .ref (q 0)), (1, .int zp)]) hx hb d_MD_isThrough_32 hl (k := 3) rfl (nI_1 k) (by decide) rfl (fun ls hl => ?_)
          refine lv_goto (tgt := 4) hx hb d_MD_isThrough_35 (by decide) ?_
          exact ih4 (k + 1) 1 (by omega) (by omega) (Or.inr rfl) (by rw [← heq4]; simp only [f_MD_isThrough_l4, eq_false c_1, eq_false c_2, ↓reduceIte]) _ _ hP hD hS ls (lv_sub hl [2, 3, 1, 0] rfl)
        · refine lv_aload_n hx hb d_MD_isThrough_16 rfl (lv_at hl 0 rfl) ?_
          refine va_get (D := D) (ci := 3) (v := .ref (q 3)) (C := R_MD) (T := F_MD) (N := 15) hx hb hts i_MD hown hK hP 0 rfl rfl 6 (by decide) (hts _ wd_581) (fun _ h9 => h9) rfl d_MD_isThrough_17 ?_
          refine lv_iload_n hx hb d_MD_isThrough_20 rfl (lv_at hl 3 rfl) ?_
          refine va_iald hx hb hK hP 3 0 rfl rfl (show vp_in (nI k) 3 from vp_in_nI (n := k) (by omega) (by omega)) d_MD_isThrough_21 ?_
          rw [show ((nI k) : Int32).toNatClampNeg = k from nI_clamp (n := k) (by omega)]
          refine lv_iload_n hx hb d_MD_isThrough_22 rfl (lv_at hl 1 rfl) ?_
          refine lv_icmp_ne (tgt := 30) hx hb d_MD_isThrough_23 (by decide) (fun c_3 => ?_) (fun c_3 => ?_)
          · refine lv_iconst (v := 0) hx hb d_MD_isThrough_30 (by decide) ?_
            refine lv_istore_n (lv' := [(2, .int 0), (0, .ref (q 0)), (1, .int zp), (3, .int (nI k))]) hx hb d_MD_isThrough_31 rfl hl (by decide) rfl (fun ls hl => ?_)
            refine lv_iinc (v := (nI (k + 1))) (lv' := [(3, .int (nI (k + 1))), (2, .int 0), (0, .ref (q 0)), (1, .int zp)]) hx hb d_MD_isThrough_32 hl (k := 3) rfl (nI_1 k) (by decide) rfl (fun ls hl => ?_)
            refine lv_goto (tgt := 4) hx hb d_MD_isThrough_35 (by decide) ?_
            exact ih4 (k + 1) 0 (by omega) (by omega) (Or.inl rfl) (by rw [← heq4]; simp only [f_MD_isThrough_l4, eq_false c_1, eq_true c_2, eq_false c_3, ↓reduceIte]) _ _ hP hD hS ls (lv_sub hl [2, 3, 1, 0] rfl)
          · refine lv_iconst (v := 1) hx hb d_MD_isThrough_26 (by decide) ?_
            refine lv_goto (tgt := 31) hx hb d_MD_isThrough_27 (by decide) ?_
            refine lv_istore_n (lv' := [(2, .int 1), (0, .ref (q 0)), (1, .int zp), (3, .int (nI k))]) hx hb d_MD_isThrough_31 rfl hl (by decide) rfl (fun ls hl => ?_)
            refine lv_iinc (v := (nI (k + 1))) (lv' := [(3, .int (nI (k + 1))), (2, .int 1), (0, .ref (q 0)), (1, .int zp)]) hx hb d_MD_isThrough_32 hl (k := 3) rfl (nI_1 k) (by decide) rfl (fun ls hl => ?_)
            refine lv_goto (tgt := 4) hx hb d_MD_isThrough_35 (by decide) ?_
            exact ih4 (k + 1) 1 (by omega) (by omega) (Or.inr rfl) (by rw [← heq4]; simp only [f_MD_isThrough_l4, eq_false c_1, eq_true c_2, eq_true c_3, ↓reduceIte]) _ _ hP hD hS ls (lv_sub hl [2, 3, 1, 0] rfl)
  exact loop4 (sn + 1) 0 0 (by omega) (by omega) (Or.inl rfl) (by simp only [f_MD_isThrough, ↓reduceIte]) _ _ hP hD hS ls (lv_sub hl [2, 3, 1, 0] rfl)
set_option maxHeartbeats 1000000 in
set_option maxRecDepth 100000 in
/-- put -/
theorem c_MD_put (l : Launch) (D : va_G) (cI cZ cJ : ClassId) (q : Nat → Nat) (xth : Int32) (xB : Nat → Int32) (xsh : Int32) (xcu : Int32) (xtp : Nat → Int32) (xtd : Int32) (xpa : Nat → Int32) (xsp : Int32) (xwh : Int32) (xhe : Nat → Int32) (xho : Int32) (xtk : Nat → Int32) (xto : Nat → Int32) (xwa : Nat → Int32) (mn : Nat) (pa0 : Int32) (pv : Int32) (hm : mn < 136) : sf_M (S := Unit) l D classes (sf_tys cI cZ cJ) y_MD_put (sf_ws y_MD_put b_MD_put 3 none) 0 0 [.ref (q 0), .int pa0, .int pv] (md_w q cI cZ xth xB xsh xcu xtp xtd xpa xsp xwh xhe xho xtk xto xwa (nI mn)) (fun _ => none) (fun _ => True) (fun _ => (md_w q cI cZ xth xB xsh xcu xtp xtd xpa xsp xwh xhe xho xtk (upd xto mn pa0) (upd xwa mn pv) (nI (mn + 1)))) := by
  refine sf_ofW (S := Unit) (by decide) (Nat.le_of_ble_eq_true rfl) ?_
  intro p e s m below meth c A ls R args Q hR hArgs hQ hC0 hr hK hP hD hl
  obtain ⟨hx, hb, hml, hown, hts, hA, hlk⟩ := hC0
  have hS : va_S A s.heap s.heap [] := va_S.rf
  have hl : lv_has ls 3 [(0, .ref (q 0)), (1, .int pa0), (2, .int pv)] := hl
  refine lv_aload_n hx hb d_MD_put_0 rfl (lv_at hl 0 rfl) ?_
  refine va_get (D := D) (ci := 3) (v := .ref (q 6)) (C := R_MD) (T := F_MD) (N := 15) hx hb hts i_MD hown hK hP 0 rfl rfl 12 (by decide) (hts _ wd_587) (fun _ h9 => h9) rfl d_MD_put_1 ?_
  refine lv_aload_n hx hb d_MD_put_4 rfl (lv_at hl 0 rfl) ?_
  refine va_get (D := D) (ci := 3) (v := .int (nI mn)) (C := R_MD) (T := F_MD) (N := 15) hx hb hts i_MD hown hK hP 0 rfl rfl 14 (by decide) (hts _ wd_589) (fun _ h9 => h9) rfl d_MD_put_5 ?_
  refine lv_iload_n hx hb d_MD_put_8 rfl (lv_at hl 1 rfl) ?_
  refine va_iast hx hb hK hP hD hS 6 0 rfl rfl (show vp_in (nI mn) 136 from vp_in_nI (n := mn) (by omega) (by omega)) d_MD_put_9 (fun H locs hP hD hS => ?_)
  rw [show ((nI mn) : Int32).toNatClampNeg = mn from nI_clamp (n := mn) (by omega)] at hP hD
  have hP : va_P D classes (md_w q cI cZ xth xB xsh xcu xtp xtd xpa xsp xwh xhe xho xtk (upd xto mn pa0) xwa (nI mn)) H := hP
  have hD : va_D A (md_w q cI cZ xth xB xsh xcu xtp xtd xpa xsp xwh xhe xho xtk (upd xto mn pa0) xwa (nI mn)) := hD
  refine lv_aload_n hx hb d_MD_put_10 rfl (lv_at hl 0 rfl) ?_
  refine va_get (D := D) (ci := 3) (v := .ref (q 7)) (C := R_MD) (T := F_MD) (N := 15) hx hb hts i_MD hown hK hP 0 rfl rfl 13 (by decide) (hts _ wd_588) (fun _ h9 => h9) rfl d_MD_put_11 ?_
  refine lv_aload_n hx hb d_MD_put_14 rfl (lv_at hl 0 rfl) ?_
  refine va_get (D := D) (ci := 3) (v := .int (nI mn)) (C := R_MD) (T := F_MD) (N := 15) hx hb hts i_MD hown hK hP 0 rfl rfl 14 (by decide) (hts _ wd_589) (fun _ h9 => h9) rfl d_MD_put_15 ?_
  refine lv_iload_n hx hb d_MD_put_18 rfl (lv_at hl 2 rfl) ?_
  refine va_iast hx hb hK hP hD hS 7 0 rfl rfl (show vp_in (nI mn) 136 from vp_in_nI (n := mn) (by omega) (by omega)) d_MD_put_19 (fun H locs hP hD hS => ?_)
  rw [show ((nI mn) : Int32).toNatClampNeg = mn from nI_clamp (n := mn) (by omega)] at hP hD
  have hP : va_P D classes (md_w q cI cZ xth xB xsh xcu xtp xtd xpa xsp xwh xhe xho xtk (upd xto mn pa0) (upd xwa mn pv) (nI mn)) H := hP
  have hD : va_D A (md_w q cI cZ xth xB xsh xcu xtp xtd xpa xsp xwh xhe xho xtk (upd xto mn pa0) (upd xwa mn pv) (nI mn)) := hD
  refine lv_aload_n hx hb d_MD_put_20 rfl (lv_at hl 0 rfl) ?_
  refine lv_dup hx hb d_MD_put_21 rfl ?_
  refine va_get (D := D) (ci := 3) (v := .int (nI mn)) (C := R_MD) (T := F_MD) (N := 15) hx hb hts i_MD hown hK hP 0 rfl rfl 14 (by decide) (hts _ wd_589) (fun _ h9 => h9) rfl d_MD_put_22 ?_
  refine lv_iconst (v := 1) hx hb d_MD_put_25 (by decide) ?_
  refine lv_iadd hx hb d_MD_put_26 ?_
  rw [show (((nI mn) + 1) : Int32) = (nI (mn + 1)) from nI_add mn 1]
  refine va_put (D := D) (ci := 3) (v := .int (nI (mn + 1))) (ty := .int) (C := R_MD) (T := F_MD) (N := 15) hx hb hts i_MD t_MD t_MD_ok n_MD hown hK hP hD hS 0 rfl rfl 14 (by decide) (hts _ wd_589) (fun _ h9 => h9) rfl (by decide +kernel) rfl rfl (Nat.le_of_ble_eq_true rfl) d_MD_put_27 (fun H locs hP hD hS => ?_)
  have hP : va_P D classes (md_w q cI cZ xth xB xsh xcu xtp xtd xpa xsp xwh xhe xho xtk (upd xto mn pa0) (upd xwa mn pv) (nI (mn + 1))) H := hP
  have hD : va_D A (md_w q cI cZ xth xB xsh xcu xtp xtd xpa xsp xwh xhe xho xtk (upd xto mn pa0) (upd xwa mn pv) (nI (mn + 1))) := hD
  rw [hQ]
  exact sf_vret () hx hb hr hlk hS rfl trivial hP d_MD_put_30
set_option maxHeartbeats 1000000 in
set_option maxRecDepth 100000 in
/-- places -/
theorem c_MD_places_0 (l : Launch) (D : va_G) (cI cZ cJ : ClassId)  : sf_M (S := Unit) l D classes (sf_tys cI cZ cJ) y_MD_places (sf_ws y_MD_places b_MD_places 1 (some .int)) 0 0 [.int 0] [] (fun _ => some (.int 24)) (fun _ => True) (fun _ => []) := by
  refine sf_ofW (S := Unit) (by decide) (Nat.le_of_ble_eq_true rfl) ?_
  intro p e s m below meth c A ls R args Q hR hArgs hQ hC0 hr hK hP hD hl
  obtain ⟨hx, hb, hml, hown, hts, hA, hlk⟩ := hC0
  have hS : va_S A s.heap s.heap [] := va_S.rf
  have hl : lv_has ls 1 [(0, .int 0)] := hl
  refine lv_iload_n hx hb d_MD_places_0 rfl (lv_at hl 0 rfl) ?_
  refine lv_if_eq (tgt := 9) hx hb d_MD_places_1 (by decide) (fun c_1 => ?_) (fun c_1 => absurd (by decide) c_1)
  refine lv_bipush (v := 24) hx hb d_MD_places_9 (by decide) ?_
  rw [hQ]
  exact sf_iret () hx hb hr hlk hS rfl rfl trivial hP d_MD_places_11
set_option maxHeartbeats 1000000 in
set_option maxRecDepth 100000 in
/-- places -/
theorem c_MD_places_1 (l : Launch) (D : va_G) (cI cZ cJ : ClassId)  : sf_M (S := Unit) l D classes (sf_tys cI cZ cJ) y_MD_places (sf_ws y_MD_places b_MD_places 1 (some .int)) 0 0 [.int 1] [] (fun _ => some (.int 16)) (fun _ => True) (fun _ => []) := by
  refine sf_ofW (S := Unit) (by decide) (Nat.le_of_ble_eq_true rfl) ?_
  intro p e s m below meth c A ls R args Q hR hArgs hQ hC0 hr hK hP hD hl
  obtain ⟨hx, hb, hml, hown, hts, hA, hlk⟩ := hC0
  have hS : va_S A s.heap s.heap [] := va_S.rf
  have hl : lv_has ls 1 [(0, .int 1)] := hl
  refine lv_iload_n hx hb d_MD_places_0 rfl (lv_at hl 0 rfl) ?_
  refine lv_if_eq (tgt := 9) hx hb d_MD_places_1 (by decide) (fun c_1 => absurd c_1 (by decide)) (fun c_1 => ?_)
  refine lv_bipush (v := 16) hx hb d_MD_places_4 (by decide) ?_
  refine lv_goto (tgt := 11) hx hb d_MD_places_6 (by decide) ?_
  rw [hQ]
  exact sf_iret () hx hb hr hlk hS rfl rfl trivial hP d_MD_places_11
set_option maxHeartbeats 1000000 in
set_option maxRecDepth 100000 in
/-- begin -/
theorem c_MD_begin_0 (l : Launch) (D : va_G) (cI cZ cJ : ClassId)  (pp : Nat) : sf_M (S := Unit) l D classes (sf_tys cI cZ cJ) y_MD_begin (sf_ws y_MD_begin b_MD_begin 2 (some .int)) 0 0 [.int 0, .int (nI pp)] [] (fun _ => some (.int (nI (0 + (32 * pp))))) (fun _ => True) (fun _ => []) := by
  refine sf_ofW (S := Unit) (by decide) (Nat.le_of_ble_eq_true rfl) ?_
  intro p e s m below meth c A ls R args Q hR hArgs hQ hC0 hr hK hP hD hl
  obtain ⟨hx, hb, hml, hown, hts, hA, hlk⟩ := hC0
  have hS : va_S A s.heap s.heap [] := va_S.rf
  have hl : lv_has ls 2 [(0, .int 0), (1, .int (nI pp))] := hl
  refine lv_iload_n hx hb d_MD_begin_0 rfl (lv_at hl 0 rfl) ?_
  refine lv_if_eq (tgt := 10) hx hb d_MD_begin_1 (by decide) (fun c_1 => ?_) (fun c_1 => absurd (by decide) c_1)
  refine lv_iconst (v := 0) hx hb d_MD_begin_10 (by decide) ?_
  refine lv_bipush (v := 32) hx hb d_MD_begin_11 (by decide) ?_
  refine lv_iload_n hx hb d_MD_begin_13 rfl (lv_at hl 1 rfl) ?_
  refine lv_imul hx hb d_MD_begin_14 ?_
  rw [show ((32 * (nI pp)) : Int32) = (nI (32 * pp)) from pk_mul 32 pp]
  refine lv_iadd hx hb d_MD_begin_15 ?_
  rw [show ((0 + (nI (32 * pp))) : Int32) = (nI (0 + (32 * pp))) from nI_add 0 (32 * pp)]
  rw [hQ]
  exact sf_iret () hx hb hr hlk hS rfl rfl trivial hP d_MD_begin_16
set_option maxHeartbeats 1000000 in
set_option maxRecDepth 100000 in
/-- begin -/
theorem c_MD_begin_1 (l : Launch) (D : va_G) (cI cZ cJ : ClassId)  (pp : Nat) : sf_M (S := Unit) l D classes (sf_tys cI cZ cJ) y_MD_begin (sf_ws y_MD_begin b_MD_begin 2 (some .int)) 0 0 [.int 1, .int (nI pp)] [] (fun _ => some (.int (nI (768 + (32 * pp))))) (fun _ => True) (fun _ => []) := by
  refine sf_ofW (S := Unit) (by decide) (Nat.le_of_ble_eq_true rfl) ?_
  intro p e s m below meth c A ls R args Q hR hArgs hQ hC0 hr hK hP hD hl
  obtain ⟨hx, hb, hml, hown, hts, hA, hlk⟩ := hC0
  have hS : va_S A s.heap s.heap [] := va_S.rf
  have hl : lv_has ls 2 [(0, .int 1), (1, .int (nI pp))] := hl
  refine lv_iload_n hx hb d_MD_begin_0 rfl (lv_at hl 0 rfl) ?_
  refine lv_if_eq (tgt := 10) hx hb d_MD_begin_1 (by decide) (fun c_1 => absurd c_1 (by decide)) (fun c_1 => ?_)
  refine lv_sipush (v := 768) hx hb d_MD_begin_4 (by decide) ?_
  refine lv_goto (tgt := 11) hx hb d_MD_begin_7 (by decide) ?_
  refine lv_bipush (v := 32) hx hb d_MD_begin_11 (by decide) ?_
  refine lv_iload_n hx hb d_MD_begin_13 rfl (lv_at hl 1 rfl) ?_
  refine lv_imul hx hb d_MD_begin_14 ?_
  rw [show ((32 * (nI pp)) : Int32) = (nI (32 * pp)) from pk_mul 32 pp]
  refine lv_iadd hx hb d_MD_begin_15 ?_
  rw [show ((768 + (nI (32 * pp))) : Int32) = (nI (768 + (32 * pp))) from nI_add 768 (32 * pp)]
  rw [hQ]
  exact sf_iret () hx hb hr hlk hS rfl rfl trivial hP d_MD_begin_16
