/-! feed: contracts, with the pure functions that they speak of (printed by wip/gen) -/
theorem d_SF_feed_0 : decode b_SF_feed 0 = .ok (.iload_n 3, 1) := by decide +kernel
theorem d_SF_feed_1 : decode b_SF_feed 1 = .ok (.iconst 1, 1) := by decide +kernel
theorem d_SF_feed_2 : decode b_SF_feed 2 = .ok (.if_icmp .lt 9, 3) := by decide +kernel
theorem d_SF_feed_5 : decode b_SF_feed 5 = .ok (.iload_n 3, 1) := by decide +kernel
theorem d_SF_feed_6 : decode b_SF_feed 6 = .ok (.bipush 8, 2) := by decide +kernel
theorem d_SF_feed_8 : decode b_SF_feed 8 = .ok (.if_icmp .le 13, 3) := by decide +kernel
theorem d_SF_feed_11 : decode b_SF_feed 11 = .ok (.new 55, 3) := by decide +kernel
theorem d_SF_feed_14 : decode b_SF_feed 14 = .ok (.dup, 1) := by decide +kernel
theorem d_SF_feed_15 : decode b_SF_feed 15 = .ok (.ldc 57, 2) := by decide +kernel
theorem d_SF_feed_17 : decode b_SF_feed 17 = .ok (.invokespecial 59, 3) := by decide +kernel
theorem d_SF_feed_20 : decode b_SF_feed 20 = .ok (.athrow, 1) := by decide +kernel
theorem d_SF_feed_21 : decode b_SF_feed 21 = .ok (.aload_n 0, 1) := by decide +kernel
theorem d_SF_feed_22 : decode b_SF_feed 22 = .ok (.getfield 62, 3) := by decide +kernel
theorem d_SF_feed_25 : decode b_SF_feed 25 = .ok (.iload_n 3, 1) := by decide +kernel
theorem d_SF_feed_26 : decode b_SF_feed 26 = .ok (.iadd, 1) := by decide +kernel
theorem d_SF_feed_27 : decode b_SF_feed 27 = .ok (.bipush 60, 2) := by decide +kernel
theorem d_SF_feed_29 : decode b_SF_feed 29 = .ok (.if_icmp .le 13, 3) := by decide +kernel
theorem d_SF_feed_32 : decode b_SF_feed 32 = .ok (.new 65, 3) := by decide +kernel
theorem d_SF_feed_35 : decode b_SF_feed 35 = .ok (.dup, 1) := by decide +kernel
theorem d_SF_feed_36 : decode b_SF_feed 36 = .ok (.ldc 67, 2) := by decide +kernel
theorem d_SF_feed_38 : decode b_SF_feed 38 = .ok (.invokespecial 69, 3) := by decide +kernel
theorem d_SF_feed_41 : decode b_SF_feed 41 = .ok (.athrow, 1) := by decide +kernel
theorem d_SF_feed_42 : decode b_SF_feed 42 = .ok (.iload_n 3, 1) := by decide +kernel
theorem d_SF_feed_43 : decode b_SF_feed 43 = .ok (.iconst 1, 1) := by decide +kernel
theorem d_SF_feed_44 : decode b_SF_feed 44 = .ok (.isub, 1) := by decide +kernel
theorem d_SF_feed_45 : decode b_SF_feed 45 = .ok (.istore 4, 2) := by decide +kernel
theorem d_SF_feed_47 : decode b_SF_feed 47 = .ok (.iload 4, 2) := by decide +kernel
theorem d_SF_feed_49 : decode b_SF_feed 49 = .ok (.ifCond .lt 25, 3) := by decide +kernel
theorem d_SF_feed_52 : decode b_SF_feed 52 = .ok (.aload_n 0, 1) := by decide +kernel
theorem d_SF_feed_53 : decode b_SF_feed 53 = .ok (.lload_n 1, 1) := by decide +kernel
theorem d_SF_feed_54 : decode b_SF_feed 54 = .ok (.bipush 8, 2) := by decide +kernel
theorem d_SF_feed_56 : decode b_SF_feed 56 = .ok (.iload 4, 2) := by decide +kernel
theorem d_SF_feed_58 : decode b_SF_feed 58 = .ok (.imul, 1) := by decide +kernel
theorem d_SF_feed_59 : decode b_SF_feed 59 = .ok (.lushr, 1) := by decide +kernel
theorem d_SF_feed_60 : decode b_SF_feed 60 = .ok (.l2i, 1) := by decide +kernel
theorem d_SF_feed_61 : decode b_SF_feed 61 = .ok (.sipush 255, 3) := by decide +kernel
theorem d_SF_feed_64 : decode b_SF_feed 64 = .ok (.iand, 1) := by decide +kernel
theorem d_SF_feed_65 : decode b_SF_feed 65 = .ok (.invokevirtual 70, 3) := by decide +kernel
theorem d_SF_feed_68 : decode b_SF_feed 68 = .ok (.iinc 4 (-1), 3) := by decide +kernel
theorem d_SF_feed_71 : decode b_SF_feed 71 = .ok (.goto (-24), 3) := by decide +kernel
theorem d_SF_feed_74 : decode b_SF_feed 74 = .ok (.aload_n 0, 1) := by decide +kernel
theorem d_SF_feed_75 : decode b_SF_feed 75 = .ok (.getfield 62, 3) := by decide +kernel
theorem d_SF_feed_78 : decode b_SF_feed 78 = .ok (.ireturn, 1) := by decide +kernel

theorem sf_dm0 : nI 0 + (-1) = -1 := by decide +kernel
theorem sf_im1 (x : Int32) : x + Int32.ofInt (-1) = x + (-1) := rfl
theorem sf_feed1 {x : Int32} (h : ¬ x < 1) : x - 1 = nI x.toNatClampNeg + (-1) ∧ ∃ j, x = nI (j + 1) ∧ j + 1 < 2 ^ 31 := by
  have h0 : ¬ x < 0 := fun h1 => h (by simp only [Int32.lt_iff_toInt_lt] at h1 ⊢; have e1 : (1 : Int32).toInt = 1 := by decide
                                       have e0 : (0 : Int32).toInt = 0 := by decide
                                       omega)
  obtain ⟨k, hk, rfl⟩ := nI_of h0
  cases k with
  | zero => exact absurd (show nI 0 < 1 by decide) h
  | succ j => rw [nI_clamp hk, nI_pred, pk_m1]; exact ⟨rfl, j, rfl, hk⟩
theorem sf_feed8 {x : Int32} (h : ¬ x < 1) (h8 : x ≤ 8) : x.toNatClampNeg ≤ 8 := by
  obtain ⟨-, j, rfl, hj⟩ := sf_feed1 h
  have h9 : nI (j + 1) ≤ nI 8 := h8
  rw [nI_leI hj (by omega)] at h9
  rw [nI_clamp hj]; exact h9
def f_SF_feed_l47 (by0 : Int64) : Nat → (Nat → Int32) → Int32 → (Int32 × Int32 × (Nat → Int32) × Int32)
  | 0, vt, vl =>
    (0, vl, vt, vl)
  | j + 1, vt, vl =>
    f_SF_feed_l47 by0 j (f_SF_addToTape vt vl ((((sf_lushr by0 (8 * (nI j)))).toInt32) &&& 255)).1 (f_SF_addToTape vt vl ((((sf_lushr by0 (8 * (nI j)))).toInt32) &&& 255)).2
def f_SF_feed (tp : Nat → Int32) (tl : Int32) (by0 : Int64) (nn : Int32) : (Int32 × Int32 × (Nat → Int32) × Int32) :=
  if nn < 1 then
    (3, 0, tp, tl)
  else
    if nn ≤ 8 then
      if (tl + nn) ≤ 60 then
        f_SF_feed_l47 by0 nn.toNatClampNeg tp tl
      else
        (4, 0, tp, tl)
    else
      (3, 0, tp, tl)
set_option maxHeartbeats 1000000 in
set_option maxRecDepth 100000 in
/-- feed -/
theorem c_SF_feed (l : Launch) (D : va_G) (cI cZ cJ : ClassId) (hst : l.stackTraces = false) (q : Nat → Nat) (fl : Nat → Int32) (sl : Nat → Int32) (tb : Nat → Int32) (np : Nat → Int32) (nt : Nat → Int32) (cp : Nat → Int32) (cc : Int32) (cb : Int32) (ch : Int32) (cm : Int32) (mp : Nat → Int32) (mc : Int32) (mb : Int32) (mh : Int32) (mm : Int32) (us : Nat → Int32) (ta : Nat → Int32) (tp : Nat → Int32) (tl : Int32) (cu : Int32) (bl : Int32) (pf : Int32) (sh : Int32) (by0 : Int64) (nn : Int32) : sf_XM (S := (Int32 × Int32 × (Nat → Int32) × Int32)) l D classes (sf_tys cI cZ cJ) y_SF_feed (sf_ws y_SF_feed b_SF_feed 5 (some .int)) 6 90 [.ref (q 0), .long by0, .int nn] (sf_w q cI cZ fl sl tb np nt cp cc cb ch cm mp mc mb mh mm us ta tp tl cu bl pf sh) (fun r => r.1) (fun r => some (.int r.2.1)) (fun r => r = f_SF_feed tp tl by0 nn) (fun r => (sf_w q cI cZ fl sl tb np nt cp cc cb ch cm mp mc mb mh mm us ta r.2.2.1 r.2.2.2 cu bl pf sh)) := by
  refine sf_xofW (S := (Int32 × Int32 × (Nat → Int32) × Int32)) (by decide) (Nat.le_of_ble_eq_true rfl) ?_
  intro p e s m below meth c A ls R args Q hR hArgs hQ hC0 hr hex hE hK hP hD hl
  obtain ⟨hx, hb, hml, hown, hts, hA, hlk⟩ := hC0
  have hS : va_S A s.heap s.heap [] := va_S.rf
  have hl : lv_has ls 5 [(0, .ref (q 0)), (1, .long by0), (3, .int nn)] := hl
  refine lv_iload_n hx hb d_SF_feed_0 rfl (lv_at hl 2 rfl) ?_
  refine lv_iconst (v := 1) hx hb d_SF_feed_1 (by decide) ?_
  refine lv_icmp_lt (tgt := 11) hx hb d_SF_feed_2 (by decide) (fun c_1 => ?_) (fun c_1 => ?_)
  · rw [hQ]
    exact sf_xthrow (text := "1 to 8 bytes are fed at once") (u := (3, 0, tp, tl)) hx hb hst hml hown hts hE hex xk_55_59 xs_57 hlk hS (show ¬ (3 : Int32) = 0 by decide) (show _ = sf_en 3 by decide) (by simp only [f_SF_feed, eq_true c_1, ↓reduceIte]) hP hl.1 (by rw [hR]; exact ⟨Nat.le_of_ble_eq_true rfl, Nat.le_of_ble_eq_true rfl, Nat.le_refl _, Nat.le_refl _⟩) d_SF_feed_11 d_SF_feed_14 d_SF_feed_15 d_SF_feed_17 d_SF_feed_20
  · refine lv_iload_n hx hb d_SF_feed_5 rfl (lv_at hl 2 rfl) ?_
    refine lv_bipush (v := 8) hx hb d_SF_feed_6 (by decide) ?_
    refine lv_icmp_le (tgt := 21) hx hb d_SF_feed_8 (by decide) (fun c_2 => ?_) (fun c_2 => ?_)
    · refine lv_aload_n hx hb d_SF_feed_21 rfl (lv_at hl 0 rfl) ?_
      refine va_get (D := D) (ci := 2) (v := .int tl) (C := R_SF) (T := F_SF) (N := 15) hx hb hts i_SF hown hK hP 0 rfl rfl 10 (by decide) (hts _ wd_120) (fun _ h9 => h9) rfl d_SF_feed_22 ?_
      refine lv_iload_n hx hb d_SF_feed_25 rfl (lv_at hl 2 rfl) ?_
      refine lv_iadd hx hb d_SF_feed_26 ?_
      refine lv_bipush (v := 60) hx hb d_SF_feed_27 (by decide) ?_
      refine lv_icmp_le (tgt := 42) hx hb d_SF_feed_29 (by decide) (fun c_3 => ?_) (fun c_3 => ?_)
      · refine lv_iload_n hx hb d_SF_feed_42 rfl (lv_at hl 2 rfl) ?_
        refine lv_iconst (v := 1) hx hb d_SF_feed_43 (by decide) ?_
        refine lv_isub hx hb d_SF_feed_44 ?_
        refine lv_istore (lv' := [(4, .int (nn - 1)), (0, .ref (q 0)), (1, .long by0), (3, .int nn)]) hx hb d_SF_feed_45 hl (by decide) rfl (fun ls hl => ?_)
        have loop47 : ∀ (j : Nat) (vt : (Nat → Int32)) (vl : Int32), j ≤ 8 → f_SF_feed_l47 by0 j vt vl = f_SF_feed tp tl by0 nn → ∀ (H : Heap) (locs : List Loc), va_P D classes (sf_w q cI cZ fl sl tb np nt cp cc cb ch cm mp mc mb mh mm us ta vt vl cu bl pf sh) H → va_D A (sf_w q cI cZ fl sl tb np nt cp cc cb ch cm mp mc mb mh mm us ta vt vl cu bl pf sh) → va_S A s.heap H locs → ∀ (ls : Array Slot), lv_has ls 5 [(0, .ref (q 0)), (1, .long by0), (3, .int nn), (4, .int ((nI j) + (-1)))] → W p l e R s m args below meth c H locs 0 0 Q (F0 m 47 ls []) := by
          intro j
          induction j with
          | zero =>
            intro vt vl hj heq47 H locs hP hD hS ls hl
            rw [sf_dm0] at hl
            refine lv_iload hx hb d_SF_feed_47 (lv_at hl 3 rfl) ?_
            refine lv_if_lt (tgt := 74) hx hb d_SF_feed_49 (by decide) (fun c_4 => ?_) (fun c_4 => absurd (by decide) c_4)
            refine lv_aload_n hx hb d_SF_feed_74 rfl (lv_at hl 0 rfl) ?_
            refine va_get (D := D) (ci := 2) (v := .int vl) (C := R_SF) (T := F_SF) (N := 15) hx hb hts i_SF hown hK hP 0 rfl rfl 10 (by decide) (hts _ wd_120) (fun _ h9 => h9) rfl d_SF_feed_75 ?_
            rw [hQ]
            exact sf_xiret (0, vl, vt, vl) hx hb hr hlk hS rfl rfl rfl (by rw [← heq47]; simp only [f_SF_feed_l47, ↓reduceIte]) hP d_SF_feed_78
          | succ j ih47 =>
            intro vt vl hj heq47 H locs hP hD hS ls hl
            rw [pk_m1] at hl
            refine lv_iload hx hb d_SF_feed_47 (lv_at hl 3 rfl) ?_
            refine lv_if_lt (tgt := 74) hx hb d_SF_feed_49 (by decide) (fun c_5 => absurd c_5 (nI_pos (by omega))) (fun c_5 => ?_)
            refine lv_aload_n hx hb d_SF_feed_52 rfl (lv_at hl 0 rfl) ?_
            refine lv_lload_n hx hb d_SF_feed_53 rfl (lv_at hl 1 rfl) ?_
            refine lv_bipush (v := 8) hx hb d_SF_feed_54 (by decide) ?_
            refine lv_iload hx hb d_SF_feed_56 (lv_at hl 3 rfl) ?_
            refine lv_imul hx hb d_SF_feed_58 ?_
            refine lv_lushr (v := (sf_lushr by0 (8 * (nI j)))) hx hb d_SF_feed_59 rfl ?_
            refine lv_l2i (v := ((sf_lushr by0 (8 * (nI j)))).toInt32) hx hb d_SF_feed_60 rfl ?_
            refine lv_sipush (v := 255) hx hb d_SF_feed_61 (by decide) ?_
            refine lv_iand hx hb d_SF_feed_64 ?_
            refine sf_callVw (S := ((Nat → Int32) × Int32)) (rest := []) ⟨hx, hb, hml, hown, hts⟩ (c_SF_addToTape l D cI cZ cJ q fl sl tb np nt cp cc cb ch cm mp mc mb mh mm us ta vt vl cu bl pf sh ((((sf_lushr by0 (8 * (nI j)))).toInt32) &&& 255)) (sf_cwV lk_SF_70 hts (fun _ h => h) (by rw [hR]; exact ⟨Nat.le_of_ble_eq_true rfl, Nat.le_of_ble_eq_true rfl⟩)) hK hP hD hS hA (fun _ => by simp only [sf_w_fst]) (ci := 2) (q0 := 0) rfl rfl rfl rfl rfl hl.1 (Nat.le_of_ble_eq_true rfl) d_SF_feed_65 ⟨Nat.zero_le _, Nat.zero_le _⟩ (fun u_6 H locs hu_6 hP hD hS => ?_)
            have hP : va_P D classes (sf_w q cI cZ fl sl tb np nt cp cc cb ch cm mp mc mb mh mm us ta u_6.1 u_6.2 cu bl pf sh) H := hP
            have hD : va_D A (sf_w q cI cZ fl sl tb np nt cp cc cb ch cm mp mc mb mh mm us ta u_6.1 u_6.2 cu bl pf sh) := hD
            refine lv_iinc (v := ((nI j) + (-1))) (lv' := [(4, .int ((nI j) + (-1))), (0, .ref (q 0)), (1, .long by0), (3, .int nn)]) hx hb d_SF_feed_68 hl (k := 3) rfl (sf_im1 _) (by decide) rfl (fun ls hl => ?_)
            refine lv_goto (tgt := 47) hx hb d_SF_feed_71 (by decide) ?_
            exact ih47 u_6.1 u_6.2 (by omega) (by rw [← heq47]; simp only [f_SF_feed_l47, ← hu_6, ↓reduceIte]) _ _ hP hD hS ls (lv_sub hl [1, 2, 3, 0] rfl)
        rw [(sf_feed1 c_1).1] at hl
        exact loop47 nn.toNatClampNeg tp tl (sf_feed8 c_1 c_2) (by simp only [f_SF_feed, eq_false c_1, eq_true c_2, eq_true c_3, ↓reduceIte]) _ _ hP hD hS ls (lv_sub hl [1, 2, 3, 0] rfl)
      · rw [hQ]
        exact sf_xthrow (text := "the tape holds 60 bytes") (u := (4, 0, tp, tl)) hx hb hst hml hown hts hE hex xk_65_69 xs_67 hlk hS (show ¬ (4 : Int32) = 0 by decide) (show _ = sf_en 4 by decide) (by simp only [f_SF_feed, eq_false c_1, eq_true c_2, eq_false c_3, ↓reduceIte]) hP hl.1 (by rw [hR]; exact ⟨Nat.le_of_ble_eq_true rfl, Nat.le_of_ble_eq_true rfl, Nat.le_refl _, Nat.le_refl _⟩) d_SF_feed_32 d_SF_feed_35 d_SF_feed_36 d_SF_feed_38 d_SF_feed_41
    · rw [hQ]
      exact sf_xthrow (text := "1 to 8 bytes are fed at once") (u := (3, 0, tp, tl)) hx hb hst hml hown hts hE hex xk_55_59 xs_57 hlk hS (show ¬ (3 : Int32) = 0 by decide) (show _ = sf_en 3 by decide) (by simp only [f_SF_feed, eq_false c_1, eq_false c_2, ↓reduceIte]) hP hl.1 (by rw [hR]; exact ⟨Nat.le_of_ble_eq_true rfl, Nat.le_of_ble_eq_true rfl, Nat.le_refl _, Nat.le_refl _⟩) d_SF_feed_11 d_SF_feed_14 d_SF_feed_15 d_SF_feed_17 d_SF_feed_20
