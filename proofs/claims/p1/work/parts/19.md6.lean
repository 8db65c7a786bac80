/-! md6: contracts, with the pure functions that they speak of (printed by wip/gen) -/
theorem d_MD_findTaken_0 : decode b_MD_findTaken 0 = .ok (.iconst 0, 1) := by decide +kernel
theorem d_MD_findTaken_1 : decode b_MD_findTaken 1 = .ok (.istore_n 2, 1) := by decide +kernel
theorem d_MD_findTaken_2 : decode b_MD_findTaken 2 = .ok (.iload_n 2, 1) := by decide +kernel
theorem d_MD_findTaken_3 : decode b_MD_findTaken 3 = .ok (.bipush 24, 2) := by decide +kernel
theorem d_MD_findTaken_5 : decode b_MD_findTaken 5 = .ok (.if_icmp .ge 16, 3) := by decide +kernel
theorem d_MD_findTaken_8 : decode b_MD_findTaken 8 = .ok (.aload_n 0, 1) := by decide +kernel
theorem d_MD_findTaken_9 : decode b_MD_findTaken 9 = .ok (.getfield 26, 3) := by decide +kernel
theorem d_MD_findTaken_12 : decode b_MD_findTaken 12 = .ok (.iload_n 2, 1) := by decide +kernel
theorem d_MD_findTaken_13 : decode b_MD_findTaken 13 = .ok (.iconst 0, 1) := by decide +kernel
theorem d_MD_findTaken_14 : decode b_MD_findTaken 14 = .ok (.bastore, 1) := by decide +kernel
theorem d_MD_findTaken_15 : decode b_MD_findTaken 15 = .ok (.iinc 2 1, 3) := by decide +kernel
theorem d_MD_findTaken_18 : decode b_MD_findTaken 18 = .ok (.goto (-16), 3) := by decide +kernel
theorem d_MD_findTaken_21 : decode b_MD_findTaken 21 = .ok (.iconst 0, 1) := by decide +kernel
theorem d_MD_findTaken_22 : decode b_MD_findTaken 22 = .ok (.istore_n 2, 1) := by decide +kernel
theorem d_MD_findTaken_23 : decode b_MD_findTaken 23 = .ok (.iload_n 2, 1) := by decide +kernel
theorem d_MD_findTaken_24 : decode b_MD_findTaken 24 = .ok (.bipush 12, 2) := by decide +kernel
theorem d_MD_findTaken_26 : decode b_MD_findTaken 26 = .ok (.if_icmp .ge 59, 3) := by decide +kernel
theorem d_MD_findTaken_29 : decode b_MD_findTaken 29 = .ok (.aload_n 0, 1) := by decide +kernel
theorem d_MD_findTaken_30 : decode b_MD_findTaken 30 = .ok (.iload_n 2, 1) := by decide +kernel
theorem d_MD_findTaken_31 : decode b_MD_findTaken 31 = .ok (.invokevirtual 95, 3) := by decide +kernel
theorem d_MD_findTaken_34 : decode b_MD_findTaken 34 = .ok (.ifCond .eq 45, 3) := by decide +kernel
theorem d_MD_findTaken_37 : decode b_MD_findTaken 37 = .ok (.aload_n 0, 1) := by decide +kernel
theorem d_MD_findTaken_38 : decode b_MD_findTaken 38 = .ok (.iload_n 2, 1) := by decide +kernel
theorem d_MD_findTaken_39 : decode b_MD_findTaken 39 = .ok (.invokevirtual 67, 3) := by decide +kernel
theorem d_MD_findTaken_42 : decode b_MD_findTaken 42 = .ok (.iload_n 1, 1) := by decide +kernel
theorem d_MD_findTaken_43 : decode b_MD_findTaken 43 = .ok (.if_icmp .ne 36, 3) := by decide +kernel
theorem d_MD_findTaken_46 : decode b_MD_findTaken 46 = .ok (.aload_n 0, 1) := by decide +kernel
theorem d_MD_findTaken_47 : decode b_MD_findTaken 47 = .ok (.iload_n 2, 1) := by decide +kernel
theorem d_MD_findTaken_48 : decode b_MD_findTaken 48 = .ok (.invokevirtual 91, 3) := by decide +kernel
theorem d_MD_findTaken_51 : decode b_MD_findTaken 51 = .ok (.iconst 0, 1) := by decide +kernel
theorem d_MD_findTaken_52 : decode b_MD_findTaken 52 = .ok (.istore_n 3, 1) := by decide +kernel
theorem d_MD_findTaken_53 : decode b_MD_findTaken 53 = .ok (.iload_n 3, 1) := by decide +kernel
theorem d_MD_findTaken_54 : decode b_MD_findTaken 54 = .ok (.aload_n 0, 1) := by decide +kernel
theorem d_MD_findTaken_55 : decode b_MD_findTaken 55 = .ok (.getfield 70, 3) := by decide +kernel
theorem d_MD_findTaken_58 : decode b_MD_findTaken 58 = .ok (.if_icmp .ge 21, 3) := by decide +kernel
theorem d_MD_findTaken_61 : decode b_MD_findTaken 61 = .ok (.aload_n 0, 1) := by decide +kernel
theorem d_MD_findTaken_62 : decode b_MD_findTaken 62 = .ok (.getfield 26, 3) := by decide +kernel
theorem d_MD_findTaken_65 : decode b_MD_findTaken 65 = .ok (.aload_n 0, 1) := by decide +kernel
theorem d_MD_findTaken_66 : decode b_MD_findTaken 66 = .ok (.getfield 20, 3) := by decide +kernel
theorem d_MD_findTaken_69 : decode b_MD_findTaken 69 = .ok (.iload_n 3, 1) := by decide +kernel
theorem d_MD_findTaken_70 : decode b_MD_findTaken 70 = .ok (.iaload, 1) := by decide +kernel
theorem d_MD_findTaken_71 : decode b_MD_findTaken 71 = .ok (.iconst 1, 1) := by decide +kernel
theorem d_MD_findTaken_72 : decode b_MD_findTaken 72 = .ok (.bastore, 1) := by decide +kernel
theorem d_MD_findTaken_73 : decode b_MD_findTaken 73 = .ok (.iinc 3 1, 3) := by decide +kernel
theorem d_MD_findTaken_76 : decode b_MD_findTaken 76 = .ok (.goto (-23), 3) := by decide +kernel
theorem d_MD_findTaken_79 : decode b_MD_findTaken 79 = .ok (.iinc 2 1, 3) := by decide +kernel
theorem d_MD_findTaken_82 : decode b_MD_findTaken 82 = .ok (.goto (-59), 3) := by decide +kernel
theorem d_MD_findTaken_85 : decode b_MD_findTaken 85 = .ok (.iconst 0, 1) := by decide +kernel
theorem d_MD_findTaken_86 : decode b_MD_findTaken 86 = .ok (.istore_n 2, 1) := by decide +kernel
theorem d_MD_findTaken_87 : decode b_MD_findTaken 87 = .ok (.iconst 0, 1) := by decide +kernel
theorem d_MD_findTaken_88 : decode b_MD_findTaken 88 = .ok (.istore_n 3, 1) := by decide +kernel
theorem d_MD_findTaken_89 : decode b_MD_findTaken 89 = .ok (.iload_n 3, 1) := by decide +kernel
theorem d_MD_findTaken_90 : decode b_MD_findTaken 90 = .ok (.iload_n 1, 1) := by decide +kernel
theorem d_MD_findTaken_91 : decode b_MD_findTaken 91 = .ok (.invokestatic 80, 3) := by decide +kernel
theorem d_MD_findTaken_94 : decode b_MD_findTaken 94 = .ok (.if_icmp .ge 26, 3) := by decide +kernel
theorem d_MD_findTaken_97 : decode b_MD_findTaken 97 = .ok (.iload_n 2, 1) := by decide +kernel
theorem d_MD_findTaken_98 : decode b_MD_findTaken 98 = .ok (.aload_n 0, 1) := by decide +kernel
theorem d_MD_findTaken_99 : decode b_MD_findTaken 99 = .ok (.getfield 26, 3) := by decide +kernel
theorem d_MD_findTaken_102 : decode b_MD_findTaken 102 = .ok (.iload_n 3, 1) := by decide +kernel
theorem d_MD_findTaken_103 : decode b_MD_findTaken 103 = .ok (.baload, 1) := by decide +kernel
theorem d_MD_findTaken_104 : decode b_MD_findTaken 104 = .ok (.ifCond .eq 7, 3) := by decide +kernel
theorem d_MD_findTaken_107 : decode b_MD_findTaken 107 = .ok (.iconst 0, 1) := by decide +kernel
theorem d_MD_findTaken_108 : decode b_MD_findTaken 108 = .ok (.goto 4, 3) := by decide +kernel
theorem d_MD_findTaken_111 : decode b_MD_findTaken 111 = .ok (.iconst 1, 1) := by decide +kernel
theorem d_MD_findTaken_112 : decode b_MD_findTaken 112 = .ok (.iadd, 1) := by decide +kernel
theorem d_MD_findTaken_113 : decode b_MD_findTaken 113 = .ok (.istore_n 2, 1) := by decide +kernel
theorem d_MD_findTaken_114 : decode b_MD_findTaken 114 = .ok (.iinc 3 1, 3) := by decide +kernel
theorem d_MD_findTaken_117 : decode b_MD_findTaken 117 = .ok (.goto (-28), 3) := by decide +kernel
theorem d_MD_findTaken_120 : decode b_MD_findTaken 120 = .ok (.iload_n 2, 1) := by decide +kernel
theorem d_MD_findTaken_121 : decode b_MD_findTaken 121 = .ok (.ireturn, 1) := by decide +kernel
def f_MD_findTaken_0_l89 (wt : Nat → Int32) (wxpa : Nat → Int32) (wxsp : Int32) (wxwh : Int32) (wxhe : Nat → Int32) (wxho : Int32) : Nat → Nat → Int32 → (Int32 × (Nat → Int32) × (Nat → Int32) × Int32 × Int32 × (Nat → Int32) × Int32)
  | 0, _, _ => (0, (fun _ => 0), (fun _ => 0), 0, 0, (fun _ => 0), 0)
  | fu + 1, kp, vc =>
    if 24 ≤ (nI kp) then
      (vc, wt, wxpa, wxsp, wxwh, wxhe, wxho)
    else
      if (wt kp) = 0 then
        f_MD_findTaken_0_l89 wt wxpa wxsp wxwh wxhe wxho fu (kp + 1) (vc + 1)
      else
        f_MD_findTaken_0_l89 wt wxpa wxsp wxwh wxhe wxho fu (kp + 1) (vc + 0)
def f_MD_findTaken_0_l53 (xB : Nat → Int32) (wxpa : Nat → Int32) (wxhe : Nat → Int32) (kr : Nat) : Nat → Nat → (Nat → Int32) → ((Nat → Int32))
  | 0, _, _ => ((fun _ => 0))
  | fu + 1, kk, yt =>
    if (nI ((f_MD_go xB wxpa wxhe kr).2.1.toNatClampNeg)) ≤ (nI kk) then
      yt
    else
      f_MD_findTaken_0_l53 xB wxpa wxhe kr fu (kk + 1) (upd yt (((f_MD_go xB wxpa wxhe kr).1 kk).toNatClampNeg) 1)
def f_MD_findTaken_0_l23 (xB : Nat → Int32) : Nat → Nat → (Nat → Int32) → (Nat → Int32) → Int32 → Int32 → (Nat → Int32) → Int32 → (Int32 × (Nat → Int32) × (Nat → Int32) × Int32 × Int32 × (Nat → Int32) × Int32)
  | 0, _, _, _, _, _, _, _ => (0, (fun _ => 0), (fun _ => 0), 0, 0, (fun _ => 0), 0)
  | fu + 1, kr, wt, wxpa, wxsp, wxwh, wxhe, wxho =>
    if 12 ≤ (nI kr) then
      f_MD_findTaken_0_l89 wt wxpa wxsp wxwh wxhe wxho (24 + 1) 0 0
    else
      if (f_MD_isThere xB kr) = 0 then
        f_MD_findTaken_0_l23 xB fu (kr + 1) wt wxpa wxsp wxwh wxhe wxho
      else
        if (f_MD_isSlow xB kr) = 0 then
          f_MD_findTaken_0_l23 xB fu (kr + 1) (f_MD_findTaken_0_l53 xB wxpa wxhe kr (((f_MD_go xB wxpa wxhe kr).2.1.toNatClampNeg) + 1) 0 wt) (f_MD_go xB wxpa wxhe kr).1 (nI ((f_MD_go xB wxpa wxhe kr).2.1.toNatClampNeg)) (f_MD_go xB wxpa wxhe kr).2.2.1 (f_MD_go xB wxpa wxhe kr).2.2.2.1 (f_MD_go xB wxpa wxhe kr).2.2.2.2
        else
          f_MD_findTaken_0_l23 xB fu (kr + 1) wt wxpa wxsp wxwh wxhe wxho
def f_MD_findTaken_0_l2 (xB : Nat → Int32) (xpa : Nat → Int32) (xsp : Int32) (xwh : Int32) (xhe : Nat → Int32) (xho : Int32) : Nat → Nat → (Nat → Int32) → (Int32 × (Nat → Int32) × (Nat → Int32) × Int32 × Int32 × (Nat → Int32) × Int32)
  | 0, _, _ => (0, (fun _ => 0), (fun _ => 0), 0, 0, (fun _ => 0), 0)
  | fu + 1, k, vt =>
    if 24 ≤ (nI k) then
      f_MD_findTaken_0_l23 xB (12 + 1) 0 vt xpa xsp xwh xhe xho
    else
      f_MD_findTaken_0_l2 xB xpa xsp xwh xhe xho fu (k + 1) (upd vt k 0)
def f_MD_findTaken_0 (xB : Nat → Int32) (xpa : Nat → Int32) (xsp : Int32) (xwh : Int32) (xhe : Nat → Int32) (xho : Int32) (xtk : Nat → Int32) : (Int32 × (Nat → Int32) × (Nat → Int32) × Int32 × Int32 × (Nat → Int32) × Int32) :=
  f_MD_findTaken_0_l2 xB xpa xsp xwh xhe xho (24 + 1) 0 xtk
set_option maxHeartbeats 1000000 in
set_option maxRecDepth 100000 in
/-- findTaken -/
theorem c_MD_findTaken_0 (l : Launch) (D : va_G) (cI cZ cJ : ClassId) (q : Nat → Nat) (xth : Int32) (xB : Nat → Int32) (xsh : Int32) (xcu : Int32) (xtp : Nat → Int32) (xtd : Int32) (xpa : Nat → Int32) (xsp : Int32) (xwh : Int32) (xhe : Nat → Int32) (xho : Int32) (xtk : Nat → Int32) (xto : Nat → Int32) (xwa : Nat → Int32) (xmn : Int32) : sf_M (S := (Int32 × (Nat → Int32) × (Nat → Int32) × Int32 × Int32 × (Nat → Int32) × Int32)) l D classes (sf_tys cI cZ cJ) y_MD_findTaken (sf_ws y_MD_findTaken b_MD_findTaken 4 (some .int)) 7 159 [.ref (q 0), .int 0] (md_w q cI cZ xth xB xsh xcu xtp xtd xpa xsp xwh xhe xho xtk xto xwa xmn) (fun r => some (.int r.1)) (fun r => r = f_MD_findTaken_0 xB xpa xsp xwh xhe xho xtk) (fun r => (md_w q cI cZ xth xB xsh xcu xtp xtd r.2.2.1 r.2.2.2.1 r.2.2.2.2.1 r.2.2.2.2.2.1 r.2.2.2.2.2.2 r.2.1 xto xwa xmn)) := by
  refine sf_ofW (S := (Int32 × (Nat → Int32) × (Nat → Int32) × Int32 × Int32 × (Nat → Int32) × Int32)) (by decide) (Nat.le_of_ble_eq_true rfl) ?_
  intro p e s m below meth c A ls R args Q hR hArgs hQ hC0 hr hK hP hD hl
  obtain ⟨hx, hb, hml, hown, hts, hA, hlk⟩ := hC0
  have hS : va_S A s.heap s.heap [] := va_S.rf
  have hl : lv_has ls 4 [(0, .ref (q 0)), (1, .int 0)] := hl
  refine lv_iconst (v := 0) hx hb d_MD_findTaken_0 (by decide) ?_
  refine lv_istore_n (lv' := [(2, .int 0), (0, .ref (q 0)), (1, .int 0)]) hx hb d_MD_findTaken_1 rfl hl (by decide) rfl (fun ls hl => ?_)
  have loop2 : ∀ (fu k : Nat) (vt : (Nat → Int32)), k ≤ 24 → k + fu = 24 + 1 → f_MD_findTaken_0_l2 xB xpa xsp xwh xhe xho fu k vt = f_MD_findTaken_0 xB xpa xsp xwh xhe xho xtk → ∀ (H : Heap) (locs : List Loc), va_P D classes (md_w q cI cZ xth xB xsh xcu xtp xtd xpa xsp xwh xhe xho vt xto xwa xmn) H → va_D A (md_w q cI cZ xth xB xsh xcu xtp xtd xpa xsp xwh xhe xho vt xto xwa xmn) → va_S A s.heap H locs → ∀ (ls : Array Slot), lv_has ls 4 [(0, .ref (q 0)), (1, .int 0), (2, .int (nI k))] → W p l e R s m args below meth c H locs 0 0 Q (F0 m 2 ls []) := by
    intro fu
    induction fu with
    | zero =>
      intro k vt h1 h2
      exact absurd h2 (by omega)
    | succ fu ih2 =>
      intro k vt hk2 hkn2 heq2 H locs hP hD hS ls hl
      refine lv_iload_n hx hb d_MD_findTaken_2 rfl (lv_at hl 2 rfl) ?_
      refine lv_bipush (v := 24) hx hb d_MD_findTaken_3 (by decide) ?_
      refine lv_icmp_ge (tgt := 21) hx hb d_MD_findTaken_5 (by decide) (fun c_1 => ?_) (fun c_1 => ?_)
      · refine lv_iconst (v := 0) hx hb d_MD_findTaken_21 (by decide) ?_
        refine lv_istore_n (lv' := [(2, .int 0), (0, .ref (q 0)), (1, .int 0)]) hx hb d_MD_findTaken_22 rfl hl (by decide) rfl (fun ls hl => ?_)
        have loop23 : ∀ (fukr kr : Nat) (wt : (Nat → Int32)) (wxpa : (Nat → Int32)) (wxsp : Int32) (wxwh : Int32) (wxhe : (Nat → Int32)) (wxho : Int32), kr ≤ 12 → kr + fukr = 12 + 1 → f_MD_findTaken_0_l23 xB fukr kr wt wxpa wxsp wxwh wxhe wxho = f_MD_findTaken_0 xB xpa xsp xwh xhe xho xtk → ∀ (H : Heap) (locs : List Loc), va_P D classes (md_w q cI cZ xth xB xsh xcu xtp xtd wxpa wxsp wxwh wxhe wxho wt xto xwa xmn) H → va_D A (md_w q cI cZ xth xB xsh xcu xtp xtd wxpa wxsp wxwh wxhe wxho wt xto xwa xmn) → va_S A s.heap H locs → ∀ (ls : Array Slot), lv_has ls 4 [(0, .ref (q 0)), (1, .int 0), (2, .int (nI kr))] → W p l e R s m args below meth c H locs 0 0 Q (F0 m 23 ls []) := by
          intro fukr
          induction fukr with
          | zero =>
            intro kr wt wxpa wxsp wxwh wxhe wxho h1 h2
            exact absurd h2 (by omega)
          | succ fukr ih23 =>
            intro kr wt wxpa wxsp wxwh wxhe wxho hk23 hkn23 heq23 H locs hP hD hS ls hl
            refine lv_iload_n hx hb d_MD_findTaken_23 rfl (lv_at hl 2 rfl) ?_
            refine lv_bipush (v := 12) hx hb d_MD_findTaken_24 (by decide) ?_
            refine lv_icmp_ge (tgt := 85) hx hb d_MD_findTaken_26 (by decide) (fun c_2 => ?_) (fun c_2 => ?_)
            · refine lv_iconst (v := 0) hx hb d_MD_findTaken_85 (by decide) ?_
              refine lv_istore_n (lv' := [(2, .int 0), (0, .ref (q 0)), (1, .int 0)]) hx hb d_MD_findTaken_86 rfl hl (by decide) rfl (fun ls hl => ?_)
              refine lv_iconst (v := 0) hx hb d_MD_findTaken_87 (by decide) ?_
              refine lv_istore_n (lv' := [(3, .int 0), (2, .int 0), (0, .ref (q 0)), (1, .int 0)]) hx hb d_MD_findTaken_88 rfl hl (by decide) rfl (fun ls hl => ?_)
              have loop89 : ∀ (fukp kp : Nat) (vc : Int32), kp ≤ 24 → kp + fukp = 24 + 1 → f_MD_findTaken_0_l89 wt wxpa wxsp wxwh wxhe wxho fukp kp vc = f_MD_findTaken_0 xB xpa xsp xwh xhe xho xtk → ∀ (H : Heap) (locs : List Loc), va_P D classes (md_w q cI cZ xth xB xsh xcu xtp xtd wxpa wxsp wxwh wxhe wxho wt xto xwa xmn) H → va_D A (md_w q cI cZ xth xB xsh xcu xtp xtd wxpa wxsp wxwh wxhe wxho wt xto xwa xmn) → va_S A s.heap H locs → ∀ (ls : Array Slot), lv_has ls 4 [(0, .ref (q 0)), (1, .int 0), (2, .int vc), (3, .int (nI kp))] → W p l e R s m args below meth c H locs 0 0 Q (F0 m 89 ls []) := by
                intro fukp
                induction fukp with
                | zero =>
                  intro kp vc h1 h2
                  exact absurd h2 (by omega)
                | succ fukp ih89 =>
                  intro kp vc hk89 hkn89 heq89 H locs hP hD hS ls hl
                  refine lv_iload_n hx hb d_MD_findTaken_89 rfl (lv_at hl 3 rfl) ?_
                  refine lv_iload_n hx hb d_MD_findTaken_90 rfl (lv_at hl 1 rfl) ?_
                  refine sf_callSr (S := Unit) (rest := [.int (nI kp)]) ⟨hx, hb, hml, hown, hts⟩ (c_MD_places_0 l D cI cZ cJ) (sf_cwS lk_MD_80 hts (fun _ h => h) (by rw [hR]; exact ⟨Nat.le_of_ble_eq_true rfl, Nat.le_of_ble_eq_true rfl⟩)) hK hP hD hS hA [] rfl rfl (fun _ => rfl) rfl rfl hl.1 (Nat.le_of_ble_eq_true rfl) d_MD_findTaken_91 ⟨Nat.zero_le _, Nat.zero_le _⟩ (fun u H locs hu hP hS => ?_)
                  refine lv_icmp_ge (tgt := 120) hx hb d_MD_findTaken_94 (by decide) (fun c_3 => ?_) (fun c_3 => ?_)
                  · refine lv_iload_n hx hb d_MD_findTaken_120 rfl (lv_at hl 2 rfl) ?_
                    rw [hQ]
                    exact sf_iret (vc, wt, wxpa, wxsp, wxwh, wxhe, wxho) hx hb hr hlk hS rfl rfl (by rw [← heq89]; simp only [f_MD_findTaken_0_l89, eq_true c_3, ↓reduceIte]) hP d_MD_findTaken_121
                  · have hlt : kp < 24 := sf_lt_of (N := 24) (by omega) (by omega) c_3
                    refine lv_iload_n hx hb d_MD_findTaken_97 rfl (lv_at hl 2 rfl) ?_
                    refine lv_aload_n hx hb d_MD_findTaken_98 rfl (lv_at hl 0 rfl) ?_
                    refine va_get (D := D) (ci := 3) (v := .ref (q 5)) (C := R_MD) (T := F_MD) (N := 15) hx hb hts i_MD hown hK hP 0 rfl rfl 11 (by decide) (hts _ wd_586) (fun _ h9 => h9) rfl d_MD_findTaken_99 ?_
                    refine lv_iload_n hx hb d_MD_findTaken_102 rfl (lv_at hl 3 rfl) ?_
                    refine va_zald hx hb hK hP 5 1 rfl rfl (show vp_in (nI kp) 24 from vp_in_nI (n := kp) (by omega) (by omega)) d_MD_findTaken_103 ?_
                    rw [show ((nI kp) : Int32).toNatClampNeg = kp from nI_clamp (n := kp) (by omega)]
                    refine lv_if_eq (tgt := 111) hx hb d_MD_findTaken_104 (by decide) (fun c_4 => ?_) (fun c_4 => ?_)
                    · refine lv_iconst (v := 1) hx hb d_MD_findTaken_111 (by decide) ?_
                      refine lv_iadd hx hb d_MD_findTaken_112 ?_
                      refine lv_istore_n (lv' := [(2, .int (vc + 1)), (0, .ref (q 0)), (1, .int 0), (3, .int (nI kp))]) hx hb d_MD_findTaken_113 rfl hl (by decide) rfl (fun ls hl => ?_)
                      refine lv_iinc (v := (nI (kp + 1))) (lv' := [(3, .int (nI (kp + 1))), (2, .int (vc + 1)), (0, .ref (q 0)), (1, .int 0)]) hx hb d_MD_findTaken_114 hl (k := 3) rfl (nI_1 kp) (by decide) rfl (fun ls hl => ?_)
                      refine lv_goto (tgt := 89) hx hb d_MD_findTaken_117 (by decide) ?_
                      exact ih89 (kp + 1) (vc + 1) (by omega) (by omega) (by rw [← heq89]; simp only [f_MD_findTaken_0_l89, eq_false c_3, eq_true c_4, ↓reduceIte]) _ _ hP hD hS ls (lv_sub hl [2, 3, 1, 0] rfl)
                    · refine lv_iconst (v := 0) hx hb d_MD_findTaken_107 (by decide) ?_
                      refine lv_goto (tgt := 112) hx hb d_MD_findTaken_108 (by decide) ?_
                      refine lv_iadd hx hb d_MD_findTaken_112 ?_
                      refine lv_istore_n (lv' := [(2, .int (vc + 0)), (0, .ref (q 0)), (1, .int 0), (3, .int (nI kp))]) hx hb d_MD_findTaken_113 rfl hl (by decide) rfl (fun ls hl => ?_)
                      refine lv_iinc (v := (nI (kp + 1))) (lv' := [(3, .int (nI (kp + 1))), (2, .int (vc + 0)), (0, .ref (q 0)), (1, .int 0)]) hx hb d_MD_findTaken_114 hl (k := 3) rfl (nI_1 kp) (by decide) rfl (fun ls hl => ?_)
                      refine lv_goto (tgt := 89) hx hb d_MD_findTaken_117 (by decide) ?_
                      exact ih89 (kp + 1) (vc + 0) (by omega) (by omega) (by rw [← heq89]; simp only [f_MD_findTaken_0_l89, eq_false c_3, eq_false c_4, ↓reduceIte]) _ _ hP hD hS ls (lv_sub hl [2, 3, 1, 0] rfl)
              exact loop89 (24 + 1) 0 0 (by omega) (by omega) (by rw [← heq23]; simp only [f_MD_findTaken_0_l23, eq_true c_2, ↓reduceIte]) _ _ hP hD hS ls (lv_sub hl [2, 3, 1, 0] rfl)
            · have hlt : kr < 12 := sf_lt_of (N := 12) (by omega) (by omega) c_2
              refine lv_aload_n hx hb d_MD_findTaken_29 rfl (lv_at hl 0 rfl) ?_
              refine lv_iload_n hx hb d_MD_findTaken_30 rfl (lv_at hl 2 rfl) ?_
              refine sf_callVw (S := Int32) (rest := []) ⟨hx, hb, hml, hown, hts⟩ (c_MD_isThere l D cI cZ cJ q xth xB xsh xcu xtp xtd wxpa wxsp wxwh wxhe wxho wt xto xwa xmn kr (by omega)) (sf_cwV lk_MD_95 hts (fun _ h => h) (by rw [hR]; exact ⟨Nat.le_of_ble_eq_true rfl, Nat.le_of_ble_eq_true rfl⟩)) hK hP hD hS hA (fun _ => by simp only [md_w_fst]) (ci := 3) (q0 := 0) rfl rfl rfl rfl rfl hl.1 (Nat.le_of_ble_eq_true rfl) d_MD_findTaken_31 ⟨Nat.zero_le _, Nat.zero_le _⟩ (fun u_5 H locs hu_5 hP hD hS => ?_)
              have hP : va_P D classes (md_w q cI cZ xth xB xsh xcu xtp xtd wxpa wxsp wxwh wxhe wxho wt xto xwa xmn) H := hP
              have hD : va_D A (md_w q cI cZ xth xB xsh xcu xtp xtd wxpa wxsp wxwh wxhe wxho wt xto xwa xmn) := hD
              refine lv_if_eq (tgt := 79) hx hb d_MD_findTaken_34 (by decide) (fun c_6 => ?_) (fun c_6 => ?_)
              · refine lv_iinc (v := (nI (kr + 1))) (lv' := [(2, .int (nI (kr + 1))), (0, .ref (q 0)), (1, .int 0)]) hx hb d_MD_findTaken_79 hl (k := 2) rfl (nI_1 kr) (by decide) rfl (fun ls hl => ?_)
                refine lv_goto (tgt := 23) hx hb d_MD_findTaken_82 (by decide) ?_
                exact ih23 (kr + 1) wt wxpa wxsp wxwh wxhe wxho (by omega) (by omega) (by rw [← heq23]; simp only [f_MD_findTaken_0_l23, ← hu_5, eq_false c_2, eq_true c_6, ↓reduceIte]) _ _ hP hD hS ls (lv_sub hl [1, 2, 0] rfl)
              · refine lv_aload_n hx hb d_MD_findTaken_37 rfl (lv_at hl 0 rfl) ?_
                refine lv_iload_n hx hb d_MD_findTaken_38 rfl (lv_at hl 2 rfl) ?_
                refine sf_callVw (S := Int32) (rest := []) ⟨hx, hb, hml, hown, hts⟩ (c_MD_isSlow l D cI cZ cJ q xth xB xsh xcu xtp xtd wxpa wxsp wxwh wxhe wxho wt xto xwa xmn kr (by omega)) (sf_cwV lk_MD_67 hts (fun _ h => h) (by rw [hR]; exact ⟨Nat.le_of_ble_eq_true rfl, Nat.le_of_ble_eq_true rfl⟩)) hK hP hD hS hA (fun _ => by simp only [md_w_fst]) (ci := 3) (q0 := 0) rfl rfl rfl rfl rfl hl.1 (Nat.le_of_ble_eq_true rfl) d_MD_findTaken_39 ⟨Nat.zero_le _, Nat.zero_le _⟩ (fun u_7 H locs hu_7 hP hD hS => ?_)
                have hP : va_P D classes (md_w q cI cZ xth xB xsh xcu xtp xtd wxpa wxsp wxwh wxhe wxho wt xto xwa xmn) H := hP
                have hD : va_D A (md_w q cI cZ xth xB xsh xcu xtp xtd wxpa wxsp wxwh wxhe wxho wt xto xwa xmn) := hD
                refine lv_iload_n hx hb d_MD_findTaken_42 rfl (lv_at hl 1 rfl) ?_
                refine lv_icmp_ne (tgt := 79) hx hb d_MD_findTaken_43 (by decide) (fun c_8 => ?_) (fun c_8 => ?_)
                · refine lv_iinc (v := (nI (kr + 1))) (lv' := [(2, .int (nI (kr + 1))), (0, .ref (q 0)), (1, .int 0)]) hx hb d_MD_findTaken_79 hl (k := 2) rfl (nI_1 kr) (by decide) rfl (fun ls hl => ?_)
                  refine lv_goto (tgt := 23) hx hb d_MD_findTaken_82 (by decide) ?_
                  exact ih23 (kr + 1) wt wxpa wxsp wxwh wxhe wxho (by omega) (by omega) (by rw [← heq23]; simp only [f_MD_findTaken_0_l23, ← hu_5, ← hu_7, eq_false c_2, eq_false c_6, eq_false c_8, ↓reduceIte]) _ _ hP hD hS ls (lv_sub hl [1, 2, 0] rfl)
                · refine lv_aload_n hx hb d_MD_findTaken_46 rfl (lv_at hl 0 rfl) ?_
                  refine lv_iload_n hx hb d_MD_findTaken_47 rfl (lv_at hl 2 rfl) ?_
                  refine sf_callVw (S := ((Nat → Int32) × Int32 × Int32 × (Nat → Int32) × Int32)) (rest := []) ⟨hx, hb, hml, hown, hts⟩ (c_MD_go l D cI cZ cJ q xth xB xsh xcu xtp xtd wxpa wxsp wxwh wxhe wxho wt xto xwa xmn kr (by omega)) (sf_cwV lk_MD_91 hts (fun _ h => h) (by rw [hR]; exact ⟨Nat.le_of_ble_eq_true rfl, Nat.le_of_ble_eq_true rfl⟩)) hK hP hD hS hA (fun _ => by simp only [md_w_fst]) (ci := 3) (q0 := 0) rfl rfl rfl rfl rfl hl.1 (Nat.le_of_ble_eq_true rfl) d_MD_findTaken_48 ⟨Nat.zero_le _, Nat.zero_le _⟩ (fun u_9 H locs hu_9 hP hD hS => ?_)
                  have hP : va_P D classes (md_w q cI cZ xth xB xsh xcu xtp xtd u_9.1 u_9.2.1 u_9.2.2.1 u_9.2.2.2.1 u_9.2.2.2.2 wt xto xwa xmn) H := hP
                  have hD : va_D A (md_w q cI cZ xth xB xsh xcu xtp xtd u_9.1 u_9.2.1 u_9.2.2.1 u_9.2.2.2.1 u_9.2.2.2.2 wt xto xwa xmn) := hD
                  obtain ⟨u_10, hu_10⟩ : ∃ z, z = u_9.2.1.toNatClampNeg := ⟨_, rfl⟩
                  obtain ⟨he_u_10, hb_u_10, hp_u_10⟩ := md_GO.steps (r := u_9) (by rw [hu_9]; exact f_MD_go_ok24 _ _ _ _) hu_10
                  rw [he_u_10] at hP hD
                  refine lv_iconst (v := 0) hx hb d_MD_findTaken_51 (by decide) ?_
                  refine lv_istore_n (lv' := [(3, .int 0), (0, .ref (q 0)), (1, .int 0), (2, .int (nI kr))]) hx hb d_MD_findTaken_52 rfl hl (by decide) rfl (fun ls hl => ?_)
                  obtain ⟨u_11, hu_11⟩ : ∃ z, z = (f_MD_findTaken_0_l53 xB wxpa wxhe kr (u_10 + 1) 0 wt) := ⟨_, rfl⟩
                  have loop53 : ∀ (fukk kk : Nat) (yt : (Nat → Int32)), kk ≤ u_10 → kk + fukk = u_10 + 1 → f_MD_findTaken_0_l53 xB wxpa wxhe kr fukk kk yt = u_11 → ∀ (H : Heap) (locs : List Loc), va_P D classes (md_w q cI cZ xth xB xsh xcu xtp xtd u_9.1 (nI u_10) u_9.2.2.1 u_9.2.2.2.1 u_9.2.2.2.2 yt xto xwa xmn) H → va_D A (md_w q cI cZ xth xB xsh xcu xtp xtd u_9.1 (nI u_10) u_9.2.2.1 u_9.2.2.2.1 u_9.2.2.2.2 yt xto xwa xmn) → va_S A s.heap H locs → ∀ (ls : Array Slot), lv_has ls 4 [(0, .ref (q 0)), (1, .int 0), (2, .int (nI kr)), (3, .int (nI kk))] → W p l e R s m args below meth c H locs 0 0 Q (F0 m 53 ls []) := by
                    intro fukk
                    induction fukk with
                    | zero =>
                      intro kk yt h1 h2
                      exact absurd h2 (by omega)
                    | succ fukk ih53 =>
                      intro kk yt hk53 hkn53 heq53 H locs hP hD hS ls hl
                      refine lv_iload_n hx hb d_MD_findTaken_53 rfl (lv_at hl 3 rfl) ?_
                      refine lv_aload_n hx hb d_MD_findTaken_54 rfl (lv_at hl 0 rfl) ?_
                      refine va_get (D := D) (ci := 3) (v := .int (nI u_10)) (C := R_MD) (T := F_MD) (N := 15) hx hb hts i_MD hown hK hP 0 rfl rfl 7 (by decide) (hts _ wd_582) (fun _ h9 => h9) rfl d_MD_findTaken_55 ?_
                      refine lv_icmp_ge (tgt := 79) hx hb d_MD_findTaken_58 (by decide) (fun c_12 => ?_) (fun c_12 => ?_)
                      · skip
                        have hv53 : yt = u_11 := by rw [← heq53]; simp only [f_MD_findTaken_0_l53, ← hu_5, ← hu_7, ← hu_9, ← hu_10, eq_true c_12, ↓reduceIte]
                        have hv53_0 : yt = u_11 := hv53
                        rw [hv53_0] at hP hD
                        have hke53 : kk = u_10 := sf_eq_of (N := u_10) (by omega) (by omega) hk53 c_12
                        try rw [hke53] at hP
                        try rw [hke53] at hD
                        try rw [hke53] at hl
                        refine lv_iinc (v := (nI (kr + 1))) (lv' := [(2, .int (nI (kr + 1))), (0, .ref (q 0)), (1, .int 0), (3, .int (nI u_10))]) hx hb d_MD_findTaken_79 hl (k := 2) rfl (nI_1 kr) (by decide) rfl (fun ls hl => ?_)
                        refine lv_goto (tgt := 23) hx hb d_MD_findTaken_82 (by decide) ?_
                        exact ih23 (kr + 1) u_11 u_9.1 (nI u_10) u_9.2.2.1 u_9.2.2.2.1 u_9.2.2.2.2 (by omega) (by omega) (by rw [← heq23]; simp only [f_MD_findTaken_0_l23, ← hu_5, ← hu_7, ← hu_9, ← hu_10, ← hu_11, eq_false c_2, eq_false c_6, eq_true c_8, ↓reduceIte]) _ _ hP hD hS ls (lv_sub hl [1, 2, 0] rfl)
                      · have hlt : kk < u_10 := sf_lt_of (N := u_10) (by omega) (by omega) c_12
                        refine lv_aload_n hx hb d_MD_findTaken_61 rfl (lv_at hl 0 rfl) ?_
                        refine va_get (D := D) (ci := 3) (v := .ref (q 5)) (C := R_MD) (T := F_MD) (N := 15) hx hb hts i_MD hown hK hP 0 rfl rfl 11 (by decide) (hts _ wd_586) (fun _ h9 => h9) rfl d_MD_findTaken_62 ?_
                        refine lv_aload_n hx hb d_MD_findTaken_65 rfl (lv_at hl 0 rfl) ?_
                        refine va_get (D := D) (ci := 3) (v := .ref (q 3)) (C := R_MD) (T := F_MD) (N := 15) hx hb hts i_MD hown hK hP 0 rfl rfl 6 (by decide) (hts _ wd_581) (fun _ h9 => h9) rfl d_MD_findTaken_66 ?_
                        refine lv_iload_n hx hb d_MD_findTaken_69 rfl (lv_at hl 3 rfl) ?_
                        refine va_iald hx hb hK hP 3 0 rfl rfl (show vp_in (nI kk) 3 from vp_in_nI (n := kk) (by omega) (by omega)) d_MD_findTaken_70 ?_
                        rw [show ((nI kk) : Int32).toNatClampNeg = kk from nI_clamp (n := kk) (by omega)]
                        refine lv_iconst (v := 1) hx hb d_MD_findTaken_71 (by decide) ?_
                        refine va_zast hx hb hK hP hD hS 5 1 rfl rfl (hp_u_10 _ hlt) d_MD_findTaken_72 (fun H locs hP hD hS => ?_)
                        rw [sf_nz1] at hP hD
                        have hP : va_P D classes (md_w q cI cZ xth xB xsh xcu xtp xtd u_9.1 (nI u_10) u_9.2.2.1 u_9.2.2.2.1 u_9.2.2.2.2 (upd yt ((u_9.1 kk).toNatClampNeg) 1) xto xwa xmn) H := hP
                        have hD : va_D A (md_w q cI cZ xth xB xsh xcu xtp xtd u_9.1 (nI u_10) u_9.2.2.1 u_9.2.2.2.1 u_9.2.2.2.2 (upd yt ((u_9.1 kk).toNatClampNeg) 1) xto xwa xmn) := hD
                        refine lv_iinc (v := (nI (kk + 1))) (lv' := [(3, .int (nI (kk + 1))), (0, .ref (q 0)), (1, .int 0), (2, .int (nI kr))]) hx hb d_MD_findTaken_73 hl (k := 3) rfl (nI_1 kk) (by decide) rfl (fun ls hl => ?_)
                        refine lv_goto (tgt := 53) hx hb d_MD_findTaken_76 (by decide) ?_
                        exact ih53 (kk + 1) (upd yt ((u_9.1 kk).toNatClampNeg) 1) (by omega) (by omega) (by rw [← heq53]; simp only [f_MD_findTaken_0_l53, ← hu_5, ← hu_7, ← hu_9, ← hu_10, eq_false c_12, ↓reduceIte]) _ _ hP hD hS ls (lv_sub hl [1, 2, 3, 0] rfl)
                  exact loop53 (u_10 + 1) 0 wt (by omega) (by omega) hu_11.symm _ _ hP hD hS ls (lv_sub hl [1, 2, 3, 0] rfl)
        exact loop23 (12 + 1) 0 vt xpa xsp xwh xhe xho (by omega) (by omega) (by rw [← heq2]; simp only [f_MD_findTaken_0_l2, eq_true c_1, ↓reduceIte]) _ _ hP hD hS ls (lv_sub hl [1, 2, 0] rfl)
      · have hlt : k < 24 := sf_lt_of (N := 24) (by omega) (by omega) c_1
        refine lv_aload_n hx hb d_MD_findTaken_8 rfl (lv_at hl 0 rfl) ?_
        refine va_get (D := D) (ci := 3) (v := .ref (q 5)) (C := R_MD) (T := F_MD) (N := 15) hx hb hts i_MD hown hK hP 0 rfl rfl 11 (by decide) (hts _ wd_586) (fun _ h9 => h9) rfl d_MD_findTaken_9 ?_
        refine lv_iload_n hx hb d_MD_findTaken_12 rfl (lv_at hl 2 rfl) ?_
        refine lv_iconst (v := 0) hx hb d_MD_findTaken_13 (by decide) ?_
        refine va_zast hx hb hK hP hD hS 5 1 rfl rfl (show vp_in (nI k) 24 from vp_in_nI (n := k) (by omega) (by omega)) d_MD_findTaken_14 (fun H locs hP hD hS => ?_)
        rw [show ((nI k) : Int32).toNatClampNeg = k from nI_clamp (n := k) (by omega)] at hP hD
        rw [sf_nz0] at hP hD
        have hP : va_P D classes (md_w q cI cZ xth xB xsh xcu xtp xtd xpa xsp xwh xhe xho (upd vt k 0) xto xwa xmn) H := hP
        have hD : va_D A (md_w q cI cZ xth xB xsh xcu xtp xtd xpa xsp xwh xhe xho (upd vt k 0) xto xwa xmn) := hD
        refine lv_iinc (v := (nI (k + 1))) (lv' := [(2, .int (nI (k + 1))), (0, .ref (q 0)), (1, .int 0)]) hx hb d_MD_findTaken_15 hl (k := 2) rfl (nI_1 k) (by decide) rfl (fun ls hl => ?_)
        refine lv_goto (tgt := 2) hx hb d_MD_findTaken_18 (by decide) ?_
        exact ih2 (k + 1) (upd vt k 0) (by omega) (by omega) (by rw [← heq2]; simp only [f_MD_findTaken_0_l2, eq_false c_1, ↓reduceIte]) _ _ hP hD hS ls (lv_sub hl [1, 2, 0] rfl)
  exact loop2 (24 + 1) 0 xtk (by omega) (by omega) (by simp only [f_MD_findTaken_0, ↓reduceIte]) _ _ hP hD hS ls (lv_sub hl [1, 2, 0] rfl)
def f_MD_findTaken_1_l89 (wt : Nat → Int32) (wxpa : Nat → Int32) (wxsp : Int32) (wxwh : Int32) (wxhe : Nat → Int32) (wxho : Int32) : Nat → Nat → Int32 → (Int32 × (Nat → Int32) × (Nat → Int32) × Int32 × Int32 × (Nat → Int32) × Int32)
  | 0, _, _ => (0, (fun _ => 0), (fun _ => 0), 0, 0, (fun _ => 0), 0)
  | fu + 1, kp, vc =>
    if 16 ≤ (nI kp) then
      (vc, wt, wxpa, wxsp, wxwh, wxhe, wxho)
    else
      if (wt kp) = 0 then
        f_MD_findTaken_1_l89 wt wxpa wxsp wxwh wxhe wxho fu (kp + 1) (vc + 1)
      else
        f_MD_findTaken_1_l89 wt wxpa wxsp wxwh wxhe wxho fu (kp + 1) (vc + 0)
def f_MD_findTaken_1_l53 (xB : Nat → Int32) (wxpa : Nat → Int32) (wxhe : Nat → Int32) (kr : Nat) : Nat → Nat → (Nat → Int32) → ((Nat → Int32))
  | 0, _, _ => ((fun _ => 0))
  | fu + 1, kk, yt =>
    if (nI ((f_MD_go xB wxpa wxhe kr).2.1.toNatClampNeg)) ≤ (nI kk) then
      yt
    else
      f_MD_findTaken_1_l53 xB wxpa wxhe kr fu (kk + 1) (upd yt (((f_MD_go xB wxpa wxhe kr).1 kk).toNatClampNeg) 1)
def f_MD_findTaken_1_l23 (xB : Nat → Int32) : Nat → Nat → (Nat → Int32) → (Nat → Int32) → Int32 → Int32 → (Nat → Int32) → Int32 → (Int32 × (Nat → Int32) × (Nat → Int32) × Int32 × Int32 × (Nat → Int32) × Int32)
  | 0, _, _, _, _, _, _, _ => (0, (fun _ => 0), (fun _ => 0), 0, 0, (fun _ => 0), 0)
  | fu + 1, kr, wt, wxpa, wxsp, wxwh, wxhe, wxho =>
    if 12 ≤ (nI kr) then
      f_MD_findTaken_1_l89 wt wxpa wxsp wxwh wxhe wxho (16 + 1) 0 0
    else
      if (f_MD_isThere xB kr) = 0 then
        f_MD_findTaken_1_l23 xB fu (kr + 1) wt wxpa wxsp wxwh wxhe wxho
      else
        if (f_MD_isSlow xB kr) = 1 then
          f_MD_findTaken_1_l23 xB fu (kr + 1) (f_MD_findTaken_1_l53 xB wxpa wxhe kr (((f_MD_go xB wxpa wxhe kr).2.1.toNatClampNeg) + 1) 0 wt) (f_MD_go xB wxpa wxhe kr).1 (nI ((f_MD_go xB wxpa wxhe kr).2.1.toNatClampNeg)) (f_MD_go xB wxpa wxhe kr).2.2.1 (f_MD_go xB wxpa wxhe kr).2.2.2.1 (f_MD_go xB wxpa wxhe kr).2.2.2.2
        else
          f_MD_findTaken_1_l23 xB fu (kr + 1) wt wxpa wxsp wxwh wxhe wxho
def f_MD_findTaken_1_l2 (xB : Nat → Int32) (xpa : Nat → Int32) (xsp : Int32) (xwh : Int32) (xhe : Nat → Int32) (xho : Int32) : Nat → Nat → (Nat → Int32) → (Int32 × (Nat → Int32) × (Nat → Int32) × Int32 × Int32 × (Nat → Int32) × Int32)
  | 0, _, _ => (0, (fun _ => 0), (fun _ => 0), 0, 0, (fun _ => 0), 0)
  | fu + 1, k, vt =>
    if 24 ≤ (nI k) then
      f_MD_findTaken_1_l23 xB (12 + 1) 0 vt xpa xsp xwh xhe xho
    else
      f_MD_findTaken_1_l2 xB xpa xsp xwh xhe xho fu (k + 1) (upd vt k 0)
def f_MD_findTaken_1 (xB : Nat → Int32) (xpa : Nat → Int32) (xsp : Int32) (xwh : Int32) (xhe : Nat → Int32) (xho : Int32) (xtk : Nat → Int32) : (Int32 × (Nat → Int32) × (Nat → Int32) × Int32 × Int32 × (Nat → Int32) × Int32) :=
  f_MD_findTaken_1_l2 xB xpa xsp xwh xhe xho (24 + 1) 0 xtk
set_option maxHeartbeats 1000000 in
set_option maxRecDepth 100000 in
/-- findTaken -/
theorem c_MD_findTaken_1 (l : Launch) (D : va_G) (cI cZ cJ : ClassId) (q : Nat → Nat) (xth : Int32) (xB : Nat → Int32) (xsh : Int32) (xcu : Int32) (xtp : Nat → Int32) (xtd : Int32) (xpa : Nat → Int32) (xsp : Int32) (xwh : Int32) (xhe : Nat → Int32) (xho : Int32) (xtk : Nat → Int32) (xto : Nat → Int32) (xwa : Nat → Int32) (xmn : Int32) : sf_M (S := (Int32 × (Nat → Int32) × (Nat → Int32) × Int32 × Int32 × (Nat → Int32) × Int32)) l D classes (sf_tys cI cZ cJ) y_MD_findTaken (sf_ws y_MD_findTaken b_MD_findTaken 4 (some .int)) 7 159 [.ref (q 0), .int 1] (md_w q cI cZ xth xB xsh xcu xtp xtd xpa xsp xwh xhe xho xtk xto xwa xmn) (fun r => some (.int r.1)) (fun r => r = f_MD_findTaken_1 xB xpa xsp xwh xhe xho xtk) (fun r => (md_w q cI cZ xth xB xsh xcu xtp xtd r.2.2.1 r.2.2.2.1 r.2.2.2.2.1 r.2.2.2.2.2.1 r.2.2.2.2.2.2 r.2.1 xto xwa xmn)) := by
  refine sf_ofW (S := (Int32 × (Nat → Int32) × (Nat → Int32) × Int32 × Int32 × (Nat → Int32) × Int32)) (by decide) (Nat.le_of_ble_eq_true rfl) ?_
  intro p e s m below meth c A ls R args Q hR hArgs hQ hC0 hr hK hP hD hl
  obtain ⟨hx, hb, hml, hown, hts, hA, hlk⟩ := hC0
  have hS : va_S A s.heap s.heap [] := va_S.rf
  have hl : lv_has ls 4 [(0, .ref (q 0)), (1, .int 1)] := hl
  refine lv_iconst (v := 0) hx hb d_MD_findTaken_0 (by decide) ?_
  refine lv_istore_n (lv' := [(2, .int 0), (0, .ref (q 0)), (1, .int 1)]) hx hb d_MD_findTaken_1 rfl hl (by decide) rfl (fun ls hl => ?_)
  have loop2 : ∀ (fu k : Nat) (vt : (Nat → Int32)), k ≤ 24 → k + fu = 24 + 1 → f_MD_findTaken_1_l2 xB xpa xsp xwh xhe xho fu k vt = f_MD_findTaken_1 xB xpa xsp xwh xhe xho xtk → ∀ (H : Heap) (locs : List Loc), va_P D classes (md_w q cI cZ xth xB xsh xcu xtp xtd xpa xsp xwh xhe xho vt xto xwa xmn) H → va_D A (md_w q cI cZ xth xB xsh xcu xtp xtd xpa xsp xwh xhe xho vt xto xwa xmn) → va_S A s.heap H locs → ∀ (ls : Array Slot), lv_has ls 4 [(0, .ref (q 0)), (1, .int 1), (2, .int (nI k))] → W p l e R s m args below meth c H locs 0 0 Q (F0 m 2 ls []) := by
    intro fu
    induction fu with
    | zero =>
      intro k vt h1 h2
      exact absurd h2 (by omega)
    | succ fu ih2 =>
      intro k vt hk2 hkn2 heq2 H locs hP hD hS ls hl
      refine lv_iload_n hx hb d_MD_findTaken_2 rfl (lv_at hl 2 rfl) ?_
      refine lv_bipush (v := 24) hx hb d_MD_findTaken_3 (by decide) ?_
      refine lv_icmp_ge (tgt := 21) hx hb d_MD_findTaken_5 (by decide) (fun c_1 => ?_) (fun c_1 => ?_)
      · refine lv_iconst (v := 0) hx hb d_MD_findTaken_21 (by decide) ?_
        refine lv_istore_n (lv' := [(2, .int 0), (0, .ref (q 0)), (1, .int 1)]) hx hb d_MD_findTaken_22 rfl hl (by decide) rfl (fun ls hl => ?_)
        have loop23 : ∀ (fukr kr : Nat) (wt : (Nat → Int32)) (wxpa : (Nat → Int32)) (wxsp : Int32) (wxwh : Int32) (wxhe : (Nat → Int32)) (wxho : Int32), kr ≤ 12 → kr + fukr = 12 + 1 → f_MD_findTaken_1_l23 xB fukr kr wt wxpa wxsp wxwh wxhe wxho = f_MD_findTaken_1 xB xpa xsp xwh xhe xho xtk → ∀ (H : Heap) (locs : List Loc), va_P D classes (md_w q cI cZ xth xB xsh xcu xtp xtd wxpa wxsp wxwh wxhe wxho wt xto xwa xmn) H → va_D A (md_w q cI cZ xth xB xsh xcu xtp xtd wxpa wxsp wxwh wxhe wxho wt xto xwa xmn) → va_S A s.heap H locs → ∀ (ls : Array Slot), lv_has ls 4 [(0, .ref (q 0)), (1, .int 1), (2, .int (nI kr))] → W p l e R s m args below meth c H locs 0 0 Q (F0 m 23 ls []) := by
          intro fukr
          induction fukr with
          | zero =>
            intro kr wt wxpa wxsp wxwh wxhe wxho h1 h2
            exact absurd h2 (by omega)
          | succ fukr ih23 =>
            intro kr wt wxpa wxsp wxwh wxhe wxho hk23 hkn23 heq23 H locs hP hD hS ls hl
            refine lv_iload_n hx hb d_MD_findTaken_23 rfl (lv_at hl 2 rfl) ?_
            refine lv_bipush (v := 12) hx hb d_MD_findTaken_24 (by decide) ?_
            refine lv_icmp_ge (tgt := 85) hx hb d_MD_findTaken_26 (by decide) (fun c_2 => ?_) (fun c_2 => ?_)
            · refine lv_iconst (v := 0) hx hb d_MD_findTaken_85 (by decide) ?_
              refine lv_istore_n (lv' := [(2, .int 0), (0, .ref (q 0)), (1, .int 1)]) hx hb d_MD_findTaken_86 rfl hl (by decide) rfl (fun ls hl => ?_)
              refine lv_iconst (v := 0) hx hb d_MD_findTaken_87 (by decide) ?_
              refine lv_istore_n (lv' := [(3, .int 0), (2, .int 0), (0, .ref (q 0)), (1, .int 1)]) hx hb d_MD_findTaken_88 rfl hl (by decide) rfl (fun ls hl => ?_)
              have loop89 : ∀ (fukp kp : Nat) (vc : Int32), kp ≤ 16 → kp + fukp = 16 + 1 → f_MD_findTaken_1_l89 wt wxpa wxsp wxwh wxhe wxho fukp kp vc = f_MD_findTaken_1 xB xpa xsp xwh xhe xho xtk → ∀ (H : Heap) (locs : List Loc), va_P D classes (md_w q cI cZ xth xB xsh xcu xtp xtd wxpa wxsp wxwh wxhe wxho wt xto xwa xmn) H → va_D A (md_w q cI cZ xth xB xsh xcu xtp xtd wxpa wxsp wxwh wxhe wxho wt xto xwa xmn) → va_S A s.heap H locs → ∀ (ls : Array Slot), lv_has ls 4 [(0, .ref (q 0)), (1, .int 1), (2, .int vc), (3, .int (nI kp))] → W p l e R s m args below meth c H locs 0 0 Q (F0 m 89 ls []) := by
                intro fukp
                induction fukp with
                | zero =>
                  intro kp vc h1 h2
                  exact absurd h2 (by omega)
                | succ fukp ih89 =>
                  intro kp vc hk89 hkn89 heq89 H locs hP hD hS ls hl
                  refine lv_iload_n hx hb d_MD_findTaken_89 rfl (lv_at hl 3 rfl) ?_
                  refine lv_iload_n hx hb d_MD_findTaken_90 rfl (lv_at hl 1 rfl) ?_
                  refine sf_callSr (S := Unit) (rest := [.int (nI kp)]) ⟨hx, hb, hml, hown, hts⟩ (c_MD_places_1 l D cI cZ cJ) (sf_cwS lk_MD_80 hts (fun _ h => h) (by rw [hR]; exact ⟨Nat.le_of_ble_eq_true rfl, Nat.le_of_ble_eq_true rfl⟩)) hK hP hD hS hA [] rfl rfl (fun _ => rfl) rfl rfl hl.1 (Nat.le_of_ble_eq_true rfl) d_MD_findTaken_91 ⟨Nat.zero_le _, Nat.zero_le _⟩ (fun u H locs hu hP hS => ?_)
                  refine lv_icmp_ge (tgt := 120) hx hb d_MD_findTaken_94 (by decide) (fun c_3 => ?_) (fun c_3 => ?_)
                  · refine lv_iload_n hx hb d_MD_findTaken_120 rfl (lv_at hl 2 rfl) ?_
                    rw [hQ]
                    exact sf_iret (vc, wt, wxpa, wxsp, wxwh, wxhe, wxho) hx hb hr hlk hS rfl rfl (by rw [← heq89]; simp only [f_MD_findTaken_1_l89, eq_true c_3, ↓reduceIte]) hP d_MD_findTaken_121
                  · have hlt : kp < 16 := sf_lt_of (N := 16) (by omega) (by omega) c_3
                    refine lv_iload_n hx hb d_MD_findTaken_97 rfl (lv_at hl 2 rfl) ?_
                    refine lv_aload_n hx hb d_MD_findTaken_98 rfl (lv_at hl 0 rfl) ?_
                    refine va_get (D := D) (ci := 3) (v := .ref (q 5)) (C := R_MD) (T := F_MD) (N := 15) hx hb hts i_MD hown hK hP 0 rfl rfl 11 (by decide) (hts _ wd_586) (fun _ h9 => h9) rfl d_MD_findTaken_99 ?_
                    refine lv_iload_n hx hb d_MD_findTaken_102 rfl (lv_at hl 3 rfl) ?_
                    refine va_zald hx hb hK hP 5 1 rfl rfl (show vp_in (nI kp) 24 from vp_in_nI (n := kp) (by omega) (by omega)) d_MD_findTaken_103 ?_
                    rw [show ((nI kp) : Int32).toNatClampNeg = kp from nI_clamp (n := kp) (by omega)]
                    refine lv_if_eq (tgt := 111) hx hb d_MD_findTaken_104 (by decide) (fun c_4 => ?_) (fun c_4 => ?_)
                    · refine lv_iconst (v := 1) hx hb d_MD_findTaken_111 (by decide) ?_
                      refine lv_iadd hx hb d_MD_findTaken_112 ?_
                      refine lv_istore_n (lv' := [(2, .int (vc + 1)), (0, .ref (q 0)), (1, .int 1), (3, .int (nI kp))]) hx hb d_MD_findTaken_113 rfl hl (by decide) rfl (fun ls hl => ?_)
                      refine lv_iinc (v := (nI (kp + 1))) (lv' := [(3, .int (nI (kp + 1))), (2, .int (vc + 1)), (0, .ref (q 0)), (1, .int 1)]) hx hb d_MD_findTaken_114 hl (k := 3) rfl (nI_1 kp) (by decide) rfl (fun ls hl => ?_)
                      refine lv_goto (tgt := 89) hx hb d_MD_findTaken_117 (by decide) ?_
                      exact ih89 (kp + 1) (vc + 1) (by omega) (by omega) (by rw [← heq89]; simp only [f_MD_findTaken_1_l89, eq_false c_3, eq_true c_4, ↓reduceIte]) _ _ hP hD hS ls (lv_sub hl [2, 3, 1, 0] rfl)
                    · refine lv_iconst (v := 0) hx hb d_MD_findTaken_107 (by decide) ?_
                      refine lv_goto (tgt := 112) hx hb d_MD_findTaken_108 (by decide) ?_
                      refine lv_iadd hx hb d_MD_findTaken_112 ?_
                      refine lv_istore_n (lv' := [(2, .int (vc + 0)), (0, .ref (q 0)), (1, .int 1), (3, .int (nI kp))]) hx hb d_MD_findTaken_113 rfl hl (by decide) rfl (fun ls hl => ?_)
                      refine lv_iinc (v := (nI (kp + 1))) (lv' := [(3, .int (nI (kp + 1))), (2, .int (vc + 0)), (0, .ref (q 0)), (1, .int 1)]) hx hb d_MD_findTaken_114 hl (k := 3) rfl (nI_1 kp) (by decide) rfl (fun ls hl => ?_)
                      refine lv_goto (tgt := 89) hx hb d_MD_findTaken_117 (by decide) ?_
                      exact ih89 (kp + 1) (vc + 0) (by omega) (by omega) (by rw [← heq89]; simp only [f_MD_findTaken_1_l89, eq_false c_3, eq_false c_4, ↓reduceIte]) _ _ hP hD hS ls (lv_sub hl [2, 3, 1, 0] rfl)
              exact loop89 (16 + 1) 0 0 (by omega) (by omega) (by rw [← heq23]; simp only [f_MD_findTaken_1_l23, eq_true c_2, ↓reduceIte]) _ _ hP hD hS ls (lv_sub hl [2, 3, 1, 0] rfl)
            · have hlt : kr < 12 := sf_lt_of (N := 12) (by omega) (by omega) c_2
              refine lv_aload_n hx hb d_MD_findTaken_29 rfl (lv_at hl 0 rfl) ?_
              refine lv_iload_n hx hb d_MD_findTaken_30 rfl (lv_at hl 2 rfl) ?_
              refine sf_callVw (S := Int32) (rest := []) ⟨hx, hb, hml, hown, hts⟩ (c_MD_isThere l D cI cZ cJ q xth xB xsh xcu xtp xtd wxpa wxsp wxwh wxhe wxho wt xto xwa xmn kr (by omega)) (sf_cwV lk_MD_95 hts (fun _ h => h) (by rw [hR]; exact ⟨Nat.le_of_ble_eq_true rfl, Nat.le_of_ble_eq_true rfl⟩)) hK hP hD hS hA (fun _ => by simp only [md_w_fst]) (ci := 3) (q0 := 0) rfl rfl rfl rfl rfl hl.1 (Nat.le_of_ble_eq_true rfl) d_MD_findTaken_31 ⟨Nat.zero_le _, Nat.zero_le _⟩ (fun u_5 H locs hu_5 hP hD hS => ?_)
              have hP : va_P D classes (md_w q cI cZ xth xB xsh xcu xtp xtd wxpa wxsp wxwh wxhe wxho wt xto xwa xmn) H := hP
              have hD : va_D A (md_w q cI cZ xth xB xsh xcu xtp xtd wxpa wxsp wxwh wxhe wxho wt xto xwa xmn) := hD
              refine lv_if_eq (tgt := 79) hx hb d_MD_findTaken_34 (by decide) (fun c_6 => ?_) (fun c_6 => ?_)
              · refine lv_iinc (v := (nI (kr + 1))) (lv' := [(2, .int (nI (kr + 1))), (0, .ref (q 0)), (1, .int 1)]) hx hb d_MD_findTaken_79 hl (k := 2) rfl (nI_1 kr) (by decide) rfl (fun ls hl => ?_)
                refine lv_goto (tgt := 23) hx hb d_MD_findTaken_82 (by decide) ?_
                exact ih23 (kr + 1) wt wxpa wxsp wxwh wxhe wxho (by omega) (by omega) (by rw [← heq23]; simp only [f_MD_findTaken_1_l23, ← hu_5, eq_false c_2, eq_true c_6, ↓reduceIte]) _ _ hP hD hS ls (lv_sub hl [1, 2, 0] rfl)
              · refine lv_aload_n hx hb d_MD_findTaken_37 rfl (lv_at hl 0 rfl) ?_
                refine lv_iload_n hx hb d_MD_findTaken_38 rfl (lv_at hl 2 rfl) ?_
                refine sf_callVw (S := Int32) (rest := []) ⟨hx, hb, hml, hown, hts⟩ (c_MD_isSlow l D cI cZ cJ q xth xB xsh xcu xtp xtd wxpa wxsp wxwh wxhe wxho wt xto xwa xmn kr (by omega)) (sf_cwV lk_MD_67 hts (fun _ h => h) (by rw [hR]; exact ⟨Nat.le_of_ble_eq_true rfl, Nat.le_of_ble_eq_true rfl⟩)) hK hP hD hS hA (fun _ => by simp only [md_w_fst]) (ci := 3) (q0 := 0) rfl rfl rfl rfl rfl hl.1 (Nat.le_of_ble_eq_true rfl) d_MD_findTaken_39 ⟨Nat.zero_le _, Nat.zero_le _⟩ (fun u_7 H locs hu_7 hP hD hS => ?_)
                have hP : va_P D classes (md_w q cI cZ xth xB xsh xcu xtp xtd wxpa wxsp wxwh wxhe wxho wt xto xwa xmn) H := hP
                have hD : va_D A (md_w q cI cZ xth xB xsh xcu xtp xtd wxpa wxsp wxwh wxhe wxho wt xto xwa xmn) := hD
                refine lv_iload_n hx hb d_MD_findTaken_42 rfl (lv_at hl 1 rfl) ?_
                refine lv_icmp_ne (tgt := 79) hx hb d_MD_findTaken_43 (by decide) (fun c_8 => ?_) (fun c_8 => ?_)
                · refine lv_iinc (v := (nI (kr + 1))) (lv' := [(2, .int (nI (kr + 1))), (0, .ref (q 0)), (1, .int 1)]) hx hb d_MD_findTaken_79 hl (k := 2) rfl (nI_1 kr) (by decide) rfl (fun ls hl => ?_)
                  refine lv_goto (tgt := 23) hx hb d_MD_findTaken_82 (by decide) ?_
                  exact ih23 (kr + 1) wt wxpa wxsp wxwh wxhe wxho (by omega) (by omega) (by rw [← heq23]; simp only [f_MD_findTaken_1_l23, ← hu_5, ← hu_7, eq_false c_2, eq_false c_6, eq_false c_8, ↓reduceIte]) _ _ hP hD hS ls (lv_sub hl [1, 2, 0] rfl)
                · refine lv_aload_n hx hb d_MD_findTaken_46 rfl (lv_at hl 0 rfl) ?_
                  refine lv_iload_n hx hb d_MD_findTaken_47 rfl (lv_at hl 2 rfl) ?_
                  refine sf_callVw (S := ((Nat → Int32) × Int32 × Int32 × (Nat → Int32) × Int32)) (rest := []) ⟨hx, hb, hml, hown, hts⟩ (c_MD_go l D cI cZ cJ q xth xB xsh xcu xtp xtd wxpa wxsp wxwh wxhe wxho wt xto xwa xmn kr (by omega)) (sf_cwV lk_MD_91 hts (fun _ h => h) (by rw [hR]; exact ⟨Nat.le_of_ble_eq_true rfl, Nat.le_of_ble_eq_true rfl⟩)) hK hP hD hS hA (fun _ => by simp only [md_w_fst]) (ci := 3) (q0 := 0) rfl rfl rfl rfl rfl hl.1 (Nat.le_of_ble_eq_true rfl) d_MD_findTaken_48 ⟨Nat.zero_le _, Nat.zero_le _⟩ (fun u_9 H locs hu_9 hP hD hS => ?_)
                  have hP : va_P D classes (md_w q cI cZ xth xB xsh xcu xtp xtd u_9.1 u_9.2.1 u_9.2.2.1 u_9.2.2.2.1 u_9.2.2.2.2 wt xto xwa xmn) H := hP
                  have hD : va_D A (md_w q cI cZ xth xB xsh xcu xtp xtd u_9.1 u_9.2.1 u_9.2.2.1 u_9.2.2.2.1 u_9.2.2.2.2 wt xto xwa xmn) := hD
                  obtain ⟨u_10, hu_10⟩ : ∃ z, z = u_9.2.1.toNatClampNeg := ⟨_, rfl⟩
                  obtain ⟨he_u_10, hb_u_10, hp_u_10⟩ := md_GO.steps (r := u_9) (by rw [hu_9]; exact f_MD_go_ok24 _ _ _ _) hu_10
                  rw [he_u_10] at hP hD
                  refine lv_iconst (v := 0) hx hb d_MD_findTaken_51 (by decide) ?_
                  refine lv_istore_n (lv' := [(3, .int 0), (0, .ref (q 0)), (1, .int 1), (2, .int (nI kr))]) hx hb d_MD_findTaken_52 rfl hl (by decide) rfl (fun ls hl => ?_)
                  obtain ⟨u_11, hu_11⟩ : ∃ z, z = (f_MD_findTaken_1_l53 xB wxpa wxhe kr (u_10 + 1) 0 wt) := ⟨_, rfl⟩
                  have loop53 : ∀ (fukk kk : Nat) (yt : (Nat → Int32)), kk ≤ u_10 → kk + fukk = u_10 + 1 → f_MD_findTaken_1_l53 xB wxpa wxhe kr fukk kk yt = u_11 → ∀ (H : Heap) (locs : List Loc), va_P D classes (md_w q cI cZ xth xB xsh xcu xtp xtd u_9.1 (nI u_10) u_9.2.2.1 u_9.2.2.2.1 u_9.2.2.2.2 yt xto xwa xmn) H → va_D A (md_w q cI cZ xth xB xsh xcu xtp xtd u_9.1 (nI u_10) u_9.2.2.1 u_9.2.2.2.1 u_9.2.2.2.2 yt xto xwa xmn) → va_S A s.heap H locs → ∀ (ls : Array Slot), lv_has ls 4 [(0, .ref (q 0)), (1, .int 1), (2, .int (nI kr)), (3, .int (nI kk))] → W p l e R s m args below meth c H locs 0 0 Q (F0 m 53 ls []) := by
                    intro fukk
                    induction fukk with
                    | zero =>
                      intro kk yt h1 h2
                      exact absurd h2 (by omega)
                    | succ fukk ih53 =>
                      intro kk yt hk53 hkn53 heq53 H locs hP hD hS ls hl
                      refine lv_iload_n hx hb d_MD_findTaken_53 rfl (lv_at hl 3 rfl) ?_
                      refine lv_aload_n hx hb d_MD_findTaken_54 rfl (lv_at hl 0 rfl) ?_
                      refine va_get (D := D) (ci := 3) (v := .int (nI u_10)) (C := R_MD) (T := F_MD) (N := 15) hx hb hts i_MD hown hK hP 0 rfl rfl 7 (by decide) (hts _ wd_582) (fun _ h9 => h9) rfl d_MD_findTaken_55 ?_
                      refine lv_icmp_ge (tgt := 79) hx hb d_MD_findTaken_58 (by decide) (fun c_12 => ?_) (fun c_12 => ?_)
                      · skip
                        have hv53 : yt = u_11 := by rw [← heq53]; simp only [f_MD_findTaken_1_l53, ← hu_5, ← hu_7, ← hu_9, ← hu_10, eq_true c_12, ↓reduceIte]
                        have hv53_0 : yt = u_11 := hv53
                        rw [hv53_0] at hP hD
                        have hke53 : kk = u_10 := sf_eq_of (N := u_10) (by omega) (by omega) hk53 c_12
                        try rw [hke53] at hP
                        try rw [hke53] at hD
                        try rw [hke53] at hl
                        refine lv_iinc (v := (nI (kr + 1))) (lv' := [(2, .int (nI (kr + 1))), (0, .ref (q 0)), (1, .int 1), (3, .int (nI u_10))]) hx hb d_MD_findTaken_79 hl (k := 2) rfl (nI_1 kr) (by decide) rfl (fun ls hl => ?_)
                        refine lv_goto (tgt := 23) hx hb d_MD_findTaken_82 (by decide) ?_
                        exact ih23 (kr + 1) u_11 u_9.1 (nI u_10) u_9.2.2.1 u_9.2.2.2.1 u_9.2.2.2.2 (by omega) (by omega) (by rw [← heq23]; simp only [f_MD_findTaken_1_l23, ← hu_5, ← hu_7, ← hu_9, ← hu_10, ← hu_11, eq_false c_2, eq_false c_6, eq_true c_8, ↓reduceIte]) _ _ hP hD hS ls (lv_sub hl [1, 2, 0] rfl)
                      · have hlt : kk < u_10 := sf_lt_of (N := u_10) (by omega) (by omega) c_12
                        refine lv_aload_n hx hb d_MD_findTaken_61 rfl (lv_at hl 0 rfl) ?_
                        refine va_get (D := D) (ci := 3) (v := .ref (q 5)) (C := R_MD) (T := F_MD) (N := 15) hx hb hts i_MD hown hK hP 0 rfl rfl 11 (by decide) (hts _ wd_586) (fun _ h9 => h9) rfl d_MD_findTaken_62 ?_
                        refine lv_aload_n hx hb d_MD_findTaken_65 rfl (lv_at hl 0 rfl) ?_
                        refine va_get (D := D) (ci := 3) (v := .ref (q 3)) (C := R_MD) (T := F_MD) (N := 15) hx hb hts i_MD hown hK hP 0 rfl rfl 6 (by decide) (hts _ wd_581) (fun _ h9 => h9) rfl d_MD_findTaken_66 ?_
                        refine lv_iload_n hx hb d_MD_findTaken_69 rfl (lv_at hl 3 rfl) ?_
                        refine va_iald hx hb hK hP 3 0 rfl rfl (show vp_in (nI kk) 3 from vp_in_nI (n := kk) (by omega) (by omega)) d_MD_findTaken_70 ?_
                        rw [show ((nI kk) : Int32).toNatClampNeg = kk from nI_clamp (n := kk) (by omega)]
                        refine lv_iconst (v := 1) hx hb d_MD_findTaken_71 (by decide) ?_
                        refine va_zast hx hb hK hP hD hS 5 1 rfl rfl (hp_u_10 _ hlt) d_MD_findTaken_72 (fun H locs hP hD hS => ?_)
                        rw [sf_nz1] at hP hD
                        have hP : va_P D classes (md_w q cI cZ xth xB xsh xcu xtp xtd u_9.1 (nI u_10) u_9.2.2.1 u_9.2.2.2.1 u_9.2.2.2.2 (upd yt ((u_9.1 kk).toNatClampNeg) 1) xto xwa xmn) H := hP
                        have hD : va_D A (md_w q cI cZ xth xB xsh xcu xtp xtd u_9.1 (nI u_10) u_9.2.2.1 u_9.2.2.2.1 u_9.2.2.2.2 (upd yt ((u_9.1 kk).toNatClampNeg) 1) xto xwa xmn) := hD
                        refine lv_iinc (v := (nI (kk + 1))) (lv' := [(3, .int (nI (kk + 1))), (0, .ref (q 0)), (1, .int 1), (2, .int (nI kr))]) hx hb d_MD_findTaken_73 hl (k := 3) rfl (nI_1 kk) (by decide) rfl (fun ls hl => ?_)
                        refine lv_goto (tgt := 53) hx hb d_MD_findTaken_76 (by decide) ?_
                        exact ih53 (kk + 1) (upd yt ((u_9.1 kk).toNatClampNeg) 1) (by omega) (by omega) (by rw [← heq53]; simp only [f_MD_findTaken_1_l53, ← hu_5, ← hu_7, ← hu_9, ← hu_10, eq_false c_12, ↓reduceIte]) _ _ hP hD hS ls (lv_sub hl [1, 2, 3, 0] rfl)
                  exact loop53 (u_10 + 1) 0 wt (by omega) (by omega) hu_11.symm _ _ hP hD hS ls (lv_sub hl [1, 2, 3, 0] rfl)
        exact loop23 (12 + 1) 0 vt xpa xsp xwh xhe xho (by omega) (by omega) (by rw [← heq2]; simp only [f_MD_findTaken_1_l2, eq_true c_1, ↓reduceIte]) _ _ hP hD hS ls (lv_sub hl [1, 2, 0] rfl)
      · have hlt : k < 24 := sf_lt_of (N := 24) (by omega) (by omega) c_1
        refine lv_aload_n hx hb d_MD_findTaken_8 rfl (lv_at hl 0 rfl) ?_
        refine va_get (D := D) (ci := 3) (v := .ref (q 5)) (C := R_MD) (T := F_MD) (N := 15) hx hb hts i_MD hown hK hP 0 rfl rfl 11 (by decide) (hts _ wd_586) (fun _ h9 => h9) rfl d_MD_findTaken_9 ?_
        refine lv_iload_n hx hb d_MD_findTaken_12 rfl (lv_at hl 2 rfl) ?_
        refine lv_iconst (v := 0) hx hb d_MD_findTaken_13 (by decide) ?_
        refine va_zast hx hb hK hP hD hS 5 1 rfl rfl (show vp_in (nI k) 24 from vp_in_nI (n := k) (by omega) (by omega)) d_MD_findTaken_14 (fun H locs hP hD hS => ?_)
        rw [show ((nI k) : Int32).toNatClampNeg = k from nI_clamp (n := k) (by omega)] at hP hD
        rw [sf_nz0] at hP hD
        have hP : va_P D classes (md_w q cI cZ xth xB xsh xcu xtp xtd xpa xsp xwh xhe xho (upd vt k 0) xto xwa xmn) H := hP
        have hD : va_D A (md_w q cI cZ xth xB xsh xcu xtp xtd xpa xsp xwh xhe xho (upd vt k 0) xto xwa xmn) := hD
        refine lv_iinc (v := (nI (k + 1))) (lv' := [(2, .int (nI (k + 1))), (0, .ref (q 0)), (1, .int 1)]) hx hb d_MD_findTaken_15 hl (k := 2) rfl (nI_1 k) (by decide) rfl (fun ls hl => ?_)
        refine lv_goto (tgt := 2) hx hb d_MD_findTaken_18 (by decide) ?_
        exact ih2 (k + 1) (upd vt k 0) (by omega) (by omega) (by rw [← heq2]; simp only [f_MD_findTaken_1_l2, eq_false c_1, ↓reduceIte]) _ _ hP hD hS ls (lv_sub hl [1, 2, 0] rfl)
  exact loop2 (24 + 1) 0 xtk (by omega) (by omega) (by simp only [f_MD_findTaken_1, ↓reduceIte]) _ _ hP hD hS ls (lv_sub hl [1, 2, 0] rfl)
