theorem d_LW_law_39 : decode code 39 = .ok (.tableswitch 778 0 11 #[61, 161, 229, 285, 341, 377, 390, 458, 526, 582, 650, 718], 61) := by decide +kernel
set_option maxHeartbeats 4000000 in
set_option maxRecDepth 100000 in
theorem law_end {p : Program} {l : Launch} {e : Env} {s : State} {m : MethodId} {below : List Frame} {meth : Method} {c : Code} {b L : Nat} {xs : Nat → Int32} {D : va_G} {cI cZ cJ : ClassId} {q r : Nat → Nat} {a : Nat} (hL : L ≤ 4) (C0 : lw_At p s m meth c b L xs) (hst : l.stackTraces = false) (hE : sf_EX (fun z : Nat => s.heap.size ≤ z) s s.heap) (hN : lw_NC s) (hK : va_K D classes (sf_tys cI cZ cJ) s) (j : Nat) (h1 : 4 * j ≤ L) (h0 : 1 ≤ j) (fl : Nat → Int32) (sl : Nat → Int32) (tb : Nat → Int32) (np : Nat → Int32) (nt : Nat → Int32) (cp : Nat → Int32) (cc : Int32) (cb : Int32) (ch : Int32) (cm : Int32) (mp : Nat → Int32) (mc : Int32) (mb : Int32) (mh : Int32) (mm : Int32) (us : Nat → Int32) (ta : Nat → Int32) (tp : Nat → Int32) (tl : Int32) (cu : Int32) (bl : Int32) (pf : Int32) (sh : Int32) (xth : Int32) (xB : Nat → Int32) (xsh : Int32) (xcu : Int32) (xtp : Nat → Int32) (xpa : Nat → Int32) (xsp : Int32) (xwh : Int32) (xhe : Nat → Int32) (xho : Int32) (xtk : Nat → Int32) (xto : Nat → Int32) (xwa : Nat → Int32) (xmn : Int32) (fo : Nat → Int64) (td : Nat) (H : Heap) (locs : List Loc) (hP : va_P D classes (lw_x q a cI cZ cJ fl sl tb np nt cp cc cb ch cm mp mc mb mh mm us ta tp tl cu bl pf sh fo ++ md_w r cI cZ xth xB xsh xcu xtp (nI td) xpa xsp xwh xhe xho xtk xto xwa xmn) H) (hD : va_D (fun z : Nat => s.heap.size ≤ z) (lw_x q a cI cZ cJ fl sl tb np nt cp cc cb ch cm mp mc mb mh mm us ta tp tl cu bl pf sh fo ++ md_w r cI cZ xth xB xsh xcu xtp (nI td) xpa xsp xwh xhe xho xtk xto xwa xmn)) (hS : va_S (fun z : Nat => s.heap.size ≤ z) s.heap H locs) (ls : Array Slot) (hl : lv_has ls 7 [(0, .ref b), (1, .ref (q 0)), (2, .ref (r 0)), (3, .ref a), (4, .int (nI (4 * j)))]) : W p l e room_1 s m #[Value.ref b] below meth c H locs (27 + j) (3370 + 6 * j) (lw_Z below #[Value.ref b] s) (F0 m 23 ls []) := by
  obtain ⟨hx, hb, hr, hml, hown, hts0, hX, hbl, hlocks, hgv⟩ := id C0
  have hts : ∀ w ∈ sf_tb, w.before #[Value.ref b] s = true := fun w h => hts0 w (sf_sub w h)
  have hA : ∀ z : Nat, s.heap.size ≤ z → (fun z : Nat => s.heap.size ≤ z) z := fun _ h => h
  have hbA : ¬ (fun z : Nat => s.heap.size ≤ z) b := Nat.not_le.mpr hbl
  refine lv_iload hx hb d_LW_law_23 (lv_at hl 4 rfl) ?_
  refine lv_aload_n hx hb d_LW_law_25 rfl (lv_at hl 0 rfl) ?_
  refine va_slen hx hb hX hbl hbA hS d_LW_law_26 ?_
  refine lv_iconst (v := 4) hx hb d_LW_law_27 (by decide) ?_
  refine lv_isub hx hb d_LW_law_28 ?_
  refine lv_icmp_gt (tgt := 823) hx hb d_LW_law_29 (by decide) (fun c1 => ?_) (fun c1 => ?_)
  · refine lv_iconst (v := 1) hx hb d_LW_law_823 (by decide) ?_
    refine va_forget (fun z hz => hS.2.2 z hz) ?_
    refine W.widen (k := 600002) (n := 7302232) (by omega) (by omega) ?_
    exact lw_ret hx hb hr hlocks d_LW_law_824
  · exact absurd (lw_hj (by omega) h1 c1) (by omega)
set_option maxHeartbeats 4000000 in
set_option maxRecDepth 100000 in
theorem law_loop {p : Program} {l : Launch} {e : Env} {s : State} {m : MethodId} {below : List Frame} {meth : Method} {c : Code} {b L : Nat} {xs : Nat → Int32} {D : va_G} {cI cZ cJ : ClassId} {q r : Nat → Nat} {a : Nat} (hL : L ≤ 4) (C0 : lw_At p s m meth c b L xs) (hst : l.stackTraces = false) (hE : sf_EX (fun z : Nat => s.heap.size ≤ z) s s.heap) (hN : lw_NC s) (hK : va_K D classes (sf_tys cI cZ cJ) s) (j : Nat) (hj0 : j = 0) (H : Heap) (locs : List Loc) (hP : va_P D classes (lw_x q a cI cZ cJ (fun _ => 0) (fun _ => 0) (fun _ => 0) (fun _ => 0) (fun _ => 0) (fun _ => 0) 0 1 0 0 (fun _ => 0) 0 1 0 0 (fun _ => 0) (fun _ => 0) (fun _ => 0) 0 (-1) 0 0 0 (fun _ => 0) ++ md_w r cI cZ 0 (fun _ => 0) 0 (-1) (fun _ => 0) (nI 0) (fun _ => 0) 0 0 (fun _ => 0) 0 (fun _ => 0) (fun _ => 0) (fun _ => 0) 0) H) (hD : va_D (fun z : Nat => s.heap.size ≤ z) (lw_x q a cI cZ cJ (fun _ => 0) (fun _ => 0) (fun _ => 0) (fun _ => 0) (fun _ => 0) (fun _ => 0) 0 1 0 0 (fun _ => 0) 0 1 0 0 (fun _ => 0) (fun _ => 0) (fun _ => 0) 0 (-1) 0 0 0 (fun _ => 0) ++ md_w r cI cZ 0 (fun _ => 0) 0 (-1) (fun _ => 0) (nI 0) (fun _ => 0) 0 0 (fun _ => 0) 0 (fun _ => 0) (fun _ => 0) (fun _ => 0) 0)) (hS : va_S (fun z : Nat => s.heap.size ≤ z) s.heap H locs) (ls : Array Slot) (hl : lv_has ls 7 [(0, .ref b), (1, .ref (q 0)), (2, .ref (r 0)), (3, .ref a), (4, .int (nI (4 * j)))]) : W p l e room_1 s m #[Value.ref b] below meth c H locs (27 + j) (3370 + 6 * j) (lw_Z below #[Value.ref b] s) (F0 m 23 ls []) := by
  obtain ⟨hx, hb, hr, hml, hown, hts0, hX, hbl, hlocks, hgv⟩ := id C0
  have hts : ∀ w ∈ sf_tb, w.before #[Value.ref b] s = true := fun w h => hts0 w (sf_sub w h)
  have hA : ∀ z : Nat, s.heap.size ≤ z → (fun z : Nat => s.heap.size ≤ z) z := fun _ h => h
  have hbA : ¬ (fun z : Nat => s.heap.size ≤ z) b := Nat.not_le.mpr hbl
  refine lv_iload hx hb d_LW_law_23 (lv_at hl 4 rfl) ?_
  refine lv_aload_n hx hb d_LW_law_25 rfl (lv_at hl 0 rfl) ?_
  refine va_slen hx hb hX hbl hbA hS d_LW_law_26 ?_
  refine lv_iconst (v := 4) hx hb d_LW_law_27 (by decide) ?_
  refine lv_isub hx hb d_LW_law_28 ?_
  refine lv_icmp_gt (tgt := 823) hx hb d_LW_law_29 (by decide) (fun c1 => ?_) (fun c1 => ?_)
  · refine lv_iconst (v := 1) hx hb d_LW_law_823 (by decide) ?_
    refine va_forget (fun z hz => hS.2.2 z hz) ?_
    refine W.widen (k := 600002) (n := 7302232) (by omega) (by omega) ?_
    exact lw_ret hx hb hr hlocks d_LW_law_824
  · have hj : 4 * j + 4 ≤ L := lw_hj (by omega) (by omega) c1
    refine lv_aload_n hx hb d_LW_law_32 rfl (lv_at hl 0 rfl) ?_
    refine lv_iload hx hb d_LW_law_33 (lv_at hl 4 rfl) ?_
    refine va_sld hx hb hX hbl hbA hS (show vp_in (nI (4 * j)) L from vp_in_nI (n := 4 * j) (by omega) (by omega)) d_LW_law_35 ?_
    refine lv_bipush (v := 15) hx hb d_LW_law_36 (by decide) ?_
    refine lv_iand hx hb d_LW_law_38 ?_
    obtain ⟨ko, hko, eko⟩ := pk_andE (xs (nI (4 * j)).toNatClampNeg) (m := 15) 4 (by decide)
    rw [eko]
    have next : ∀ (fl : Nat → Int32) (sl : Nat → Int32) (tb : Nat → Int32) (np : Nat → Int32) (nt : Nat → Int32) (cp : Nat → Int32) (cc : Int32) (cb : Int32) (ch : Int32) (cm : Int32) (mp : Nat → Int32) (mc : Int32) (mb : Int32) (mh : Int32) (mm : Int32) (us : Nat → Int32) (ta : Nat → Int32) (tp : Nat → Int32) (tl : Int32) (cu : Int32) (bl : Int32) (pf : Int32) (sh : Int32) (xth : Int32) (xB : Nat → Int32) (xsh : Int32) (xcu : Int32) (xtp : Nat → Int32) (xpa : Nat → Int32) (xsp : Int32) (xwh : Int32) (xhe : Nat → Int32) (xho : Int32) (xtk : Nat → Int32) (xto : Nat → Int32) (xwa : Nat → Int32) (xmn : Int32) (fo : Nat → Int64) (td : Nat), td ≤ 60 → ∀ (H : Heap) (locs : List Loc), va_P D classes (lw_x q a cI cZ cJ fl sl tb np nt cp cc cb ch cm mp mc mb mh mm us ta tp tl cu bl pf sh fo ++ md_w r cI cZ xth xB xsh xcu xtp (nI td) xpa xsp xwh xhe xho xtk xto xwa xmn) H → va_D (fun z : Nat => s.heap.size ≤ z) (lw_x q a cI cZ cJ fl sl tb np nt cp cc cb ch cm mp mc mb mh mm us ta tp tl cu bl pf sh fo ++ md_w r cI cZ xth xB xsh xcu xtp (nI td) xpa xsp xwh xhe xho xtk xto xwa xmn) → va_S (fun z : Nat => s.heap.size ≤ z) s.heap H locs → ∀ (ls : Array Slot), lv_has ls 7 [(0, .ref b), (1, .ref (q 0)), (2, .ref (r 0)), (3, .ref a), (4, .int (nI (4 * j)))] → W p l e room_1 s m #[Value.ref b] below meth c H locs (27 + (j + 1)) (3370 + 6 * (j + 1)) (lw_Z below #[Value.ref b] s) (F0 m 817 ls []) := by
      intro fl sl tb np nt cp cc cb ch cm mp mc mb mh mm us ta tp tl cu bl pf sh xth xB xsh xcu xtp xpa xsp xwh xhe xho xtk xto xwa xmn fo td htd H locs hP hD hS ls hl
      refine lv_iinc (v := (nI (4 * (j + 1)))) (lv' := [(4, .int (nI (4 * (j + 1)))), (0, .ref b), (1, .ref (q 0)), (2, .ref (r 0)), (3, .ref a)]) hx hb d_LW_law_817 hl (k := 4) rfl (nI_add (4 * j) 4) (by decide) rfl (fun ls hl => ?_)
      refine lv_goto (tgt := 23) hx hb d_LW_law_820 (by decide) ?_
      exact law_end hL C0 hst hE hN hK (j + 1) (by omega) (by omega) fl sl tb np nt cp cc cb ch cm mp mc mb mh mm us ta tp tl cu bl pf sh xth xB xsh xcu xtp xpa xsp xwh xhe xho xtk xto xwa xmn fo td _ _ hP hD hS ls (lv_sub hl [1, 2, 3, 4, 0] rfl)
    rcases (show ko = 0 ∨ ko = 1 ∨ ko = 2 ∨ ko = 3 ∨ ko = 4 ∨ ko = 5 ∨ ko = 6 ∨ ko = 7 ∨ ko = 8 ∨ ko = 9 ∨ ko = 10 ∨ ko = 11 ∨ 12 ≤ ko by omega) with rfl | rfl | rfl | rfl | rfl | rfl | rfl | rfl | rfl | rfl | rfl | rfl | hko2
    · refine lv_tableIn (tgt := 100) (off := 61) hx hb d_LW_law_39 (by decide) (by decide) (by decide) (by decide) ?_
      exact law_0 hL C0 hst hE hN hK j hj _ _ hP hD hS ls hl next
    · refine lv_tableIn (tgt := 200) (off := 161) hx hb d_LW_law_39 (by decide) (by decide) (by decide) (by decide) ?_
      exact law_1 hL C0 hst hE hN hK j hj _ _ hP hD hS ls hl next
    · refine lv_tableIn (tgt := 268) (off := 229) hx hb d_LW_law_39 (by decide) (by decide) (by decide) (by decide) ?_
      exact law_2 hL C0 hst hE hN hK j hj _ _ hP hD hS ls hl next
    · refine lv_tableIn (tgt := 324) (off := 285) hx hb d_LW_law_39 (by decide) (by decide) (by decide) (by decide) ?_
      exact law_3 hL C0 hst hE hN hK j hj _ _ hP hD hS ls hl next
    · refine lv_tableIn (tgt := 380) (off := 341) hx hb d_LW_law_39 (by decide) (by decide) (by decide) (by decide) ?_
      exact law_4 hL C0 hst hE hN hK j hj _ _ hP hD hS ls hl next
    · refine lv_tableIn (tgt := 416) (off := 377) hx hb d_LW_law_39 (by decide) (by decide) (by decide) (by decide) ?_
      exact law_5 hL C0 hst hE hN hK j hj _ _ hP hD hS ls hl next
    · refine lv_tableIn (tgt := 429) (off := 390) hx hb d_LW_law_39 (by decide) (by decide) (by decide) (by decide) ?_
      exact law_6 hL C0 hst hE hN hK j hj _ _ hP hD hS ls hl next
    · refine lv_tableIn (tgt := 497) (off := 458) hx hb d_LW_law_39 (by decide) (by decide) (by decide) (by decide) ?_
      exact law_7 hL C0 hst hE hN hK j hj _ _ hP hD hS ls hl next
    · refine lv_tableIn (tgt := 565) (off := 526) hx hb d_LW_law_39 (by decide) (by decide) (by decide) (by decide) ?_
      exact law_8 hL C0 hst hE hN hK j hj _ _ hP hD hS ls hl next
    · refine lv_tableIn (tgt := 621) (off := 582) hx hb d_LW_law_39 (by decide) (by decide) (by decide) (by decide) ?_
      exact law_9 hL C0 hst hE hN hK j hj _ _ hP hD hS ls hl next
    · refine lv_tableIn (tgt := 689) (off := 650) hx hb d_LW_law_39 (by decide) (by decide) (by decide) (by decide) ?_
      exact law_10 hL C0 hst hE hN hK j hj _ _ hP hD hS ls hl next
    · refine lv_tableIn (tgt := 757) (off := 718) hx hb d_LW_law_39 (by decide) (by decide) (by decide) (by decide) ?_
      exact law_11 hL C0 hst hE hN hK j hj _ _ hP hD hS ls hl next
    · refine lv_tableOut (tgt := 817) hx hb d_LW_law_39 (Or.inr (by rw [nI_toInt (by omega)]; omega)) (by decide) ?_
      refine W.widen (k := 27 + (j + 1)) (n := 3370 + 6 * (j + 1)) (by omega) (by omega) ?_
      exact next (fun _ => 0) (fun _ => 0) (fun _ => 0) (fun _ => 0) (fun _ => 0) (fun _ => 0) 0 1 0 0 (fun _ => 0) 0 1 0 0 (fun _ => 0) (fun _ => 0) (fun _ => 0) 0 (-1) 0 0 0 0 (fun _ => 0) 0 (-1) (fun _ => 0) (fun _ => 0) 0 0 (fun _ => 0) 0 (fun _ => 0) (fun _ => 0) (fun _ => 0) 0 (fun _ => 0) 0 (by omega) _ _ hP hD hS ls hl
set_option maxHeartbeats 4000000 in
set_option maxRecDepth 100000 in
/-- THE LAW, from its entry -/
theorem whole_start {p : Program} {e : Env} {s : State} {m : MethodId} {below : List Frame} {meth : Method} {c : Code} (l : Launch) (hst : l.stackTraces = false) {b L : Nat} {xs : Nat → Int32} (hL : L ≤ 4) (C0 : lw_At p s m meth c b L xs) : W p l e room_1 s m #[Value.ref b] below meth c s.heap [] 0 0 (lw_Z below #[Value.ref b] s) (entryFrame m ([Value.ref b] : List Value).toArray 7) := by
  obtain ⟨hx, hb, hr, hml, hown, hts0, hX, hbl, hlocks, hgv⟩ := id C0
  have hts : ∀ w ∈ sf_tb, w.before #[Value.ref b] s = true := fun w h => hts0 w (sf_sub w h)
  have hA : ∀ z : Nat, s.heap.size ≤ z → (fun z : Nat => s.heap.size ≤ z) z := fun _ h => h
  have hbA : ¬ (fun z : Nat => s.heap.size ≤ z) b := Nat.not_le.mpr hbl
  have hE : sf_EX (fun z : Nat => s.heap.size ≤ z) s s.heap := lw_EX hts0 hgv
  have hN : lw_NC s := lw_NCs hgv
  obtain ⟨c0, iS0, hKn0⟩ := u_known (C := R_Bl) (T := F_Bl) (N := 2) (n := 2) hts i_Bl (hts _ wd_73)
  obtain ⟨c1, iS1, hKn1⟩ := u_known (C := R_Ch) (T := F_Ch) (N := 5) (n := 5) hts i_Ch (hts _ wd_88)
  obtain ⟨c2, iS2, hKn2⟩ := u_known (C := R_SF) (T := F_SF) (N := 15) (n := 15) hts i_SF (hts _ wd_65)
  obtain ⟨c3, iS3, hKn3⟩ := u_known (C := R_MD) (T := F_MD) (N := 15) (n := 15) hts i_MD (hts _ wd_570)
  obtain ⟨D, hKd⟩ : ∃ D : va_G, ∀ (k : Nat) (z : vw_C), classes[k]? = some z → u_Kn s z.1 z.2.1 z.2.2 (D.1 k) (D.2 k) := by
    refine ⟨(fun k => if k = 0 then c0 else if k = 1 then c1 else if k = 2 then c2 else c3, fun k => if k = 0 then iS0 else if k = 1 then iS1 else if k = 2 then iS2 else iS3), ?_⟩
    intro k z hz
    match k, hz with
    | 0, hz => cases hz; exact hKn0
    | 1, hz => cases hz; exact hKn1
    | 2, hz => cases hz; exact hKn2
    | 3, hz => cases hz; exact hKn3
    | k + 4, hz => simp [classes] at hz
  obtain ⟨cI, hcI⟩ := lw_arr_int (hts _ wd_86)
  obtain ⟨cZ, hcZ⟩ := lw_arr_boolean (hts _ wd_156)
  obtain ⟨cJ, hcJ⟩ := lw_arr_long (hts _ wd_766)
  have hK : va_K D classes (sf_tys cI cZ cJ) s := ⟨hKd, fun k z hz => by
    match k, hz with
    | 0, hz => cases hz; exact hcI
    | 1, hz => cases hz; exact hcZ
    | 2, hz => cases hz; exact hcJ
    | k + 3, hz => simp at hz⟩
  have hS : va_S (fun z : Nat => s.heap.size ≤ z) s.heap s.heap [] := va_S.rf
  have hP : va_P D classes [] s.heap := fun k z h => by simp at h
  have hD : va_D (fun z : Nat => s.heap.size ≤ z) [] := ⟨fun i j x y h => by simp at h, fun k z h => by simp at h⟩
  have hl := lv_entry ([.ref b]) (n := 7) (Nat.le_of_ble_eq_true rfl)
  rw [lg_entry_eq]
  generalize (lg_sl ([.ref b]) ++ List.replicate (7 - (lg_sl ([.ref b])).length) Slot.unset).toArray = ls at hl ⊢
  have hl : lv_has ls 7 [(0, .ref b)] := hl
  refine va_new (ci := 2) (fs := [.null, .null, .null, .null, .null, .null, .null, .null, .null, .null, .int 0, .int 0, .int 0, .int 0, .int 0]) (C := R_SF) (T := F_SF) (N := 15) hx hb hts i_SF t_SF t_SF_ok hown (hts _ wd_64) (hts _ wd_65) (hts _ wd_52) hK hP hD hS hA rfl (fun j hj => by rcases (show j = 0 ∨ j = 1 ∨ j = 2 ∨ j = 3 ∨ j = 4 ∨ j = 5 ∨ j = 6 ∨ j = 7 ∨ j = 8 ∨ j = 9 ∨ j = 10 ∨ j = 11 ∨ j = 12 ∨ j = 13 ∨ j = 14 by omega) with rfl | rfl | rfl | rfl | rfl | rfl | rfl | rfl | rfl | rfl | rfl | rfl | rfl | rfl | rfl <;> rfl) (Nat.le_of_ble_eq_true rfl) (Nat.le_of_ble_eq_true rfl) d_LW_law_0 (fun q0 H hP hD hS => ?_)
  refine lv_dup hx hb d_LW_law_3 rfl ?_
  refine sf_callII (S := (Nat → Nat)) (rest := [.ref q0]) (wr := []) ⟨hx, hb, hml, hown, hts⟩ (c_SF_init l D cI cZ cJ q0) (sf_cwI lk_LW_55 hts (fun _ h => h) ⟨(Nat.le_of_ble_eq_true rfl), (Nat.le_of_ble_eq_true rfl)⟩) hK hP hD hS hA [0] [] rfl rfl rfl rfl (by decide) rfl rfl hl.1 (Nat.le_of_ble_eq_true rfl) d_LW_law_4 ⟨(Nat.le_of_ble_eq_true rfl), (Nat.le_of_ble_eq_true rfl)⟩ (fun q H locs hq0 hP hD hS => ?_)
  have hq0 : q 0 = q0 := hq0
  rw [← hq0]
  have hP : va_P D classes (sf_w q cI cZ (fun _ => 0) (fun _ => 0) (fun _ => 0) (fun _ => 0) (fun _ => 0) (fun _ => 0) 0 1 0 0 (fun _ => 0) 0 1 0 0 (fun _ => 0) (fun _ => 0) (fun _ => 0) 0 (-1) 0 0 0) H := hP
  have hD : va_D (fun z : Nat => s.heap.size ≤ z) (sf_w q cI cZ (fun _ => 0) (fun _ => 0) (fun _ => 0) (fun _ => 0) (fun _ => 0) (fun _ => 0) 0 1 0 0 (fun _ => 0) 0 1 0 0 (fun _ => 0) (fun _ => 0) (fun _ => 0) 0 (-1) 0 0 0) := hD
  refine lv_astore_n (lv' := [(1, .ref (q 0)), (0, .ref b)]) hx hb d_LW_law_7 rfl hl (by decide) rfl (fun ls hl => ?_)
  refine va_new (ci := 3) (fs := [.int 0, .null, .int 0, .int 0, .null, .int 0, .null, .int 0, .int 0, .null, .int 0, .null, .null, .null, .int 0]) (C := R_MD) (T := F_MD) (N := 15) hx hb hts i_MD t_MD t_MD_ok hown (hts _ wd_569) (hts _ wd_570) (hts _ wd_55) hK hP hD hS hA rfl (fun j hj => by rcases (show j = 0 ∨ j = 1 ∨ j = 2 ∨ j = 3 ∨ j = 4 ∨ j = 5 ∨ j = 6 ∨ j = 7 ∨ j = 8 ∨ j = 9 ∨ j = 10 ∨ j = 11 ∨ j = 12 ∨ j = 13 ∨ j = 14 by omega) with rfl | rfl | rfl | rfl | rfl | rfl | rfl | rfl | rfl | rfl | rfl | rfl | rfl | rfl | rfl <;> rfl) (Nat.le_of_ble_eq_true rfl) (Nat.le_of_ble_eq_true rfl) d_LW_law_8 (fun r0 H hP hD hS => ?_)
  refine lv_dup hx hb d_LW_law_11 rfl ?_
  refine sf_callII (S := (Nat → Nat)) (rest := [.ref r0]) (wr := (sf_w q cI cZ (fun _ => 0) (fun _ => 0) (fun _ => 0) (fun _ => 0) (fun _ => 0) (fun _ => 0) 0 1 0 0 (fun _ => 0) 0 1 0 0 (fun _ => 0) (fun _ => 0) (fun _ => 0) 0 (-1) 0 0 0)) ⟨hx, hb, hml, hown, hts⟩ (c_MD_init l D cI cZ cJ r0) (sf_cwI lk_LW_58 hts (fun _ h => h) ⟨(Nat.le_of_ble_eq_true rfl), (Nat.le_of_ble_eq_true rfl)⟩) hK hP hD hS hA [18] [0, 1, 2, 3, 4, 5, 6, 7, 8, 9, 10, 11, 12, 13, 14, 15, 16, 17] rfl rfl rfl rfl (by decide) rfl rfl hl.1 (Nat.le_of_ble_eq_true rfl) d_LW_law_12 ⟨(Nat.le_of_ble_eq_true rfl), (Nat.le_of_ble_eq_true rfl)⟩ (fun r H locs hr0 hP hD hS => ?_)
  have hr0 : r 0 = r0 := hr0
  rw [← hr0]
  refine lv_astore_n (lv' := [(2, .ref (r 0)), (1, .ref (q 0)), (0, .ref b)]) hx hb d_LW_law_15 rfl hl (by decide) rfl (fun ls hl => ?_)
  refine lv_iconst (v := 1) hx hb d_LW_law_16 (by decide) ?_
  refine sf_newj hx hb (hts _ wd_766) hK hP hD hS hA 2 rfl 1 rfl (by omega) (by exact (Nat.le_of_ble_eq_true rfl)) (by exact (Nat.le_of_ble_eq_true rfl)) d_LW_law_17 (fun a H hP hD hS => ?_)
  have hP : va_P D classes (lw_x q a cI cZ cJ (fun _ => 0) (fun _ => 0) (fun _ => 0) (fun _ => 0) (fun _ => 0) (fun _ => 0) 0 1 0 0 (fun _ => 0) 0 1 0 0 (fun _ => 0) (fun _ => 0) (fun _ => 0) 0 (-1) 0 0 0 (fun _ => 0) ++ md_w r cI cZ 0 (fun _ => 0) 0 (-1) (fun _ => 0) (nI 0) (fun _ => 0) 0 0 (fun _ => 0) 0 (fun _ => 0) (fun _ => 0) (fun _ => 0) 0) H := sf_Pswap hP
  have hD : va_D (fun z : Nat => s.heap.size ≤ z) (lw_x q a cI cZ cJ (fun _ => 0) (fun _ => 0) (fun _ => 0) (fun _ => 0) (fun _ => 0) (fun _ => 0) 0 1 0 0 (fun _ => 0) 0 1 0 0 (fun _ => 0) (fun _ => 0) (fun _ => 0) 0 (-1) 0 0 0 (fun _ => 0) ++ md_w r cI cZ 0 (fun _ => 0) 0 (-1) (fun _ => 0) (nI 0) (fun _ => 0) 0 0 (fun _ => 0) 0 (fun _ => 0) (fun _ => 0) (fun _ => 0) 0) := sf_Dswap hD
  refine lv_astore_n (lv' := [(3, .ref a), (2, .ref (r 0)), (1, .ref (q 0)), (0, .ref b)]) hx hb d_LW_law_19 rfl hl (by decide) rfl (fun ls hl => ?_)
  refine lv_iconst (v := 0) hx hb d_LW_law_20 (by decide) ?_
  refine lv_istore (lv' := [(4, .int 0), (3, .ref a), (2, .ref (r 0)), (1, .ref (q 0)), (0, .ref b)]) hx hb d_LW_law_21 hl (by decide) rfl (fun ls hl => ?_)
  refine W.widen (k := 27 + 0) (n := 3370 + 6 * 0) (by omega) (by omega) ?_
  exact law_loop hL C0 hst hE hN hK 0 rfl _ _ hP hD hS ls (lv_sub hl [4, 3, 2, 1, 0] rfl)
set_option maxHeartbeats 4000000 in
theorem lw_walk (l : Launch) (hst : l.stackTraces = false) (b : Addr) (xs : List Int32) : MetFree l x (headSpec (Jvm.Cond.code x code maxLocals ret :: tables_1) room_1) (lw_P b xs) (fun _ _ _ _ _ => True) lw_Q := by
  refine MetFree.of_bodyS (code := code) (maxLocals := maxLocals) (ret := ret) (by decide) ?_ ?_
  · intro args s m h hn
    obtain ⟨meth, c, h1, h2, h3, h4, h5, h6, -, -⟩ := Cond.code_spec hn (atoms_spec (ws := Jvm.Cond.code x code maxLocals ret :: tables_1) h _ List.mem_cons_self)
    exact ⟨meth, c, h1, h2, h3, h4, h5, h6⟩
  · intro p e s m args below meth c s₁ B hml0 hP _
    obtain ⟨rfl, hx, hbd, hgv⟩ := hP
    obtain ⟨scr, harrAt, hlist, hof, hsmall⟩ := hx
    obtain ⟨hcb, hkn, -, -⟩ := State.arrayAt?_spec harrAt
    have hown : s.vm.findClass R_law = some m.cls := findClass_of_methodNamed B.named
    have hts0 : ∀ c ∈ (Jvm.Cond.code x code maxLocals ret :: tables_1), c.before #[Value.ref b] s = true := atoms_spec (ws := Jvm.Cond.code x code maxLocals ret :: tables_1) B.pre
    have hts : ∀ w ∈ lw_tbl, w.before #[Value.ref b] s = true := k2_hts_sels lw_privs (fun w hw => hts0 w (List.mem_cons_of_mem _ hw)) lw_privs_ok
    have hml : c.maxLocals = 7 := B.maxLocals_eq (hts0 _ List.mem_cons_self)
    have X₀ : Stand p l e room_1 s m #[Value.ref b] below meth c s₁ [] 0 0 := Stand.of_body B
    have hh0 : s₁.heap = s.heap := by rw [B.state]; rfl
    have hsz : scr.slots.size = xs.length := by rw [← Array.length_toList, hlist, List.length_map]
    have hval : ∀ j : Nat, j < xs.length → scr.slots[j]? = some (.int (xs.getD j 0)) := fun j hj => by
      rw [← Array.getElem?_toList, hlist]
      simp [hj]
    have hbl : b < s.heap.size := (Array.getElem?_eq_some_iff.mp hcb).1
    have hX : va_X b xs.length (fun j => xs.getD j 0) s s.heap := ⟨scr, hcb, hof, hkn, hsz, hval⟩
    have K : W p l e room_1 s m #[Value.ref b] below meth c s₁.heap [] 0 0 (lw_Z below #[Value.ref b] s) (entryFrame m ([Value.ref b] : List Value).toArray 7) := by
      rw [hh0]
      exact whole_start l hst hbd ⟨B.exec, B.bytes, B.returns, hml, hown, hts, hX, hbl, B.notSynchronized, hgv⟩
    obtain ⟨t, a1, o, b1, b2, b3⟩ := K s₁ rfl X₀
    exact ⟨t, o, a1, b1, b2, b3⟩
theorem lw_pre_spec {args : Array Value} {s : State} (h : (Jvm.Cond.and given_1 narrow_1).before args s = true) (hr : rest_1_c.before args s = true) : ∃ (b : Addr) (xs : List Int32), lw_P b xs args s := by
  have hs := flat_of_before _ h
  have hq := flat_of_before _ hr
  have hc : (Cond.count 1).before args s = true := hs _ (by decide +kernel)
  have harr : (Cond.arrayOf (.arg 0) .int).before args s = true := hs _ (by decide +kernel)
  have hle : (Cond.le (.length (.arg 0)) (.int 4)).before args s = true := hs _ (by decide +kernel)
  have hlen : (Cond.isInt (.length (.arg 0))).before args s = true := hq _ (by decide +kernel)
  have hall : (Cond.all (.arg 0) (.isInt (.elem (.arg 0) (.index 0)))).before args s = true := hq _ (by decide +kernel)
  obtain ⟨b, xs, hb, hx⟩ := State.ints_of_pre rfl harr hlen hall
  have hsm : xs.length < 2 ^ 31 := hx.choose_spec.2.2.2
  have hev : (Term.length (.arg 0)).eval args s none [] s = some (.int xs.length.toInt32) := hx.length_eval hb
  have hv := Cond.le_ints hev (show (Term.int 4).eval args s none [] s = some (.int 4) from rfl)
  have hd : xs.length.toInt32 ≤ 4 := by
    simpa [Cond.before, Cond.holds, hv] using hle
  have hN : xs.length ≤ 4 := (Int32.ofNat_le_ofNat hsm (by decide)).mp (show Int32.ofNat xs.length ≤ Int32.ofNat 4 from hd)
  exact ⟨b, xs, Cond.one_arg hc (show args[0]? = some (.ref b) from hb), hx, hN, h⟩
theorem lw_comes (l : Launch) (hst : l.stackTraces = false) : Comes l x (Jvm.Cond.code x code maxLocals ret :: tables_1) room_1 (fun tb e args s => Calls_1 tb e args s ∧ rest_1 tb e args s ∧ Pre_1 tb e args s)
    (fun _ _ args s o t => lw_Q args s o t) := by
  intro p e ha hc hk s m args below hf hfit hheap happ hpre
  obtain ⟨b, xs, hP⟩ := lw_pre_spec hpre.2.2 hpre.2.1
  obtain ⟨k, o, h1, h2, h3, hQ⟩ := lw_walk l hst b xs p e ha hc hk s m args below hf ((Spec.applies_iff_loose hf).mp happ).1 hP trivial
  exact ⟨k, o, h1, h2, h3, hQ⟩
theorem lw_frame {s t : State} {o : Outcome} {args : Array Value} (h : Framed s o t [] 600002 7302232) :
    Framed s o t (fieldLocs frame_1_writes args s ++ arrayLocs frame_1_arrays args s ++ staticLocs frame_1_statics s) 600002 7302232 := h
theorem lw_limb (L : Cond) (hL : ∀ (args : Array Value) (s t : State), L.after args s (.returned (some (.int 1))) t = true) :
    ArmFor flags0 classFile x code maxLocals ret World_1 tables_1 room_1 Calls_1 rest_1 Pre_1
      (fun tb e a s o t => postC L tb e a s o t ∧ Framed s o t (fieldLocs frame_1_writes a s ++ arrayLocs frame_1_arrays a s ++ staticLocs frame_1_statics s) 600002 7302232) := by
  intro l hfl _ _ p e ha hc hk s m args below hf hfit hheap happ hpre
  obtain ⟨k, o, h1, h2, h3, rfl, hF⟩ := lw_comes l (by rw [Launch.stackTraces, hfl]; decide +kernel) p e ha hc hk s m args below hf hfit hheap happ hpre
  exact ⟨k, _, h1, h2, h3, hL args s _, lw_frame hF⟩
theorem i_vc : Claimed_1_1 ∧ Claimed_1_2 := ⟨lw_limb limb_1_1 (fun args s t => by simp [limb_1_1, Cond.after, Cond.holds, Cond.value]), lw_limb limb_1_2 (fun args s t => Cond.after_iff.mpr (by
  first | (rw [show limb_1_2 = Cond.eq .result (.int 1) from rfl, Cond.eq_ints (x := 1) (y := 1) rfl rfl]; simp; done) | (simp [limb_1_2, Cond.value, Term.eval]; done)))⟩
