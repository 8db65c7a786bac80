/-! md9: contracts, with the pure functions that they speak of (printed by wip/gen) -/
set_option maxRecDepth 20000 in
theorem wd_580 : Cond.fieldLink R_MD 114 "ShadowFilesModel" "taped" "I" ∈ sf_tb := sf_tb_in 580 rfl rfl
set_option maxRecDepth 20000 in
theorem wd_579 : Cond.fieldLink R_MD 17 "ShadowFilesModel" "tape" "[I" ∈ sf_tb := sf_tb_in 579 rfl rfl
set_option maxRecDepth 20000 in
theorem wd_636 : Cond.constantLong R_MD 121 (255) ∈ sf_tb := sf_tb_in 636 rfl rfl
set_option maxRecDepth 20000 in
theorem wd_632 : Cond.methodLink R_MD 117 y_MD_throwing ∈ sf_tb := sf_tb_in 632 rfl rfl
set_option maxRecDepth 20000 in
theorem wd_635 : Cond.code y_MD_throwing b_MD_throwing 5 (some .boolean) ∈ sf_tb := sf_tb_in 635 rfl rfl
set_option maxRecDepth 20000 in
theorem wd_634 : Cond.instanceMethod y_MD_throwing ∈ sf_tb := sf_tb_in 634 rfl rfl
set_option maxRecDepth 20000 in
theorem wd_33 : Cond.selects R_MD y_MD_throwing y_MD_throwing ∈ sf_tb := sf_tb_in 33 rfl rfl
set_option maxRecDepth 20000 in
theorem wd_641 : Cond.methodLink R_MD 123 y_MD_findTaken ∈ sf_tb := sf_tb_in 641 rfl rfl
set_option maxRecDepth 20000 in
theorem wd_644 : Cond.code y_MD_findTaken b_MD_findTaken 4 (some .int) ∈ sf_tb := sf_tb_in 644 rfl rfl
set_option maxRecDepth 20000 in
theorem wd_643 : Cond.instanceMethod y_MD_findTaken ∈ sf_tb := sf_tb_in 643 rfl rfl
set_option maxRecDepth 20000 in
theorem wd_34 : Cond.selects R_MD y_MD_findTaken y_MD_findTaken ∈ sf_tb := sf_tb_in 34 rfl rfl
set_option maxRecDepth 20000 in
theorem wd_690 : Cond.methodLink R_MD 126 y_MD_putChain ∈ sf_tb := sf_tb_in 690 rfl rfl
set_option maxRecDepth 20000 in
theorem wd_693 : Cond.code y_MD_putChain b_MD_putChain 11 (some .int) ∈ sf_tb := sf_tb_in 693 rfl rfl
set_option maxRecDepth 20000 in
theorem wd_692 : Cond.instanceMethod y_MD_putChain ∈ sf_tb := sf_tb_in 692 rfl rfl
set_option maxRecDepth 20000 in
theorem wd_43 : Cond.selects R_MD y_MD_putChain y_MD_putChain ∈ sf_tb := sf_tb_in 43 rfl rfl
set_option maxRecDepth 20000 in
theorem wd_706 : Cond.methodLink R_MD 129 y_MD_putTable ∈ sf_tb := sf_tb_in 706 rfl rfl
set_option maxRecDepth 20000 in
theorem wd_709 : Cond.code y_MD_putTable b_MD_putTable 10 none ∈ sf_tb := sf_tb_in 709 rfl rfl
set_option maxRecDepth 20000 in
theorem wd_708 : Cond.instanceMethod y_MD_putTable ∈ sf_tb := sf_tb_in 708 rfl rfl
set_option maxRecDepth 20000 in
theorem wd_47 : Cond.selects R_MD y_MD_putTable y_MD_putTable ∈ sf_tb := sf_tb_in 47 rfl rfl
set_option maxRecDepth 20000 in
theorem wd_710 : Cond.methodLink R_MD 133 y_MD_comes ∈ sf_tb := sf_tb_in 710 rfl rfl
set_option maxRecDepth 20000 in
theorem wd_713 : Cond.code y_MD_comes b_MD_comes 4 (some .boolean) ∈ sf_tb := sf_tb_in 713 rfl rfl
set_option maxRecDepth 20000 in
theorem wd_712 : Cond.instanceMethod y_MD_comes ∈ sf_tb := sf_tb_in 712 rfl rfl
set_option maxRecDepth 20000 in
theorem wd_48 : Cond.selects R_MD y_MD_comes y_MD_comes ∈ sf_tb := sf_tb_in 48 rfl rfl
set_option maxRecDepth 20000 in
theorem wd_722 : Cond.methodLink R_MD 137 y_MD_monthOf ∈ sf_tb := sf_tb_in 722 rfl rfl
set_option maxRecDepth 20000 in
theorem wd_725 : Cond.code y_MD_monthOf b_MD_monthOf 2 (some .int) ∈ sf_tb := sf_tb_in 725 rfl rfl
set_option maxRecDepth 20000 in
theorem wd_724 : Cond.instanceMethod y_MD_monthOf ∈ sf_tb := sf_tb_in 724 rfl rfl
set_option maxRecDepth 20000 in
theorem wd_49 : Cond.selects R_MD y_MD_monthOf y_MD_monthOf ∈ sf_tb := sf_tb_in 49 rfl rfl
set_option maxRecDepth 20000 in
theorem wd_750 : Cond.methodLink R_MD 140 y_MD_isWrong ∈ sf_tb := sf_tb_in 750 rfl rfl
set_option maxRecDepth 20000 in
theorem wd_753 : Cond.code y_MD_isWrong b_MD_isWrong 5 (some .boolean) ∈ sf_tb := sf_tb_in 753 rfl rfl
set_option maxRecDepth 20000 in
theorem wd_752 : Cond.instanceMethod y_MD_isWrong ∈ sf_tb := sf_tb_in 752 rfl rfl
set_option maxRecDepth 20000 in
theorem wd_50 : Cond.selects R_MD y_MD_isWrong y_MD_isWrong ∈ sf_tb := sf_tb_in 50 rfl rfl
set_option maxRecDepth 20000 in
theorem wd_758 : Cond.methodLink R_MD 143 y_MD_where ∈ sf_tb := sf_tb_in 758 rfl rfl
set_option maxRecDepth 20000 in
theorem wd_760 : Cond.code y_MD_where b_MD_where 3 (some .int) ∈ sf_tb := sf_tb_in 760 rfl rfl
set_option maxRecDepth 20000 in
theorem wd_759 : Cond.static y_MD_where ∈ sf_tb := sf_tb_in 759 rfl rfl
theorem lk_MD_117 : sf_LV R_MD 117 y_MD_throwing b_MD_throwing 5 (some .boolean) 4 := ⟨wd_635, wd_632, wd_634, wd_33, wd_55, by decide +kernel⟩
theorem lk_MD_123 : sf_LV R_MD 123 y_MD_findTaken b_MD_findTaken 4 (some .int) 1 := ⟨wd_644, wd_641, wd_643, wd_34, wd_55, by decide +kernel⟩
theorem lk_MD_126 : sf_LV R_MD 126 y_MD_putChain b_MD_putChain 11 (some .int) 2 := ⟨wd_693, wd_690, wd_692, wd_43, wd_55, by decide +kernel⟩
theorem lk_MD_129 : sf_LV R_MD 129 y_MD_putTable b_MD_putTable 10 none 3 := ⟨wd_709, wd_706, wd_708, wd_47, wd_55, by decide +kernel⟩
theorem lk_MD_133 : sf_LV R_MD 133 y_MD_comes b_MD_comes 4 (some .boolean) 0 := ⟨wd_713, wd_710, wd_712, wd_48, wd_55, by decide +kernel⟩
theorem lk_MD_137 : sf_LV R_MD 137 y_MD_monthOf b_MD_monthOf 2 (some .int) 1 := ⟨wd_725, wd_722, wd_724, wd_49, wd_55, by decide +kernel⟩
theorem lk_MD_140 : sf_LV R_MD 140 y_MD_isWrong b_MD_isWrong 5 (some .boolean) 2 := ⟨wd_753, wd_750, wd_752, wd_50, wd_55, by decide +kernel⟩
theorem lk_MD_143 : sf_LS R_MD 143 y_MD_where b_MD_where 3 (some .int) 2 := ⟨wd_760, wd_758, wd_759, wd_55, by decide +kernel⟩
theorem sf_natr {x : Int32} {z : Nat} (hz : z = x.toNatClampNeg) (h : ¬ f_MD_in x 0 11 = 0) : x = nI z ∧ z < 12 := by
  by_cases h1 : x < 0
  · exact absurd (by simp only [f_MD_in, eq_true h1, ↓reduceIte]) h
  · by_cases h2 : 11 < x
    · exact absurd (by simp only [f_MD_in, eq_false h1, eq_true h2, ↓reduceIte]) h
    · obtain ⟨j, hj, rfl⟩ := nI_of h1
      rw [nI_clamp hj] at hz
      subst hz
      have h3 : ¬ nI 11 < nI z := h2
      rw [nI_ltI (by omega) hj] at h3
      exact ⟨rfl, by omega⟩
theorem sf_nm1 {x : Int32} (h : ¬ f_MD_in x 0 11 = 0) : ¬ x = -1 := by
  intro e
  subst e
  exact h (by decide)
theorem sf_nlt0 {x : Int32} (h : 0 ≤ x) : ¬ x < 0 := by
  intro h1
  rw [Int32.lt_iff_toInt_lt] at h1
  rw [Int32.le_iff_toInt_le] at h
  omega
theorem md_GO.row {B : Nat} {r : (Nat → Int32) × Int32 × Int32 × (Nat → Int32) × Int32} {x : Int32} (h : md_GO B r) (h1 : 0 ≤ x) (h2 : x < r.2.2.2.2) : vp_in x 75 := by
  obtain ⟨s, -, -, -, -, y, hy, e, -⟩ := h
  rw [e] at h2
  obtain ⟨j, hj, rfl⟩ := nI_of (sf_nlt0 h1)
  rw [nI_ltI hj (by omega)] at h2
  exact vp_in_nI (by omega) (by omega)
theorem md_GO.holds {B : Nat} {r : (Nat → Int32) × Int32 × Int32 × (Nat → Int32) × Int32} {z : Nat} (h : md_GO B r) (hw : ¬ r.2.2.1 = 0) (hz : z = r.2.2.2.2.toNatClampNeg) : r.2.2.2.2 = nI z ∧ z ≤ 75 ∧ 1 ≤ z := by
  obtain ⟨s, -, -, -, -, y, hy, e, h1⟩ := h
  rw [e, nI_clamp (by omega)] at hz
  subst hz
  exact ⟨e, hy, h1 hw⟩
theorem f_MD_isThrough_l4_ind {vpa vpb : Nat → Int32} {sn : Nat} {zp : Int32} (h : ∀ i, i < sn → vpa i = vpb i) (hs : sn < 2 ^ 31) : ∀ (fu k : Nat) (vi : Int32), k < 2 ^ 31 → f_MD_isThrough_l4 vpa sn zp fu k vi = f_MD_isThrough_l4 vpb sn zp fu k vi := by
  intro fu
  induction fu with
  | zero => intro k vi _; rfl
  | succ fu ih =>
    intro k vi hk
    rw [f_MD_isThrough_l4, f_MD_isThrough_l4]
    by_cases c : nI sn ≤ nI k
    · rw [if_pos c, if_pos c]
    · rw [if_neg c, if_neg c, h k (sf_lt_of hs hk c)]
      have hk2 : k < sn := sf_lt_of hs hk c
      split
      · split <;> exact ih _ _ (by omega)
      · exact ih _ _ (by omega)
theorem f_MD_isThrough_ind {vpa vpb : Nat → Int32} {sn : Nat} {zp : Int32} (h : ∀ i, i < sn → vpa i = vpb i) (hs : sn < 2 ^ 31) : f_MD_isThrough vpa sn zp = f_MD_isThrough vpb sn zp := f_MD_isThrough_l4_ind h hs _ _ _ (by omega)
set_option maxHeartbeats 1000000 in
theorem f_MD_go_l79_0_ind (xB : Nat → Int32) : ∀ (fu k : Nat) (vg vp vmo : Int32) (vpa vpb : Nat → Int32) (vw : Int32) (vhe vhf : Nat → Int32) (hn : Nat), k + fu < 100 → (∀ i, i < k → vpa i = vpb i) → (f_MD_go_l79_0 xB fu k vg vp vmo vpa vw vhe hn).2.2.1 = (f_MD_go_l79_0 xB fu k vg vp vmo vpb vw vhf hn).2.2.1 := by
  intro fu
  induction fu with
  | zero => intros; rfl
  | succ fu ih =>
    intro k vg vp vmo vpa vpb vw vhe vhf hn h1 h2
    have step : ∀ (g z : Int32) (w : Int32) (he hf : Nat → Int32) (n : Nat), (f_MD_go_l79_0 xB fu (k + 1) g z vmo (upd vpa k vp) w he n).2.2.1 = (f_MD_go_l79_0 xB fu (k + 1) g z vmo (upd vpb k vp) w hf n).2.2.1 := by
      intro g z w he hf n
      refine ih (k + 1) g z vmo _ _ w he hf n (by omega) (fun i hi => ?_)
      by_cases e : i = k
      · subst e
        rw [pk_us, pk_us]
      · rw [pk_un e, pk_un e]
        exact h2 i (by omega)
    rw [f_MD_go_l79_0, f_MD_go_l79_0, f_MD_isThrough_ind h2 (by omega)]
    by_cases c1 : vg = 0
    · rw [if_pos c1, if_pos c1]
      split <;> rfl
    rw [if_neg c1, if_neg c1]
    by_cases c2 : vp < 0
    · rw [if_pos c2, if_pos c2]
      split <;> rfl
    rw [if_neg c2, if_neg c2]
    by_cases c3 : (24 : Int32) ≤ vp
    · rw [if_pos c3, if_pos c3]
      split <;> rfl
    rw [if_neg c3, if_neg c3]
    by_cases c4 : (3 : Int32) ≤ nI k
    · rw [if_pos c4, if_pos c4]
      split <;> rfl
    rw [if_neg c4, if_neg c4]
    split
    · split
      · split <;> exact step _ _ _ _ _ _
      · split
        · split <;> exact step _ _ _ _ _ _
        · split
          · split <;> exact step _ _ _ _ _ _
          · split <;> exact step _ _ _ _ _ _
    · split <;> rfl
set_option maxHeartbeats 1000000 in
theorem f_MD_go_l79_1_ind (xB : Nat → Int32) : ∀ (fu k : Nat) (vg vp vmo : Int32) (vpa vpb : Nat → Int32) (vw : Int32) (vhe vhf : Nat → Int32) (hn : Nat), k + fu < 100 → (∀ i, i < k → vpa i = vpb i) → (f_MD_go_l79_1 xB fu k vg vp vmo vpa vw vhe hn).2.2.1 = (f_MD_go_l79_1 xB fu k vg vp vmo vpb vw vhf hn).2.2.1 := by
  intro fu
  induction fu with
  | zero => intros; rfl
  | succ fu ih =>
    intro k vg vp vmo vpa vpb vw vhe vhf hn h1 h2
    have step : ∀ (g z : Int32) (w : Int32) (he hf : Nat → Int32) (n : Nat), (f_MD_go_l79_1 xB fu (k + 1) g z vmo (upd vpa k vp) w he n).2.2.1 = (f_MD_go_l79_1 xB fu (k + 1) g z vmo (upd vpb k vp) w hf n).2.2.1 := by
      intro g z w he hf n
      refine ih (k + 1) g z vmo _ _ w he hf n (by omega) (fun i hi => ?_)
      by_cases e : i = k
      · subst e
        rw [pk_us, pk_us]
      · rw [pk_un e, pk_un e]
        exact h2 i (by omega)
    rw [f_MD_go_l79_1, f_MD_go_l79_1, f_MD_isThrough_ind h2 (by omega)]
    by_cases c1 : vg = 0
    · rw [if_pos c1, if_pos c1]
      split <;> rfl
    rw [if_neg c1, if_neg c1]
    by_cases c2 : vp < 0
    · rw [if_pos c2, if_pos c2]
      split <;> rfl
    rw [if_neg c2, if_neg c2]
    by_cases c3 : (16 : Int32) ≤ vp
    · rw [if_pos c3, if_pos c3]
      split <;> rfl
    rw [if_neg c3, if_neg c3]
    by_cases c4 : (3 : Int32) ≤ nI k
    · rw [if_pos c4, if_pos c4]
      split <;> rfl
    rw [if_neg c4, if_neg c4]
    split
    · split
      · split <;> exact step _ _ _ _ _ _
      · split
        · split <;> exact step _ _ _ _ _ _
        · split
          · split <;> exact step _ _ _ _ _ _
          · split <;> exact step _ _ _ _ _ _
    · split <;> rfl
theorem f_MD_go_ind (xB xpa xpb xhe xhf : Nat → Int32) (ro : Nat) : (f_MD_go xB xpa xhe ro).2.2.1 = (f_MD_go xB xpb xhf ro).2.2.1 := by
  have no : ∀ i, i < 0 → xpa i = xpb i := fun i h => absurd h (by omega)
  unfold f_MD_go
  split
  · split
    · exact f_MD_go_l79_0_ind xB _ _ _ _ _ _ _ _ _ _ _ (by omega) no
    · split <;> exact f_MD_go_l79_0_ind xB _ _ _ _ _ _ _ _ _ _ _ (by omega) no
  · split
    · exact f_MD_go_l79_1_ind xB _ _ _ _ _ _ _ _ _ _ _ (by omega) no
    · split <;> exact f_MD_go_l79_1_ind xB _ _ _ _ _ _ _ _ _ _ _ (by omega) no
theorem md_MO {xB xpa xhe : Nat → Int32} {ro : Nat} {r : Int32 × (Nat → Int32) × Int32 × Int32 × (Nat → Int32) × Int32} (h : r = f_MD_monthOf xB xpa xhe ro) (hne : ¬ r.1 = -1) (xpb xhf : Nat → Int32) : ¬ (f_MD_go xB xpb xhf ro).2.2.1 = 0 := by
  intro hw
  rw [f_MD_go_ind xB xpb xpa xhf xhe ro] at hw
  apply hne
  rw [h]
  unfold f_MD_monthOf
  rw [if_pos hw]
/-- what findTaken answers: how many of the places are free -/
theorem f_MD_findTaken_0_l89_ok (wt wxpa : Nat → Int32) (wxsp wxwh : Int32) (wxhe : Nat → Int32) (wxho : Int32) : ∀ (fu kp n : Nat), kp ≤ 24 → kp + fu = 24 + 1 → f_MD_findTaken_0_l89 wt wxpa wxsp wxwh wxhe wxho fu kp (nI n) = (nI (n + md_nf wt kp (24 - kp)), wt, wxpa, wxsp, wxwh, wxhe, wxho) := by
  intro fu
  induction fu with
  | zero => intro kp n h1 h2; omega
  | succ fu ih =>
    intro kp n h1 h2
    rw [f_MD_findTaken_0_l89]
    by_cases c : (24 : Int32) ≤ nI kp
    · have e : kp = 24 := sf_eq_of (N := 24) (by omega) (by omega) h1 c
      subst e
      rw [if_pos c]
      rfl
    · have hlt : kp < 24 := sf_lt_of (N := 24) (by omega) (by omega) c
      rw [if_neg c]
      have e1 : md_nf wt kp (24 - kp) = (if wt kp = 0 then 1 else 0) + md_nf wt (kp + 1) (24 - (kp + 1)) := by
        rw [show 24 - kp = (24 - (kp + 1)) + 1 by omega]
        rfl
      by_cases d : wt kp = 0
      · rw [if_pos d] at e1 ⊢
        rw [show nI n + 1 = nI (n + 1) from nI_1 n, ih (kp + 1) (n + 1) (by omega) (by omega), e1, Nat.add_assoc]
      · rw [if_neg d] at e1 ⊢
        rw [show nI n + 0 = nI n from nI_add n 0, ih (kp + 1) n (by omega) (by omega), e1, Nat.zero_add]
theorem f_MD_findTaken_0_l23_ok (xB : Nat → Int32) : ∀ (fu kr : Nat) (wt wxpa : Nat → Int32) (wxsp wxwh : Int32) (wxhe : Nat → Int32) (wxho : Int32), kr ≤ 12 → kr + fu = 13 → (f_MD_findTaken_0_l23 xB fu kr wt wxpa wxsp wxwh wxhe wxho).1 = nI (md_nf (f_MD_findTaken_0_l23 xB fu kr wt wxpa wxsp wxwh wxhe wxho).2.1 0 (24 - 0)) := by
  intro fu
  induction fu with
  | zero => intro kr _ _ _ _ _ _ h1 h2; omega
  | succ fu ih =>
    intro kr wt wxpa wxsp wxwh wxhe wxho h1 h2
    rw [f_MD_findTaken_0_l23]
    by_cases c : (12 : Int32) ≤ nI kr
    · rw [if_pos c]
      have e := f_MD_findTaken_0_l89_ok wt wxpa wxsp wxwh wxhe wxho (24 + 1) 0 0 (by omega) (by omega)
      rw [Nat.zero_add] at e
      rw [show (0 : Int32) = nI 0 from rfl, e]
    · have hlt : kr < 12 := sf_lt_of (N := 12) (by omega) (by omega) c
      rw [if_neg c]
      split
      · exact ih _ _ _ _ _ _ _ (by omega) (by omega)
      · split <;> exact ih _ _ _ _ _ _ _ (by omega) (by omega)
theorem f_MD_findTaken_0_l2_ok (xB xpa : Nat → Int32) (xsp xwh : Int32) (xhe : Nat → Int32) (xho : Int32) : ∀ (fu k : Nat) (vt : Nat → Int32), k ≤ 24 → k + fu = 25 → (f_MD_findTaken_0_l2 xB xpa xsp xwh xhe xho fu k vt).1 = nI (md_nf (f_MD_findTaken_0_l2 xB xpa xsp xwh xhe xho fu k vt).2.1 0 (24 - 0)) := by
  intro fu
  induction fu with
  | zero => intro k vt h1 h2; omega
  | succ fu ih =>
    intro k vt h1 h2
    rw [f_MD_findTaken_0_l2]
    by_cases c : (24 : Int32) ≤ nI k
    · rw [if_pos c]
      exact f_MD_findTaken_0_l23_ok xB _ _ _ _ _ _ _ _ (by omega) (by omega)
    · have hlt : k < 24 := sf_lt_of (N := 24) (by omega) (by omega) c
      rw [if_neg c]
      exact ih _ _ (by omega) (by omega)
theorem md_FT0 {xB xpa xhe xtk : Nat → Int32} {xsp xwh xho : Int32} {r : Int32 × (Nat → Int32) × (Nat → Int32) × Int32 × Int32 × (Nat → Int32) × Int32} (h : r = f_MD_findTaken_0 xB xpa xsp xwh xhe xho xtk) : r.1 = nI (md_nf r.2.1 0 (24 - 0)) := by
  rw [h]
  unfold f_MD_findTaken_0
  exact f_MD_findTaken_0_l2_ok xB xpa xsp xwh xhe xho (24 + 1) 0 xtk (by omega) (by omega)
/-- what findTaken answers: how many of the places are free -/
theorem f_MD_findTaken_1_l89_ok (wt wxpa : Nat → Int32) (wxsp wxwh : Int32) (wxhe : Nat → Int32) (wxho : Int32) : ∀ (fu kp n : Nat), kp ≤ 16 → kp + fu = 16 + 1 → f_MD_findTaken_1_l89 wt wxpa wxsp wxwh wxhe wxho fu kp (nI n) = (nI (n + md_nf wt kp (16 - kp)), wt, wxpa, wxsp, wxwh, wxhe, wxho) := by
  intro fu
  induction fu with
  | zero => intro kp n h1 h2; omega
  | succ fu ih =>
    intro kp n h1 h2
    rw [f_MD_findTaken_1_l89]
    by_cases c : (16 : Int32) ≤ nI kp
    · have e : kp = 16 := sf_eq_of (N := 16) (by omega) (by omega) h1 c
      subst e
      rw [if_pos c]
      rfl
    · have hlt : kp < 16 := sf_lt_of (N := 16) (by omega) (by omega) c
      rw [if_neg c]
      have e1 : md_nf wt kp (16 - kp) = (if wt kp = 0 then 1 else 0) + md_nf wt (kp + 1) (16 - (kp + 1)) := by
        rw [show 16 - kp = (16 - (kp + 1)) + 1 by omega]
        rfl
      by_cases d : wt kp = 0
      · rw [if_pos d] at e1 ⊢
        rw [show nI n + 1 = nI (n + 1) from nI_1 n, ih (kp + 1) (n + 1) (by omega) (by omega), e1, Nat.add_assoc]
      · rw [if_neg d] at e1 ⊢
        rw [show nI n + 0 = nI n from nI_add n 0, ih (kp + 1) n (by omega) (by omega), e1, Nat.zero_add]
theorem f_MD_findTaken_1_l23_ok (xB : Nat → Int32) : ∀ (fu kr : Nat) (wt wxpa : Nat → Int32) (wxsp wxwh : Int32) (wxhe : Nat → Int32) (wxho : Int32), kr ≤ 12 → kr + fu = 13 → (f_MD_findTaken_1_l23 xB fu kr wt wxpa wxsp wxwh wxhe wxho).1 = nI (md_nf (f_MD_findTaken_1_l23 xB fu kr wt wxpa wxsp wxwh wxhe wxho).2.1 0 (16 - 0)) := by
  intro fu
  induction fu with
  | zero => intro kr _ _ _ _ _ _ h1 h2; omega
  | succ fu ih =>
    intro kr wt wxpa wxsp wxwh wxhe wxho h1 h2
    rw [f_MD_findTaken_1_l23]
    by_cases c : (12 : Int32) ≤ nI kr
    · rw [if_pos c]
      have e := f_MD_findTaken_1_l89_ok wt wxpa wxsp wxwh wxhe wxho (16 + 1) 0 0 (by omega) (by omega)
      rw [Nat.zero_add] at e
      rw [show (0 : Int32) = nI 0 from rfl, e]
    · have hlt : kr < 12 := sf_lt_of (N := 12) (by omega) (by omega) c
      rw [if_neg c]
      split
      · exact ih _ _ _ _ _ _ _ (by omega) (by omega)
      · split <;> exact ih _ _ _ _ _ _ _ (by omega) (by omega)
theorem f_MD_findTaken_1_l2_ok (xB xpa : Nat → Int32) (xsp xwh : Int32) (xhe : Nat → Int32) (xho : Int32) : ∀ (fu k : Nat) (vt : Nat → Int32), k ≤ 24 → k + fu = 25 → (f_MD_findTaken_1_l2 xB xpa xsp xwh xhe xho fu k vt).1 = nI (md_nf (f_MD_findTaken_1_l2 xB xpa xsp xwh xhe xho fu k vt).2.1 0 (16 - 0)) := by
  intro fu
  induction fu with
  | zero => intro k vt h1 h2; omega
  | succ fu ih =>
    intro k vt h1 h2
    rw [f_MD_findTaken_1_l2]
    by_cases c : (24 : Int32) ≤ nI k
    · rw [if_pos c]
      exact f_MD_findTaken_1_l23_ok xB _ _ _ _ _ _ _ _ (by omega) (by omega)
    · have hlt : k < 24 := sf_lt_of (N := 24) (by omega) (by omega) c
      rw [if_neg c]
      exact ih _ _ (by omega) (by omega)
theorem md_FT1 {xB xpa xhe xtk : Nat → Int32} {xsp xwh xho : Int32} {r : Int32 × (Nat → Int32) × (Nat → Int32) × Int32 × Int32 × (Nat → Int32) × Int32} (h : r = f_MD_findTaken_1 xB xpa xsp xwh xhe xho xtk) : r.1 = nI (md_nf r.2.1 0 (16 - 0)) := by
  rw [h]
  unfold f_MD_findTaken_1
  exact f_MD_findTaken_1_l2_ok xB xpa xsp xwh xhe xho (24 + 1) 0 xtk (by omega) (by omega)
theorem md_nf_le {tk : Nat → Int32} : ∀ (n : Nat) {a : Nat}, md_nf tk a n ≤ n
  | 0, _ => Nat.le_refl 0
  | n + 1, a => by
    have := md_nf_le (tk := tk) n (a := a + 1)
    unfold md_nf
    split <;> omega
theorem md_room {tk : Nat → Int32} {x : Int32} {P n : Nat} (h : x = nI (md_nf tk 0 (P - 0))) (hP : P < 1000) (hn : n < 1000) (hc : ¬ x < nI n) : n ≤ md_nf tk 0 (P - 0) := by
  have := md_nf_le (tk := tk) (P - 0) (a := 0)
  rw [h, nI_ltI (by omega) (by omega)] at hc
  omega
theorem md_room' {tk : Nat → Int32} {x : Int32} {P n : Nat} (h : x = nI (md_nf tk 0 (P - 0))) (hP : P < 1000) (hn : n < 1000) (hc : nI n ≤ x) : n ≤ md_nf tk 0 (P - 0) := by
  have := md_nf_le (tk := tk) (P - 0) (a := 0)
  rw [h, nI_leI (by omega) (by omega)] at hc
  omega
/-- what is put goes to places of the file -/
def md_TO (to : Nat → Int32) (n : Nat) : Prop := ∀ i, i < n → vp_in (to i) 1360
theorem md_TO.up {to : Nat → Int32} {n z : Nat} (h : md_TO to n) (hz : z < 1360) : md_TO (upd to n (nI z)) (n + 1) := by
  intro i hi
  by_cases e : i = n
  · subst e
    rw [pk_us]
    exact vp_in_nI hz (by omega)
  · rw [pk_un e]
    exact h i (by omega)
theorem md_TO0 (to : Nat → Int32) : md_TO to 0 := fun i h => absurd h (by omega)
theorem f_MD_putSum_l40_to {mn nb fm : Nat} {sm : Int32} (hf : fm + nb + 4 ≤ 1360) : ∀ (fu kk : Nat) (vto vwa : Nat → Int32), kk ≤ 4 → kk + fu = 5 → md_TO vto (mn + kk) → md_TO (f_MD_putSum_l40 mn nb fm sm fu kk vto vwa).1 (mn + 4) := by
  intro fu
  induction fu with
  | zero => intro kk _ _ h1 h2; omega
  | succ fu ih =>
    intro kk vto vwa h1 h2 h3
    rw [f_MD_putSum_l40]
    by_cases c : (4 : Int32) ≤ nI kk
    · have e : kk = 4 := sf_eq_of (N := 4) (by omega) (by omega) h1 c
      subst e
      rw [if_pos c]
      exact h3
    · have hlt : kk < 4 := sf_lt_of (N := 4) (by omega) (by omega) c
      rw [if_neg c]
      exact ih _ _ _ (by omega) (by omega) (h3.up (by omega))
theorem f_MD_putSum_l10_to {xto xwa : Nat → Int32} {mn nb fm : Nat} (hf : fm + nb + 4 ≤ 1360) (hb : nb ≤ mn) (hm : mn < 1000) (h : md_TO xto mn) : ∀ (fu k : Nat) (sm : Int32), k ≤ nb → k + fu = nb + 1 → md_TO (f_MD_putSum_l10 xto xwa mn nb fm fu k sm).1 (mn + 4) := by
  intro fu
  induction fu with
  | zero => intro k _ h1 h2; omega
  | succ fu ih =>
    intro k sm h1 h2
    rw [f_MD_putSum_l10]
    by_cases c : nI mn ≤ nI ((mn - nb) + k)
    · rw [if_pos c]
      exact f_MD_putSum_l40_to hf _ _ _ _ (by omega) (by omega) h
    · have hlt : (mn - nb) + k < mn := sf_lt_of (by omega) (by omega) c
      rw [if_neg c]
      exact ih _ _ (by omega) (by omega)
theorem md_TOps {xto xwa : Nat → Int32} {mn nb fm : Nat} (hf : fm + nb + 4 ≤ 1360) (hb : nb ≤ mn) (hm : mn < 1000) (h : md_TO xto mn) : md_TO (f_MD_putSum xto xwa mn nb fm).1 (mn + 4) :=
  f_MD_putSum_l10_to hf hb hm h _ _ _ (by omega) (by omega)
theorem f_MD_putTable_l71_0_to {xB : Nat → Int32} {mn ro : Nat} {fi sl : Int32} (hm : mn < 900) : ∀ (fu k : Nat) (vt vw : Nat → Int32), k ≤ 35 → k + fu = 36 → md_TO vt ((mn + 1) + k) → md_TO (f_MD_putTable_l71_0 xB mn ro fi sl fu k vt vw).1 (mn + 40) := by
  intro fu
  induction fu with
  | zero => intro k _ _ h1 h2; omega
  | succ fu ih =>
    intro k vt vw h1 h2 h3
    rw [f_MD_putTable_l71_0]
    by_cases c : (36 : Int32) ≤ nI (1 + k)
    · have hle : 36 ≤ 1 + k := (nI_leI (a := 36) (by omega) (by omega)).mp c
      have e : k = 35 := by omega
      subst e
      rw [if_pos c]
      exact md_TOps (mn := (mn + 1) + 35) (by omega) (by omega) (by omega) h3
    · have hlt : 1 + k < 36 := sf_lt_of (N := 36) (by omega) (by omega) c
      have h4 : md_TO (upd vt ((mn + 1) + k) (nI (1280 + (1 + k)))) ((mn + 1) + (k + 1)) := h3.up (by omega)
      rw [if_neg c]
      split
      · split
        · exact ih _ _ _ (by omega) (by omega) h4
        · split <;> exact ih _ _ _ (by omega) (by omega) h4
      · split
        · exact ih _ _ _ (by omega) (by omega) h4
        · split <;> exact ih _ _ _ (by omega) (by omega) h4
theorem f_MD_putTable_l71_1_to {xB : Nat → Int32} {mn ro : Nat} {fi sl : Int32} (hm : mn < 900) : ∀ (fu k : Nat) (vt vw : Nat → Int32), k ≤ 35 → k + fu = 36 → md_TO vt ((mn + 1) + k) → md_TO (f_MD_putTable_l71_1 xB mn ro fi sl fu k vt vw).1 (mn + 40) := by
  intro fu
  induction fu with
  | zero => intro k _ _ h1 h2; omega
  | succ fu ih =>
    intro k vt vw h1 h2 h3
    rw [f_MD_putTable_l71_1]
    by_cases c : (36 : Int32) ≤ nI (1 + k)
    · have hle : 36 ≤ 1 + k := (nI_leI (a := 36) (by omega) (by omega)).mp c
      have e : k = 35 := by omega
      subst e
      rw [if_pos c]
      exact md_TOps (mn := (mn + 1) + 35) (by omega) (by omega) (by omega) h3
    · have hlt : 1 + k < 36 := sf_lt_of (N := 36) (by omega) (by omega) c
      have h4 : md_TO (upd vt ((mn + 1) + k) (nI (1320 + (1 + k)))) ((mn + 1) + (k + 1)) := h3.up (by omega)
      rw [if_neg c]
      split
      · split
        · exact ih _ _ _ (by omega) (by omega) h4
        · split <;> exact ih _ _ _ (by omega) (by omega) h4
      · split
        · exact ih _ _ _ (by omega) (by omega) h4
        · split <;> exact ih _ _ _ (by omega) (by omega) h4
theorem md_TOpt {xB xto xwa : Nat → Int32} {mn ro : Nat} {fi sl : Int32} {r : (Nat → Int32) × (Nat → Int32)} (h : r = f_MD_putTable xB xto xwa mn ro fi sl) (hm : mn < 900) (h0 : md_TO xto mn) : md_TO r.1 (mn + 40) := by
  rw [h]
  unfold f_MD_putTable
  split
  · exact f_MD_putTable_l71_0_to hm _ _ _ _ (by omega) (by omega) (md_TO.up h0 (z := 1280) (by omega))
  · split
    · exact f_MD_putTable_l71_1_to hm _ _ _ _ (by omega) (by omega) (md_TO.up h0 (z := 1320) (by omega))
    · exact f_MD_putTable_l71_0_to hm _ _ _ _ (by omega) (by omega) (md_TO.up h0 (z := 1280) (by omega))
theorem f_MD_putChain_0_l125_0_to {xhe : Nat → Int32} {ho mn : Nat} {vp : Int32} {k : Nat} (hp : vp.toNatClampNeg < 24) : ∀ (fu kk : Nat) (yt yw : Nat → Int32), kk ≤ 25 → kk + fu = 26 → md_TO yt (((((mn + (32 * k)) + 1) + 1) + 1) + kk) → md_TO (f_MD_putChain_0_l125_0 xhe ho mn vp k fu kk yt yw).1 (((((mn + (32 * k)) + 1) + 1) + 1) + 25) := by
  intro fu
  induction fu with
  | zero => intro kk _ _ h1 h2; omega
  | succ fu ih =>
    intro kk yt yw h1 h2 h3
    rw [f_MD_putChain_0_l125_0]
    by_cases c : (25 : Int32) ≤ nI kk
    · have e : kk = 25 := sf_eq_of (N := 25) (by omega) (by omega) h1 c
      subst e
      rw [if_pos c]
      exact h3
    · have hlt : kk < 25 := sf_lt_of (N := 25) (by omega) (by omega) c
      rw [if_neg c]
      exact ih _ _ _ (by omega) (by omega) (h3.up (by omega))
theorem f_MD_putChain_0_l125_1_to {xhe : Nat → Int32} {ho mn : Nat} {vp : Int32} {k : Nat} (hp : vp.toNatClampNeg < 24) : ∀ (fu kk : Nat) (yt yw : Nat → Int32), kk ≤ 25 → kk + fu = 26 → md_TO yt (((((mn + (32 * k)) + 1) + 1) + 1) + kk) → md_TO (f_MD_putChain_0_l125_1 xhe ho mn vp k fu kk yt yw).1 (((((mn + (32 * k)) + 1) + 1) + 1) + 25) := by
  intro fu
  induction fu with
  | zero => intro kk _ _ h1 h2; omega
  | succ fu ih =>
    intro kk yt yw h1 h2 h3
    rw [f_MD_putChain_0_l125_1]
    by_cases c : (25 : Int32) ≤ nI kk
    · have e : kk = 25 := sf_eq_of (N := 25) (by omega) (by omega) h1 c
      subst e
      rw [if_pos c]
      exact h3
    · have hlt : kk < 25 := sf_lt_of (N := 25) (by omega) (by omega) c
      rw [if_neg c]
      split <;> exact ih _ _ _ (by omega) (by omega) (h3.up (by omega))
set_option maxHeartbeats 1000000 in
theorem f_MD_putChain_0_l12_to {xhe xtk : Nat → Int32} {ho mn : Nat} {mo : Int32} (h2 : ho ≤ 75) (hm : mn + 96 ≤ 136) : ∀ (fu k : Nat) (vf vp : Int32) (vt vw : Nat → Int32), k ≤ 3 → k + fu = 4 → (25 * k < ho → ∃ z : Nat, vp = nI z ∧ z < 24 ∧ (ho + 24) / 25 ≤ k + 1 + md_nf xtk (z + 1) (24 - (z + 1))) → 25 * k < ho + 25 → md_TO vt (mn + 32 * k) → md_TO (f_MD_putChain_0_l12 xhe xtk ho mn mo fu k vf vp vt vw).2.1 (mn + 32 * ((ho + 24) / 25)) := by
  intro fu
  induction fu with
  | zero => intro k _ _ _ _ h1 h3; omega
  | succ fu ih =>
    intro k vf vp vt vw h1 h3 hi1 hi2 h4
    rw [f_MD_putChain_0_l12]
    by_cases c : nI ho ≤ nI (25 * k)
    · have hle : ho ≤ 25 * k := (nI_leI (by omega) (by omega)).mp c
      rw [if_pos c, ← show mn + 32 * k = mn + 32 * ((ho + 24) / 25) by omega]
      exact h4
    have hlt : 25 * k < ho := sf_lt_of (N := ho) (by omega) (by omega) c
    rw [if_neg c]
    obtain ⟨ez, hz, hc⟩ := md_pc (P := 24) (by omega) rfl (hi1 hlt)
    have st3 : md_TO (upd (upd (upd vt (mn + (32 * k)) (nI (0 + (32 * (vp.toNatClampNeg))))) ((mn + (32 * k)) + 1) (nI ((0 + (32 * (vp.toNatClampNeg))) + 1))) (((mn + (32 * k)) + 1) + 1) (nI ((0 + (32 * (vp.toNatClampNeg))) + 2))) ((((mn + (32 * k)) + 1) + 1) + 1) :=
      ((h4.up (by omega)).up (by omega)).up (by omega)
    by_cases d : (25 : Int32) ≤ nI (ho - 25 * k)
    · have hn8 : 25 ≤ ho - 25 * k := (nI_leI (a := 25) (by omega) (by omega)).mp d
      rw [if_pos d]
      by_cases e : nI (25 * k + 25) = nI ho
      · have hn9 : 25 * k + 25 = ho := (nI_eq (by omega) (by omega)).mp e
        rw [if_pos e]
        refine ih (k + 1) _ _ _ _ (by omega) (by omega) (fun h9 => absurd h9 (by omega)) (by omega) ?_
        exact md_TOps (mn := (((((mn + (32 * k)) + 1) + 1) + 1) + 25)) (nb := 28) (by omega) (by omega) (by omega) (f_MD_putChain_0_l125_0_to hz _ _ _ _ (by omega) (by omega) st3)
      · have hn9 : ¬ 25 * k + 25 = ho := fun h9 => e (congrArg nI h9)
        rw [if_neg e]
        obtain ⟨ew, hw, hd⟩ := md_FF (P := 24) (fr := vp.toNatClampNeg + 1) (xtk := xtk) rfl (by omega) (by omega) rfl
        refine ih (k + 1) _ _ _ _ (by omega) (by omega) (fun _ => ⟨_, rfl, hw, by omega⟩) (by omega) ?_
        exact md_TOps (mn := (((((mn + (32 * k)) + 1) + 1) + 1) + 25)) (nb := 28) (by omega) (by omega) (by omega) (f_MD_putChain_0_l125_0_to hz _ _ _ _ (by omega) (by omega) st3)
    · have hn8 : ho - 25 * k < 25 := sf_lt_of (N := 25) (by omega) (by omega) d
      rw [if_neg d]
      refine ih (k + 1) _ _ _ _ (by omega) (by omega) (fun h9 => absurd h9 (by omega)) (by omega) ?_
      exact md_TOps (mn := (((((mn + (32 * k)) + 1) + 1) + 1) + 25)) (nb := 28) (by omega) (by omega) (by omega) (f_MD_putChain_0_l125_1_to hz _ _ _ _ (by omega) (by omega) st3)
theorem md_TOpc0 {xhe xtk xto xwa : Nat → Int32} {ho mn : Nat} {mo : Int32} {r : Int32 × (Nat → Int32) × (Nat → Int32)} (h : r = f_MD_putChain_0 xhe xtk xto xwa ho mn mo) (h1 : 1 ≤ ho) (h2 : ho ≤ 75) (hm : mn + 96 ≤ 136) (hfr : (ho + 24) / 25 ≤ md_nf xtk 0 (24 - 0)) (h0 : md_TO xto mn) : md_TO r.2.1 (mn + 32 * ((ho + 24) / 25)) := by
  rw [h]
  obtain ⟨e, hz, hc⟩ := md_FF (P := 24) (fr := 0) (xtk := xtk) rfl (by omega) (by omega) rfl
  exact f_MD_putChain_0_l12_to h2 hm _ _ _ _ _ _ (by omega) (by omega) (fun _ => ⟨_, rfl, hz, by omega⟩) (by omega) h0
theorem f_MD_putChain_1_l125_0_to {xhe : Nat → Int32} {ho mn : Nat} {vp : Int32} {k : Nat} (hp : vp.toNatClampNeg < 16) : ∀ (fu kk : Nat) (yt yw : Nat → Int32), kk ≤ 25 → kk + fu = 26 → md_TO yt (((((mn + (32 * k)) + 1) + 1) + 1) + kk) → md_TO (f_MD_putChain_1_l125_0 xhe ho mn vp k fu kk yt yw).1 (((((mn + (32 * k)) + 1) + 1) + 1) + 25) := by
  intro fu
  induction fu with
  | zero => intro kk _ _ h1 h2; omega
  | succ fu ih =>
    intro kk yt yw h1 h2 h3
    rw [f_MD_putChain_1_l125_0]
    by_cases c : (25 : Int32) ≤ nI kk
    · have e : kk = 25 := sf_eq_of (N := 25) (by omega) (by omega) h1 c
      subst e
      rw [if_pos c]
      exact h3
    · have hlt : kk < 25 := sf_lt_of (N := 25) (by omega) (by omega) c
      rw [if_neg c]
      exact ih _ _ _ (by omega) (by omega) (h3.up (by omega))
theorem f_MD_putChain_1_l125_1_to {xhe : Nat → Int32} {ho mn : Nat} {vp : Int32} {k : Nat} (hp : vp.toNatClampNeg < 16) : ∀ (fu kk : Nat) (yt yw : Nat → Int32), kk ≤ 25 → kk + fu = 26 → md_TO yt (((((mn + (32 * k)) + 1) + 1) + 1) + kk) → md_TO (f_MD_putChain_1_l125_1 xhe ho mn vp k fu kk yt yw).1 (((((mn + (32 * k)) + 1) + 1) + 1) + 25) := by
  intro fu
  induction fu with
  | zero => intro kk _ _ h1 h2; omega
  | succ fu ih =>
    intro kk yt yw h1 h2 h3
    rw [f_MD_putChain_1_l125_1]
    by_cases c : (25 : Int32) ≤ nI kk
    · have e : kk = 25 := sf_eq_of (N := 25) (by omega) (by omega) h1 c
      subst e
      rw [if_pos c]
      exact h3
    · have hlt : kk < 25 := sf_lt_of (N := 25) (by omega) (by omega) c
      rw [if_neg c]
      split <;> exact ih _ _ _ (by omega) (by omega) (h3.up (by omega))
set_option maxHeartbeats 1000000 in
theorem f_MD_putChain_1_l12_to {xhe xtk : Nat → Int32} {ho mn : Nat} {mo : Int32} (h2 : ho ≤ 75) (hm : mn + 96 ≤ 136) : ∀ (fu k : Nat) (vf vp : Int32) (vt vw : Nat → Int32), k ≤ 3 → k + fu = 4 → (25 * k < ho → ∃ z : Nat, vp = nI z ∧ z < 16 ∧ (ho + 24) / 25 ≤ k + 1 + md_nf xtk (z + 1) (16 - (z + 1))) → 25 * k < ho + 25 → md_TO vt (mn + 32 * k) → md_TO (f_MD_putChain_1_l12 xhe xtk ho mn mo fu k vf vp vt vw).2.1 (mn + 32 * ((ho + 24) / 25)) := by
  intro fu
  induction fu with
  | zero => intro k _ _ _ _ h1 h3; omega
  | succ fu ih =>
    intro k vf vp vt vw h1 h3 hi1 hi2 h4
    rw [f_MD_putChain_1_l12]
    by_cases c : nI ho ≤ nI (25 * k)
    · have hle : ho ≤ 25 * k := (nI_leI (by omega) (by omega)).mp c
      rw [if_pos c, ← show mn + 32 * k = mn + 32 * ((ho + 24) / 25) by omega]
      exact h4
    have hlt : 25 * k < ho := sf_lt_of (N := ho) (by omega) (by omega) c
    rw [if_neg c]
    obtain ⟨ez, hz, hc⟩ := md_pc (P := 16) (by omega) rfl (hi1 hlt)
    have st3 : md_TO (upd (upd (upd vt (mn + (32 * k)) (nI (768 + (32 * (vp.toNatClampNeg))))) ((mn + (32 * k)) + 1) (nI ((768 + (32 * (vp.toNatClampNeg))) + 1))) (((mn + (32 * k)) + 1) + 1) (nI ((768 + (32 * (vp.toNatClampNeg))) + 2))) ((((mn + (32 * k)) + 1) + 1) + 1) :=
      ((h4.up (by omega)).up (by omega)).up (by omega)
    by_cases d : (25 : Int32) ≤ nI (ho - 25 * k)
    · have hn8 : 25 ≤ ho - 25 * k := (nI_leI (a := 25) (by omega) (by omega)).mp d
      rw [if_pos d]
      by_cases e : nI (25 * k + 25) = nI ho
      · have hn9 : 25 * k + 25 = ho := (nI_eq (by omega) (by omega)).mp e
        rw [if_pos e]
        refine ih (k + 1) _ _ _ _ (by omega) (by omega) (fun h9 => absurd h9 (by omega)) (by omega) ?_
        exact md_TOps (mn := (((((mn + (32 * k)) + 1) + 1) + 1) + 25)) (nb := 28) (by omega) (by omega) (by omega) (f_MD_putChain_1_l125_0_to hz _ _ _ _ (by omega) (by omega) st3)
      · have hn9 : ¬ 25 * k + 25 = ho := fun h9 => e (congrArg nI h9)
        rw [if_neg e]
        obtain ⟨ew, hw, hd⟩ := md_FF (P := 16) (fr := vp.toNatClampNeg + 1) (xtk := xtk) rfl (by omega) (by omega) rfl
        refine ih (k + 1) _ _ _ _ (by omega) (by omega) (fun _ => ⟨_, rfl, hw, by omega⟩) (by omega) ?_
        exact md_TOps (mn := (((((mn + (32 * k)) + 1) + 1) + 1) + 25)) (nb := 28) (by omega) (by omega) (by omega) (f_MD_putChain_1_l125_0_to hz _ _ _ _ (by omega) (by omega) st3)
    · have hn8 : ho - 25 * k < 25 := sf_lt_of (N := 25) (by omega) (by omega) d
      rw [if_neg d]
      refine ih (k + 1) _ _ _ _ (by omega) (by omega) (fun h9 => absurd h9 (by omega)) (by omega) ?_
      exact md_TOps (mn := (((((mn + (32 * k)) + 1) + 1) + 1) + 25)) (nb := 28) (by omega) (by omega) (by omega) (f_MD_putChain_1_l125_1_to hz _ _ _ _ (by omega) (by omega) st3)
theorem md_TOpc1 {xhe xtk xto xwa : Nat → Int32} {ho mn : Nat} {mo : Int32} {r : Int32 × (Nat → Int32) × (Nat → Int32)} (h : r = f_MD_putChain_1 xhe xtk xto xwa ho mn mo) (h1 : 1 ≤ ho) (h2 : ho ≤ 75) (hm : mn + 96 ≤ 136) (hfr : (ho + 24) / 25 ≤ md_nf xtk 0 (16 - 0)) (h0 : md_TO xto mn) : md_TO r.2.1 (mn + 32 * ((ho + 24) / 25)) := by
  rw [h]
  obtain ⟨e, hz, hc⟩ := md_FF (P := 16) (fr := 0) (xtk := xtk) rfl (by omega) (by omega) rfl
  exact f_MD_putChain_1_l12_to h2 hm _ _ _ _ _ _ (by omega) (by omega) (fun _ => ⟨_, rfl, hz, by omega⟩) (by omega) h0
set_option maxHeartbeats 1000000 in
set_option maxRecDepth 100000 in
/-- throwing -/
theorem c_MD_throwing_1 (l : Launch) (D : va_G) (cI cZ cJ : ClassId) (q : Nat → Nat) (xth : Int32) (xB : Nat → Int32) (xsh : Int32) (xcu : Int32) (xtp : Nat → Int32) (xtd : Int32) (xpa : Nat → Int32) (xsp : Int32) (xwh : Int32) (xhe : Nat → Int32) (xho : Int32) (xtk : Nat → Int32) (xto : Nat → Int32) (xwa : Nat → Int32) (xmn : Int32) (b2 : Int32) (b3 : Int32) (b4 : Int32) : sf_M (S := Unit) l D classes (sf_tys cI cZ cJ) y_MD_throwing (sf_ws y_MD_throwing b_MD_throwing 5 (some .boolean)) 0 0 [.ref (q 0), .int 1, .int b2, .int b3, .int b4] (md_w q cI cZ xth xB xsh xcu xtp xtd xpa xsp xwh xhe xho xtk xto xwa xmn) (fun _ => some (.int 1)) (fun _ => True) (fun _ => (md_w q cI cZ 1 xB xsh xcu xtp xtd xpa xsp xwh xhe xho xtk xto xwa xmn)) := by
  refine sf_ofW (S := Unit) (by decide) (Nat.le_of_ble_eq_true rfl) ?_
  intro p e s m below meth c A ls R args Q hR hArgs hQ hC0 hr hK hP hD hl
  obtain ⟨hx, hb, hml, hown, hts, hA, hlk⟩ := hC0
  have hS : va_S A s.heap s.heap [] := va_S.rf
  have hl : lv_has ls 5 [(0, .ref (q 0)), (1, .int 1), (2, .int b2), (3, .int b3), (4, .int b4)] := hl
  refine lv_aload_n hx hb d_MD_throwing_0 rfl (lv_at hl 0 rfl) ?_
  refine lv_iload_n hx hb d_MD_throwing_1 rfl (lv_at hl 1 rfl) ?_
  refine lv_if_eq (tgt := 9) hx hb d_MD_throwing_2 (by decide) (fun c_1 => absurd c_1 (by decide)) (fun c_1 => ?_)
  refine lv_iconst (v := 1) hx hb d_MD_throwing_5 (by decide) ?_
  refine lv_goto (tgt := 35) hx hb d_MD_throwing_6 (by decide) ?_
  refine va_put (D := D) (ci := 3) (v := .int 1) (ty := .int) (C := R_MD) (T := F_MD) (N := 15) hx hb hts i_MD t_MD t_MD_ok n_MD hown hK hP hD hS 0 rfl rfl 0 (by decide) (hts _ wd_575) (fun _ h9 => h9) rfl (by decide +kernel) rfl rfl (Nat.le_of_ble_eq_true rfl) d_MD_throwing_35 (fun H locs hP hD hS => ?_)
  have hP : va_P D classes (md_w q cI cZ 1 xB xsh xcu xtp xtd xpa xsp xwh xhe xho xtk xto xwa xmn) H := hP
  have hD : va_D A (md_w q cI cZ 1 xB xsh xcu xtp xtd xpa xsp xwh xhe xho xtk xto xwa xmn) := hD
  refine lv_aload_n hx hb d_MD_throwing_38 rfl (lv_at hl 0 rfl) ?_
  refine va_get (D := D) (ci := 3) (v := .int 1) (C := R_MD) (T := F_MD) (N := 15) hx hb hts i_MD hown hK hP 0 rfl rfl 0 (by decide) (hts _ wd_575) (fun _ h9 => h9) rfl d_MD_throwing_39 ?_
  refine lv_if_le (tgt := 49) hx hb d_MD_throwing_42 (by decide) (fun c_2 => absurd c_2 (by decide)) (fun c_2 => ?_)
  refine lv_iconst (v := 1) hx hb d_MD_throwing_45 (by decide) ?_
  refine lv_goto (tgt := 50) hx hb d_MD_throwing_46 (by decide) ?_
  rw [hQ]
  exact sf_iret () hx hb hr hlk hS sf_b1 rfl trivial hP d_MD_throwing_50
set_option maxHeartbeats 1000000 in
set_option maxRecDepth 100000 in
/-- throwing -/
theorem c_MD_throwing_2 (l : Launch) (D : va_G) (cI cZ cJ : ClassId) (q : Nat → Nat) (xth : Int32) (xB : Nat → Int32) (xsh : Int32) (xcu : Int32) (xtp : Nat → Int32) (xtd : Int32) (xpa : Nat → Int32) (xsp : Int32) (xwh : Int32) (xhe : Nat → Int32) (xho : Int32) (xtk : Nat → Int32) (xto : Nat → Int32) (xwa : Nat → Int32) (xmn : Int32) (b3 : Int32) (b4 : Int32) : sf_M (S := Unit) l D classes (sf_tys cI cZ cJ) y_MD_throwing (sf_ws y_MD_throwing b_MD_throwing 5 (some .boolean)) 0 0 [.ref (q 0), .int 0, .int 1, .int b3, .int b4] (md_w q cI cZ xth xB xsh xcu xtp xtd xpa xsp xwh xhe xho xtk xto xwa xmn) (fun _ => some (.int 1)) (fun _ => True) (fun _ => (md_w q cI cZ 2 xB xsh xcu xtp xtd xpa xsp xwh xhe xho xtk xto xwa xmn)) := by
  refine sf_ofW (S := Unit) (by decide) (Nat.le_of_ble_eq_true rfl) ?_
  intro p e s m below meth c A ls R args Q hR hArgs hQ hC0 hr hK hP hD hl
  obtain ⟨hx, hb, hml, hown, hts, hA, hlk⟩ := hC0
  have hS : va_S A s.heap s.heap [] := va_S.rf
  have hl : lv_has ls 5 [(0, .ref (q 0)), (1, .int 0), (2, .int 1), (3, .int b3), (4, .int b4)] := hl
  refine lv_aload_n hx hb d_MD_throwing_0 rfl (lv_at hl 0 rfl) ?_
  refine lv_iload_n hx hb d_MD_throwing_1 rfl (lv_at hl 1 rfl) ?_
  refine lv_if_eq (tgt := 9) hx hb d_MD_throwing_2 (by decide) (fun c_1 => ?_) (fun c_1 => absurd (by decide) c_1)
  refine lv_iload_n hx hb d_MD_throwing_9 rfl (lv_at hl 2 rfl) ?_
  refine lv_if_eq (tgt := 17) hx hb d_MD_throwing_10 (by decide) (fun c_2 => absurd c_2 (by decide)) (fun c_2 => ?_)
  refine lv_iconst (v := 2) hx hb d_MD_throwing_13 (by decide) ?_
  refine lv_goto (tgt := 35) hx hb d_MD_throwing_14 (by decide) ?_
  refine va_put (D := D) (ci := 3) (v := .int 2) (ty := .int) (C := R_MD) (T := F_MD) (N := 15) hx hb hts i_MD t_MD t_MD_ok n_MD hown hK hP hD hS 0 rfl rfl 0 (by decide) (hts _ wd_575) (fun _ h9 => h9) rfl (by decide +kernel) rfl rfl (Nat.le_of_ble_eq_true rfl) d_MD_throwing_35 (fun H locs hP hD hS => ?_)
  have hP : va_P D classes (md_w q cI cZ 2 xB xsh xcu xtp xtd xpa xsp xwh xhe xho xtk xto xwa xmn) H := hP
  have hD : va_D A (md_w q cI cZ 2 xB xsh xcu xtp xtd xpa xsp xwh xhe xho xtk xto xwa xmn) := hD
  refine lv_aload_n hx hb d_MD_throwing_38 rfl (lv_at hl 0 rfl) ?_
  refine va_get (D := D) (ci := 3) (v := .int 2) (C := R_MD) (T := F_MD) (N := 15) hx hb hts i_MD hown hK hP 0 rfl rfl 0 (by decide) (hts _ wd_575) (fun _ h9 => h9) rfl d_MD_throwing_39 ?_
  refine lv_if_le (tgt := 49) hx hb d_MD_throwing_42 (by decide) (fun c_3 => absurd c_3 (by decide)) (fun c_3 => ?_)
  refine lv_iconst (v := 1) hx hb d_MD_throwing_45 (by decide) ?_
  refine lv_goto (tgt := 50) hx hb d_MD_throwing_46 (by decide) ?_
  rw [hQ]
  exact sf_iret () hx hb hr hlk hS sf_b1 rfl trivial hP d_MD_throwing_50
set_option maxHeartbeats 1000000 in
set_option maxRecDepth 100000 in
/-- throwing -/
theorem c_MD_throwing_3 (l : Launch) (D : va_G) (cI cZ cJ : ClassId) (q : Nat → Nat) (xth : Int32) (xB : Nat → Int32) (xsh : Int32) (xcu : Int32) (xtp : Nat → Int32) (xtd : Int32) (xpa : Nat → Int32) (xsp : Int32) (xwh : Int32) (xhe : Nat → Int32) (xho : Int32) (xtk : Nat → Int32) (xto : Nat → Int32) (xwa : Nat → Int32) (xmn : Int32) (b4 : Int32) : sf_M (S := Unit) l D classes (sf_tys cI cZ cJ) y_MD_throwing (sf_ws y_MD_throwing b_MD_throwing 5 (some .boolean)) 0 0 [.ref (q 0), .int 0, .int 0, .int 1, .int b4] (md_w q cI cZ xth xB xsh xcu xtp xtd xpa xsp xwh xhe xho xtk xto xwa xmn) (fun _ => some (.int 1)) (fun _ => True) (fun _ => (md_w q cI cZ 3 xB xsh xcu xtp xtd xpa xsp xwh xhe xho xtk xto xwa xmn)) := by
  refine sf_ofW (S := Unit) (by decide) (Nat.le_of_ble_eq_true rfl) ?_
  intro p e s m below meth c A ls R args Q hR hArgs hQ hC0 hr hK hP hD hl
  obtain ⟨hx, hb, hml, hown, hts, hA, hlk⟩ := hC0
  have hS : va_S A s.heap s.heap [] := va_S.rf
  have hl : lv_has ls 5 [(0, .ref (q 0)), (1, .int 0), (2, .int 0), (3, .int 1), (4, .int b4)] := hl
  refine lv_aload_n hx hb d_MD_throwing_0 rfl (lv_at hl 0 rfl) ?_
  refine lv_iload_n hx hb d_MD_throwing_1 rfl (lv_at hl 1 rfl) ?_
  refine lv_if_eq (tgt := 9) hx hb d_MD_throwing_2 (by decide) (fun c_1 => ?_) (fun c_1 => absurd (by decide) c_1)
  refine lv_iload_n hx hb d_MD_throwing_9 rfl (lv_at hl 2 rfl) ?_
  refine lv_if_eq (tgt := 17) hx hb d_MD_throwing_10 (by decide) (fun c_2 => ?_) (fun c_2 => absurd (by decide) c_2)
  refine lv_iload_n hx hb d_MD_throwing_17 rfl (lv_at hl 3 rfl) ?_
  refine lv_if_eq (tgt := 25) hx hb d_MD_throwing_18 (by decide) (fun c_3 => absurd c_3 (by decide)) (fun c_3 => ?_)
  refine lv_iconst (v := 3) hx hb d_MD_throwing_21 (by decide) ?_
  refine lv_goto (tgt := 35) hx hb d_MD_throwing_22 (by decide) ?_
  refine va_put (D := D) (ci := 3) (v := .int 3) (ty := .int) (C := R_MD) (T := F_MD) (N := 15) hx hb hts i_MD t_MD t_MD_ok n_MD hown hK hP hD hS 0 rfl rfl 0 (by decide) (hts _ wd_575) (fun _ h9 => h9) rfl (by decide +kernel) rfl rfl (Nat.le_of_ble_eq_true rfl) d_MD_throwing_35 (fun H locs hP hD hS => ?_)
  have hP : va_P D classes (md_w q cI cZ 3 xB xsh xcu xtp xtd xpa xsp xwh xhe xho xtk xto xwa xmn) H := hP
  have hD : va_D A (md_w q cI cZ 3 xB xsh xcu xtp xtd xpa xsp xwh xhe xho xtk xto xwa xmn) := hD
  refine lv_aload_n hx hb d_MD_throwing_38 rfl (lv_at hl 0 rfl) ?_
  refine va_get (D := D) (ci := 3) (v := .int 3) (C := R_MD) (T := F_MD) (N := 15) hx hb hts i_MD hown hK hP 0 rfl rfl 0 (by decide) (hts _ wd_575) (fun _ h9 => h9) rfl d_MD_throwing_39 ?_
  refine lv_if_le (tgt := 49) hx hb d_MD_throwing_42 (by decide) (fun c_4 => absurd c_4 (by decide)) (fun c_4 => ?_)
  refine lv_iconst (v := 1) hx hb d_MD_throwing_45 (by decide) ?_
  refine lv_goto (tgt := 50) hx hb d_MD_throwing_46 (by decide) ?_
  rw [hQ]
  exact sf_iret () hx hb hr hlk hS sf_b1 rfl trivial hP d_MD_throwing_50
set_option maxHeartbeats 1000000 in
set_option maxRecDepth 100000 in
/-- throwing -/
theorem c_MD_throwing_4 (l : Launch) (D : va_G) (cI cZ cJ : ClassId) (q : Nat → Nat) (xth : Int32) (xB : Nat → Int32) (xsh : Int32) (xcu : Int32) (xtp : Nat → Int32) (xtd : Int32) (xpa : Nat → Int32) (xsp : Int32) (xwh : Int32) (xhe : Nat → Int32) (xho : Int32) (xtk : Nat → Int32) (xto : Nat → Int32) (xwa : Nat → Int32) (xmn : Int32) : sf_M (S := Unit) l D classes (sf_tys cI cZ cJ) y_MD_throwing (sf_ws y_MD_throwing b_MD_throwing 5 (some .boolean)) 0 0 [.ref (q 0), .int 0, .int 0, .int 0, .int 1] (md_w q cI cZ xth xB xsh xcu xtp xtd xpa xsp xwh xhe xho xtk xto xwa xmn) (fun _ => some (.int 1)) (fun _ => True) (fun _ => (md_w q cI cZ 4 xB xsh xcu xtp xtd xpa xsp xwh xhe xho xtk xto xwa xmn)) := by
  refine sf_ofW (S := Unit) (by decide) (Nat.le_of_ble_eq_true rfl) ?_
  intro p e s m below meth c A ls R args Q hR hArgs hQ hC0 hr hK hP hD hl
  obtain ⟨hx, hb, hml, hown, hts, hA, hlk⟩ := hC0
  have hS : va_S A s.heap s.heap [] := va_S.rf
  have hl : lv_has ls 5 [(0, .ref (q 0)), (1, .int 0), (2, .int 0), (3, .int 0), (4, .int 1)] := hl
  refine lv_aload_n hx hb d_MD_throwing_0 rfl (lv_at hl 0 rfl) ?_
  refine lv_iload_n hx hb d_MD_throwing_1 rfl (lv_at hl 1 rfl) ?_
  refine lv_if_eq (tgt := 9) hx hb d_MD_throwing_2 (by decide) (fun c_1 => ?_) (fun c_1 => absurd (by decide) c_1)
  refine lv_iload_n hx hb d_MD_throwing_9 rfl (lv_at hl 2 rfl) ?_
  refine lv_if_eq (tgt := 17) hx hb d_MD_throwing_10 (by decide) (fun c_2 => ?_) (fun c_2 => absurd (by decide) c_2)
  refine lv_iload_n hx hb d_MD_throwing_17 rfl (lv_at hl 3 rfl) ?_
  refine lv_if_eq (tgt := 25) hx hb d_MD_throwing_18 (by decide) (fun c_3 => ?_) (fun c_3 => absurd (by decide) c_3)
  refine lv_iload hx hb d_MD_throwing_25 (lv_at hl 4 rfl) ?_
  refine lv_if_eq (tgt := 34) hx hb d_MD_throwing_27 (by decide) (fun c_4 => absurd c_4 (by decide)) (fun c_4 => ?_)
  refine lv_iconst (v := 4) hx hb d_MD_throwing_30 (by decide) ?_
  refine lv_goto (tgt := 35) hx hb d_MD_throwing_31 (by decide) ?_
  refine va_put (D := D) (ci := 3) (v := .int 4) (ty := .int) (C := R_MD) (T := F_MD) (N := 15) hx hb hts i_MD t_MD t_MD_ok n_MD hown hK hP hD hS 0 rfl rfl 0 (by decide) (hts _ wd_575) (fun _ h9 => h9) rfl (by decide +kernel) rfl rfl (Nat.le_of_ble_eq_true rfl) d_MD_throwing_35 (fun H locs hP hD hS => ?_)
  have hP : va_P D classes (md_w q cI cZ 4 xB xsh xcu xtp xtd xpa xsp xwh xhe xho xtk xto xwa xmn) H := hP
  have hD : va_D A (md_w q cI cZ 4 xB xsh xcu xtp xtd xpa xsp xwh xhe xho xtk xto xwa xmn) := hD
  refine lv_aload_n hx hb d_MD_throwing_38 rfl (lv_at hl 0 rfl) ?_
  refine va_get (D := D) (ci := 3) (v := .int 4) (C := R_MD) (T := F_MD) (N := 15) hx hb hts i_MD hown hK hP 0 rfl rfl 0 (by decide) (hts _ wd_575) (fun _ h9 => h9) rfl d_MD_throwing_39 ?_
  refine lv_if_le (tgt := 49) hx hb d_MD_throwing_42 (by decide) (fun c_5 => absurd c_5 (by decide)) (fun c_5 => ?_)
  refine lv_iconst (v := 1) hx hb d_MD_throwing_45 (by decide) ?_
  refine lv_goto (tgt := 50) hx hb d_MD_throwing_46 (by decide) ?_
  rw [hQ]
  exact sf_iret () hx hb hr hlk hS sf_b1 rfl trivial hP d_MD_throwing_50
set_option maxHeartbeats 1000000 in
set_option maxRecDepth 100000 in
/-- throwing -/
theorem c_MD_throwing_0 (l : Launch) (D : va_G) (cI cZ cJ : ClassId) (q : Nat → Nat) (xth : Int32) (xB : Nat → Int32) (xsh : Int32) (xcu : Int32) (xtp : Nat → Int32) (xtd : Int32) (xpa : Nat → Int32) (xsp : Int32) (xwh : Int32) (xhe : Nat → Int32) (xho : Int32) (xtk : Nat → Int32) (xto : Nat → Int32) (xwa : Nat → Int32) (xmn : Int32) : sf_M (S := Unit) l D classes (sf_tys cI cZ cJ) y_MD_throwing (sf_ws y_MD_throwing b_MD_throwing 5 (some .boolean)) 0 0 [.ref (q 0), .int 0, .int 0, .int 0, .int 0] (md_w q cI cZ xth xB xsh xcu xtp xtd xpa xsp xwh xhe xho xtk xto xwa xmn) (fun _ => some (.int 0)) (fun _ => True) (fun _ => (md_w q cI cZ 0 xB xsh xcu xtp xtd xpa xsp xwh xhe xho xtk xto xwa xmn)) := by
  refine sf_ofW (S := Unit) (by decide) (Nat.le_of_ble_eq_true rfl) ?_
  intro p e s m below meth c A ls R args Q hR hArgs hQ hC0 hr hK hP hD hl
  obtain ⟨hx, hb, hml, hown, hts, hA, hlk⟩ := hC0
  have hS : va_S A s.heap s.heap [] := va_S.rf
  have hl : lv_has ls 5 [(0, .ref (q 0)), (1, .int 0), (2, .int 0), (3, .int 0), (4, .int 0)] := hl
  refine lv_aload_n hx hb d_MD_throwing_0 rfl (lv_at hl 0 rfl) ?_
  refine lv_iload_n hx hb d_MD_throwing_1 rfl (lv_at hl 1 rfl) ?_
  refine lv_if_eq (tgt := 9) hx hb d_MD_throwing_2 (by decide) (fun c_1 => ?_) (fun c_1 => absurd (by decide) c_1)
  refine lv_iload_n hx hb d_MD_throwing_9 rfl (lv_at hl 2 rfl) ?_
  refine lv_if_eq (tgt := 17) hx hb d_MD_throwing_10 (by decide) (fun c_2 => ?_) (fun c_2 => absurd (by decide) c_2)
  refine lv_iload_n hx hb d_MD_throwing_17 rfl (lv_at hl 3 rfl) ?_
  refine lv_if_eq (tgt := 25) hx hb d_MD_throwing_18 (by decide) (fun c_3 => ?_) (fun c_3 => absurd (by decide) c_3)
  refine lv_iload hx hb d_MD_throwing_25 (lv_at hl 4 rfl) ?_
  refine lv_if_eq (tgt := 34) hx hb d_MD_throwing_27 (by decide) (fun c_4 => ?_) (fun c_4 => absurd (by decide) c_4)
  refine lv_iconst (v := 0) hx hb d_MD_throwing_34 (by decide) ?_
  refine va_put (D := D) (ci := 3) (v := .int 0) (ty := .int) (C := R_MD) (T := F_MD) (N := 15) hx hb hts i_MD t_MD t_MD_ok n_MD hown hK hP hD hS 0 rfl rfl 0 (by decide) (hts _ wd_575) (fun _ h9 => h9) rfl (by decide +kernel) rfl rfl (Nat.le_of_ble_eq_true rfl) d_MD_throwing_35 (fun H locs hP hD hS => ?_)
  have hP : va_P D classes (md_w q cI cZ 0 xB xsh xcu xtp xtd xpa xsp xwh xhe xho xtk xto xwa xmn) H := hP
  have hD : va_D A (md_w q cI cZ 0 xB xsh xcu xtp xtd xpa xsp xwh xhe xho xtk xto xwa xmn) := hD
  refine lv_aload_n hx hb d_MD_throwing_38 rfl (lv_at hl 0 rfl) ?_
  refine va_get (D := D) (ci := 3) (v := .int 0) (C := R_MD) (T := F_MD) (N := 15) hx hb hts i_MD hown hK hP 0 rfl rfl 0 (by decide) (hts _ wd_575) (fun _ h9 => h9) rfl d_MD_throwing_39 ?_
  refine lv_if_le (tgt := 49) hx hb d_MD_throwing_42 (by decide) (fun c_5 => ?_) (fun c_5 => absurd (by decide) c_5)
  refine lv_iconst (v := 0) hx hb d_MD_throwing_49 (by decide) ?_
  rw [hQ]
  exact sf_iret () hx hb hr hlk hS sf_b0 rfl trivial hP d_MD_throwing_50
set_option maxHeartbeats 1000000 in
set_option maxRecDepth 100000 in
/-- throwing -/
theorem c_MD_throwing_n (l : Launch) (D : va_G) (cI cZ cJ : ClassId) (q : Nat → Nat) (xth : Int32) (xB : Nat → Int32) (xsh : Int32) (xcu : Int32) (xtp : Nat → Int32) (xtd : Int32) (xpa : Nat → Int32) (xsp : Int32) (xwh : Int32) (xhe : Nat → Int32) (xho : Int32) (xtk : Nat → Int32) (xto : Nat → Int32) (xwa : Nat → Int32) (xmn : Int32) (b1 : Int32) (b2 : Int32) (b3 : Int32) (b4 : Int32) (hb1 : ¬ b1 = 0) : sf_M (S := Unit) l D classes (sf_tys cI cZ cJ) y_MD_throwing (sf_ws y_MD_throwing b_MD_throwing 5 (some .boolean)) 0 0 [.ref (q 0), .int b1, .int b2, .int b3, .int b4] (md_w q cI cZ xth xB xsh xcu xtp xtd xpa xsp xwh xhe xho xtk xto xwa xmn) (fun _ => some (.int 1)) (fun _ => True) (fun _ => (md_w q cI cZ 1 xB xsh xcu xtp xtd xpa xsp xwh xhe xho xtk xto xwa xmn)) := by
  refine sf_ofW (S := Unit) (by decide) (Nat.le_of_ble_eq_true rfl) ?_
  intro p e s m below meth c A ls R args Q hR hArgs hQ hC0 hr hK hP hD hl
  obtain ⟨hx, hb, hml, hown, hts, hA, hlk⟩ := hC0
  have hS : va_S A s.heap s.heap [] := va_S.rf
  have hl : lv_has ls 5 [(0, .ref (q 0)), (1, .int b1), (2, .int b2), (3, .int b3), (4, .int b4)] := hl
  refine lv_aload_n hx hb d_MD_throwing_0 rfl (lv_at hl 0 rfl) ?_
  refine lv_iload_n hx hb d_MD_throwing_1 rfl (lv_at hl 1 rfl) ?_
  refine lv_if_eq (tgt := 9) hx hb d_MD_throwing_2 (by decide) (fun c_1 => absurd c_1 hb1) (fun c_1 => ?_)
  refine lv_iconst (v := 1) hx hb d_MD_throwing_5 (by decide) ?_
  refine lv_goto (tgt := 35) hx hb d_MD_throwing_6 (by decide) ?_
  refine va_put (D := D) (ci := 3) (v := .int 1) (ty := .int) (C := R_MD) (T := F_MD) (N := 15) hx hb hts i_MD t_MD t_MD_ok n_MD hown hK hP hD hS 0 rfl rfl 0 (by decide) (hts _ wd_575) (fun _ h9 => h9) rfl (by decide +kernel) rfl rfl (Nat.le_of_ble_eq_true rfl) d_MD_throwing_35 (fun H locs hP hD hS => ?_)
  have hP : va_P D classes (md_w q cI cZ 1 xB xsh xcu xtp xtd xpa xsp xwh xhe xho xtk xto xwa xmn) H := hP
  have hD : va_D A (md_w q cI cZ 1 xB xsh xcu xtp xtd xpa xsp xwh xhe xho xtk xto xwa xmn) := hD
  refine lv_aload_n hx hb d_MD_throwing_38 rfl (lv_at hl 0 rfl) ?_
  refine va_get (D := D) (ci := 3) (v := .int 1) (C := R_MD) (T := F_MD) (N := 15) hx hb hts i_MD hown hK hP 0 rfl rfl 0 (by decide) (hts _ wd_575) (fun _ h9 => h9) rfl d_MD_throwing_39 ?_
  refine lv_if_le (tgt := 49) hx hb d_MD_throwing_42 (by decide) (fun c_2 => absurd c_2 (by decide)) (fun c_2 => ?_)
  refine lv_iconst (v := 1) hx hb d_MD_throwing_45 (by decide) ?_
  refine lv_goto (tgt := 50) hx hb d_MD_throwing_46 (by decide) ?_
  rw [hQ]
  exact sf_iret () hx hb hr hlk hS sf_b1 rfl trivial hP d_MD_throwing_50
