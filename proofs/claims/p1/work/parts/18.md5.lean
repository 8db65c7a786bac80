/-! md5: contracts, with the pure functions that they speak of (printed by wip/gen) -/
set_option maxRecDepth 20000 in
theorem wd_586 : Cond.fieldLink R_MD 26 "ShadowFilesModel" "taken" "[Z" ∈ sf_tb := sf_tb_in 586 rfl rfl
set_option maxRecDepth 20000 in
theorem wd_676 : Cond.methodLink R_MD 91 y_MD_go ∈ sf_tb := sf_tb_in 676 rfl rfl
set_option maxRecDepth 20000 in
theorem wd_679 : Cond.code y_MD_go b_MD_go 9 none ∈ sf_tb := sf_tb_in 679 rfl rfl
set_option maxRecDepth 20000 in
theorem wd_678 : Cond.instanceMethod y_MD_go ∈ sf_tb := sf_tb_in 678 rfl rfl
set_option maxRecDepth 20000 in
theorem wd_41 : Cond.selects R_MD y_MD_go y_MD_go ∈ sf_tb := sf_tb_in 41 rfl rfl
set_option maxRecDepth 20000 in
theorem wd_645 : Cond.methodLink R_MD 95 y_MD_isThere ∈ sf_tb := sf_tb_in 645 rfl rfl
set_option maxRecDepth 20000 in
theorem wd_648 : Cond.code y_MD_isThere b_MD_isThere 2 (some .boolean) ∈ sf_tb := sf_tb_in 648 rfl rfl
set_option maxRecDepth 20000 in
theorem wd_647 : Cond.instanceMethod y_MD_isThere ∈ sf_tb := sf_tb_in 647 rfl rfl
set_option maxRecDepth 20000 in
theorem wd_35 : Cond.selects R_MD y_MD_isThere y_MD_isThere ∈ sf_tb := sf_tb_in 35 rfl rfl
theorem lk_MD_91 : sf_LV R_MD 91 y_MD_go b_MD_go 9 none 1 := ⟨wd_679, wd_676, wd_678, wd_41, wd_55, by decide +kernel⟩
theorem lk_MD_95 : sf_LV R_MD 95 y_MD_isThere b_MD_isThere 2 (some .boolean) 1 := ⟨wd_648, wd_645, wd_647, wd_35, wd_55, by decide +kernel⟩
/-- what the reference's go leaves: its steps, its path, how many bytes -/
def md_GO (B : Nat) (r : (Nat → Int32) × Int32 × Int32 × (Nat → Int32) × Int32) : Prop := ∃ s : Nat, s ≤ 3 ∧ r.2.1 = nI s ∧ (∀ i, i < s → ∃ z : Nat, z < B ∧ r.1 i = nI z) ∧ (¬ r.2.2.1 = 0 → 1 ≤ s) ∧ ∃ h : Nat, h ≤ 75 ∧ r.2.2.2.2 = nI h ∧ (¬ r.2.2.1 = 0 → 1 ≤ h)
set_option maxHeartbeats 1000000 in
theorem f_MD_go_l79_0_ok (xB : Nat → Int32) : ∀ (fu k : Nat) (vg vp vmo : Int32) (vpa : Nat → Int32) (vw : Int32) (vhe : Nat → Int32) (hn : Nat), k ≤ 3 → hn ≤ 25 * k → (∀ i, i < k → ∃ z : Nat, z < 24 ∧ vpa i = nI z) → (¬ vw = 0 → 1 ≤ k) → (¬ vw = 0 → 1 ≤ hn) → md_GO 24 (f_MD_go_l79_0 xB fu k vg vp vmo vpa vw vhe hn) := by
  intro fu
  induction fu with
  | zero =>
    intro k vg vp vmo vpa vw vhe hn h1 h2 h3 h4 h5
    exact ⟨0, by omega, rfl, fun i h => absurd h (by omega), fun h => absurd rfl h, 0, by omega, rfl, fun h => absurd rfl h⟩
  | succ fu ih =>
    intro k vg vp vmo vpa vw vhe hn h1 h2 h3 h4 h5
    have leaf0 : vw = 0 → md_GO 24 (vpa, nI k, vw, vhe, 0) := fun h => ⟨k, h1, rfl, h3, h4, 0, by omega, rfl, fun z => absurd h z⟩
    have leafh : md_GO 24 (vpa, nI k, vw, vhe, nI hn) := ⟨k, h1, rfl, h3, h4, hn, by omega, rfl, h5⟩
    have step : ¬ vp < 0 → ¬ (24 : Int32) ≤ vp → ¬ (3 : Int32) ≤ nI k → ∀ (g z : Int32) (w : Int32) (he : Nat → Int32) (n : Nat), n ≤ hn + 25 → (¬ w = 0 → 1 ≤ n) → md_GO 24 (f_MD_go_l79_0 xB fu (k + 1) g z vmo (upd vpa k vp) w he n) := by
      intro a b c g z w he n hn2 hw2
      have hk : k < 3 := sf_lt_of (N := 3) (by omega) (by omega) c
      obtain ⟨ep, hb⟩ := sf_natp (B := 24) (by omega) rfl a b
      refine ih (k + 1) g z vmo _ w he n (by omega) (by omega) (fun i hi => ?_) (fun _ => by omega) hw2
      by_cases e : i = k
      · subst e
        exact ⟨_, hb, by rw [pk_us]; exact ep⟩
      · rw [pk_un e]
        exact h3 i (by omega)
    rw [f_MD_go_l79_0]
    by_cases c1 : vg = 0
    · rw [if_pos c1]
      split
      · exact leaf0 (by assumption)
      · exact leafh
    rw [if_neg c1]
    by_cases c2 : vp < 0
    · rw [if_pos c2]
      split
      · exact leaf0 (by assumption)
      · exact leafh
    rw [if_neg c2]
    by_cases c3 : (24 : Int32) ≤ vp
    · rw [if_pos c3]
      split
      · exact leaf0 (by assumption)
      · exact leafh
    rw [if_neg c3]
    by_cases c4 : (3 : Int32) ≤ nI k
    · rw [if_pos c4]
      split
      · exact leaf0 (by assumption)
      · exact leafh
    rw [if_neg c4]
    split
    · split
      · split <;> exact step c2 c3 c4 _ _ _ _ _ (by omega) h5
      · split
        · split <;> exact step c2 c3 c4 _ _ _ _ _ (by omega) h5
        · rename_i _ _ hin
          have h25 := (sf_natn rfl hin).2.2
          have h26 := (sf_natn rfl hin).2.1
          split
          · split
            · exact step c2 c3 c4 _ _ _ _ _ (by omega) (fun _ => by omega)
            · exact step c2 c3 c4 _ _ _ _ _ (by omega) (fun _ => by omega)
          · split <;> exact step c2 c3 c4 _ _ _ _ _ (by omega) h5
    · split
      · exact leaf0 (by assumption)
      · exact leafh
set_option maxHeartbeats 1000000 in
theorem f_MD_go_l79_1_ok (xB : Nat → Int32) : ∀ (fu k : Nat) (vg vp vmo : Int32) (vpa : Nat → Int32) (vw : Int32) (vhe : Nat → Int32) (hn : Nat), k ≤ 3 → hn ≤ 25 * k → (∀ i, i < k → ∃ z : Nat, z < 16 ∧ vpa i = nI z) → (¬ vw = 0 → 1 ≤ k) → (¬ vw = 0 → 1 ≤ hn) → md_GO 16 (f_MD_go_l79_1 xB fu k vg vp vmo vpa vw vhe hn) := by
  intro fu
  induction fu with
  | zero =>
    intro k vg vp vmo vpa vw vhe hn h1 h2 h3 h4 h5
    exact ⟨0, by omega, rfl, fun i h => absurd h (by omega), fun h => absurd rfl h, 0, by omega, rfl, fun h => absurd rfl h⟩
  | succ fu ih =>
    intro k vg vp vmo vpa vw vhe hn h1 h2 h3 h4 h5
    have leaf0 : vw = 0 → md_GO 16 (vpa, nI k, vw, vhe, 0) := fun h => ⟨k, h1, rfl, h3, h4, 0, by omega, rfl, fun z => absurd h z⟩
    have leafh : md_GO 16 (vpa, nI k, vw, vhe, nI hn) := ⟨k, h1, rfl, h3, h4, hn, by omega, rfl, h5⟩
    have step : ¬ vp < 0 → ¬ (16 : Int32) ≤ vp → ¬ (3 : Int32) ≤ nI k → ∀ (g z : Int32) (w : Int32) (he : Nat → Int32) (n : Nat), n ≤ hn + 25 → (¬ w = 0 → 1 ≤ n) → md_GO 16 (f_MD_go_l79_1 xB fu (k + 1) g z vmo (upd vpa k vp) w he n) := by
      intro a b c g z w he n hn2 hw2
      have hk : k < 3 := sf_lt_of (N := 3) (by omega) (by omega) c
      obtain ⟨ep, hb⟩ := sf_natp (B := 16) (by omega) rfl a b
      refine ih (k + 1) g z vmo _ w he n (by omega) (by omega) (fun i hi => ?_) (fun _ => by omega) hw2
      by_cases e : i = k
      · subst e
        exact ⟨_, hb, by rw [pk_us]; exact ep⟩
      · rw [pk_un e]
        exact h3 i (by omega)
    rw [f_MD_go_l79_1]
    by_cases c1 : vg = 0
    · rw [if_pos c1]
      split
      · exact leaf0 (by assumption)
      · exact leafh
    rw [if_neg c1]
    by_cases c2 : vp < 0
    · rw [if_pos c2]
      split
      · exact leaf0 (by assumption)
      · exact leafh
    rw [if_neg c2]
    by_cases c3 : (16 : Int32) ≤ vp
    · rw [if_pos c3]
      split
      · exact leaf0 (by assumption)
      · exact leafh
    rw [if_neg c3]
    by_cases c4 : (3 : Int32) ≤ nI k
    · rw [if_pos c4]
      split
      · exact leaf0 (by assumption)
      · exact leafh
    rw [if_neg c4]
    split
    · split
      · split <;> exact step c2 c3 c4 _ _ _ _ _ (by omega) h5
      · split
        · split <;> exact step c2 c3 c4 _ _ _ _ _ (by omega) h5
        · rename_i _ _ hin
          have h25 := (sf_natn rfl hin).2.2
          have h26 := (sf_natn rfl hin).2.1
          split
          · split
            · exact step c2 c3 c4 _ _ _ _ _ (by omega) (fun _ => by omega)
            · exact step c2 c3 c4 _ _ _ _ _ (by omega) (fun _ => by omega)
          · split <;> exact step c2 c3 c4 _ _ _ _ _ (by omega) h5
    · split
      · exact leaf0 (by assumption)
      · exact leafh
theorem f_MD_go_ok (xB xpa xhe : Nat → Int32) (ro : Nat) : md_GO (if f_MD_isSlow xB ro = 0 then 24 else 16) (f_MD_go xB xpa xhe ro) := by
  have no : ∀ B i, i < 0 → ∃ z : Nat, z < B ∧ xpa i = nI z := fun _ i h => absurd h (by omega)
  unfold f_MD_go
  by_cases h : f_MD_isSlow xB ro = 0
  · rw [if_pos h, if_pos h]
    split
    · exact f_MD_go_l79_0_ok xB _ _ _ _ _ _ _ _ _ (by omega) (by omega) (no 24) (fun h => absurd rfl h) (fun h => absurd rfl h)
    · split <;> exact f_MD_go_l79_0_ok xB _ _ _ _ _ _ _ _ _ (by omega) (by omega) (no 24) (fun h => absurd rfl h) (fun h => absurd rfl h)
  · rw [if_neg h, if_neg h]
    split
    · exact f_MD_go_l79_1_ok xB _ _ _ _ _ _ _ _ _ (by omega) (by omega) (no 16) (fun h => absurd rfl h) (fun h => absurd rfl h)
    · split <;> exact f_MD_go_l79_1_ok xB _ _ _ _ _ _ _ _ _ (by omega) (by omega) (no 16) (fun h => absurd rfl h) (fun h => absurd rfl h)
theorem md_GO.w {B : Nat} {r : (Nat → Int32) × Int32 × Int32 × (Nat → Int32) × Int32} (h : md_GO B r) (hB : B ≤ 24) : md_GO 24 r := by
  obtain ⟨s, h1, h2, h3, h4⟩ := h
  exact ⟨s, h1, h2, fun i hi => by obtain ⟨z, hz, e⟩ := h3 i hi; exact ⟨z, by omega, e⟩, h4⟩
theorem f_MD_go_ok24 (xB xpa xhe : Nat → Int32) (ro : Nat) : md_GO 24 (f_MD_go xB xpa xhe ro) := (f_MD_go_ok xB xpa xhe ro).w (by split <;> omega)
/-- its steps as a Nat, and its path's places -/
theorem md_GO.steps {r : (Nat → Int32) × Int32 × Int32 × (Nat → Int32) × Int32} {z : Nat} (h : md_GO 24 r) (hz : z = r.2.1.toNatClampNeg) : r.2.1 = nI z ∧ z ≤ 3 ∧ ∀ i, i < z → vp_in (r.1 i) 24 := by
  obtain ⟨s, h1, h2, h3, -⟩ := h
  rw [h2, nI_clamp (by omega)] at hz
  subst hz
  exact ⟨h2, h1, fun i hi => by obtain ⟨y, hy, e⟩ := h3 i hi; rw [e]; exact vp_in_nI hy (by omega)⟩
