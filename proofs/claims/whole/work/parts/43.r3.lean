/-! THE COMPARISON, 3: free places, what is wrong. -/
def r_E (us tk : Nat → Int32) : Prop := ∀ q : Nat, q < 24 → us q = tk q
theorem r_upd_E {us tk : Nat → Int32} {p : Nat} {x : Int32} (h : r_E us tk) : r_E (upd us p x) (upd tk p x) := fun q hq => by
  show (if q = p then x else us q) = (if q = p then x else tk q)
  by_cases e : q = p
  · rw [if_pos e, if_pos e]
  · rw [if_neg e, if_neg e]; exact h q hq
/-- how many of the first places are free -/
def r_cz (f : Nat → Int32) : Nat → Nat
  | 0 => 0
  | k + 1 => r_cz f k + (if f k = 0 then 1 else 0)
theorem r_cz_le (f : Nat → Int32) : ∀ k : Nat, r_cz f k ≤ k := by
  intro k
  induction k with
  | zero => exact Nat.le_refl _
  | succ k ih =>
    rw [r_cz]
    by_cases h : f k = 0
    · rw [if_pos h]; omega
    · rw [if_neg h]; omega
theorem r_cz_E {f g : Nat → Int32} (h : r_E f g) : ∀ k : Nat, k ≤ 24 → r_cz f k = r_cz g k := by
  intro k
  induction k with
  | zero => intro _; rfl
  | succ k ih =>
    intro hk
    rw [r_cz, r_cz, ih (by omega), h k (by omega)]
theorem r_cz1 {f : Nat → Int32} {k : Nat} (h : f k = 0) : r_cz f (k + 1) = r_cz f k + 1 := by rw [r_cz, if_pos h]
theorem r_cz0 {f : Nat → Int32} {k : Nat} (h : ¬ f k = 0) : r_cz f (k + 1) = r_cz f k := by rw [r_cz, if_neg h, Nat.add_zero]
theorem r_pl0 : f_SF_countPlaces 0 = nI 24 := by unfold f_SF_countPlaces; rw [if_pos rfl]; rfl
theorem r_pl1 : f_SF_countPlaces 1 = nI 16 := by unfold f_SF_countPlaces; rw [if_neg (by decide)]; rfl
theorem r_start0 {fl sl tb xB : Nat → Int32} (h : r_B fl sl tb xB) {k : Nat} (hk : k < 12) : (f_MD_isSlow xB k = 0 → f_SF_chainStart tb (f_SF_countingTable tb) (nI k) 0 = f_MD_entry xB (1 + k)) ∧ (¬ f_MD_isSlow xB k = 0 → f_SF_chainStart tb (f_SF_countingTable tb) (nI k) 0 = 0) := by
  unfold f_SF_chainStart f_MD_isSlow
  rw [if_pos rfl, r_firstS h hk, r_first h hk]
  by_cases e : f_MD_entry xB (13 + k) = 0
  · rw [if_pos e, if_pos e]
    exact ⟨fun _ => rfl, fun q => absurd rfl q⟩
  · rw [if_neg e, if_neg e]
    exact ⟨fun q => absurd q (by decide), fun _ => rfl⟩
theorem r_start1 {fl sl tb xB : Nat → Int32} (h : r_B fl sl tb xB) {k : Nat} (hk : k < 12) : f_SF_chainStart tb (f_SF_countingTable tb) (nI k) 1 = f_MD_entry xB (13 + k) := by
  unfold f_SF_chainStart
  rw [if_neg (by decide), r_firstS h hk]
theorem r_there_of {xB : Nat → Int32} {k : Nat} (h : ¬ f_MD_isThere xB k = 0) (hs : f_MD_isSlow xB k = 0) : ¬ f_MD_entry xB (1 + k) = 0 := by
  intro e
  apply h
  unfold f_MD_isThere
  rw [if_pos e, if_pos hs]
theorem r_there_no {xB : Nat → Int32} {k : Nat} (h : f_MD_isThere xB k = 0) : f_MD_entry xB (1 + k) = 0 ∧ f_MD_isSlow xB k = 0 := by
  unfold f_MD_isThere at h
  by_cases e : f_MD_entry xB (1 + k) = 0
  · rw [if_pos e] at h
    by_cases s : f_MD_isSlow xB k = 0
    · exact ⟨e, s⟩
    · rw [if_neg s] at h; exact absurd h (by decide)
  · rw [if_neg e] at h; exact absurd h (by decide)
theorem r_slow_iff {xB : Nat → Int32} {k : Nat} : (f_MD_entry xB (13 + k) = 0 → f_MD_isSlow xB k = 0) ∧ (¬ f_MD_entry xB (13 + k) = 0 → f_MD_isSlow xB k = 1) := by
  unfold f_MD_isSlow
  exact ⟨fun e => if_pos e, fun e => if_neg e⟩
/-- the j-th free place on the way -/
def r_st (g : Nat → Nat) : Nat → Nat
  | 0 => 0
  | j + 1 => g j + 1
def r_pk (us : Nat → Int32) (P n : Nat) (g : Nat → Nat) : Prop := ∀ j : Nat, j < n → us (g j) = 0 ∧ g j < P ∧ r_st g j ≤ g j ∧ ∀ q : Nat, r_st g j ≤ q → q < g j → ¬ us q = 0
theorem r_ffl {tk : Nat → Int32} {fr q : Nat} (hq : tk q = 0) (hf : fr ≤ q) (hl : q < 2 ^ 31) (hn : ∀ j : Nat, fr ≤ j → j < q → ¬ tk j = 0) : ∀ fu k : Nat, q < fr + k + fu → fr + k ≤ q → f_MD_freeFrom_l2 tk fr fu k = nI q := by
  intro fu
  induction fu with
  | zero => intro k h1 h2; omega
  | succ fu ih =>
    intro k h1 h2
    rw [f_MD_freeFrom_l2]
    by_cases e : fr + k = q
    · rw [e, if_pos hq]
    · rw [if_neg (hn (fr + k) (by omega) (by omega))]
      exact ih (k + 1) (by omega) (by omega)
theorem r_ff {us tk : Nat → Int32} {P n j : Nat} {g : Nat → Nat} (hP : P ≤ 24) (hE : r_E us tk) (h : r_pk us P n g) (hj : j < n) : f_MD_freeFrom tk (r_st g j) = nI (g j) := by
  obtain ⟨a1, a2, a3, a4⟩ := h j hj
  exact r_ffl (by rw [← hE (g j) (by omega)]; exact a1) a3 (by omega) (fun q h1 h2 => by rw [← hE q (by omega)]; exact a4 q h1 h2) (24 + 1) 0 (by omega) (by omega)
theorem r_stir0 : f_MD_stir 0 0 = 0 := by decide
/-- a block that is all 0 has its right sum -/
theorem r_zero {xB : Nat → Int32} {fm N : Nat} (hN : N < 2 ^ 31) (h : ∀ k : Nat, k < N + 4 → xB (fm + k) = 0) : f_MD_isSummed xB fm N = 1 := by
  have L : ∀ fu k : Nat, k + fu = N + 1 → k ≤ N → f_MD_isSummed_l5 xB fm N fu k 0 = f_MD_isSummed_l37 xB fm N 0 (4 + 1) 0 1 := by
    intro fu
    induction fu with
    | zero => intro k h1 h2; omega
    | succ fu ih =>
      intro k h1 h2
      rw [f_MD_isSummed_l5]
      by_cases hk : N ≤ k
      · rw [if_pos (nI_le hk (by omega))]
      · rw [if_neg (nI_ge (by omega) (by omega)), h k (by omega), r_stir0]
        exact ih (k + 1) (by omega) (by omega)
  unfold f_MD_isSummed
  rw [L (N + 1) 0 (by omega) (by omega), r_l37 (fun _ => 0) (fun k hk => ⟨by omega, by rw [Nat.add_assoc, h (N + k) (by omega)]; rfl⟩)]
  exact if_pos rfl
theorem r_m1 {n : Nat} : nI (n + 1) + (-1) = nI n := by
  rw [← Int32.sub_eq_add_neg]
  exact nI_pred n
theorem r_mark_0 {xB wxpa wxhe mp : Nat → Int32} {kr c : Nat} (hc : c ≤ 3) (hR : (f_MD_go xB wxpa wxhe kr).2.1 = nI c) (hj : ∀ j : Nat, j < c → mp j = (f_MD_go xB wxpa wxhe kr).1 j ∧ ∃ p : Nat, p < 24 ∧ mp j = nI p) {us tk : Nat → Int32} (hE : r_E us tk) :
    r_E (f_SF_markFollowed mp (nI c) us) (f_MD_findTaken_0_l53 xB wxpa wxhe kr (((f_MD_go xB wxpa wxhe kr).2.1.toNatClampNeg) + 1) 0 tk) := by
  have L : ∀ (fu k : Nat) (us tk : Nat → Int32), k + fu = c + 1 → k ≤ c → r_E us tk → r_E (f_SF_markFollowed_l2 mp (nI c) fu k us) (f_MD_findTaken_0_l53 xB wxpa wxhe kr fu k tk) := by
    intro fu
    induction fu with
    | zero => intro k us tk h1 h2; omega
    | succ fu ih =>
      intro k us tk h1 h2 hE
      rw [f_SF_markFollowed_l2, f_MD_findTaken_0_l53, hR, nI_clamp (show c < 2 ^ 31 by omega)]
      by_cases hk : c ≤ k
      · rw [if_pos (nI_le hk (by omega)), if_pos (nI_le hk (by omega))]
        exact hE
      · obtain ⟨e, p, hp, hpe⟩ := hj k (by omega)
        rw [if_neg (nI_ge (show k < c by omega) (by omega)), if_neg (nI_ge (show k < c by omega) (by omega)), r_placeAt (by omega) hc, ← e, hpe, if_neg (nI_pos (by omega)), if_neg (show ¬ (24 : Int32) ≤ nI p from nI_ge (b := 24) hp (by omega)), nI_clamp (show p < 2 ^ 31 by omega)]
        exact ih (k + 1) _ _ (by omega) (by omega) (r_upd_E hE)
  unfold f_SF_markFollowed
  rw [hR, nI_clamp (show c < 2 ^ 31 by omega)]
  exact L (c + 1) 0 us tk (by omega) (by omega) hE
theorem r_used_0 {fl sl tb xB : Nat → Int32} (h : r_B fl sl tb xB) : ∀ (fu k : Nat) (xu xp : Nat → Int32) (xc xb xh xm : Int32) (wt wxpa : Nat → Int32) (wxsp wxwh : Int32) (wxhe : Nat → Int32) (wxho : Int32), k + fu = 13 → k ≤ 12 → r_E xu wt →
    ∃ (wt' wxpa' : Nat → Int32) (wxsp' wxwh' : Int32) (wxhe' : Nat → Int32) (wxho' : Int32), f_MD_findTaken_0_l23 xB fu k wt wxpa wxsp wxwh wxhe wxho = f_MD_findTaken_0_l89 wt' wxpa' wxsp' wxwh' wxhe' wxho' (24 + 1) 0 0 ∧ r_E (f_SF_markUsed_0_l28 fl tb fu k xu xp xc xb xh xm).1 wt' := by
  intro fu
  induction fu with
  | zero => intro k xu xp xc xb xh xm wt wxpa wxsp wxwh wxhe wxho h1 h2; omega
  | succ fu ih =>
    intro k xu xp xc xb xh xm wt wxpa wxsp wxwh wxhe wxho h1 h2 hE
    rw [f_MD_findTaken_0_l23, f_SF_markUsed_0_l28]
    by_cases hk : 12 ≤ k
    · rw [if_pos (show (12 : Int32) ≤ nI k from nI_le (a := 12) hk (by omega)), if_pos (show (12 : Int32) ≤ nI k from nI_le (a := 12) hk (by omega))]
      exact ⟨wt, wxpa, wxsp, wxwh, wxhe, wxho, rfl, hE⟩
    · have hk' : k < 12 := by omega
      rw [if_neg (show ¬ (12 : Int32) ≤ nI k from nI_ge (b := 12) hk' (by omega)), if_neg (show ¬ (12 : Int32) ≤ nI k from nI_ge (b := 12) hk' (by omega))]
      by_cases hs : f_MD_isSlow xB k = 0
      · rw [(r_start0 h hk').1 hs]
        by_cases ht : f_MD_isThere xB k = 0
        · rw [if_pos ht, if_pos (r_there_no ht).1]
          exact ih (k + 1) _ _ _ _ _ _ _ _ _ _ _ _ (by omega) (by omega) hE
        · rw [if_neg ht, if_pos hs, if_neg (r_there_of ht hs)]
          obtain ⟨mo, _, c, hc, hA, hR, hj, _⟩ := r_row0 h hk' hs xp wxpa wxhe
          have hm := r_mark_0 (mp := (f_Ch_follow xp 768 fl 28 (f_MD_entry xB (1 + k) - 1)).1) hc hR hj hE
          rw [← hA] at hm
          exact ih (k + 1) _ _ _ _ _ _ _ _ _ _ _ _ (by omega) (by omega) hm
      · rw [(r_start0 h hk').2 hs, if_pos (show (0 : Int32) = 0 from rfl)]
        by_cases ht : f_MD_isThere xB k = 0
        · rw [if_pos ht]
          exact ih (k + 1) _ _ _ _ _ _ _ _ _ _ _ _ (by omega) (by omega) hE
        · rw [if_neg ht, if_neg hs]
          exact ih (k + 1) _ _ _ _ _ _ _ _ _ _ _ _ (by omega) (by omega) hE
theorem r_reset_0 {fl sl tb xB : Nat → Int32} (h : r_B fl sl tb xB) {xpa xhe mp : Nat → Int32} {xsp xwh xho mc mb mh mm : Int32} : ∀ (fu k : Nat) (vu vt : Nat → Int32), k + fu = 25 → k ≤ 24 → (∀ j : Nat, j < k → vu j = vt j) →
    ∃ (wt' wxpa' : Nat → Int32) (wxsp' wxwh' : Int32) (wxhe' : Nat → Int32) (wxho' : Int32), f_MD_findTaken_0_l2 xB xpa xsp xwh xhe xho fu k vt = f_MD_findTaken_0_l89 wt' wxpa' wxsp' wxwh' wxhe' wxho' (24 + 1) 0 0 ∧ r_E (f_SF_markUsed_0_l2 fl tb mp mc mb mh mm fu k vu).1 wt' := by
  intro fu
  induction fu with
  | zero => intro k vu vt h1 h2; omega
  | succ fu ih =>
    intro k vu vt h1 h2 he
    rw [f_MD_findTaken_0_l2, f_SF_markUsed_0_l2]
    by_cases hk : 24 ≤ k
    · rw [if_pos (show (24 : Int32) ≤ nI k from nI_le (a := 24) hk (by omega)), if_pos (show (24 : Int32) ≤ nI k from nI_le (a := 24) hk (by omega))]
      exact r_used_0 h (12 + 1) 0 vu mp mc mb mh mm vt xpa xsp xwh xhe xho (by omega) (by omega) (fun q hq => he q (by omega))
    · rw [if_neg (show ¬ (24 : Int32) ≤ nI k from nI_ge (b := 24) (by omega) (by omega)), if_neg (show ¬ (24 : Int32) ≤ nI k from nI_ge (b := 24) (by omega) (by omega))]
      exact ih (k + 1) _ _ (by omega) (by omega) (r_upd_eq he)
theorem r_l89_0 {wt wxpa wxhe : Nat → Int32} {wxsp wxwh wxho : Int32} : ∀ fu k : Nat, k + fu = 24 + 1 → k ≤ 24 → f_MD_findTaken_0_l89 wt wxpa wxsp wxwh wxhe wxho fu k (nI (r_cz wt k)) = (nI (r_cz wt 24), wt, wxpa, wxsp, wxwh, wxhe, wxho) := by
  intro fu
  induction fu with
  | zero => intro k h1 h2; omega
  | succ fu ih =>
    intro k h1 h2
    rw [f_MD_findTaken_0_l89]
    by_cases hk : 24 ≤ k
    · rw [if_pos (show (24 : Int32) ≤ nI k from nI_le (a := 24) hk (by omega)), show k = 24 by omega]
    · rw [if_neg (show ¬ (24 : Int32) ≤ nI k from nI_ge (b := 24) (by omega) (by omega))]
      have := ih (k + 1) (by omega) (by omega)
      by_cases e : wt k = 0
      · rw [if_pos e, nI_1, ← r_cz1 e]; exact this
      · rw [if_neg e, show nI (r_cz wt k) + 0 = nI (r_cz wt (k + 1)) from by rw [r_cz0 e]; exact nI_add _ 0]; exact this
/-- THE SAME PLACES are free -/
theorem r_ft_0 {fl sl tb xB : Nat → Int32} (h : r_B fl sl tb xB) (xpa xhe xtk mp us : Nat → Int32) (xsp xwh xho mc mb mh mm : Int32) :
    (f_MD_findTaken_0 xB xpa xsp xwh xhe xho xtk).1 = nI (r_cz (f_SF_markUsed_0 fl tb mp mc mb mh mm us).1 24) ∧ r_E (f_SF_markUsed_0 fl tb mp mc mb mh mm us).1 (f_MD_findTaken_0 xB xpa xsp xwh xhe xho xtk).2.1 := by
  obtain ⟨wt', wxpa', wxsp', wxwh', wxhe', wxho', e, hE⟩ := r_reset_0 h (xpa := xpa) (xhe := xhe) (mp := mp) (xsp := xsp) (xwh := xwh) (xho := xho) (mc := mc) (mb := mb) (mh := mh) (mm := mm) (24 + 1) 0 us xtk (by omega) (by omega) (fun j hj => absurd hj (Nat.not_lt_zero j))
  have e2 : f_MD_findTaken_0 xB xpa xsp xwh xhe xho xtk = (nI (r_cz wt' 24), wt', wxpa', wxsp', wxwh', wxhe', wxho') := by
    unfold f_MD_findTaken_0
    rw [e]
    exact r_l89_0 (24 + 1) 0 (by omega) (by omega)
  have hE2 : r_E (f_SF_markUsed_0 fl tb mp mc mb mh mm us).1 wt' := hE
  rw [e2, r_cz_E hE2 24 (by omega)]
  exact ⟨rfl, hE2⟩
theorem r_cf_0 {fl tb mp us : Nat → Int32} {mc mb mh mm : Int32} : (f_SF_countFree_0 fl tb mp mc mb mh mm us).1 = nI (r_cz (f_SF_markUsed_0 fl tb mp mc mb mh mm us).1 24) := by
  have L : ∀ fu k : Nat, k + fu = 25 → k ≤ 24 → (f_SF_countFree_0_l9 fl tb mp mc mb mh mm us fu k (nI (r_cz (f_SF_markUsed_0 fl tb mp mc mb mh mm us).1 k))).1 = nI (r_cz (f_SF_markUsed_0 fl tb mp mc mb mh mm us).1 24) := by
    intro fu
    induction fu with
    | zero => intro k h1 h2; omega
    | succ fu ih =>
      intro k h1 h2
      rw [f_SF_countFree_0_l9, r_pl0]
      by_cases hk : 24 ≤ k
      · rw [if_pos (nI_le hk (by omega)), show k = 24 by omega]
      · rw [if_neg (nI_ge (show k < 24 by omega) (by omega)), if_neg (show ¬ (24 : Int32) ≤ nI k from nI_ge (b := 24) (by omega) (by omega))]
        have := ih (k + 1) (by omega) (by omega)
        by_cases e : (f_SF_markUsed_0 fl tb mp mc mb mh mm us).1 k = 0
        · rw [if_pos e, nI_1, ← r_cz1 e]; exact this
        · rw [if_neg e, ← r_cz0 e]; exact this
  exact L (24 + 1) 0 (by omega) (by omega)
/-- the places that a write takes -/
theorem r_take_0 {fl tb mp us ta : Nat → Int32} {mc mb mh mm : Int32} {n : Nat} (hn : n ≤ 3) :
    (n ≤ r_cz (f_SF_markUsed_0 fl tb mp mc mb mh mm us).1 24 → (f_SF_takePlaces_0 fl tb mp mc mb mh mm us ta (nI n)).1 = 1 ∧ ∃ g : Nat → Nat, r_pk (f_SF_markUsed_0 fl tb mp mc mb mh mm us).1 24 n g ∧ ∀ j : Nat, j < n → (f_SF_takePlaces_0 fl tb mp mc mb mh mm us ta (nI n)).2.2.2.2.2.2.2 j = nI (g j)) ∧
    (¬ n ≤ r_cz (f_SF_markUsed_0 fl tb mp mc mb mh mm us).1 24 → (f_SF_takePlaces_0 fl tb mp mc mb mh mm us ta (nI n)).1 = 0) := by
  obtain ⟨U, hU⟩ : ∃ U : Nat → Int32, U = (f_SF_markUsed_0 fl tb mp mc mb mh mm us).1 := ⟨_, rfl⟩
  rw [← hU]
  have L : ∀ (fu k vo : Nat) (vt : Nat → Int32) (g : Nat → Nat), k + fu = 25 → k ≤ 24 → vo ≤ n → (vo < n → vo = r_cz U k) → (vo = n → n ≤ r_cz U k) → r_pk U k vo g → (∀ j : Nat, j < vo → vt j = nI (g j)) → (vo < n → ∀ q : Nat, r_st g vo ≤ q → q < k → ¬ U q = 0) → r_st g vo ≤ k →
      (n ≤ r_cz U 24 → (f_SF_takePlaces_0_l10 fl tb mp mc mb mh mm us (nI n) fu k vo vt).1 = 1 ∧ ∃ g : Nat → Nat, r_pk U 24 n g ∧ ∀ j : Nat, j < n → (f_SF_takePlaces_0_l10 fl tb mp mc mb mh mm us (nI n) fu k vo vt).2.2.2.2.2.2.2 j = nI (g j)) ∧
      (¬ n ≤ r_cz U 24 → (f_SF_takePlaces_0_l10 fl tb mp mc mb mh mm us (nI n) fu k vo vt).1 = 0) := by
    intro fu
    induction fu with
    | zero => intro k vo vt g h1 h2; omega
    | succ fu ih =>
      intro k vo vt g h1 h2 h3 h4 h5 h6 h7 h8 h9
      rw [f_SF_takePlaces_0_l10, r_pl0]
      by_cases hk : 24 ≤ k
      · have hkP : k = 24 := by omega
        subst hkP
        rw [if_pos (nI_le hk (by omega))]
        by_cases hv : vo = n
        · subst hv
          rw [if_pos rfl]
          exact ⟨fun _ => ⟨rfl, g, h6, h7⟩, fun hno => absurd (h5 rfl) hno⟩
        · rw [if_neg (fun he => hv ((nI_eq (by omega) (by omega)).mp he))]
          exact ⟨fun hy => absurd (h4 (by omega)) (by omega), fun _ => rfl⟩
      · rw [if_neg (nI_ge (show k < 24 by omega) (by omega)), if_neg (show ¬ (24 : Int32) ≤ nI k from nI_ge (b := 24) (by omega) (by omega)), ← hU]
        have h6k : r_pk U (k + 1) vo g := fun j hj => by
          obtain ⟨a1, a2, a3, a4⟩ := h6 j hj
          exact ⟨a1, by omega, a3, a4⟩
        by_cases e : U k = 0
        · rw [if_pos e]
          have c1 := r_cz1 e
          by_cases hv : n ≤ vo
          · rw [if_pos (nI_le hv (by omega))]
            exact ih (k + 1) vo vt g (by omega) (by omega) h3 (fun q => by omega) (fun q => by have := h5 q; omega) h6k h7 (fun q => by omega) (by omega)
          · rw [if_neg (nI_ge (show vo < n by omega) (by omega)), if_neg (show ¬ (3 : Int32) ≤ nI vo from nI_ge (b := 3) (by omega) (by omega))]
            have hvo := h4 (by omega)
            have hst : r_st (fun j => if j = vo then k else g j) vo = r_st g vo := by
              cases vo with
              | zero => rfl
              | succ v =>
                show (if v = v + 1 then k else g v) + 1 = g v + 1
                rw [if_neg (by omega)]
            refine ih (k + 1) (vo + 1) _ (fun j => if j = vo then k else g j) (by omega) (by omega) (by omega) (fun q => by omega) (fun q => by omega) ?_ ?_ ?_ ?_
            · intro j hj
              by_cases hjv : j = vo
              · subst hjv
                rw [hst]
                show U (if j = j then k else g j) = 0 ∧ (if j = j then k else g j) < k + 1 ∧ r_st g j ≤ (if j = j then k else g j) ∧ ∀ q : Nat, r_st g j ≤ q → q < (if j = j then k else g j) → ¬ U q = 0
                rw [if_pos rfl]
                exact ⟨e, by omega, h9, h8 (by omega)⟩
              · have hsj : r_st (fun j => if j = vo then k else g j) j = r_st g j := by
                  cases j with
                  | zero => rfl
                  | succ v =>
                    show (if v = vo then k else g v) + 1 = g v + 1
                    rw [if_neg (by omega)]
                rw [hsj]
                show U (if j = vo then k else g j) = 0 ∧ (if j = vo then k else g j) < k + 1 ∧ r_st g j ≤ (if j = vo then k else g j) ∧ ∀ q : Nat, r_st g j ≤ q → q < (if j = vo then k else g j) → ¬ U q = 0
                rw [if_neg hjv]
                exact h6k j (by omega)
            · intro j hj
              show (if j = vo then nI k else vt j) = nI (if j = vo then k else g j)
              by_cases hjv : j = vo
              · rw [if_pos hjv, if_pos hjv]
              · rw [if_neg hjv, if_neg hjv]; exact h7 j (by omega)
            · intro _ q hq1 hq2
              have hq3 : (if vo = vo then k else g vo) + 1 ≤ q := hq1
              rw [if_pos rfl] at hq3
              omega
            · show (if vo = vo then k else g vo) + 1 ≤ k + 1
              rw [if_pos rfl]
              omega
        · rw [if_neg e]
          have c0 := r_cz0 e
          exact ih (k + 1) vo vt g (by omega) (by omega) h3 (fun q => by rw [c0]; exact h4 q) (fun q => by rw [c0]; exact h5 q) h6k h7 (fun q r hr1 hr2 => by
            by_cases hrk : r = k
            · rw [hrk]; exact e
            · exact h8 q r hr1 (by omega)) (by omega)
  unfold f_SF_takePlaces_0
  exact L (24 + 1) 0 0 ta (fun _ => 0) (by omega) (by omega) (by omega) (fun _ => rfl) (fun q => by subst q; exact Nat.zero_le _) (fun j hj => absurd hj (Nat.not_lt_zero j)) (fun j hj => absurd hj (Nat.not_lt_zero j)) (fun _ q _ hq => absurd hq (Nat.not_lt_zero q)) (Nat.le_refl _)
/-- the same place is wrong -/
theorem r_wp_0 {fl sl tb xB : Nat → Int32} (h : r_B fl sl tb xB) (xpa xhe xtk mp us : Nat → Int32) (xsp xwh xho mc mb mh mm : Int32) {w : Nat} (hw : w < 2 ^ 31) :
    (f_SF_wrongPlace_0 fl tb mp mc mb mh mm us (nI w)).1 = (f_MD_wrong_l55_0 xB xpa xsp xwh xhe xho xtk (24 + 1) 0 (nI w)).1 ∧ (f_MD_wrong_l55_0 xB xpa xsp xwh xhe xho xtk (24 + 1) 0 (nI w)).2.1 = 0 := by
  have hE := (r_ft_0 h xpa xhe xtk mp us xsp xwh xho mc mb mh mm).2
  have L : ∀ fu fv k s : Nat, k + fu = 25 → k + fv = 24 + 1 → k ≤ 24 → s ≤ w → (f_SF_wrongPlace_0_l17 fl tb mp mc mb mh mm us (nI w) fu k (nI s)).1 = (f_MD_wrong_l55_0 xB xpa xsp xwh xhe xho xtk fv k (nI (w - s))).1 ∧ (f_MD_wrong_l55_0 xB xpa xsp xwh xhe xho xtk fv k (nI (w - s))).2.1 = 0 := by
    intro fu
    induction fu with
    | zero => intro fv k s h1 h2 h3; omega
    | succ fu ih =>
      intro fv k s h1 h2 h3 h4
      cases fv with
      | zero => omega
      | succ fv =>
        rw [f_SF_wrongPlace_0_l17, f_MD_wrong_l55_0, r_pl0]
        by_cases hk : 24 ≤ k
        · rw [if_pos (show nI 24 ≤ nI k from nI_le hk (by omega)), if_pos (show (24 : Int32) ≤ nI k from nI_le (a := 24) hk (by omega))]
          exact ⟨rfl, rfl⟩
        · have hk' : k < 24 := by omega
          rw [if_neg (show ¬ nI 24 ≤ nI k from nI_ge hk' (by omega)), if_neg (show ¬ (24 : Int32) ≤ nI k from nI_ge (b := 24) hk' (by omega)), if_neg (show ¬ (24 : Int32) ≤ nI k from nI_ge (b := 24) (by omega) (by omega)), hE k (by omega), r_psum_0 h.1 (fun q hq => h.yf q hq) hk']
          unfold f_MD_isWrong_0
          have hnext := ih fv (k + 1) s (by omega) (by omega) (by omega) h4
          by_cases a : (f_MD_findTaken_0 xB xpa xsp xwh xhe xho xtk).2.1 k = 0
          · rw [if_pos a, if_pos a, if_pos rfl]
            exact hnext
          · rw [if_neg a, if_neg a]
            by_cases b : f_MD_isSummed xB (0 + (32 * k)) 28 = 0
            · rw [if_pos b, if_pos b, if_neg (show ¬ (1 : Int32) = 0 by decide)]
              by_cases c : s = w
              · subst c
                rw [if_pos rfl, Nat.sub_self, if_pos (show nI 0 = 0 from rfl)]
                exact ⟨rfl, rfl⟩
              · rw [if_neg (fun q => c ((nI_eq (by omega) hw).mp q)), if_neg (nI_ne0 (by omega) (by omega)), nI_1]
                have hn2 := ih fv (k + 1) (s + 1) (by omega) (by omega) (by omega) (by omega)
                rw [show nI (w - s) + (-1) = nI (w - (s + 1)) from by rw [show w - s = (w - (s + 1)) + 1 by omega]; exact r_m1]
                exact hn2
            · rw [if_neg b, if_neg b, if_pos rfl]
              exact hnext
  have Z := L (24 + 1) (24 + 1) 0 0 (by omega) (by omega) (by omega) (by omega)
  rw [Nat.sub_zero, show nI 0 = (0 : Int32) from rfl] at Z
  unfold f_SF_wrongPlace_0
  exact Z
theorem r_mark_1 {xB wxpa wxhe mp : Nat → Int32} {kr c : Nat} (hc : c ≤ 3) (hR : (f_MD_go xB wxpa wxhe kr).2.1 = nI c) (hj : ∀ j : Nat, j < c → mp j = (f_MD_go xB wxpa wxhe kr).1 j ∧ ∃ p : Nat, p < 24 ∧ mp j = nI p) {us tk : Nat → Int32} (hE : r_E us tk) :
    r_E (f_SF_markFollowed mp (nI c) us) (f_MD_findTaken_1_l53 xB wxpa wxhe kr (((f_MD_go xB wxpa wxhe kr).2.1.toNatClampNeg) + 1) 0 tk) := by
  have L : ∀ (fu k : Nat) (us tk : Nat → Int32), k + fu = c + 1 → k ≤ c → r_E us tk → r_E (f_SF_markFollowed_l2 mp (nI c) fu k us) (f_MD_findTaken_1_l53 xB wxpa wxhe kr fu k tk) := by
    intro fu
    induction fu with
    | zero => intro k us tk h1 h2; omega
    | succ fu ih =>
      intro k us tk h1 h2 hE
      rw [f_SF_markFollowed_l2, f_MD_findTaken_1_l53, hR, nI_clamp (show c < 2 ^ 31 by omega)]
      by_cases hk : c ≤ k
      · rw [if_pos (nI_le hk (by omega)), if_pos (nI_le hk (by omega))]
        exact hE
      · obtain ⟨e, p, hp, hpe⟩ := hj k (by omega)
        rw [if_neg (nI_ge (show k < c by omega) (by omega)), if_neg (nI_ge (show k < c by omega) (by omega)), r_placeAt (by omega) hc, ← e, hpe, if_neg (nI_pos (by omega)), if_neg (show ¬ (24 : Int32) ≤ nI p from nI_ge (b := 24) hp (by omega)), nI_clamp (show p < 2 ^ 31 by omega)]
        exact ih (k + 1) _ _ (by omega) (by omega) (r_upd_E hE)
  unfold f_SF_markFollowed
  rw [hR, nI_clamp (show c < 2 ^ 31 by omega)]
  exact L (c + 1) 0 us tk (by omega) (by omega) hE
theorem r_used_1 {fl sl tb xB : Nat → Int32} (h : r_B fl sl tb xB) : ∀ (fu k : Nat) (xu xp : Nat → Int32) (xc xb xh xm : Int32) (wt wxpa : Nat → Int32) (wxsp wxwh : Int32) (wxhe : Nat → Int32) (wxho : Int32), k + fu = 13 → k ≤ 12 → r_E xu wt →
    ∃ (wt' wxpa' : Nat → Int32) (wxsp' wxwh' : Int32) (wxhe' : Nat → Int32) (wxho' : Int32), f_MD_findTaken_1_l23 xB fu k wt wxpa wxsp wxwh wxhe wxho = f_MD_findTaken_1_l89 wt' wxpa' wxsp' wxwh' wxhe' wxho' (16 + 1) 0 0 ∧ r_E (f_SF_markUsed_1_l28 sl tb fu k xu xp xc xb xh xm).1 wt' := by
  intro fu
  induction fu with
  | zero => intro k xu xp xc xb xh xm wt wxpa wxsp wxwh wxhe wxho h1 h2; omega
  | succ fu ih =>
    intro k xu xp xc xb xh xm wt wxpa wxsp wxwh wxhe wxho h1 h2 hE
    rw [f_MD_findTaken_1_l23, f_SF_markUsed_1_l28]
    by_cases hk : 12 ≤ k
    · rw [if_pos (show (12 : Int32) ≤ nI k from nI_le (a := 12) hk (by omega)), if_pos (show (12 : Int32) ≤ nI k from nI_le (a := 12) hk (by omega))]
      exact ⟨wt, wxpa, wxsp, wxwh, wxhe, wxho, rfl, hE⟩
    · have hk' : k < 12 := by omega
      rw [if_neg (show ¬ (12 : Int32) ≤ nI k from nI_ge (b := 12) hk' (by omega)), if_neg (show ¬ (12 : Int32) ≤ nI k from nI_ge (b := 12) hk' (by omega))]
      rw [r_start1 h hk']
      by_cases hs : f_MD_entry xB (13 + k) = 0
      · have hz := r_slow_iff.1 hs
        rw [if_pos hs]
        by_cases ht : f_MD_isThere xB k = 0
        · rw [if_pos ht]
          exact ih (k + 1) _ _ _ _ _ _ _ _ _ _ _ _ (by omega) (by omega) hE
        · rw [if_neg ht, if_neg (by rw [hz]; decide)]
          exact ih (k + 1) _ _ _ _ _ _ _ _ _ _ _ _ (by omega) (by omega) hE
      · have hz := r_slow_iff.2 hs
        have hz0 : ¬ f_MD_isSlow xB k = 0 := by rw [hz]; decide
        have ht : ¬ f_MD_isThere xB k = 0 := fun q => hz0 (r_there_no q).2
        rw [if_neg hs, if_neg ht, if_pos hz]
        obtain ⟨mo, _, c, hc, hA, hR, hj, _⟩ := r_row1 h hk' hz0 xp wxpa wxhe
        have hm := r_mark_1 (mp := (f_Ch_follow xp 512 sl 28 (f_MD_entry xB (13 + k) - 1)).1) hc hR (fun j q => ⟨(hj j q).1, by
          obtain ⟨p, h1, h2⟩ := (hj j q).2
          exact ⟨p, by omega, h2⟩⟩) hE
        rw [← hA] at hm
        exact ih (k + 1) _ _ _ _ _ _ _ _ _ _ _ _ (by omega) (by omega) hm
theorem r_reset_1 {fl sl tb xB : Nat → Int32} (h : r_B fl sl tb xB) {xpa xhe mp : Nat → Int32} {xsp xwh xho mc mb mh mm : Int32} : ∀ (fu k : Nat) (vu vt : Nat → Int32), k + fu = 25 → k ≤ 24 → (∀ j : Nat, j < k → vu j = vt j) →
    ∃ (wt' wxpa' : Nat → Int32) (wxsp' wxwh' : Int32) (wxhe' : Nat → Int32) (wxho' : Int32), f_MD_findTaken_1_l2 xB xpa xsp xwh xhe xho fu k vt = f_MD_findTaken_1_l89 wt' wxpa' wxsp' wxwh' wxhe' wxho' (16 + 1) 0 0 ∧ r_E (f_SF_markUsed_1_l2 sl tb mp mc mb mh mm fu k vu).1 wt' := by
  intro fu
  induction fu with
  | zero => intro k vu vt h1 h2; omega
  | succ fu ih =>
    intro k vu vt h1 h2 he
    rw [f_MD_findTaken_1_l2, f_SF_markUsed_1_l2]
    by_cases hk : 24 ≤ k
    · rw [if_pos (show (24 : Int32) ≤ nI k from nI_le (a := 24) hk (by omega)), if_pos (show (24 : Int32) ≤ nI k from nI_le (a := 24) hk (by omega))]
      exact r_used_1 h (12 + 1) 0 vu mp mc mb mh mm vt xpa xsp xwh xhe xho (by omega) (by omega) (fun q hq => he q (by omega))
    · rw [if_neg (show ¬ (24 : Int32) ≤ nI k from nI_ge (b := 24) (by omega) (by omega)), if_neg (show ¬ (24 : Int32) ≤ nI k from nI_ge (b := 24) (by omega) (by omega))]
      exact ih (k + 1) _ _ (by omega) (by omega) (r_upd_eq he)
theorem r_l89_1 {wt wxpa wxhe : Nat → Int32} {wxsp wxwh wxho : Int32} : ∀ fu k : Nat, k + fu = 16 + 1 → k ≤ 16 → f_MD_findTaken_1_l89 wt wxpa wxsp wxwh wxhe wxho fu k (nI (r_cz wt k)) = (nI (r_cz wt 16), wt, wxpa, wxsp, wxwh, wxhe, wxho) := by
  intro fu
  induction fu with
  | zero => intro k h1 h2; omega
  | succ fu ih =>
    intro k h1 h2
    rw [f_MD_findTaken_1_l89]
    by_cases hk : 16 ≤ k
    · rw [if_pos (show (16 : Int32) ≤ nI k from nI_le (a := 16) hk (by omega)), show k = 16 by omega]
    · rw [if_neg (show ¬ (16 : Int32) ≤ nI k from nI_ge (b := 16) (by omega) (by omega))]
      have := ih (k + 1) (by omega) (by omega)
      by_cases e : wt k = 0
      · rw [if_pos e, nI_1, ← r_cz1 e]; exact this
      · rw [if_neg e, show nI (r_cz wt k) + 0 = nI (r_cz wt (k + 1)) from by rw [r_cz0 e]; exact nI_add _ 0]; exact this
/-- THE SAME PLACES are free -/
theorem r_ft_1 {fl sl tb xB : Nat → Int32} (h : r_B fl sl tb xB) (xpa xhe xtk mp us : Nat → Int32) (xsp xwh xho mc mb mh mm : Int32) :
    (f_MD_findTaken_1 xB xpa xsp xwh xhe xho xtk).1 = nI (r_cz (f_SF_markUsed_1 sl tb mp mc mb mh mm us).1 16) ∧ r_E (f_SF_markUsed_1 sl tb mp mc mb mh mm us).1 (f_MD_findTaken_1 xB xpa xsp xwh xhe xho xtk).2.1 := by
  obtain ⟨wt', wxpa', wxsp', wxwh', wxhe', wxho', e, hE⟩ := r_reset_1 h (xpa := xpa) (xhe := xhe) (mp := mp) (xsp := xsp) (xwh := xwh) (xho := xho) (mc := mc) (mb := mb) (mh := mh) (mm := mm) (24 + 1) 0 us xtk (by omega) (by omega) (fun j hj => absurd hj (Nat.not_lt_zero j))
  have e2 : f_MD_findTaken_1 xB xpa xsp xwh xhe xho xtk = (nI (r_cz wt' 16), wt', wxpa', wxsp', wxwh', wxhe', wxho') := by
    unfold f_MD_findTaken_1
    rw [e]
    exact r_l89_1 (16 + 1) 0 (by omega) (by omega)
  have hE2 : r_E (f_SF_markUsed_1 sl tb mp mc mb mh mm us).1 wt' := hE
  rw [e2, r_cz_E hE2 16 (by omega)]
  exact ⟨rfl, hE2⟩
theorem r_cf_1 {sl tb mp us : Nat → Int32} {mc mb mh mm : Int32} : (f_SF_countFree_1 sl tb mp mc mb mh mm us).1 = nI (r_cz (f_SF_markUsed_1 sl tb mp mc mb mh mm us).1 16) := by
  have L : ∀ fu k : Nat, k + fu = 25 → k ≤ 16 → (f_SF_countFree_1_l9 sl tb mp mc mb mh mm us fu k (nI (r_cz (f_SF_markUsed_1 sl tb mp mc mb mh mm us).1 k))).1 = nI (r_cz (f_SF_markUsed_1 sl tb mp mc mb mh mm us).1 16) := by
    intro fu
    induction fu with
    | zero => intro k h1 h2; omega
    | succ fu ih =>
      intro k h1 h2
      rw [f_SF_countFree_1_l9, r_pl1]
      by_cases hk : 16 ≤ k
      · rw [if_pos (nI_le hk (by omega)), show k = 16 by omega]
      · rw [if_neg (nI_ge (show k < 16 by omega) (by omega)), if_neg (show ¬ (24 : Int32) ≤ nI k from nI_ge (b := 24) (by omega) (by omega))]
        have := ih (k + 1) (by omega) (by omega)
        by_cases e : (f_SF_markUsed_1 sl tb mp mc mb mh mm us).1 k = 0
        · rw [if_pos e, nI_1, ← r_cz1 e]; exact this
        · rw [if_neg e, ← r_cz0 e]; exact this
  exact L (24 + 1) 0 (by omega) (by omega)
/-- the places that a write takes -/
theorem r_take_1 {sl tb mp us ta : Nat → Int32} {mc mb mh mm : Int32} {n : Nat} (hn : n ≤ 3) :
    (n ≤ r_cz (f_SF_markUsed_1 sl tb mp mc mb mh mm us).1 16 → (f_SF_takePlaces_1 sl tb mp mc mb mh mm us ta (nI n)).1 = 1 ∧ ∃ g : Nat → Nat, r_pk (f_SF_markUsed_1 sl tb mp mc mb mh mm us).1 16 n g ∧ ∀ j : Nat, j < n → (f_SF_takePlaces_1 sl tb mp mc mb mh mm us ta (nI n)).2.2.2.2.2.2.2 j = nI (g j)) ∧
    (¬ n ≤ r_cz (f_SF_markUsed_1 sl tb mp mc mb mh mm us).1 16 → (f_SF_takePlaces_1 sl tb mp mc mb mh mm us ta (nI n)).1 = 0) := by
  obtain ⟨U, hU⟩ : ∃ U : Nat → Int32, U = (f_SF_markUsed_1 sl tb mp mc mb mh mm us).1 := ⟨_, rfl⟩
  rw [← hU]
  have L : ∀ (fu k vo : Nat) (vt : Nat → Int32) (g : Nat → Nat), k + fu = 25 → k ≤ 16 → vo ≤ n → (vo < n → vo = r_cz U k) → (vo = n → n ≤ r_cz U k) → r_pk U k vo g → (∀ j : Nat, j < vo → vt j = nI (g j)) → (vo < n → ∀ q : Nat, r_st g vo ≤ q → q < k → ¬ U q = 0) → r_st g vo ≤ k →
      (n ≤ r_cz U 16 → (f_SF_takePlaces_1_l10 sl tb mp mc mb mh mm us (nI n) fu k vo vt).1 = 1 ∧ ∃ g : Nat → Nat, r_pk U 16 n g ∧ ∀ j : Nat, j < n → (f_SF_takePlaces_1_l10 sl tb mp mc mb mh mm us (nI n) fu k vo vt).2.2.2.2.2.2.2 j = nI (g j)) ∧
      (¬ n ≤ r_cz U 16 → (f_SF_takePlaces_1_l10 sl tb mp mc mb mh mm us (nI n) fu k vo vt).1 = 0) := by
    intro fu
    induction fu with
    | zero => intro k vo vt g h1 h2; omega
    | succ fu ih =>
      intro k vo vt g h1 h2 h3 h4 h5 h6 h7 h8 h9
      rw [f_SF_takePlaces_1_l10, r_pl1]
      by_cases hk : 16 ≤ k
      · have hkP : k = 16 := by omega
        subst hkP
        rw [if_pos (nI_le hk (by omega))]
        by_cases hv : vo = n
        · subst hv
          rw [if_pos rfl]
          exact ⟨fun _ => ⟨rfl, g, h6, h7⟩, fun hno => absurd (h5 rfl) hno⟩
        · rw [if_neg (fun he => hv ((nI_eq (by omega) (by omega)).mp he))]
          exact ⟨fun hy => absurd (h4 (by omega)) (by omega), fun _ => rfl⟩
      · rw [if_neg (nI_ge (show k < 16 by omega) (by omega)), if_neg (show ¬ (24 : Int32) ≤ nI k from nI_ge (b := 24) (by omega) (by omega)), ← hU]
        have h6k : r_pk U (k + 1) vo g := fun j hj => by
          obtain ⟨a1, a2, a3, a4⟩ := h6 j hj
          exact ⟨a1, by omega, a3, a4⟩
        by_cases e : U k = 0
        · rw [if_pos e]
          have c1 := r_cz1 e
          by_cases hv : n ≤ vo
          · rw [if_pos (nI_le hv (by omega))]
            exact ih (k + 1) vo vt g (by omega) (by omega) h3 (fun q => by omega) (fun q => by have := h5 q; omega) h6k h7 (fun q => by omega) (by omega)
          · rw [if_neg (nI_ge (show vo < n by omega) (by omega)), if_neg (show ¬ (3 : Int32) ≤ nI vo from nI_ge (b := 3) (by omega) (by omega))]
            have hvo := h4 (by omega)
            have hst : r_st (fun j => if j = vo then k else g j) vo = r_st g vo := by
              cases vo with
              | zero => rfl
              | succ v =>
                show (if v = v + 1 then k else g v) + 1 = g v + 1
                rw [if_neg (by omega)]
            refine ih (k + 1) (vo + 1) _ (fun j => if j = vo then k else g j) (by omega) (by omega) (by omega) (fun q => by omega) (fun q => by omega) ?_ ?_ ?_ ?_
            · intro j hj
              by_cases hjv : j = vo
              · subst hjv
                rw [hst]
                show U (if j = j then k else g j) = 0 ∧ (if j = j then k else g j) < k + 1 ∧ r_st g j ≤ (if j = j then k else g j) ∧ ∀ q : Nat, r_st g j ≤ q → q < (if j = j then k else g j) → ¬ U q = 0
                rw [if_pos rfl]
                exact ⟨e, by omega, h9, h8 (by omega)⟩
              · have hsj : r_st (fun j => if j = vo then k else g j) j = r_st g j := by
                  cases j with
                  | zero => rfl
                  | succ v =>
                    show (if v = vo then k else g v) + 1 = g v + 1
                    rw [if_neg (by omega)]
                rw [hsj]
                show U (if j = vo then k else g j) = 0 ∧ (if j = vo then k else g j) < k + 1 ∧ r_st g j ≤ (if j = vo then k else g j) ∧ ∀ q : Nat, r_st g j ≤ q → q < (if j = vo then k else g j) → ¬ U q = 0
                rw [if_neg hjv]
                exact h6k j (by omega)
            · intro j hj
              show (if j = vo then nI k else vt j) = nI (if j = vo then k else g j)
              by_cases hjv : j = vo
              · rw [if_pos hjv, if_pos hjv]
              · rw [if_neg hjv, if_neg hjv]; exact h7 j (by omega)
            · intro _ q hq1 hq2
              have hq3 : (if vo = vo then k else g vo) + 1 ≤ q := hq1
              rw [if_pos rfl] at hq3
              omega
            · show (if vo = vo then k else g vo) + 1 ≤ k + 1
              rw [if_pos rfl]
              omega
        · rw [if_neg e]
          have c0 := r_cz0 e
          exact ih (k + 1) vo vt g (by omega) (by omega) h3 (fun q => by rw [c0]; exact h4 q) (fun q => by rw [c0]; exact h5 q) h6k h7 (fun q r hr1 hr2 => by
            by_cases hrk : r = k
            · rw [hrk]; exact e
            · exact h8 q r hr1 (by omega)) (by omega)
  unfold f_SF_takePlaces_1
  exact L (24 + 1) 0 0 ta (fun _ => 0) (by omega) (by omega) (by omega) (fun _ => rfl) (fun q => by subst q; exact Nat.zero_le _) (fun j hj => absurd hj (Nat.not_lt_zero j)) (fun j hj => absurd hj (Nat.not_lt_zero j)) (fun _ q _ hq => absurd hq (Nat.not_lt_zero q)) (Nat.le_refl _)
/-- the same place is wrong -/
theorem r_wp_1 {fl sl tb xB : Nat → Int32} (h : r_B fl sl tb xB) (xpa xhe xtk mp us : Nat → Int32) (xsp xwh xho mc mb mh mm : Int32) {w : Nat} (hw : w < 2 ^ 31) :
    (f_SF_wrongPlace_1 sl tb mp mc mb mh mm us (nI w)).1 = (f_MD_wrong_l55_1 xB xpa xsp xwh xhe xho xtk (16 + 1) 0 (nI w)).1 ∧ (f_MD_wrong_l55_1 xB xpa xsp xwh xhe xho xtk (16 + 1) 0 (nI w)).2.1 = 0 := by
  have hE := (r_ft_1 h xpa xhe xtk mp us xsp xwh xho mc mb mh mm).2
  have L : ∀ fu fv k s : Nat, k + fu = 25 → k + fv = 16 + 1 → k ≤ 16 → s ≤ w → (f_SF_wrongPlace_1_l17 sl tb mp mc mb mh mm us (nI w) fu k (nI s)).1 = (f_MD_wrong_l55_1 xB xpa xsp xwh xhe xho xtk fv k (nI (w - s))).1 ∧ (f_MD_wrong_l55_1 xB xpa xsp xwh xhe xho xtk fv k (nI (w - s))).2.1 = 0 := by
    intro fu
    induction fu with
    | zero => intro fv k s h1 h2 h3; omega
    | succ fu ih =>
      intro fv k s h1 h2 h3 h4
      cases fv with
      | zero => omega
      | succ fv =>
        rw [f_SF_wrongPlace_1_l17, f_MD_wrong_l55_1, r_pl1]
        by_cases hk : 16 ≤ k
        · rw [if_pos (show nI 16 ≤ nI k from nI_le hk (by omega)), if_pos (show (16 : Int32) ≤ nI k from nI_le (a := 16) hk (by omega))]
          exact ⟨rfl, rfl⟩
        · have hk' : k < 16 := by omega
          rw [if_neg (show ¬ nI 16 ≤ nI k from nI_ge hk' (by omega)), if_neg (show ¬ (16 : Int32) ≤ nI k from nI_ge (b := 16) hk' (by omega)), if_neg (show ¬ (24 : Int32) ≤ nI k from nI_ge (b := 24) (by omega) (by omega)), hE k (by omega), r_psum_1 h.2.1 (fun q hq => h.ys q hq) hk']
          unfold f_MD_isWrong_1
          have hnext := ih fv (k + 1) s (by omega) (by omega) (by omega) h4
          by_cases a : (f_MD_findTaken_1 xB xpa xsp xwh xhe xho xtk).2.1 k = 0
          · rw [if_pos a, if_pos a, if_pos rfl]
            exact hnext
          · rw [if_neg a, if_neg a]
            by_cases b : f_MD_isSummed xB (768 + (32 * k)) 28 = 0
            · rw [if_pos b, if_pos b, if_neg (show ¬ (1 : Int32) = 0 by decide)]
              by_cases c : s = w
              · subst c
                rw [if_pos rfl, Nat.sub_self, if_pos (show nI 0 = 0 from rfl)]
                exact ⟨rfl, rfl⟩
              · rw [if_neg (fun q => c ((nI_eq (by omega) hw).mp q)), if_neg (nI_ne0 (by omega) (by omega)), nI_1]
                have hn2 := ih fv (k + 1) (s + 1) (by omega) (by omega) (by omega) (by omega)
                rw [show nI (w - s) + (-1) = nI (w - (s + 1)) from by rw [show w - s = (w - (s + 1)) + 1 by omega]; exact r_m1]
                exact hn2
            · rw [if_neg b, if_neg b, if_pos rfl]
              exact hnext
  have Z := L (24 + 1) (16 + 1) 0 0 (by omega) (by omega) (by omega) (by omega)
  rw [Nat.sub_zero, show nI 0 = (0 : Int32) from rfl] at Z
  unfold f_SF_wrongPlace_1
  exact Z
/-- the same table is wrong -/
theorem r_wt {fl sl tb xB : Nat → Int32} (h : r_B fl sl tb xB) {k : Nat} (hk : k < 2) : (f_Bl_sumIsRight 80 tb (nI k) 36 = 0 → f_MD_isWrong_2 xB k = 1) ∧ (¬ f_Bl_sumIsRight 80 tb (nI k) 36 = 0 → f_MD_isWrong_2 xB k = 0) := by
  have hs := r_tsum h hk rfl
  rw [hs]
  have L1 : ∀ fu j : Nat, j + fu = 41 → j ≤ 40 → f_MD_isWrong_2_l48 xB k fu j 1 = if f_MD_isSummed xB (1280 + (40 * k)) 36 = 0 then 1 else 0 := by
    intro fu
    induction fu with
    | zero => intro j h1 h2; omega
    | succ fu ih =>
      intro j h1 h2
      rw [f_MD_isWrong_2_l48]
      by_cases hj : 40 ≤ j
      · rw [if_pos (show (40 : Int32) ≤ nI j from nI_le (a := 40) hj (by omega)), if_neg (show ¬ (1 : Int32) = 0 by decide)]
      · rw [if_neg (show ¬ (40 : Int32) ≤ nI j from nI_ge (b := 40) (by omega) (by omega)), if_neg (show ¬ (1 : Int32) = 0 by decide)]
        exact ih (j + 1) (by omega) (by omega)
  have L0 : ∀ fu j : Nat, j + fu = 41 → j ≤ 40 → (∀ i : Nat, i < j → xB ((1280 + (40 * k)) + i) = 0) → f_MD_isWrong_2_l48 xB k fu j 0 = if f_MD_isSummed xB (1280 + (40 * k)) 36 = 0 then 1 else 0 := by
    intro fu
    induction fu with
    | zero => intro j h1 h2; omega
    | succ fu ih =>
      intro j h1 h2 hz
      rw [f_MD_isWrong_2_l48]
      by_cases hj : 40 ≤ j
      · rw [if_pos (show (40 : Int32) ≤ nI j from nI_le (a := 40) hj (by omega)), if_pos (show (0 : Int32) = 0 from rfl), r_zero (N := 36) (by omega) (fun i hi => hz i (by omega)), if_neg (show ¬ (1 : Int32) = 0 by decide)]
      · rw [if_neg (show ¬ (40 : Int32) ≤ nI j from nI_ge (b := 40) (by omega) (by omega)), if_pos (show (0 : Int32) = 0 from rfl)]
        by_cases e : xB ((1280 + (40 * k)) + j) = 0
        · rw [if_pos e]
          exact ih (j + 1) (by omega) (by omega) (fun i hi => by
            by_cases hij : i = j
            · rw [hij]; exact e
            · exact hz i (by omega))
        · rw [if_neg e]
          exact L1 fu (j + 1) (by omega) (by omega)
  have e : f_MD_isWrong_2 xB k = if f_MD_isSummed xB (1280 + (40 * k)) 36 = 0 then 1 else 0 := L0 (40 + 1) 0 (by omega) (by omega) (fun i hi => absurd hi (Nat.not_lt_zero i))
  rw [e]
  exact ⟨fun q => if_pos q, fun q => if_neg q⟩
theorem r_wtl {fl sl tb xB : Nat → Int32} (h : r_B fl sl tb xB) (xpa xhe xtk : Nat → Int32) (xsp xwh xho : Int32) {w : Nat} (hw : w < 2 ^ 31) :
    f_SF_wrongTable tb (nI w) = (f_MD_wrong_l55_2 xB xpa xsp xwh xhe xho xtk (2 + 1) 0 (nI w)).1 ∧ (f_MD_wrong_l55_2 xB xpa xsp xwh xhe xho xtk (2 + 1) 0 (nI w)).2.1 = 0 := by
  have L : ∀ fu k s : Nat, k + fu = 3 → k ≤ 2 → s ≤ w → f_SF_wrongTable_l4 tb (nI w) fu k (nI s) = (f_MD_wrong_l55_2 xB xpa xsp xwh xhe xho xtk fu k (nI (w - s))).1 ∧ (f_MD_wrong_l55_2 xB xpa xsp xwh xhe xho xtk fu k (nI (w - s))).2.1 = 0 := by
    intro fu
    induction fu with
    | zero => intro k s h1 h2; omega
    | succ fu ih =>
      intro k s h1 h3 h4
      rw [f_SF_wrongTable_l4, f_MD_wrong_l55_2]
      by_cases hk : 2 ≤ k
      · rw [if_pos (show (2 : Int32) ≤ nI k from nI_le (a := 2) hk (by omega)), if_pos (show (2 : Int32) ≤ nI k from nI_le (a := 2) hk (by omega))]
        exact ⟨rfl, rfl⟩
      · have hk' : k < 2 := by omega
        rw [if_neg (show ¬ (2 : Int32) ≤ nI k from nI_ge (b := 2) hk' (by omega)), if_neg (show ¬ (2 : Int32) ≤ nI k from nI_ge (b := 2) hk' (by omega))]
        have hnext := ih (k + 1) s (by omega) (by omega) h4
        by_cases b : f_Bl_sumIsRight 80 tb (nI k) 36 = 0
        · rw [if_pos b, (r_wt h hk').1 b, if_neg (show ¬ (1 : Int32) = 0 by decide)]
          by_cases c : s = w
          · subst c
            rw [if_pos rfl, Nat.sub_self, if_pos (show nI 0 = 0 from rfl)]
            exact ⟨rfl, rfl⟩
          · rw [if_neg (fun q => c ((nI_eq (by omega) hw).mp q)), if_neg (nI_ne0 (by omega) (by omega)), nI_1]
            have hn2 := ih (k + 1) (s + 1) (by omega) (by omega) (by omega)
            rw [show nI (w - s) + (-1) = nI (w - (s + 1)) from by rw [show w - s = (w - (s + 1)) + 1 by omega]; exact r_m1]
            exact hn2
        · rw [if_neg b, (r_wt h hk').2 b, if_pos (show (0 : Int32) = 0 from rfl)]
          exact hnext
  have Z := L (2 + 1) 0 0 (by omega) (by omega) (by omega)
  rw [Nat.sub_zero, show nI 0 = (0 : Int32) from rfl] at Z
  unfold f_SF_wrongTable
  exact Z
/-- how many rows there are -/
theorem r_open {fl sl tb xB : Nat → Int32} (h : r_B fl sl tb xB) : f_SF_open tb = f_MD_open xB := by
  have L : ∀ (fu k : Nat) (v : Int32), k + fu = 13 → k ≤ 12 → f_SF_open_l9 tb fu k v = f_MD_open_l14 xB fu k v := by
    intro fu
    induction fu with
    | zero => intro k v h1 h2; omega
    | succ fu ih =>
      intro k v h1 h2
      rw [f_SF_open_l9, f_MD_open_l14]
      by_cases hk : 12 ≤ k
      · rw [if_pos (show (12 : Int32) ≤ nI k from nI_le (a := 12) hk (by omega)), if_pos (show (12 : Int32) ≤ nI k from nI_le (a := 12) hk (by omega))]
      · rw [if_neg (show ¬ (12 : Int32) ≤ nI k from nI_ge (b := 12) (by omega) (by omega)), if_neg (show ¬ (12 : Int32) ≤ nI k from nI_ge (b := 12) (by omega) (by omega)), r_there h (show k < 12 by omega)]
        by_cases e : f_MD_isThere xB k = 0
        · rw [if_pos e, if_pos e, Int32.add_zero]
          exact ih (k + 1) v (by omega) (by omega)
        · rw [if_neg e, if_neg e]
          exact ih (k + 1) (v + 1) (by omega) (by omega)
  exact L (12 + 1) 0 0 (by omega) (by omega)
