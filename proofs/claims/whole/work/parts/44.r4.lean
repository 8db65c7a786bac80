/-! THE COMPARISON, 4: the methods that read. -/
/-- what the law compares -/
def r_C (n1 n2 n3 n4 : Int32) {β γ : Type} (r : Int32 × Int32 × β) (w : Int32 × Int32 × γ) : Prop := w.2.1 = lw_c n1 n2 n3 n4 r.1 ∧ (r.1 = 0 → r.2.1 = w.1)
theorem r_Ct {n1 n2 n3 n4 c a a' t : Int32} {β γ : Type} {x : β} {y : γ} (h : t = lw_c n1 n2 n3 n4 c) (h2 : c = 0 → a = a') : r_C n1 n2 n3 n4 (c, a, x) (a', t, y) := ⟨h, h2⟩
theorem r_Cw {n1 n2 n3 n4 c a : Int32} {β γ : Type} {x : β} {w : Int32 × Int32 × γ} (h : w.2.1 = lw_c n1 n2 n3 n4 c) (h2 : c = 0 → a = w.1) : r_C n1 n2 n3 n4 (c, a, x) w := ⟨h, h2⟩
theorem r_no {c : Int32} {A : Prop} (hn : ¬ c = 0) : c = 0 → A := fun h => absurd h hn
theorem r_rowin (ro : Int32) : f_MD_in ro 0 11 = f_SF_isRow ro := lw_cell 11 (by omega) ro
theorem r_monin (mo : Int32) : f_MD_in mo 0 11 = f_SF_isMonth mo := lw_cell 11 (by omega) mo
theorem r_isRow {ro : Int32} (h : ¬ f_SF_isRow ro = 0) : ∃ r : Nat, r < 12 ∧ ro = nI r := by
  rw [← r_rowin] at h
  obtain ⟨j, hj, e⟩ := lw_inr (B := 11) (by omega) h
  exact ⟨j, by omega, e⟩
theorem r_m1lt {n : Nat} (h : n < 2 ^ 31) : (-1 : Int32) < nI n := by
  rw [Int32.lt_iff_toInt_lt, nI_toInt h]
  have : (-1 : Int32).toInt = -1 := by decide
  omega
theorem r_ge0 {i : Int32} (h : (-1) ≤ i) (h2 : ¬ i = (-1)) : ¬ i < 0 := by
  intro h3
  apply h2
  rw [Int32.le_iff_toInt_le] at h
  rw [Int32.lt_iff_toInt_lt] at h3
  have e1 : (-1 : Int32).toInt = -1 := by decide
  have e0 : (0 : Int32).toInt = 0 := by decide
  apply Int32.toInt_inj.mp
  omega
theorem r_slow0 {xB : Nat → Int32} {k : Nat} (h : f_MD_isSlow xB k = 0) : f_MD_entry xB (13 + k) = 0 := by
  by_cases e : f_MD_entry xB (13 + k) = 0
  · exact e
  · rw [r_slow_iff.2 e] at h; exact absurd h (by decide)
theorem r_slow1 {xB : Nat → Int32} {k : Nat} (h : ¬ f_MD_isSlow xB k = 0) : ¬ f_MD_entry xB (13 + k) = 0 := fun e => h (r_slow_iff.1 e)
theorem r_eta5 {a b c d e : Type} (x : a × b × c × d × e) : (x.1, x.2.1, x.2.2.1, x.2.2.2.1, x.2.2.2.2) = x := rfl
section RD
variable {fl sl tb xB : Nat → Int32}
theorem r_fr0 (h : r_B fl sl tb xB) {r : Nat} (hr : r < 12) (hs : f_MD_isSlow xB r = 0) (cp : Nat → Int32) : f_SF_followRow fl sl tb cp (nI r) = f_Ch_follow cp 768 fl 28 (f_MD_entry xB (1 + r) - 1) := by
  unfold f_SF_followRow
  rw [r_firstS h hr, r_first h hr]
  exact (if_pos (r_slow0 hs)).trans (r_eta5 _)
theorem r_fr1 (h : r_B fl sl tb xB) {r : Nat} (hr : r < 12) (hs : ¬ f_MD_isSlow xB r = 0) (cp : Nat → Int32) : f_SF_followRow fl sl tb cp (nI r) = f_Ch_follow cp 512 sl 28 (f_MD_entry xB (13 + r) - 1) := by
  unfold f_SF_followRow
  rw [r_firstS h hr, r_first h hr]
  exact (if_neg (r_slow1 hs)).trans (r_eta5 _)
theorem r_go.bytes {F : Nat → Int32} {P : Nat} {mo : Int32} {A : (Nat → Int32) × Int32 × Int32 × Int32 × Int32} {R : (Nat → Int32) × Int32 × Int32 × (Nat → Int32) × Int32} (h : r_go F P mo A R) : f_Ch_bytes A.2.2.1 A.2.2.2.1 = R.2.2.2.2 ∧ ∃ hn : Nat, hn ≤ 75 ∧ R.2.2.2.2 = nI hn := by
  obtain ⟨_, c, _, _, _, _, h6⟩ := h
  unfold f_Ch_bytes
  rcases h6 with ⟨a1, _, a3⟩ | ⟨a1, _, _, hn, _, a5, a6, a7, _⟩
  · rw [a1, a3, if_neg (by decide)]; exact ⟨rfl, 0, by omega, rfl⟩
  · rw [a1, if_pos rfl, a6, a7]; exact ⟨rfl, hn, a5, rfl⟩
theorem r_go.data {F : Nat → Int32} {P n : Nat} {mo : Int32} {A : (Nat → Int32) × Int32 × Int32 × Int32 × Int32} {R : (Nat → Int32) × Int32 × Int32 × (Nat → Int32) × Int32} (h : r_go F P mo A R) (hn : n = 32 * P) (hP : P ≤ 24) {q : Nat} (hq : q < 2 ^ 31) (hlt : nI q < R.2.2.2.2) : f_Ch_dataAt A.1 A.2.1 n F 28 (nI q) = R.2.2.2.1 q := by
  obtain ⟨_, c, a2, a3, _, _, h6⟩ := h
  rcases h6 with ⟨_, _, b3⟩ | ⟨_, _, _, hn', _, b5, _, b7, b8⟩
  · rw [b3] at hlt; exact absurd hlt (nI_pos hq)
  · rw [b7] at hlt
    rw [a3]
    exact r_data hn hP a2 b8 ((nI_ltI hq (by omega)).mp hlt) b5
theorem r_c_row (h : r_B fl sl tb xB) (cp xpa xhe : Nat → Int32) (cc cb ch cm sh xsp xwh xho ro i : Int32) : r_C 1 2 0 0 (f_SF_row fl sl tb cp cc cb ch cm sh ro i) (f_MD_row xB sh xpa xsp xwh xhe xho ro i) := by
  unfold f_SF_row f_MD_row
  rw [r_rowin]
  by_cases hr : f_SF_isRow ro = 0
  · rw [if_pos hr, if_pos hr]
    by_cases s : sh = 0
    · rw [if_pos s]; exact r_Ct (by decide) (r_no (by decide))
    · rw [if_neg s]; exact r_Ct (by decide) (r_no (by decide))
  rw [if_neg hr, if_neg hr]
  obtain ⟨r, hr12, rfl⟩ := r_isRow hr
  by_cases g : (-1) ≤ i
  · rw [if_pos g, if_pos g]
    by_cases s : sh = 0
    · rw [if_pos s, if_pos s, r_there h hr12, nI_clamp (show r < 2 ^ 31 by omega)]
      by_cases t : f_MD_isThere xB r = 0
      · rw [if_pos t, if_pos t]; exact r_Ct (by decide) (r_no (by decide))
      · rw [if_neg t, if_neg t, r_slow h hr12]
        by_cases sw : f_MD_isSlow xB r = 0
        · obtain ⟨mo, G⟩ := r_row0 h hr12 sw cp xpa xhe
          rw [← r_fr0 h hr12 sw cp] at G
          obtain ⟨hb, hn, hn75, hho⟩ := G.bytes
          by_cases im : i = -1
          · rw [if_pos im, if_pos (by rw [hho, im]; exact r_m1lt (by omega)), if_neg (by rw [im]; decide)]
            exact r_Ct (by decide) (fun _ => hb)
          · rw [if_neg im, hb]
            have i0 := r_ge0 g im
            obtain ⟨q, hq, rfl⟩ := nI_of i0
            by_cases lt : nI q < (f_MD_go xB xpa xhe r).2.2.2.2
            · rw [if_pos lt, if_pos lt, if_pos sw, if_pos (nI_pos' hq), nI_clamp hq]
              exact r_Ct (by decide) (fun _ => G.data rfl (by omega) hq lt)
            · rw [if_neg lt, if_neg lt]; exact r_Ct (by decide) (r_no (by decide))
        · obtain ⟨mo, G⟩ := r_row1 h hr12 sw cp xpa xhe
          rw [← r_fr1 h hr12 sw cp] at G
          obtain ⟨hb, hn, hn75, hho⟩ := G.bytes
          by_cases im : i = -1
          · rw [if_pos im, if_pos (by rw [hho, im]; exact r_m1lt (by omega)), if_neg (by rw [im]; decide)]
            exact r_Ct (by decide) (fun _ => hb)
          · rw [if_neg im, hb]
            have i0 := r_ge0 g im
            obtain ⟨q, hq, rfl⟩ := nI_of i0
            by_cases lt : nI q < (f_MD_go xB xpa xhe r).2.2.2.2
            · rw [if_pos lt, if_pos lt, if_neg sw, if_pos (nI_pos' hq), nI_clamp hq]
              exact r_Ct (by decide) (fun _ => G.data rfl (by omega) hq lt)
            · rw [if_neg lt, if_neg lt]; exact r_Ct (by decide) (r_no (by decide))
    · rw [if_neg s, if_neg s]; exact r_Ct (by decide) (r_no (by decide))
  · rw [if_neg g, if_neg g]
    by_cases s : sh = 0
    · rw [if_pos s]; exact r_Ct (by decide) (r_no (by decide))
    · rw [if_neg s]; exact r_Ct (by decide) (r_no (by decide))
theorem r_mof (xB xpa xhe : Nat → Int32) (r : Nat) : (f_MD_monthOf xB xpa xhe r).2.2.1 = (f_MD_go xB xpa xhe r).2.1 := by
  unfold f_MD_monthOf
  by_cases w : (f_MD_go xB xpa xhe r).2.2.1 = 0
  · rw [if_pos w]
  · rw [if_neg w]
    by_cases s : f_MD_isSlow xB r = 0
    · rw [if_pos s]
    · rw [if_neg s]
/-- the month of a row -/
theorem r_mon (h : r_B fl sl tb xB) {r : Nat} (hr : r < 12) (cp xpa xhe : Nat → Int32) : f_Ch_monthOrNone (f_SF_followRow fl sl tb cp (nI r)).2.2.1 (f_SF_followRow fl sl tb cp (nI r)).2.2.2.2 = (f_MD_monthOf xB xpa xhe r).1 ∧ (f_SF_followRow fl sl tb cp (nI r)).2.1 = (f_MD_monthOf xB xpa xhe r).2.2.1 := by
  rw [r_mof]
  by_cases sw : f_MD_isSlow xB r = 0
  · obtain ⟨mo, G⟩ := r_row0 h hr sw cp xpa xhe
    rw [← r_fr0 h hr sw cp] at G
    obtain ⟨g1, c, g2, g3, g4, g5, g6⟩ := G
    refine ⟨?_, by rw [g3, g4]⟩
    unfold f_Ch_monthOrNone f_MD_monthOf
    rcases g6 with ⟨a1, a2, _⟩ | ⟨a1, a2, a3, hn, _, _, _, _, o, _, _, oj⟩
    · rw [a1, a2, if_neg (by decide), if_pos rfl]
    · obtain ⟨p, m, p1, _, _, p4, _, p6, _⟩ := oj 0 a3
      rw [a1, a2, if_pos rfl, if_neg (by decide), if_pos sw, ← (g5 0 a3).1, p4, nI_clamp (by omega), g1, ← p6, ← h.1 (p * 32 + 2) (by omega)]
      exact congrArg xB (by omega)
  · obtain ⟨mo, G⟩ := r_row1 h hr sw cp xpa xhe
    rw [← r_fr1 h hr sw cp] at G
    obtain ⟨g1, c, g2, g3, g4, g5, g6⟩ := G
    refine ⟨?_, by rw [g3, g4]⟩
    unfold f_Ch_monthOrNone f_MD_monthOf
    rcases g6 with ⟨a1, a2, _⟩ | ⟨a1, a2, a3, hn, _, _, _, _, o, _, _, oj⟩
    · rw [a1, a2, if_neg (by decide), if_pos rfl]
    · obtain ⟨p, m, p1, _, _, p4, _, p6, _⟩ := oj 0 a3
      rw [a1, a2, if_pos rfl, if_neg (by decide), if_neg sw, ← (g5 0 a3).1, p4, nI_clamp (by omega), g1, ← p6, ← h.2.1 (p * 32 + 2) (by omega)]
      exact congrArg xB (by omega)
theorem r_c_at (h : r_B fl sl tb xB) (cp xpa xhe : Nat → Int32) (cc cb ch cm sh xsp xwh xho ro w : Int32) : r_C 1 2 0 0 (f_SF_at fl sl tb cp cc cb ch cm sh ro w) (f_MD_at xB sh xpa xsp xwh xhe xho ro w) := by
  unfold f_SF_at f_MD_at
  rw [r_rowin]
  by_cases hr : f_SF_isRow ro = 0
  · rw [if_pos hr, if_pos hr]
    by_cases s : sh = 0
    · rw [if_pos s]; exact r_Ct (by decide) (r_no (by decide))
    · rw [if_neg s]; exact r_Ct (by decide) (r_no (by decide))
  rw [if_neg hr, if_neg hr]
  obtain ⟨r, hr12, rfl⟩ := r_isRow hr
  by_cases a : w < 0
  · rw [if_pos a, if_pos (by unfold f_MD_in; rw [if_pos a])]
    by_cases s : sh = 0
    · rw [if_pos s]; exact r_Ct (by decide) (r_no (by decide))
    · rw [if_neg s]; exact r_Ct (by decide) (r_no (by decide))
  rw [if_neg a]
  by_cases b : w ≤ 3
  · rw [if_pos b, if_neg (show ¬ f_MD_in w 0 3 = 0 by unfold f_MD_in; rw [if_neg a, if_neg (Int32.not_lt.mpr b)]; decide)]
    by_cases s : sh = 0
    · rw [if_pos s, if_pos s, r_there h hr12, r_slow h hr12, nI_clamp (show r < 2 ^ 31 by omega)]
      by_cases z : w = 0
      · rw [if_pos z, if_pos (show w ≤ 0 by rw [z]; decide), if_pos z]
        by_cases t : f_MD_isThere xB r = 0
        · rw [if_pos t, if_pos t]; exact r_Ct (by decide) (fun _ => rfl)
        · rw [if_neg t, if_neg t]; exact r_Ct (by decide) (fun _ => rfl)
      · rw [if_neg z, if_neg (show ¬ w ≤ 0 from fun q => z (Int32.le_antisymm q (Int32.not_lt.mp a)))]
        by_cases t : f_MD_isThere xB r = 0
        · rw [if_pos t, if_pos t]; exact r_Ct (by decide) (r_no (by decide))
        · rw [if_neg t, if_neg t, if_neg z]
          by_cases o : w = 1
          · rw [if_pos o, if_pos o]
            by_cases sw : f_MD_isSlow xB r = 0
            · rw [if_pos sw, if_pos sw]; exact r_Ct (by decide) (fun _ => rfl)
            · rw [if_neg sw, if_neg sw]; exact r_Ct (by decide) (fun _ => rfl)
          · rw [if_neg o, if_neg o]
            have M := r_mon h hr12 cp xpa xhe
            by_cases e : w = 2
            · rw [if_pos e, if_pos e]; exact r_Ct (by decide) (fun _ => M.1)
            · rw [if_neg e, if_neg e]; exact r_Ct (by decide) (fun _ => M.2)
    · rw [if_neg s, if_neg s]; exact r_Ct (by decide) (r_no (by decide))
  · rw [if_neg b, if_pos (by unfold f_MD_in; rw [if_neg a, if_pos (Int32.not_le.mp b)])]
    by_cases s : sh = 0
    · rw [if_pos s]; exact r_Ct (by decide) (r_no (by decide))
    · rw [if_neg s]; exact r_Ct (by decide) (r_no (by decide))
theorem r_c_told (h : r_B fl sl tb xB) (mp us xpa xhe xtk : Nat → Int32) (mc mb mh mm tl sh xsp xwh xho wt : Int32) : r_C 1 2 0 0 (f_SF_told fl sl tb mp mc mb mh mm us tl sh wt) (f_MD_told xB sh tl xpa xsp xwh xhe xho xtk wt) := by
  unfold f_SF_told f_MD_told
  by_cases a : wt < 0
  · rw [if_pos a, if_pos (by unfold f_MD_in; rw [if_pos a])]
    by_cases s : sh = 0
    · rw [if_pos s]; exact r_Ct (by decide) (r_no (by decide))
    · rw [if_neg s]
      by_cases f : 4 ≤ wt
      · rw [if_pos f]; exact r_Ct (by decide) (r_no (by decide))
      · rw [if_neg f]; exact r_Ct (by decide) (r_no (by decide))
  rw [if_neg a]
  by_cases b : wt ≤ 4
  rotate_left
  · rw [if_neg b, if_pos (by unfold f_MD_in; rw [if_neg a, if_pos (Int32.not_le.mp b)])]
    by_cases s : sh = 0
    · rw [if_pos s]; exact r_Ct (by decide) (r_no (by decide))
    · rw [if_neg s]
      by_cases f : 4 ≤ wt
      · rw [if_pos f]; exact r_Ct (by decide) (r_no (by decide))
      · rw [if_neg f]; exact r_Ct (by decide) (r_no (by decide))
  rw [if_pos b, if_neg (show ¬ f_MD_in wt 0 4 = 0 by unfold f_MD_in; rw [if_neg a, if_neg (Int32.not_lt.mpr b)]; decide)]
  obtain ⟨j, hj, rfl⟩ := nI_of a
  have hj4 : j ≤ 4 := (nI_leI (b := 4) hj (by omega)).mp b
  by_cases s : sh = 0
  · rw [if_pos s, if_pos s]
    rcases (show j = 0 ∨ j = 1 ∨ j = 2 ∨ j = 3 ∨ j = 4 by omega) with rfl | rfl | rfl | rfl | rfl
    · rw [if_pos (show nI 0 = (0 : Int32) by decide), if_neg (show ¬ (2 : Int32) ≤ nI 0 by decide), if_neg (show ¬ nI 0 = (1 : Int32) by decide)]; exact r_Ct (by decide) (fun _ => r_cf_0.trans (r_ft_0 h xpa xhe xtk mp us xsp xwh xho mc mb mh mm).1.symm)
    · rw [if_neg (show ¬ nI 1 = (0 : Int32) by decide), if_pos (show nI 1 = (1 : Int32) by decide), if_neg (show ¬ (2 : Int32) ≤ nI 1 by decide), if_pos (show nI 1 = (1 : Int32) by decide)]; exact r_Ct (by decide) (fun _ => r_cf_1.trans (r_ft_1 h xpa xhe xtk mp us xsp xwh xho mc mb mh mm).1.symm)
    · rw [if_neg (show ¬ nI 2 = (0 : Int32) by decide), if_neg (show ¬ nI 2 = (1 : Int32) by decide), if_pos (show nI 2 = (2 : Int32) by decide), if_pos (show (2 : Int32) ≤ nI 2 by decide), if_pos (show nI 2 = (2 : Int32) by decide)]; exact r_Ct (by decide) (fun _ => r_num h)
    · rw [if_neg (show ¬ nI 3 = (0 : Int32) by decide), if_neg (show ¬ nI 3 = (1 : Int32) by decide), if_neg (show ¬ nI 3 = (2 : Int32) by decide), if_pos (show nI 3 = (3 : Int32) by decide), if_pos (show (2 : Int32) ≤ nI 3 by decide), if_neg (show ¬ nI 3 = (2 : Int32) by decide), if_pos (show nI 3 = (3 : Int32) by decide)]; exact r_Ct (by decide) (fun _ => r_cnt h)
    · rw [if_neg (show ¬ nI 4 = (0 : Int32) by decide), if_neg (show ¬ nI 4 = (1 : Int32) by decide), if_neg (show ¬ nI 4 = (2 : Int32) by decide), if_neg (show ¬ nI 4 = (3 : Int32) by decide), if_pos (show (2 : Int32) ≤ nI 4 by decide), if_neg (show ¬ nI 4 = (2 : Int32) by decide), if_neg (show ¬ nI 4 = (3 : Int32) by decide)]; exact r_Ct (by decide) (fun _ => rfl)
  · rw [if_neg s, if_neg s]
    rcases (show j = 0 ∨ j = 1 ∨ j = 2 ∨ j = 3 ∨ j = 4 by omega) with rfl | rfl | rfl | rfl | rfl
    · rw [if_neg (show ¬ nI 0 = (4 : Int32) by decide), if_neg (show ¬ (4 : Int32) ≤ nI 0 by decide)]; exact r_Ct (by decide) (r_no (by decide))
    · rw [if_neg (show ¬ nI 1 = (4 : Int32) by decide), if_neg (show ¬ (4 : Int32) ≤ nI 1 by decide)]; exact r_Ct (by decide) (r_no (by decide))
    · rw [if_neg (show ¬ nI 2 = (4 : Int32) by decide), if_neg (show ¬ (4 : Int32) ≤ nI 2 by decide)]; exact r_Ct (by decide) (r_no (by decide))
    · rw [if_neg (show ¬ nI 3 = (4 : Int32) by decide), if_neg (show ¬ (4 : Int32) ≤ nI 3 by decide)]; exact r_Ct (by decide) (r_no (by decide))
    · rw [if_pos (show nI 4 = (4 : Int32) by decide), if_neg (show ¬ nI 4 = (0 : Int32) by decide), if_neg (show ¬ nI 4 = (1 : Int32) by decide), if_neg (show ¬ nI 4 = (2 : Int32) by decide), if_neg (show ¬ nI 4 = (3 : Int32) by decide), if_pos (show (4 : Int32) ≤ nI 4 by decide), if_pos (show (2 : Int32) ≤ nI 4 by decide), if_neg (show ¬ nI 4 = (2 : Int32) by decide), if_neg (show ¬ nI 4 = (3 : Int32) by decide)]; exact r_Ct (by decide) (fun _ => rfl)
theorem r_c_wrong (h : r_B fl sl tb xB) (mp us xpa xhe xtk : Nat → Int32) (mc mb mh mm xsp xwh xho wt wk : Int32) : r_C 1 0 0 0 (f_SF_wrong fl sl tb mp mc mb mh mm us wt wk) (f_MD_wrong xB xpa xsp xwh xhe xho xtk wt wk) := by
  unfold f_SF_wrong f_MD_wrong
  by_cases a : wt < 0
  · rw [if_pos a, if_pos (by unfold f_MD_in; rw [if_pos a])]; exact r_Ct (by decide) (r_no (by decide))
  rw [if_neg a]
  by_cases b : 2 < wt
  · rw [if_pos b, if_pos (by unfold f_MD_in; rw [if_neg a, if_pos b])]; exact r_Ct (by decide) (r_no (by decide))
  rw [if_neg b, if_neg (show ¬ f_MD_in wt 0 2 = 0 by unfold f_MD_in; rw [if_neg a, if_neg b]; decide)]
  by_cases c : 0 ≤ wk
  · rw [if_pos c, if_pos c]
    obtain ⟨w, hw, rfl⟩ := nI_of (Int32.not_lt.mpr c)
    rcases sf_three a b with rfl | rfl | rfl
    · rw [if_neg (show ¬ (0 : Int32) = 2 by decide), if_neg (show ¬ (0 : Int32) = 1 by decide), if_pos rfl]
      have W := r_wp_0 h xpa xhe xtk mp us xsp xwh xho mc mb mh mm hw
      exact r_Cw (W.2.trans (by decide)) (fun _ => W.1)
    · rw [if_neg (show ¬ (1 : Int32) = 2 by decide), if_pos rfl, if_neg (show ¬ (1 : Int32) = 0 by decide), if_pos rfl]
      have W := r_wp_1 h xpa xhe xtk mp us xsp xwh xho mc mb mh mm hw
      exact r_Cw (W.2.trans (by decide)) (fun _ => W.1)
    · rw [if_pos rfl, if_neg (show ¬ (2 : Int32) = 0 by decide), if_neg (show ¬ (2 : Int32) = 1 by decide)]
      have W := r_wtl h xpa xhe xtk xsp xwh xho hw
      exact r_Cw (W.2.trans (by decide)) (fun _ => W.1)
  · rw [if_neg c, if_neg c]; exact r_Ct (by decide) (r_no (by decide))
theorem r_where {wt : Int32} {wi : Int32} {B bs : Nat} (hz : (wt = 0 ∧ B = 767 ∧ bs = 0) ∨ (wt = 1 ∧ B = 511 ∧ bs = 768) ∨ (wt = 2 ∧ B = 79 ∧ bs = 1280)) {j : Nat} (hj : j ≤ B) (hi : wi = nI j) : f_MD_where wt wi = nI (bs + j) := by
  have k : ¬ f_MD_in wi 0 (nI B) = 0 := by
    unfold f_MD_in
    rw [hi, if_neg (nI_pos (by omega)), if_neg (nI_nlt hj (by omega))]
    decide
  rcases hz with ⟨rfl, rfl, rfl⟩ | ⟨rfl, rfl, rfl⟩ | ⟨rfl, rfl, rfl⟩
  · have k : ¬ f_MD_in wi 0 767 = 0 := k
    unfold f_MD_where
    rw [if_pos rfl, if_neg k, hi, Nat.zero_add]
  · have k : ¬ f_MD_in wi 0 511 = 0 := k
    unfold f_MD_where
    rw [if_neg (show ¬ (1 : Int32) = 0 by decide), if_pos rfl, if_neg k, hi]
    exact nI_add 768 j
  · have k : ¬ f_MD_in wi 0 79 = 0 := k
    unfold f_MD_where
    rw [if_neg (show ¬ (2 : Int32) = 0 by decide), if_neg (show ¬ (2 : Int32) = 1 by decide), if_pos rfl, if_neg k, hi]
    exact nI_add 1280 j
/-- a byte that there is: where it stands -/
theorem r_has {wt wi : Int32} (h : ¬ f_SF_hasByte wt wi = 0) : ∃ j : Nat, wi = nI j ∧ ((wt = 0 ∧ j < 768 ∧ f_MD_where wt wi = nI (0 + j)) ∨ (wt = 1 ∧ j < 512 ∧ f_MD_where wt wi = nI (768 + j)) ∨ (wt = 2 ∧ j < 80 ∧ f_MD_where wt wi = nI (1280 + j))) := by
  unfold f_SF_hasByte at h
  by_cases a : wt < 0
  · rw [if_pos a] at h; exact absurd rfl h
  rw [if_neg a] at h
  by_cases b : 2 < wt
  · rw [if_pos b] at h; exact absurd rfl h
  rw [if_neg b] at h
  have key : ∀ B : Nat, B < 1000 → ¬ f_Bl_hasCell (B + 1) wi = 0 → ∃ j : Nat, j ≤ B ∧ wi = nI j := fun B hB hc => lw_inr hB (by rw [lw_cell B hB]; exact hc)
  rcases sf_three a b with z | z | z
  · rw [if_pos z] at h
    obtain ⟨j, hj, e⟩ := key 767 (by omega) (fun q => h (by rw [if_pos q]))
    exact ⟨j, e, Or.inl ⟨z, by omega, r_where (Or.inl ⟨z, rfl, rfl⟩) hj e⟩⟩
  · rw [if_neg (by rw [z]; decide), if_pos z] at h
    obtain ⟨j, hj, e⟩ := key 511 (by omega) (fun q => h (by rw [if_pos q]))
    exact ⟨j, e, Or.inr (Or.inl ⟨z, by omega, r_where (Or.inr (Or.inl ⟨z, rfl, rfl⟩)) hj e⟩)⟩
  · rw [if_neg (by rw [z]; decide), if_neg (by rw [z]; decide)] at h
    obtain ⟨j, hj, e⟩ := key 79 (by omega) (fun q => h (by rw [if_pos q]))
    exact ⟨j, e, Or.inr (Or.inr ⟨z, by omega, r_where (Or.inr (Or.inr ⟨z, rfl, rfl⟩)) hj e⟩)⟩
theorem r_get0 {n : Nat} {F : Nat → Int32} {sz j : Nat} (h : j < n) (hn : n < 2 ^ 31) : f_Bl_get n F (nI sz) 0 (nI j) = F j := by
  have := r_get (F := F) (sz := sz) (b := 0) (i := j) (n := n) (by omega) hn
  rw [Nat.zero_mul, Nat.zero_add] at this
  exact this
theorem r_c_byteAt (h : r_B fl sl tb xB) (wt wi : Int32) : (f_MD_byteAt xB wt wi).2 = lw_c 1 0 0 0 (f_SF_byteAt fl sl tb wt wi).1 ∧ ((f_SF_byteAt fl sl tb wt wi).1 = 0 → (f_SF_byteAt fl sl tb wt wi).2 = (f_MD_byteAt xB wt wi).1) := by
  by_cases w : f_SF_hasByte wt wi = 0
  · have w2 : ¬ 0 ≤ f_MD_where wt wi := fun q => (lw_where_has wt wi).mp q w
    unfold f_SF_byteAt f_MD_byteAt
    rw [if_pos w, if_neg w2]
    exact ⟨(by decide : (1 : Int32) = lw_c 1 0 0 0 1), r_no (by decide)⟩
  · have w2 : 0 ≤ f_MD_where wt wi := (lw_where_has wt wi).mpr w
    obtain ⟨j, e, hz⟩ := r_has w
    unfold f_SF_byteAt f_MD_byteAt
    rw [if_neg w, if_pos w2]
    rcases hz with ⟨z, hj, hw⟩ | ⟨z, hj, hw⟩ | ⟨z, hj, hw⟩
    · rw [if_pos z, hw, nI_clamp (by omega), e, r_get0 hj (by omega), h.1 j hj]
      exact ⟨(by decide : (0 : Int32) = lw_c 1 0 0 0 0), fun _ => rfl⟩
    · rw [if_neg (show ¬ wt = 0 by rw [z]; decide), if_pos z, hw, nI_clamp (by omega), e, r_get0 hj (by omega), h.2.1 j hj]
      exact ⟨(by decide : (0 : Int32) = lw_c 1 0 0 0 0), fun _ => rfl⟩
    · rw [if_neg (show ¬ wt = 0 by rw [z]; decide), if_neg (show ¬ wt = 1 by rw [z]; decide), hw, nI_clamp (by omega), e, r_get0 hj (by omega), h.2.2.1 j hj]
      exact ⟨(by decide : (0 : Int32) = lw_c 1 0 0 0 0), fun _ => rfl⟩
end RD
