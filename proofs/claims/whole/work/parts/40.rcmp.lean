/-! codes of cut and poke -/
theorem lw_cmp_cut (cu xcu n : Int32) : (f_MD_cut xcu n).1 = lw_c 0 0 1 0 (f_SF_cut cu n).1 := by
  unfold f_MD_cut f_SF_cut
  by_cases h1 : n < (-1)
  · have a : f_MD_in n (-1) 200 = 0 := by unfold f_MD_in; rw [if_pos h1]
    rw [if_pos a, if_pos h1]
    show (1 : Int32) = lw_c 0 0 1 0 3
    decide
  · by_cases h2 : 200 < n
    · have a : f_MD_in n (-1) 200 = 0 := by unfold f_MD_in; rw [if_neg h1, if_pos h2]
      rw [if_pos a, if_neg h1, if_neg (Int32.not_le.mpr h2)]
      show (1 : Int32) = lw_c 0 0 1 0 3
      decide
    · have a : ¬ f_MD_in n (-1) 200 = 0 := by unfold f_MD_in; rw [if_neg h1, if_neg h2]; decide
      rw [if_neg a, if_neg h1, if_pos (Int32.not_lt.mp h2)]
      show (0 : Int32) = lw_c 0 0 1 0 0
      decide
theorem lw_cell (B : Nat) (hB : B < 1000) (wi : Int32) : f_MD_in wi 0 (nI B) = f_Bl_hasCell (B + 1) wi := by
  unfold f_MD_in f_Bl_hasCell
  by_cases h : wi < 0
  · rw [if_pos h, if_pos h]
  · rw [if_neg h, if_neg h]
    obtain ⟨j, hj, rfl⟩ := nI_of h
    by_cases c : nI B < nI j
    · rw [if_pos c, if_pos ((nI_leI (by omega) hj).mpr (by have := (nI_ltI (by omega) hj).mp c; omega))]
    · rw [if_neg c, if_neg (fun d => c ((nI_ltI (by omega) hj).mpr (by have := (nI_leI (by omega) hj).mp d; omega)))]
theorem lw_inr {B : Nat} {wi : Int32} (hB : B < 1000) (h : ¬ f_MD_in wi 0 (nI B) = 0) : ∃ j : Nat, j ≤ B ∧ wi = nI j := by
  by_cases h1 : wi < 0
  · exact absurd (by simp only [f_MD_in, eq_true h1, ↓reduceIte]) h
  · by_cases h2 : nI B < wi
    · exact absurd (by simp only [f_MD_in, eq_false h1, eq_true h2, ↓reduceIte]) h
    · obtain ⟨j, hj, rfl⟩ := nI_of h1
      rw [nI_ltI (by omega) hj] at h2
      exact ⟨j, by omega, rfl⟩
theorem lw_has (wt wi : Int32) (B : Nat) (hB : B < 1000) (bs : Nat) (hbs : bs < 2000) (hw0 : f_MD_in wi 0 (nI B) = 0 → f_MD_where wt wi = -1) (hw1 : ¬ f_MD_in wi 0 (nI B) = 0 → f_MD_where wt wi = nI bs + wi) (hh : f_SF_hasByte wt wi = if f_Bl_hasCell (B + 1) wi = 0 then 0 else 1) : (0 ≤ f_MD_where wt wi) ↔ ¬ f_SF_hasByte wt wi = 0 := by
  have e := lw_cell B hB wi
  by_cases k : f_MD_in wi 0 (nI B) = 0
  · rw [hw0 k, hh, if_pos (by rw [← e]; exact k)]
    exact ⟨fun h => absurd h (by decide), fun h => absurd rfl h⟩
  · rw [hw1 k, hh, if_neg (by rw [← e]; exact k)]
    obtain ⟨j, hj, rfl⟩ := lw_inr hB k
    rw [nI_add]
    exact ⟨fun _ => by decide, fun _ => nI_pos' (by omega)⟩
theorem lw_where_has (wt wi : Int32) : (0 ≤ f_MD_where wt wi) ↔ ¬ f_SF_hasByte wt wi = 0 := by
  by_cases a : wt = 0
  · subst a
    refine lw_has 0 wi 767 (by omega) 0 (by omega) (fun k => ?_) (fun k => ?_) ?_
    · have k : f_MD_in wi 0 767 = 0 := k
      unfold f_MD_where; rw [if_pos rfl, if_pos k, if_neg (show ¬ (0 : Int32) = 1 by decide), if_neg (show ¬ (0 : Int32) = 2 by decide)]
    · have k : ¬ f_MD_in wi 0 767 = 0 := k
      unfold f_MD_where; rw [if_pos rfl, if_neg k]
      show wi = 0 + wi
      rw [Int32.zero_add]
    · unfold f_SF_hasByte; rw [if_neg (show ¬ (0 : Int32) < 0 by decide), if_neg (show ¬ (2 : Int32) < 0 by decide), if_pos rfl]
  · by_cases b : wt = 1
    · subst b
      refine lw_has 1 wi 511 (by omega) 768 (by omega) (fun k => ?_) (fun k => ?_) ?_
      · have k : f_MD_in wi 0 511 = 0 := k
        unfold f_MD_where; rw [if_neg (show ¬ (1 : Int32) = 0 by decide), if_pos rfl, if_pos k, if_neg (show ¬ (1 : Int32) = 2 by decide)]
      · have k : ¬ f_MD_in wi 0 511 = 0 := k
        unfold f_MD_where; rw [if_neg (show ¬ (1 : Int32) = 0 by decide), if_pos rfl, if_neg k]
        rfl
      · unfold f_SF_hasByte; rw [if_neg (show ¬ (1 : Int32) < 0 by decide), if_neg (show ¬ (2 : Int32) < 1 by decide), if_neg (show ¬ (1 : Int32) = 0 by decide), if_pos rfl]
    · by_cases c : wt = 2
      · subst c
        refine lw_has 2 wi 79 (by omega) 1280 (by omega) (fun k => ?_) (fun k => ?_) ?_
        · have k : f_MD_in wi 0 79 = 0 := k
          unfold f_MD_where; rw [if_neg (show ¬ (2 : Int32) = 0 by decide), if_neg (show ¬ (2 : Int32) = 1 by decide), if_pos rfl, if_pos k]
        · have k : ¬ f_MD_in wi 0 79 = 0 := k
          unfold f_MD_where; rw [if_neg (show ¬ (2 : Int32) = 0 by decide), if_neg (show ¬ (2 : Int32) = 1 by decide), if_pos rfl, if_neg k]
          rfl
        · unfold f_SF_hasByte; rw [if_neg (show ¬ (2 : Int32) < 0 by decide), if_neg (show ¬ (2 : Int32) < 2 by decide), if_neg (show ¬ (2 : Int32) = 0 by decide), if_neg (show ¬ (2 : Int32) = 1 by decide)]
      · have e : f_MD_where wt wi = -1 := by unfold f_MD_where; rw [if_neg a, if_neg b, if_neg c]
        have h : f_SF_hasByte wt wi = 0 := by
          by_cases h1 : wt < 0
          · unfold f_SF_hasByte; rw [if_pos h1]
          · by_cases h2 : 2 < wt
            · unfold f_SF_hasByte; rw [if_neg h1, if_pos h2]
            · rcases sf_three h1 h2 with z | z | z
              · exact absurd z a
              · exact absurd z b
              · exact absurd z c
        rw [e, h]
        exact ⟨fun h => absurd h (by decide), fun h => absurd rfl h⟩
theorem lw_cmp_poke (fl sl tb : Nat → Int32) (sh : Int32) (xB : Nat → Int32) (xsh wt wi ma : Int32) : (f_MD_poke xB xsh wt wi ma).1 = lw_c 1 0 2 0 (f_SF_poke fl sl tb sh wt wi ma).1 := by
  unfold f_MD_poke f_SF_poke
  by_cases w : 0 ≤ f_MD_where wt wi
  · rw [if_pos w, if_neg ((lw_where_has wt wi).mp w)]
    by_cases m1 : ma < 1
    · have a : f_MD_in ma 1 255 = 0 := by unfold f_MD_in; rw [if_pos m1]
      rw [if_pos a, if_pos m1]
      show (2 : Int32) = lw_c 1 0 2 0 3
      decide
    · by_cases m2 : 255 < ma
      · have a : f_MD_in ma 1 255 = 0 := by unfold f_MD_in; rw [if_neg m1, if_pos m2]
        rw [if_pos a, if_neg m1, if_neg (Int32.not_le.mpr m2)]
        show (2 : Int32) = lw_c 1 0 2 0 3
        decide
      · have a : ¬ f_MD_in ma 1 255 = 0 := by unfold f_MD_in; rw [if_neg m1, if_neg m2]; decide
        rw [if_neg a, if_neg m1, if_pos (Int32.not_lt.mp m2)]
        by_cases z0 : wt = 0
        · rw [if_pos z0]
          show (0 : Int32) = lw_c 1 0 2 0 0
          decide
        · rw [if_neg z0]
          by_cases z1 : wt = 1
          · rw [if_pos z1]
            show (0 : Int32) = lw_c 1 0 2 0 0
            decide
          · rw [if_neg z1]
            show (0 : Int32) = lw_c 1 0 2 0 0
            decide
  · have h : f_SF_hasByte wt wi = 0 := Decidable.of_not_not (fun z => w ((lw_where_has wt wi).mpr z))
    rw [if_neg w, if_pos h]
    by_cases a : f_MD_in ma 1 255 = 0
    · rw [if_pos a]
      show (1 : Int32) = lw_c 1 0 2 0 1
      decide
    · rw [if_neg a]
      show (1 : Int32) = lw_c 1 0 2 0 1
      decide
