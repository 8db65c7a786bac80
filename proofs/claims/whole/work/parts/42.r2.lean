/-! THE COMPARISON, 2: tables and chains. -/
/-- the bytes of the class, side by side, are the reference's -/
def r_B (fl sl tb xB : Nat → Int32) : Prop := (∀ k : Nat, k < 768 → xB (0 + k) = fl k) ∧ (∀ k : Nat, k < 512 → xB (768 + k) = sl k) ∧ (∀ k : Nat, k < 80 → xB (1280 + k) = tb k) ∧ (∀ k : Nat, k < 1360 → r_by (xB k))
theorem r_B.yf {fl sl tb xB : Nat → Int32} (h : r_B fl sl tb xB) (k : Nat) (hk : k < 768) : r_by (fl k) := by
  rw [← h.1 k hk]; exact h.2.2.2 _ (by omega)
theorem r_B.ys {fl sl tb xB : Nat → Int32} (h : r_B fl sl tb xB) (k : Nat) (hk : k < 512) : r_by (sl k) := by
  rw [← h.2.1 k hk]; exact h.2.2.2 _ (by omega)
theorem r_B.yt {fl sl tb xB : Nat → Int32} (h : r_B fl sl tb xB) (k : Nat) (hk : k < 80) : r_by (tb k) := by
  rw [← h.2.2.1 k hk]; exact h.2.2.2 _ (by omega)
section RT
variable {fl sl tb xB : Nat → Int32}
theorem r_tsum (h : r_B fl sl tb xB) {t j : Nat} (ht : t < 2) (hj : j = 1280 + 40 * t) : f_Bl_sumIsRight 80 tb (nI t) 36 = f_MD_isSummed xB j 36 := by
  subst hj
  exact r_sum (by omega) (by omega) (fun k hk => by rw [← h.2.2.1 (t * (36 + 4) + k) (by omega)]; exact congrArg xB (by omega)) (fun k hk => h.yt _ (by omega))
theorem r_tget (h : r_B fl sl tb xB) {t i j : Nat} (ht : t < 2) (hi : i < 40) (hj : j = 1280 + 40 * t + i) : f_Bl_get 80 tb (nI 40) (nI t) (nI i) = xB j := by
  subst hj
  rw [r_get (by omega) (by omega), ← h.2.2.1 (t * 40 + i) (by omega)]
  exact congrArg xB (by omega)
theorem r_in3 {c d e : Prop} [Decidable c] [Decidable d] [Decidable e] : (if c then (0 : Int32) else if d then 0 else if e then 0 else 1) = (if (if c then (0 : Int32) else if d then 0 else 1) = 0 then 0 else if e then 0 else 1) := by
  by_cases hc : c
  · rw [if_pos hc, if_pos hc, if_pos rfl]
  · rw [if_neg hc, if_neg hc]
    by_cases hd : d
    · rw [if_pos hd, if_pos hd, if_pos rfl]
    · rw [if_neg hd, if_neg hd, if_neg (show ¬ (1 : Int32) = 0 by decide)]
theorem r_good0 (h : r_B fl sl tb xB) : f_SF_isGood tb 0 = f_MD_isGood_0 xB := by
  have g : f_Bl_get 80 tb (nI 40) 0 0 = xB 1280 := r_tget h (t := 0) (i := 0) (by omega) (by omega) (by omega)
  have q : f_Bl_sumIsRight 80 tb 0 36 = f_MD_isSummed xB 1280 36 := r_tsum h (t := 0) (by omega) (by omega)
  unfold f_SF_isGood f_MD_isGood_0 f_MD_in
  rw [g, q]
  exact r_in3
theorem r_good1 (h : r_B fl sl tb xB) : f_SF_isGood tb 1 = f_MD_isGood_1 xB := by
  have g : f_Bl_get 80 tb (nI 40) 1 0 = xB 1320 := r_tget h (t := 1) (i := 0) (by omega) (by omega) (by omega)
  have q : f_Bl_sumIsRight 80 tb 1 36 = f_MD_isSummed xB 1320 36 := r_tsum h (t := 1) (by omega) (by omega)
  unfold f_SF_isGood f_MD_isGood_1 f_MD_in
  rw [g, q]
  exact r_in3
theorem r_inof {x a b : Int32} (g : ¬ f_MD_in x a b = 0) : ¬ x < a ∧ ¬ b < x := by
  unfold f_MD_in at g
  by_cases h1 : x < a
  · rw [if_pos h1] at g; exact absurd rfl g
  · rw [if_neg h1] at g
    by_cases h2 : b < x
    · rw [if_pos h2] at g; exact absurd rfl g
    · exact ⟨h1, h2⟩
theorem r_g0 (g : ¬ f_MD_isGood_0 xB = 0) : ¬ xB 1280 < 1 ∧ ¬ 250 < xB 1280 := by
  refine r_inof (fun hc => g ?_)
  unfold f_MD_isGood_0
  rw [if_pos hc]
theorem r_g1 (g : ¬ f_MD_isGood_1 xB = 0) : ¬ xB 1320 < 1 ∧ ¬ 250 < xB 1320 := by
  refine r_inof (fun hc => g ?_)
  unfold f_MD_isGood_1
  rw [if_pos hc]
theorem r_next {x : Int32} (h : ¬ 250 < x) : f_SF_numberBehind x = f_MD_next x := by
  unfold f_SF_numberBehind f_MD_next
  by_cases h1 : x < 250
  · rw [if_pos h1, if_neg (fun he => by rw [he] at h1; exact absurd h1 (by decide))]
  · rw [if_neg h1, if_pos (Int32.le_antisymm (Int32.not_lt.mp h) (Int32.not_lt.mp h1))]
theorem r_cnt (h : r_B fl sl tb xB) : f_SF_countingTable tb = f_MD_counting xB := by
  unfold f_SF_countingTable f_MD_counting
  rw [r_good0 h, r_good1 h]
  by_cases g0 : f_MD_isGood_0 xB = 0
  · rw [if_pos g0, if_pos g0]
  · rw [if_neg g0, if_neg g0]
    by_cases g1 : f_MD_isGood_1 xB = 0
    · rw [if_pos g1, if_pos g1]
    · rw [if_neg g1, if_neg g1]
      have e0 : f_SF_numberOf tb 0 = xB 1280 := by
        unfold f_SF_numberOf
        rw [if_neg (by decide)]
        exact r_tget h (t := 0) (i := 0) (by omega) (by omega) (by omega)
      have e1 : f_SF_numberOf tb 1 = xB 1320 := by
        unfold f_SF_numberOf
        rw [if_neg (by decide)]
        exact r_tget h (t := 1) (i := 0) (by omega) (by omega) (by omega)
      rw [e0, e1, r_next (r_g0 g0).2]
/-- which of the two counts: what is known then -/
theorem r_cnt3 (xB : Nat → Int32) : f_MD_counting xB = -1 ∨ (f_MD_counting xB = 0 ∧ ¬ 250 < xB 1280) ∨ (f_MD_counting xB = 1 ∧ ¬ 250 < xB 1320) := by
  unfold f_MD_counting
  by_cases g0 : f_MD_isGood_0 xB = 0
  · rw [if_pos g0]
    by_cases g1 : f_MD_isGood_1 xB = 0
    · rw [if_pos g1]; exact Or.inl rfl
    · rw [if_neg g1]; exact Or.inr (Or.inr ⟨rfl, (r_g1 g1).2⟩)
  · rw [if_neg g0]
    by_cases g1 : f_MD_isGood_1 xB = 0
    · rw [if_pos g1]; exact Or.inr (Or.inl ⟨rfl, (r_g0 g0).2⟩)
    · rw [if_neg g1]
      by_cases g2 : xB 1320 = f_MD_next (xB 1280)
      · rw [if_pos g2]; exact Or.inr (Or.inr ⟨rfl, (r_g1 g1).2⟩)
      · rw [if_neg g2]; exact Or.inr (Or.inl ⟨rfl, (r_g0 g0).2⟩)
theorem r_ent0 {k : Nat} (hc : f_MD_counting xB = 0) : f_MD_entry xB k = xB (1280 + k) := by
  unfold f_MD_entry
  rw [hc, if_neg (by decide), if_pos rfl]
theorem r_ent1 {k : Nat} (hc : f_MD_counting xB = 1) : f_MD_entry xB k = xB (1320 + k) := by
  unfold f_MD_entry
  rw [hc, if_neg (by decide), if_neg (by decide)]
theorem r_entN {k : Nat} (hc : f_MD_counting xB = -1) : f_MD_entry xB k = 0 := by
  unfold f_MD_entry
  rw [hc, if_pos rfl]
theorem r_by0 : r_by 0 := r_by_n (b := 0) (by omega)
theorem r_enty (h : r_B fl sl tb xB) {k : Nat} (hk : k < 40) : r_by (f_MD_entry xB k) := by
  rcases r_cnt3 xB with c | ⟨c, _⟩ | ⟨c, _⟩
  · rw [r_entN c]; exact r_by0
  · rw [r_ent0 c]; exact h.2.2.2 _ (by omega)
  · rw [r_ent1 c]; exact h.2.2.2 _ (by omega)
theorem r_tent (h : r_B fl sl tb xB) {k : Nat} (hk : k < 40) (hc : ¬ f_MD_counting xB = -1) : f_Bl_get 80 tb (nI 40) (f_MD_counting xB) (nI k) = f_MD_entry xB k := by
  rcases r_cnt3 xB with c | ⟨c, _⟩ | ⟨c, _⟩
  · exact absurd c hc
  · rw [r_ent0 c, c]
    exact r_tget h (t := 0) (by omega) hk (by omega)
  · rw [r_ent1 c, c]
    exact r_tget h (t := 1) (by omega) hk (by omega)
theorem r_first (h : r_B fl sl tb xB) {ro : Nat} (hr : ro < 12) : f_SF_firstOf tb (f_SF_countingTable tb) (nI ro) 0 = f_MD_entry xB (1 + ro) := by
  unfold f_SF_firstOf
  rw [r_cnt h]
  by_cases hc : f_MD_counting xB = -1
  · rw [if_pos hc, r_entN hc]
  · rw [if_neg hc, if_pos rfl]
    show f_Bl_get 80 tb (nI 40) (f_MD_counting xB) (nI 1 + nI ro) = _
    rw [nI_add]
    exact r_tent h (by omega) hc
theorem r_firstS (h : r_B fl sl tb xB) {ro : Nat} (hr : ro < 12) : f_SF_firstOf tb (f_SF_countingTable tb) (nI ro) 1 = f_MD_entry xB (13 + ro) := by
  unfold f_SF_firstOf
  rw [r_cnt h]
  by_cases hc : f_MD_counting xB = -1
  · rw [if_pos hc, r_entN hc]
  · rw [if_neg hc, if_neg (by decide)]
    show f_Bl_get 80 tb (nI 40) (f_MD_counting xB) (nI 13 + nI ro) = _
    rw [nI_add]
    exact r_tent h (by omega) hc
theorem r_slow (h : r_B fl sl tb xB) {ro : Nat} (hr : ro < 12) : f_SF_isSlow tb (nI ro) = f_MD_isSlow xB ro := by
  unfold f_SF_isSlow f_MD_isSlow
  rw [r_firstS h hr]
theorem r_there (h : r_B fl sl tb xB) {ro : Nat} (hr : ro < 12) : f_SF_isThere tb (nI ro) = f_MD_isThere xB ro := by
  unfold f_SF_isThere f_MD_isThere f_MD_isSlow
  rw [r_firstS h hr, r_first h hr]
  by_cases e2 : f_MD_entry xB (13 + ro) = 0
  · rw [if_pos e2, if_pos rfl]
  · rw [if_neg e2, if_neg (show ¬ (1 : Int32) = 0 by decide)]
theorem r_num (h : r_B fl sl tb xB) : f_SF_numberOf tb (f_SF_countingTable tb) = f_MD_entry xB 0 := by
  unfold f_SF_numberOf
  rw [r_cnt h]
  by_cases hc : f_MD_counting xB = -1
  · rw [if_pos hc, r_entN hc]
  · rw [if_neg hc]
    exact r_tent h (k := 0) (by omega) hc
end RT
/-- what stands in a byte, less 1: no place, or the number of one -/
def r_pl (x : Int32) : Prop := x = -1 ∨ ∃ p : Nat, p < 256 ∧ x = nI p
theorem r_pl_of {x : Int32} (h : r_by x) : r_pl (x - 1) := by
  obtain ⟨b, hb, rfl⟩ := r_by_of h
  cases b with
  | zero => exact Or.inl (by decide)
  | succ b => exact Or.inr ⟨b, by omega, nI_pred b⟩
/-- how the places of a chain lie, and its bytes behind one another -/
def r_ly (F : Nat → Int32) (P : Nat) (mo : Int32) (pl he : Nat → Int32) (k hn : Nat) : Prop :=
  ∃ o : Nat → Nat, o 0 = 0 ∧ o k = hn ∧ ∀ j : Nat, j < k → ∃ p m : Nat, p < P ∧ 1 ≤ m ∧ m ≤ 25 ∧ pl j = nI p ∧ F (p * 32 + 1) = nI m ∧ F (p * 32 + 2) = mo ∧ o (j + 1) = o j + m ∧ ∀ t : Nat, t < m → he (o j + t) = F (p * 32 + 3 + t)
theorem r_ly0 {F : Nat → Int32} {P : Nat} {mo : Int32} {pl he : Nat → Int32} : r_ly F P mo pl he 0 0 := ⟨fun _ => 0, rfl, rfl, fun j hj => absurd hj (Nat.not_lt_zero j)⟩
theorem r_mono {o : Nat → Nat} {k : Nat} (h : ∀ j : Nat, j < k → o j ≤ o (j + 1)) : ∀ i j : Nat, j + i ≤ k → o j ≤ o (j + i) := by
  intro i
  induction i with
  | zero => intro j _; exact Nat.le_refl _
  | succ i ih => intro j hj; exact Nat.le_trans (ih j (by omega)) (h (j + i) (by omega))
theorem r_ly.next {F : Nat → Int32} {P : Nat} {mo : Int32} {pl he he' : Nat → Int32} {k hn p m : Nat} (h : r_ly F P mo pl he k hn) (hp : p < P) (h1 : 1 ≤ m) (h2 : m ≤ 25) (hm : F (p * 32 + 1) = nI m) (hmo : F (p * 32 + 2) = mo)
    (hh : ∀ q : Nat, he' q = if hn ≤ q ∧ q < hn + m then F (p * 32 + 3 + (q - hn)) else he q) : r_ly F P mo (upd pl k (nI p)) he' (k + 1) (hn + m) := by
  obtain ⟨o, o0, ok, oj⟩ := h
  have hmono : ∀ j : Nat, j < k → o j ≤ o (j + 1) := fun j hj => by
    obtain ⟨p', m', _, _, _, _, _, _, e, _⟩ := oj j hj
    omega
  refine ⟨fun j => if j ≤ k then o j else hn + m, ?_, ?_, ?_⟩
  · show (if 0 ≤ k then o 0 else hn + m) = 0
    rw [if_pos (Nat.zero_le k)]; exact o0
  · show (if k + 1 ≤ k then o (k + 1) else hn + m) = hn + m
    rw [if_neg (by omega)]
  · intro j hj
    by_cases hjk : j = k
    · subst hjk
      refine ⟨p, m, hp, h1, h2, ?_, hm, hmo, ?_, ?_⟩
      · show (if j = j then nI p else pl j) = nI p
        rw [if_pos rfl]
      · show (if j + 1 ≤ j then o (j + 1) else hn + m) = (if j ≤ j then o j else hn + m) + m
        rw [if_neg (by omega), if_pos (Nat.le_refl j), ok]
      · intro t ht
        show he' ((if j ≤ j then o j else hn + m) + t) = _
        rw [if_pos (Nat.le_refl j), ok, hh, if_pos ⟨by omega, by omega⟩]
        exact congrArg F (by omega)
    · obtain ⟨p', m', a1, a2, a3, a4, a5, a6, a7, a8⟩ := oj j (by omega)
      have hle : o (j + 1) ≤ hn := by
        have := r_mono hmono (k - (j + 1)) (j + 1) (by omega)
        rw [show j + 1 + (k - (j + 1)) = k by omega, ok] at this
        exact this
      refine ⟨p', m', a1, a2, a3, ?_, a5, a6, ?_, ?_⟩
      · show (if j = k then nI p else pl j) = nI p'
        rw [if_neg hjk]; exact a4
      · show (if j + 1 ≤ k then o (j + 1) else hn + m) = (if j ≤ k then o j else hn + m) + m'
        rw [if_pos (by omega), if_pos (by omega)]; exact a7
      · intro t ht
        show he' ((if j ≤ k then o j else hn + m) + t) = _
        rw [if_pos (by omega), hh, if_neg (fun hc => by omega)]
        exact a8 t ht
/-- class and reference went through the same chain -/
def r_go (F : Nat → Int32) (P : Nat) (mo : Int32) (A : (Nat → Int32) × Int32 × Int32 × Int32 × Int32) (R : (Nat → Int32) × Int32 × Int32 × (Nat → Int32) × Int32) : Prop :=
  A.2.2.2.2 = mo ∧ ∃ c : Nat, c ≤ 3 ∧ A.2.1 = nI c ∧ R.2.1 = nI c ∧ (∀ j : Nat, j < c → A.1 j = R.1 j ∧ ∃ p : Nat, p < P ∧ A.1 j = nI p) ∧
    ((A.2.2.1 = 1 ∧ R.2.2.1 = 0 ∧ R.2.2.2.2 = 0) ∨ (A.2.2.1 = 0 ∧ R.2.2.1 = 1 ∧ 1 ≤ c ∧ ∃ hn : Nat, 1 ≤ hn ∧ hn ≤ 75 ∧ A.2.2.2.1 = nI hn ∧ R.2.2.2.2 = nI hn ∧ r_ly F P mo A.1 R.2.2.2.1 c hn))
theorem r_ly.pls {F : Nat → Int32} {P : Nat} {mo : Int32} {pl he : Nat → Int32} {k hn : Nat} (h : r_ly F P mo pl he k hn) (j : Nat) (hj : j < k) : ∃ p : Nat, p < P ∧ pl j = nI p := by
  obtain ⟨o, _, _, oj⟩ := h
  obtain ⟨p, m, a1, _, _, a4, _⟩ := oj j hj
  exact ⟨p, a1, a4⟩
theorem r_upd_eq {f g : Nat → Int32} {k : Nat} {x : Int32} (h : ∀ j : Nat, j < k → f j = g j) (j : Nat) (hj : j < k + 1) : upd f k x j = upd g k x j := by
  show (if j = k then x else f j) = (if j = k then x else g j)
  by_cases e : j = k
  · rw [if_pos e, if_pos e]
  · rw [if_neg e, if_neg e]; exact h j (by omega)
theorem r_th1 {pa : Nat → Int32} {k : Nat} {zp : Int32} (hk : k ≤ 3) : ∀ fu j : Nat, j + fu = k + 1 → j ≤ k → f_MD_isThrough_l4 pa k zp fu j 1 = 1 := by
  intro fu
  induction fu with
  | zero => intro j h1 h2; omega
  | succ fu ih =>
    intro j h1 h2
    rw [f_MD_isThrough_l4]
    by_cases h : k ≤ j
    · rw [if_pos (nI_le h (by omega))]
    · rw [if_neg (nI_ge (by omega) (by omega)), if_neg (by decide)]
      exact ih (j + 1) (by omega) (by omega)
theorem r_th {pl pa : Nat → Int32} {k : Nat} {zp : Int32} (hk : k ≤ 3) (h : ∀ j : Nat, j < k → pl j = pa j) : f_Ch_wentThrough pl (nI k) zp = f_MD_isThrough pa k zp := by
  have L : ∀ fu fv j : Nat, j + fu = 4 → j + fv = k + 1 → j ≤ k → f_Ch_wentThrough_l pl (nI k) zp fu j = f_MD_isThrough_l4 pa k zp fv j 0 := by
    intro fu
    induction fu with
    | zero => intro fv j h1 h2 h3; omega
    | succ fu ih =>
      intro fv j h1 h2 h3
      cases fv with
      | zero => omega
      | succ fv =>
        rw [f_Ch_wentThrough_l, f_MD_isThrough_l4]
        by_cases hj : k ≤ j
        · rw [if_pos (nI_le hj (by omega)), if_pos (nI_le hj (by omega))]
        · rw [if_neg (nI_ge (show j < k by omega) (by omega)), if_neg (nI_ge (show j < k by omega) (by omega)), if_neg (show ¬ (3 : Int32) ≤ nI j from nI_ge (b := 3) (by omega) (by omega)), if_pos rfl, ← h j (by omega)]
          by_cases he : pl j = zp
          · rw [if_pos he, if_pos he]
            exact (r_th1 hk fv (j + 1) (by omega) (by omega)).symm
          · rw [if_neg he, if_neg he]
            exact ih fv (j + 1) (by omega) (by omega) (by omega)
  exact L (3 + 1) (k + 1) 0 (by omega) (by omega) (by omega)
theorem r_placeAt {pl : Nat → Int32} {c j : Nat} (hj : j < c) (hc : c ≤ 3) : f_Ch_placeAt pl (nI c) (nI j) = pl j := by
  unfold f_Ch_placeAt
  rw [if_neg (nI_pos (by omega)), if_neg (nI_ge hj (by omega)), if_neg (show ¬ (3 : Int32) ≤ nI j from nI_ge (b := 3) (by omega) (by omega)), nI_clamp (by omega)]
/-- the bytes of a chain that is whole -/
theorem r_data {n P : Nat} {F pl he : Nat → Int32} {mo : Int32} {c hn i : Nat} (hn2 : n = 32 * P) (hP : P ≤ 24) (hc : c ≤ 3) (h : r_ly F P mo pl he c hn) (hi : i < hn) (h75 : hn ≤ 75) : f_Ch_dataAt pl (nI c) n F 28 (nI i) = he i := by
  obtain ⟨o, o0, ok, oj⟩ := h
  have L : ∀ fu j : Nat, j + fu = c + 1 → j ≤ c → o j ≤ i → f_Ch_dataAt_l pl (nI c) n F 28 fu j (nI (i - o j)) = he i := by
    intro fu
    induction fu with
    | zero => intro j h1 h2 _; omega
    | succ fu ih =>
      intro j h1 h2 h3
      rw [f_Ch_dataAt_l]
      by_cases hj : c ≤ j
      · have : j = c := by omega
        subst this
        omega
      · obtain ⟨p, m, a1, a2, a3, a4, a5, a6, a7, a8⟩ := oj j (by omega)
        have g1 : f_Bl_get n F (nI (28 + 4)) (nI p) 1 = nI m := (r_get (i := 1) (by omega) (by omega)).trans a5
        rw [if_neg (nI_ge (by omega) (by omega)), r_placeAt (by omega) hc, a4, g1]
        by_cases hm : m ≤ i - o j
        · rw [if_pos (nI_le hm (by omega)), r_sub hm]
          have := ih (j + 1) (by omega) (by omega) (by omega)
          rw [a7, show i - (o j + m) = i - o j - m by omega] at this
          exact this
        · rw [if_neg (nI_ge (by omega) (by omega))]
          have e : (3 : Int32) + nI (i - o j) = nI (3 + (i - o j)) := nI_add 3 _
          rw [e, r_get (by omega) (by omega)]
          have := a8 (i - o j) (by omega)
          rw [show o j + (i - o j) = i by omega] at this
          rw [this]
          exact congrArg F (by omega)
  unfold f_Ch_dataAt
  rw [nI_clamp (by omega)]
  have := L (c + 1) 0 (by omega) (by omega) (by omega)
  rw [o0, Nat.sub_zero] at this
  exact this
theorem r_l196_0 {xB : Nat → Int32} {p hn m : Nat} (hp : p < 256) (hm : m ≤ 25) (hb : xB ((0 + (32 * p)) + 1) = nI m) : ∀ (fu kk : Nat) (xh : Nat → Int32), kk + fu = m + 1 → kk ≤ m → ∀ q : Nat, f_MD_go_l196_0 xB (nI p) hn fu kk xh q = if hn + kk ≤ q ∧ q < hn + m then xB (((0 + (32 * p)) + 3) + (q - hn)) else xh q := by
  intro fu
  induction fu with
  | zero => intro kk xh h1 h2; omega
  | succ fu ih =>
    intro kk xh h1 h2 q
    rw [f_MD_go_l196_0, nI_clamp (show p < 2 ^ 31 by omega), hb, nI_clamp (show m < 2 ^ 31 by omega)]
    by_cases hk : m ≤ kk
    · rw [if_pos (nI_le hk (by omega)), if_neg (fun hc => by omega)]
    · rw [if_neg (nI_ge (by omega) (by omega)), ih (kk + 1) _ (by omega) (by omega) q]
      by_cases hq : hn + (kk + 1) ≤ q ∧ q < hn + m
      · rw [if_pos hq, if_pos ⟨by omega, by omega⟩]
      · rw [if_neg hq]
        show (if q = hn + kk then _ else xh q) = _
        by_cases he : q = hn + kk
        · rw [if_pos he, if_pos ⟨by omega, by omega⟩]
          exact congrArg xB (by omega)
        · rw [if_neg he, if_neg (fun hc => by omega)]
section RC0
variable {F xB : Nat → Int32} {mo : Int32}
/-- the place is right -/
def r_rt_0 (xB : Nat → Int32) (mo : Int32) (p : Nat) : Prop := ¬ f_MD_isSummed xB (0 + (32 * p)) 28 = 0 ∧ ¬ f_MD_in (xB ((0 + (32 * p)) + 1)) 1 25 = 0 ∧ xB ((0 + (32 * p)) + 2) = mo
theorem r_psum_0 (hx : ∀ k : Nat, k < 768 → xB (0 + k) = F k) (hy : ∀ k : Nat, k < 768 → r_by (F k)) {p : Nat} (hp : p < 24) : f_Bl_sumIsRight 768 F (nI p) 28 = f_MD_isSummed xB (0 + (32 * p)) 28 :=
  r_sum (by omega) (by omega) (fun k hk => by rw [← hx (p * (28 + 4) + k) (by omega)]; exact congrArg xB (by omega)) (fun k hk => hy _ (by omega))
theorem r_pget_0 (hx : ∀ k : Nat, k < 768 → xB (0 + k) = F k) {p i j : Nat} (hp : p < 24) (hi : i < 32) (hj : j = 0 + 32 * p + i) : f_Bl_get 768 F (nI (28 + 4)) (nI p) (nI i) = xB j := by
  subst hj
  rw [r_get (by omega) (by omega), ← hx (p * (28 + 4) + i) (by omega)]
  exact congrArg xB (by omega)
theorem r_right_0 (hx : ∀ k : Nat, k < 768 → xB (0 + k) = F k) (hy : ∀ k : Nat, k < 768 → r_by (F k)) {p : Nat} (hp : p < 24) : (r_rt_0 xB mo p → f_Ch_isRight mo 768 F 28 (nI p) = 1) ∧ (¬ r_rt_0 xB mo p → f_Ch_isRight mo 768 F 28 (nI p) = 0) := by
  have g1 : f_Bl_get 768 F (nI (28 + 4)) (nI p) 1 = xB ((0 + (32 * p)) + 1) := r_pget_0 hx (i := 1) hp (by omega) rfl
  have g2 : f_Bl_get 768 F (nI (28 + 4)) (nI p) 2 = xB ((0 + (32 * p)) + 2) := r_pget_0 hx (i := 2) hp (by omega) rfl
  have g3 := r_psum_0 hx hy hp
  unfold f_Ch_isRight
  rw [g1, g2, g3]
  by_cases c1 : xB ((0 + (32 * p)) + 1) < 1
  · rw [if_pos c1]
    exact ⟨fun h => absurd c1 (r_inof h.2.1).1, fun _ => rfl⟩
  · rw [if_neg c1]
    by_cases c2 : 25 < xB ((0 + (32 * p)) + 1)
    · rw [if_pos c2]
      exact ⟨fun h => absurd c2 (r_inof h.2.1).2, fun _ => rfl⟩
    · rw [if_neg c2]
      by_cases c3 : xB ((0 + (32 * p)) + 2) = mo
      · rw [if_pos c3]
        by_cases c4 : f_MD_isSummed xB (0 + (32 * p)) 28 = 0
        · rw [if_pos c4]
          exact ⟨fun h => absurd c4 h.1, fun _ => rfl⟩
        · rw [if_neg c4]
          have c5 : ¬ f_MD_in (xB ((0 + (32 * p)) + 1)) 1 25 = 0 := by
            unfold f_MD_in
            rw [if_neg c1, if_neg c2]
            decide
          exact ⟨fun _ => rfl, fun h => absurd (show r_rt_0 xB mo p from ⟨c4, c5, c3⟩) h⟩
      · rw [if_neg c3]
        exact ⟨fun h => absurd h.2.2 c3, fun _ => rfl⟩
theorem r_has_0 {p : Nat} (hp : p < 256) : (p < 24 → ¬ f_Bl_hasBlock 768 (nI (28 + 4)) (nI p) = 0) ∧ (¬ p < 24 → f_Bl_hasBlock 768 (nI (28 + 4)) (nI p) = 0) := by
  have e : ((nI p * nI (28 + 4)) + nI (28 + 4)) - 1 = nI (p * 32 + 31) := by
    rw [r_mul, nI_add]
    exact nI_pred (p * 32 + 31)
  unfold f_Bl_hasBlock f_Bl_hasCell
  rw [e, if_neg (nI_pos (show p < 2 ^ 31 by omega)), if_neg (nI_ge (show p < 768 by omega) (by omega)), if_neg (nI_pos (show p * 32 + 31 < 2 ^ 31 by omega))]
  refine ⟨fun h => ?_, fun h => ?_⟩
  · rw [if_neg (nI_ge (by omega) (by omega)), if_neg (show ¬ (1 : Int32) = 0 by decide)]
    decide
  · rw [if_pos (nI_le (by omega) (by omega)), if_pos rfl]
/-- the reference's walk: it ends, it stands still, it goes on -/
theorem r_ge_0 {fu k : Nat} {vp : Int32} {vpa vhe : Nat → Int32} {hn : Nat} (h : vp < 0 ∨ 24 ≤ vp ∨ 3 ≤ nI k ∨ ¬ f_MD_isThrough vpa k vp = 0) : f_MD_go_l79_0 xB (fu + 1) k 1 vp mo vpa 0 vhe hn = (vpa, nI k, 0, vhe, 0) := by
  rw [f_MD_go_l79_0, if_neg (by decide)]
  by_cases a : vp < 0
  · rw [if_pos a, if_pos rfl]
  rw [if_neg a]
  by_cases b : 24 ≤ vp
  · rw [if_pos b, if_pos rfl]
  rw [if_neg b]
  by_cases c : 3 ≤ nI k
  · rw [if_pos c, if_pos rfl]
  rw [if_neg c]
  by_cases d : f_MD_isThrough vpa k vp = 0
  · exact absurd h (fun h => by rcases h with h | h | h | h; exact a h; exact b h; exact c h; exact h d)
  · rw [if_neg d, if_pos rfl]
theorem r_gs_0 {fu k : Nat} {vp : Int32} {vpa vhe : Nat → Int32} {hn : Nat} : f_MD_go_l79_0 xB (fu + 1) k 0 vp mo vpa 0 vhe hn = (vpa, nI k, 0, vhe, 0) := by
  rw [f_MD_go_l79_0, if_pos rfl, if_pos rfl]
theorem r_gt_0 {fu k : Nat} {vp : Int32} {vpa vhe : Nat → Int32} {hn : Nat} : f_MD_go_l79_0 xB (fu + 1) k 0 vp mo vpa 1 vhe hn = (vpa, nI k, 1, vhe, nI hn) := by
  rw [f_MD_go_l79_0, if_pos rfl, if_neg (by decide)]
theorem r_gb_0 {fu k p : Nat} {vpa vhe : Nat → Int32} {hn : Nat} (hp : p < 24) (hk : k < 3) (ht : f_MD_isThrough vpa k (nI p) = 0) (h : ¬ r_rt_0 xB mo p) : f_MD_go_l79_0 xB (fu + 2) k 1 (nI p) mo vpa 0 vhe hn = (upd vpa k (nI p), nI (k + 1), 0, vhe, 0) := by
  rw [show fu + 2 = (fu + 1) + 1 from rfl, f_MD_go_l79_0, if_neg (by decide), if_neg (nI_pos (by omega)), if_neg (show ¬ (24 : Int32) ≤ nI p from nI_ge (b := 24) hp (by omega)), if_neg (show ¬ (3 : Int32) ≤ nI k from nI_ge (b := 3) hk (by omega)), if_pos ht, nI_clamp (show p < 2 ^ 31 by omega)]
  by_cases c1 : f_MD_isSummed xB (0 + (32 * p)) 28 = 0
  · rw [if_pos c1]
    by_cases c0 : xB ((0 + (32 * p)) + 1) ≤ 0
    · rw [if_pos c0]; exact r_gs_0
    · rw [if_neg c0]; exact r_gs_0
  · rw [if_neg c1]
    by_cases c2 : f_MD_in (xB ((0 + (32 * p)) + 1)) 1 25 = 0
    · rw [if_pos c2]
      by_cases c0 : xB ((0 + (32 * p)) + 1) ≤ 0
      · rw [if_pos c0]; exact r_gs_0
      · rw [if_neg c0]; exact r_gs_0
    · rw [if_neg c2]
      by_cases c3 : xB ((0 + (32 * p)) + 2) = mo
      · exact absurd ⟨c1, c2, c3⟩ h
      · rw [if_neg c3]
        by_cases c0 : xB ((0 + (32 * p)) + 1) ≤ 0
        · rw [if_pos c0]; exact r_gs_0
        · rw [if_neg c0]; exact r_gs_0
theorem r_gr_0 {fu k p m : Nat} {vpa vhe : Nat → Int32} {hn : Nat} (hp : p < 24) (hk : k < 3) (ht : f_MD_isThrough vpa k (nI p) = 0) (h : r_rt_0 xB mo p) (hm : m ≤ 25) (hb : xB ((0 + (32 * p)) + 1) = nI m) :
    (xB (0 + (32 * p)) = 0 → f_MD_go_l79_0 xB (fu + 2) k 1 (nI p) mo vpa 0 vhe hn = (upd vpa k (nI p), nI (k + 1), 1, f_MD_go_l196_0 xB (nI p) hn (m + 1) 0 vhe, nI (hn + m))) ∧
    (¬ xB (0 + (32 * p)) = 0 → f_MD_go_l79_0 xB (fu + 2) k 1 (nI p) mo vpa 0 vhe hn = f_MD_go_l79_0 xB (fu + 1) (k + 1) 1 (xB (0 + (32 * p)) - 1) mo (upd vpa k (nI p)) 0 (f_MD_go_l196_0 xB (nI p) hn (m + 1) 0 vhe) (hn + m)) := by
  have e : f_MD_go_l79_0 xB (fu + 2) k 1 (nI p) mo vpa 0 vhe hn = if xB (0 + (32 * p)) = 0 then f_MD_go_l79_0 xB (fu + 1) (k + 1) 0 (xB (0 + (32 * p)) - 1) mo (upd vpa k (nI p)) 1 (f_MD_go_l196_0 xB (nI p) hn (m + 1) 0 vhe) (hn + m) else f_MD_go_l79_0 xB (fu + 1) (k + 1) 1 (xB (0 + (32 * p)) - 1) mo (upd vpa k (nI p)) 0 (f_MD_go_l196_0 xB (nI p) hn (m + 1) 0 vhe) (hn + m) := by
    rw [show fu + 2 = (fu + 1) + 1 from rfl, f_MD_go_l79_0, if_neg (by decide), if_neg (nI_pos (by omega)), if_neg (show ¬ (24 : Int32) ≤ nI p from nI_ge (b := 24) hp (by omega)), if_neg (show ¬ (3 : Int32) ≤ nI k from nI_ge (b := 3) hk (by omega)), if_pos ht, nI_clamp (show p < 2 ^ 31 by omega), if_neg h.1, if_neg h.2.1, if_pos h.2.2, hb, nI_clamp (show m < 2 ^ 31 by omega)]
  refine ⟨fun hz => ?_, fun hz => ?_⟩
  · rw [e, if_pos hz]; exact r_gt_0
  · rw [e, if_neg hz]
/-- THE SAME CHAIN -/
theorem r_sim_0 (hx : ∀ k : Nat, k < 768 → xB (0 + k) = F k) (hy : ∀ k : Nat, k < 768 → r_by (F k)) : ∀ (fu k : Nat) (vp : Int32) (vpl vpa vhe : Nat → Int32) (hn : Nat), k + fu = 4 → k ≤ 3 → r_pl vp → (∀ j : Nat, j < k → vpl j = vpa j) → r_ly F 24 mo vpl vhe k hn → hn ≤ 25 * k →
    r_go F 24 mo (f_Ch_follow_l 768 F 28 mo fu k vp vpl (nI k) (nI hn)) (f_MD_go_l79_0 xB fu k 1 vp mo vpa 0 vhe hn) := by
  intro fu
  induction fu with
  | zero => intro k vp vpl vpa vhe hn h1 h2; omega
  | succ fu ih =>
    intro k vp vpl vpa vhe hn h1 h2 hvp heq hly hhn
    have stop : r_go F 24 mo (vpl, nI k, 1, nI hn, mo) (vpa, nI k, 0, vhe, 0) := ⟨rfl, k, h2, rfl, rfl, fun j hj => ⟨heq j hj, hly.pls j hj⟩, Or.inl ⟨rfl, rfl, rfl⟩⟩
    rw [f_Ch_follow_l]
    by_cases hk : 3 ≤ k
    · rw [if_pos (show (3 : Int32) ≤ nI k from nI_le (a := 3) hk (by omega)), r_ge_0 (Or.inr (Or.inr (Or.inl (nI_le hk (by omega)))))]
      exact stop
    rw [if_neg (show ¬ (3 : Int32) ≤ nI k from nI_ge (b := 3) (by omega) (by omega))]
    rcases hvp with hvp | ⟨p, hp256, hvp⟩
    · subst hvp
      rw [if_pos (show f_Bl_hasBlock 768 (nI (28 + 4)) (-1) = 0 by unfold f_Bl_hasBlock; rw [if_pos (by decide)]), r_ge_0 (Or.inl (by decide))]
      exact stop
    subst hvp
    by_cases hp : p < 24
    · rw [if_neg ((r_has_0 hp256).1 hp), r_th h2 heq]
      by_cases ht : f_MD_isThrough vpa k (nI p) = 0
      · rw [if_pos ht]
        obtain ⟨fv, rfl⟩ : ∃ fv : Nat, fu = fv + 1 := ⟨fu - 1, by omega⟩
        have hup := r_upd_eq (x := nI p) heq
        by_cases hr : r_rt_0 xB mo p
        · rw [if_neg (by rw [(r_right_0 hx hy hp).1 hr]; decide)]
          have hyb : r_by (F (p * 32 + 1)) := hy _ (by omega)
          obtain ⟨m, hm256, hm⟩ := r_by_of hyb
          have e1 : xB ((0 + (32 * p)) + 1) = nI m := by
            rw [← hm, ← hx (p * 32 + 1) (by omega)]; exact congrArg xB (by omega)
          have e2 : F (p * 32 + 2) = mo := by
            rw [← hr.2.2, ← hx (p * 32 + 2) (by omega)]; exact congrArg xB (by omega)
          have e0 : f_Bl_get 768 F (nI (28 + 4)) (nI p) 0 = xB (0 + (32 * p)) := r_pget_0 hx (i := 0) hp (by omega) rfl
          have e3 : f_Bl_get 768 F (nI (28 + 4)) (nI p) 1 = nI m := (r_pget_0 hx (i := 1) hp (by omega) rfl).trans e1
          have hin := r_inof hr.2.1
          rw [e1] at hin
          have m1 : 1 ≤ m := by
            rcases Nat.lt_or_ge m 1 with q | q
            · exact absurd (show nI m < (1 : Int32) from nI_lt (b := 1) q (by omega)) hin.1
            · exact q
          have m2 : m ≤ 25 := by
            rcases Nat.lt_or_ge 25 m with q | q
            · exact absurd (show (25 : Int32) < nI m from nI_lt (a := 25) q (by omega)) hin.2
            · exact q
          have hl2 := r_ly.next (he' := f_MD_go_l196_0 xB (nI p) hn (m + 1) 0 vhe) hly hp m1 m2 hm e2 (fun q => by
            rw [r_l196_0 (by omega) m2 e1 (m + 1) 0 vhe (by omega) (by omega) q]
            by_cases hq : hn ≤ q ∧ q < hn + m
            · rw [if_pos hq, if_pos ⟨by omega, by omega⟩, ← hx (p * 32 + 3 + (q - hn)) (by omega)]
              exact congrArg xB (by omega)
            · rw [if_neg hq, if_neg (fun hc => hq ⟨by omega, by omega⟩)])
          have hgr := r_gr_0 (fu := fv) (vhe := vhe) (hn := hn) hp (show k < 3 by omega) ht hr m2 e1
          rw [e0, e3, nI_add, nI_1]
          by_cases hz : xB (0 + (32 * p)) = 0
          · rw [if_pos hz, hgr.1 hz]
            exact ⟨rfl, k + 1, by omega, rfl, rfl, fun j hj => ⟨hup j hj, hl2.pls j hj⟩, Or.inr ⟨rfl, rfl, by omega, hn + m, by omega, by omega, rfl, rfl, hl2⟩⟩
          · rw [if_neg hz, hgr.2 hz]
            exact ih (k + 1) _ _ _ _ (hn + m) (by omega) (by omega) (r_pl_of (by rw [show 0 + (32 * p) = 0 + (p * 32) by omega, hx (p * 32) (by omega)]; exact hy _ (by omega))) hup hl2 (by omega)
        · rw [if_pos ((r_right_0 hx hy hp).2 hr), r_gb_0 hp (by omega) ht hr]
          refine ⟨rfl, k + 1, by omega, nI_1 k, rfl, fun j hj => ⟨hup j hj, ?_⟩, Or.inl ⟨rfl, rfl, rfl⟩⟩
          by_cases he : j = k
          · exact ⟨p, hp, by show (if j = k then nI p else vpl j) = nI p; rw [if_pos he]⟩
          · obtain ⟨p', q1, q2⟩ := hly.pls j (by omega)
            exact ⟨p', q1, by show (if j = k then nI p else vpl j) = nI p'; rw [if_neg he]; exact q2⟩
      · rw [if_neg ht, r_ge_0 (Or.inr (Or.inr (Or.inr ht)))]
        exact stop
    · rw [if_pos ((r_has_0 hp256).2 hp), r_ge_0 (Or.inr (Or.inl (show (24 : Int32) ≤ nI p from nI_le (a := 24) (by omega) (by omega))))]
      exact stop
theorem r_mo_0 (hx : ∀ k : Nat, k < 768 → xB (0 + k) = F k) {vp : Int32} (h : r_pl vp) : f_Bl_get 768 F (nI (28 + 4)) vp 2 = if vp < 0 then 0 else if 24 ≤ vp then 0 else xB ((0 + (32 * (vp.toNatClampNeg))) + 2) := by
  rcases h with rfl | ⟨p, hp, rfl⟩
  · rw [if_pos (by decide)]
    unfold f_Bl_get
    rw [if_pos (by decide)]
  · rw [if_neg (nI_pos (by omega)), nI_clamp (by omega)]
    by_cases h2 : p < 24
    · rw [if_neg (show ¬ (24 : Int32) ≤ nI p from nI_ge (b := 24) h2 (by omega))]
      exact r_pget_0 hx (i := 2) h2 (by omega) rfl
    · rw [if_pos (show (24 : Int32) ≤ nI p from nI_le (a := 24) (by omega) (by omega))]
      unfold f_Bl_get
      have e : (nI p * nI (28 + 4)) + 2 = nI (p * (28 + 4) + 2) := by
        rw [r_mul]; exact nI_add _ 2
      rw [e, if_neg (nI_pos (by omega)), if_pos (nI_le (by omega) (by omega))]
end RC0
theorem r_l196_1 {xB : Nat → Int32} {p hn m : Nat} (hp : p < 256) (hm : m ≤ 25) (hb : xB ((768 + (32 * p)) + 1) = nI m) : ∀ (fu kk : Nat) (xh : Nat → Int32), kk + fu = m + 1 → kk ≤ m → ∀ q : Nat, f_MD_go_l196_1 xB (nI p) hn fu kk xh q = if hn + kk ≤ q ∧ q < hn + m then xB (((768 + (32 * p)) + 3) + (q - hn)) else xh q := by
  intro fu
  induction fu with
  | zero => intro kk xh h1 h2; omega
  | succ fu ih =>
    intro kk xh h1 h2 q
    rw [f_MD_go_l196_1, nI_clamp (show p < 2 ^ 31 by omega), hb, nI_clamp (show m < 2 ^ 31 by omega)]
    by_cases hk : m ≤ kk
    · rw [if_pos (nI_le hk (by omega)), if_neg (fun hc => by omega)]
    · rw [if_neg (nI_ge (by omega) (by omega)), ih (kk + 1) _ (by omega) (by omega) q]
      by_cases hq : hn + (kk + 1) ≤ q ∧ q < hn + m
      · rw [if_pos hq, if_pos ⟨by omega, by omega⟩]
      · rw [if_neg hq]
        show (if q = hn + kk then _ else xh q) = _
        by_cases he : q = hn + kk
        · rw [if_pos he, if_pos ⟨by omega, by omega⟩]
          exact congrArg xB (by omega)
        · rw [if_neg he, if_neg (fun hc => by omega)]
section RC1
variable {F xB : Nat → Int32} {mo : Int32}
/-- the place is right -/
def r_rt_1 (xB : Nat → Int32) (mo : Int32) (p : Nat) : Prop := ¬ f_MD_isSummed xB (768 + (32 * p)) 28 = 0 ∧ ¬ f_MD_in (xB ((768 + (32 * p)) + 1)) 1 25 = 0 ∧ xB ((768 + (32 * p)) + 2) = mo
theorem r_psum_1 (hx : ∀ k : Nat, k < 512 → xB (768 + k) = F k) (hy : ∀ k : Nat, k < 512 → r_by (F k)) {p : Nat} (hp : p < 16) : f_Bl_sumIsRight 512 F (nI p) 28 = f_MD_isSummed xB (768 + (32 * p)) 28 :=
  r_sum (by omega) (by omega) (fun k hk => by rw [← hx (p * (28 + 4) + k) (by omega)]; exact congrArg xB (by omega)) (fun k hk => hy _ (by omega))
theorem r_pget_1 (hx : ∀ k : Nat, k < 512 → xB (768 + k) = F k) {p i j : Nat} (hp : p < 16) (hi : i < 32) (hj : j = 768 + 32 * p + i) : f_Bl_get 512 F (nI (28 + 4)) (nI p) (nI i) = xB j := by
  subst hj
  rw [r_get (by omega) (by omega), ← hx (p * (28 + 4) + i) (by omega)]
  exact congrArg xB (by omega)
theorem r_right_1 (hx : ∀ k : Nat, k < 512 → xB (768 + k) = F k) (hy : ∀ k : Nat, k < 512 → r_by (F k)) {p : Nat} (hp : p < 16) : (r_rt_1 xB mo p → f_Ch_isRight mo 512 F 28 (nI p) = 1) ∧ (¬ r_rt_1 xB mo p → f_Ch_isRight mo 512 F 28 (nI p) = 0) := by
  have g1 : f_Bl_get 512 F (nI (28 + 4)) (nI p) 1 = xB ((768 + (32 * p)) + 1) := r_pget_1 hx (i := 1) hp (by omega) rfl
  have g2 : f_Bl_get 512 F (nI (28 + 4)) (nI p) 2 = xB ((768 + (32 * p)) + 2) := r_pget_1 hx (i := 2) hp (by omega) rfl
  have g3 := r_psum_1 hx hy hp
  unfold f_Ch_isRight
  rw [g1, g2, g3]
  by_cases c1 : xB ((768 + (32 * p)) + 1) < 1
  · rw [if_pos c1]
    exact ⟨fun h => absurd c1 (r_inof h.2.1).1, fun _ => rfl⟩
  · rw [if_neg c1]
    by_cases c2 : 25 < xB ((768 + (32 * p)) + 1)
    · rw [if_pos c2]
      exact ⟨fun h => absurd c2 (r_inof h.2.1).2, fun _ => rfl⟩
    · rw [if_neg c2]
      by_cases c3 : xB ((768 + (32 * p)) + 2) = mo
      · rw [if_pos c3]
        by_cases c4 : f_MD_isSummed xB (768 + (32 * p)) 28 = 0
        · rw [if_pos c4]
          exact ⟨fun h => absurd c4 h.1, fun _ => rfl⟩
        · rw [if_neg c4]
          have c5 : ¬ f_MD_in (xB ((768 + (32 * p)) + 1)) 1 25 = 0 := by
            unfold f_MD_in
            rw [if_neg c1, if_neg c2]
            decide
          exact ⟨fun _ => rfl, fun h => absurd (show r_rt_1 xB mo p from ⟨c4, c5, c3⟩) h⟩
      · rw [if_neg c3]
        exact ⟨fun h => absurd h.2.2 c3, fun _ => rfl⟩
theorem r_has_1 {p : Nat} (hp : p < 256) : (p < 16 → ¬ f_Bl_hasBlock 512 (nI (28 + 4)) (nI p) = 0) ∧ (¬ p < 16 → f_Bl_hasBlock 512 (nI (28 + 4)) (nI p) = 0) := by
  have e : ((nI p * nI (28 + 4)) + nI (28 + 4)) - 1 = nI (p * 32 + 31) := by
    rw [r_mul, nI_add]
    exact nI_pred (p * 32 + 31)
  unfold f_Bl_hasBlock f_Bl_hasCell
  rw [e, if_neg (nI_pos (show p < 2 ^ 31 by omega)), if_neg (nI_ge (show p < 512 by omega) (by omega)), if_neg (nI_pos (show p * 32 + 31 < 2 ^ 31 by omega))]
  refine ⟨fun h => ?_, fun h => ?_⟩
  · rw [if_neg (nI_ge (by omega) (by omega)), if_neg (show ¬ (1 : Int32) = 0 by decide)]
    decide
  · rw [if_pos (nI_le (by omega) (by omega)), if_pos rfl]
/-- the reference's walk: it ends, it stands still, it goes on -/
theorem r_ge_1 {fu k : Nat} {vp : Int32} {vpa vhe : Nat → Int32} {hn : Nat} (h : vp < 0 ∨ 16 ≤ vp ∨ 3 ≤ nI k ∨ ¬ f_MD_isThrough vpa k vp = 0) : f_MD_go_l79_1 xB (fu + 1) k 1 vp mo vpa 0 vhe hn = (vpa, nI k, 0, vhe, 0) := by
  rw [f_MD_go_l79_1, if_neg (by decide)]
  by_cases a : vp < 0
  · rw [if_pos a, if_pos rfl]
  rw [if_neg a]
  by_cases b : 16 ≤ vp
  · rw [if_pos b, if_pos rfl]
  rw [if_neg b]
  by_cases c : 3 ≤ nI k
  · rw [if_pos c, if_pos rfl]
  rw [if_neg c]
  by_cases d : f_MD_isThrough vpa k vp = 0
  · exact absurd h (fun h => by rcases h with h | h | h | h; exact a h; exact b h; exact c h; exact h d)
  · rw [if_neg d, if_pos rfl]
theorem r_gs_1 {fu k : Nat} {vp : Int32} {vpa vhe : Nat → Int32} {hn : Nat} : f_MD_go_l79_1 xB (fu + 1) k 0 vp mo vpa 0 vhe hn = (vpa, nI k, 0, vhe, 0) := by
  rw [f_MD_go_l79_1, if_pos rfl, if_pos rfl]
theorem r_gt_1 {fu k : Nat} {vp : Int32} {vpa vhe : Nat → Int32} {hn : Nat} : f_MD_go_l79_1 xB (fu + 1) k 0 vp mo vpa 1 vhe hn = (vpa, nI k, 1, vhe, nI hn) := by
  rw [f_MD_go_l79_1, if_pos rfl, if_neg (by decide)]
theorem r_gb_1 {fu k p : Nat} {vpa vhe : Nat → Int32} {hn : Nat} (hp : p < 16) (hk : k < 3) (ht : f_MD_isThrough vpa k (nI p) = 0) (h : ¬ r_rt_1 xB mo p) : f_MD_go_l79_1 xB (fu + 2) k 1 (nI p) mo vpa 0 vhe hn = (upd vpa k (nI p), nI (k + 1), 0, vhe, 0) := by
  rw [show fu + 2 = (fu + 1) + 1 from rfl, f_MD_go_l79_1, if_neg (by decide), if_neg (nI_pos (by omega)), if_neg (show ¬ (16 : Int32) ≤ nI p from nI_ge (b := 16) hp (by omega)), if_neg (show ¬ (3 : Int32) ≤ nI k from nI_ge (b := 3) hk (by omega)), if_pos ht, nI_clamp (show p < 2 ^ 31 by omega)]
  by_cases c1 : f_MD_isSummed xB (768 + (32 * p)) 28 = 0
  · rw [if_pos c1]
    by_cases c0 : xB ((768 + (32 * p)) + 1) ≤ 0
    · rw [if_pos c0]; exact r_gs_1
    · rw [if_neg c0]; exact r_gs_1
  · rw [if_neg c1]
    by_cases c2 : f_MD_in (xB ((768 + (32 * p)) + 1)) 1 25 = 0
    · rw [if_pos c2]
      by_cases c0 : xB ((768 + (32 * p)) + 1) ≤ 0
      · rw [if_pos c0]; exact r_gs_1
      · rw [if_neg c0]; exact r_gs_1
    · rw [if_neg c2]
      by_cases c3 : xB ((768 + (32 * p)) + 2) = mo
      · exact absurd ⟨c1, c2, c3⟩ h
      · rw [if_neg c3]
        by_cases c0 : xB ((768 + (32 * p)) + 1) ≤ 0
        · rw [if_pos c0]; exact r_gs_1
        · rw [if_neg c0]; exact r_gs_1
theorem r_gr_1 {fu k p m : Nat} {vpa vhe : Nat → Int32} {hn : Nat} (hp : p < 16) (hk : k < 3) (ht : f_MD_isThrough vpa k (nI p) = 0) (h : r_rt_1 xB mo p) (hm : m ≤ 25) (hb : xB ((768 + (32 * p)) + 1) = nI m) :
    (xB (768 + (32 * p)) = 0 → f_MD_go_l79_1 xB (fu + 2) k 1 (nI p) mo vpa 0 vhe hn = (upd vpa k (nI p), nI (k + 1), 1, f_MD_go_l196_1 xB (nI p) hn (m + 1) 0 vhe, nI (hn + m))) ∧
    (¬ xB (768 + (32 * p)) = 0 → f_MD_go_l79_1 xB (fu + 2) k 1 (nI p) mo vpa 0 vhe hn = f_MD_go_l79_1 xB (fu + 1) (k + 1) 1 (xB (768 + (32 * p)) - 1) mo (upd vpa k (nI p)) 0 (f_MD_go_l196_1 xB (nI p) hn (m + 1) 0 vhe) (hn + m)) := by
  have e : f_MD_go_l79_1 xB (fu + 2) k 1 (nI p) mo vpa 0 vhe hn = if xB (768 + (32 * p)) = 0 then f_MD_go_l79_1 xB (fu + 1) (k + 1) 0 (xB (768 + (32 * p)) - 1) mo (upd vpa k (nI p)) 1 (f_MD_go_l196_1 xB (nI p) hn (m + 1) 0 vhe) (hn + m) else f_MD_go_l79_1 xB (fu + 1) (k + 1) 1 (xB (768 + (32 * p)) - 1) mo (upd vpa k (nI p)) 0 (f_MD_go_l196_1 xB (nI p) hn (m + 1) 0 vhe) (hn + m) := by
    rw [show fu + 2 = (fu + 1) + 1 from rfl, f_MD_go_l79_1, if_neg (by decide), if_neg (nI_pos (by omega)), if_neg (show ¬ (16 : Int32) ≤ nI p from nI_ge (b := 16) hp (by omega)), if_neg (show ¬ (3 : Int32) ≤ nI k from nI_ge (b := 3) hk (by omega)), if_pos ht, nI_clamp (show p < 2 ^ 31 by omega), if_neg h.1, if_neg h.2.1, if_pos h.2.2, hb, nI_clamp (show m < 2 ^ 31 by omega)]
  refine ⟨fun hz => ?_, fun hz => ?_⟩
  · rw [e, if_pos hz]; exact r_gt_1
  · rw [e, if_neg hz]
/-- THE SAME CHAIN -/
theorem r_sim_1 (hx : ∀ k : Nat, k < 512 → xB (768 + k) = F k) (hy : ∀ k : Nat, k < 512 → r_by (F k)) : ∀ (fu k : Nat) (vp : Int32) (vpl vpa vhe : Nat → Int32) (hn : Nat), k + fu = 4 → k ≤ 3 → r_pl vp → (∀ j : Nat, j < k → vpl j = vpa j) → r_ly F 16 mo vpl vhe k hn → hn ≤ 25 * k →
    r_go F 16 mo (f_Ch_follow_l 512 F 28 mo fu k vp vpl (nI k) (nI hn)) (f_MD_go_l79_1 xB fu k 1 vp mo vpa 0 vhe hn) := by
  intro fu
  induction fu with
  | zero => intro k vp vpl vpa vhe hn h1 h2; omega
  | succ fu ih =>
    intro k vp vpl vpa vhe hn h1 h2 hvp heq hly hhn
    have stop : r_go F 16 mo (vpl, nI k, 1, nI hn, mo) (vpa, nI k, 0, vhe, 0) := ⟨rfl, k, h2, rfl, rfl, fun j hj => ⟨heq j hj, hly.pls j hj⟩, Or.inl ⟨rfl, rfl, rfl⟩⟩
    rw [f_Ch_follow_l]
    by_cases hk : 3 ≤ k
    · rw [if_pos (show (3 : Int32) ≤ nI k from nI_le (a := 3) hk (by omega)), r_ge_1 (Or.inr (Or.inr (Or.inl (nI_le hk (by omega)))))]
      exact stop
    rw [if_neg (show ¬ (3 : Int32) ≤ nI k from nI_ge (b := 3) (by omega) (by omega))]
    rcases hvp with hvp | ⟨p, hp256, hvp⟩
    · subst hvp
      rw [if_pos (show f_Bl_hasBlock 512 (nI (28 + 4)) (-1) = 0 by unfold f_Bl_hasBlock; rw [if_pos (by decide)]), r_ge_1 (Or.inl (by decide))]
      exact stop
    subst hvp
    by_cases hp : p < 16
    · rw [if_neg ((r_has_1 hp256).1 hp), r_th h2 heq]
      by_cases ht : f_MD_isThrough vpa k (nI p) = 0
      · rw [if_pos ht]
        obtain ⟨fv, rfl⟩ : ∃ fv : Nat, fu = fv + 1 := ⟨fu - 1, by omega⟩
        have hup := r_upd_eq (x := nI p) heq
        by_cases hr : r_rt_1 xB mo p
        · rw [if_neg (by rw [(r_right_1 hx hy hp).1 hr]; decide)]
          have hyb : r_by (F (p * 32 + 1)) := hy _ (by omega)
          obtain ⟨m, hm256, hm⟩ := r_by_of hyb
          have e1 : xB ((768 + (32 * p)) + 1) = nI m := by
            rw [← hm, ← hx (p * 32 + 1) (by omega)]; exact congrArg xB (by omega)
          have e2 : F (p * 32 + 2) = mo := by
            rw [← hr.2.2, ← hx (p * 32 + 2) (by omega)]; exact congrArg xB (by omega)
          have e0 : f_Bl_get 512 F (nI (28 + 4)) (nI p) 0 = xB (768 + (32 * p)) := r_pget_1 hx (i := 0) hp (by omega) rfl
          have e3 : f_Bl_get 512 F (nI (28 + 4)) (nI p) 1 = nI m := (r_pget_1 hx (i := 1) hp (by omega) rfl).trans e1
          have hin := r_inof hr.2.1
          rw [e1] at hin
          have m1 : 1 ≤ m := by
            rcases Nat.lt_or_ge m 1 with q | q
            · exact absurd (show nI m < (1 : Int32) from nI_lt (b := 1) q (by omega)) hin.1
            · exact q
          have m2 : m ≤ 25 := by
            rcases Nat.lt_or_ge 25 m with q | q
            · exact absurd (show (25 : Int32) < nI m from nI_lt (a := 25) q (by omega)) hin.2
            · exact q
          have hl2 := r_ly.next (he' := f_MD_go_l196_1 xB (nI p) hn (m + 1) 0 vhe) hly hp m1 m2 hm e2 (fun q => by
            rw [r_l196_1 (by omega) m2 e1 (m + 1) 0 vhe (by omega) (by omega) q]
            by_cases hq : hn ≤ q ∧ q < hn + m
            · rw [if_pos hq, if_pos ⟨by omega, by omega⟩, ← hx (p * 32 + 3 + (q - hn)) (by omega)]
              exact congrArg xB (by omega)
            · rw [if_neg hq, if_neg (fun hc => hq ⟨by omega, by omega⟩)])
          have hgr := r_gr_1 (fu := fv) (vhe := vhe) (hn := hn) hp (show k < 3 by omega) ht hr m2 e1
          rw [e0, e3, nI_add, nI_1]
          by_cases hz : xB (768 + (32 * p)) = 0
          · rw [if_pos hz, hgr.1 hz]
            exact ⟨rfl, k + 1, by omega, rfl, rfl, fun j hj => ⟨hup j hj, hl2.pls j hj⟩, Or.inr ⟨rfl, rfl, by omega, hn + m, by omega, by omega, rfl, rfl, hl2⟩⟩
          · rw [if_neg hz, hgr.2 hz]
            exact ih (k + 1) _ _ _ _ (hn + m) (by omega) (by omega) (r_pl_of (by rw [show 768 + (32 * p) = 768 + (p * 32) by omega, hx (p * 32) (by omega)]; exact hy _ (by omega))) hup hl2 (by omega)
        · rw [if_pos ((r_right_1 hx hy hp).2 hr), r_gb_1 hp (by omega) ht hr]
          refine ⟨rfl, k + 1, by omega, nI_1 k, rfl, fun j hj => ⟨hup j hj, ?_⟩, Or.inl ⟨rfl, rfl, rfl⟩⟩
          by_cases he : j = k
          · exact ⟨p, hp, by show (if j = k then nI p else vpl j) = nI p; rw [if_pos he]⟩
          · obtain ⟨p', q1, q2⟩ := hly.pls j (by omega)
            exact ⟨p', q1, by show (if j = k then nI p else vpl j) = nI p'; rw [if_neg he]; exact q2⟩
      · rw [if_neg ht, r_ge_1 (Or.inr (Or.inr (Or.inr ht)))]
        exact stop
    · rw [if_pos ((r_has_1 hp256).2 hp), r_ge_1 (Or.inr (Or.inl (show (16 : Int32) ≤ nI p from nI_le (a := 16) (by omega) (by omega))))]
      exact stop
theorem r_mo_1 (hx : ∀ k : Nat, k < 512 → xB (768 + k) = F k) {vp : Int32} (h : r_pl vp) : f_Bl_get 512 F (nI (28 + 4)) vp 2 = if vp < 0 then 0 else if 16 ≤ vp then 0 else xB ((768 + (32 * (vp.toNatClampNeg))) + 2) := by
  rcases h with rfl | ⟨p, hp, rfl⟩
  · rw [if_pos (by decide)]
    unfold f_Bl_get
    rw [if_pos (by decide)]
  · rw [if_neg (nI_pos (by omega)), nI_clamp (by omega)]
    by_cases h2 : p < 16
    · rw [if_neg (show ¬ (16 : Int32) ≤ nI p from nI_ge (b := 16) h2 (by omega))]
      exact r_pget_1 hx (i := 2) h2 (by omega) rfl
    · rw [if_pos (show (16 : Int32) ≤ nI p from nI_le (a := 16) (by omega) (by omega))]
      unfold f_Bl_get
      have e : (nI p * nI (28 + 4)) + 2 = nI (p * (28 + 4) + 2) := by
        rw [r_mul]; exact nI_add _ 2
      rw [e, if_neg (nI_pos (by omega)), if_pos (nI_le (by omega) (by omega))]
end RC1
section RR
variable {fl sl tb xB : Nat → Int32}
/-- a row's chain, in the file -/
theorem r_row0 (h : r_B fl sl tb xB) {ro : Nat} (hr : ro < 12) (hs : f_MD_isSlow xB ro = 0) (pl xpa xhe : Nat → Int32) : ∃ mo : Int32, r_go fl 24 mo (f_Ch_follow pl 768 fl 28 (f_MD_entry xB (1 + ro) - 1)) (f_MD_go xB xpa xhe ro) := by
  have hp := r_pl_of (r_enty h (show 1 + ro < 40 by omega))
  refine ⟨f_Bl_get 768 fl (nI (28 + 4)) (f_MD_entry xB (1 + ro) - 1) 2, ?_⟩
  have S := r_sim_0 (mo := f_Bl_get 768 fl (nI (28 + 4)) (f_MD_entry xB (1 + ro) - 1) 2) h.1 (fun k hk => h.yf k hk) (3 + 1) 0 _ pl xpa xhe 0 (by omega) (by omega) hp (fun j hj => absurd hj (Nat.not_lt_zero j)) r_ly0 (by omega)
  have M := r_mo_0 h.1 hp
  have E : f_MD_go xB xpa xhe ro = f_MD_go_l79_0 xB (3 + 1) 0 1 (f_MD_entry xB (1 + ro) - 1) (f_Bl_get 768 fl (nI (28 + 4)) (f_MD_entry xB (1 + ro) - 1) 2) xpa 0 xhe 0 := by
    unfold f_MD_go
    rw [if_pos hs, M]
    by_cases a : f_MD_entry xB (1 + ro) - 1 < 0
    · rw [if_pos a, if_pos a]
    · rw [if_neg a, if_neg a]
      by_cases b : 24 ≤ f_MD_entry xB (1 + ro) - 1
      · rw [if_pos b, if_pos b]
      · rw [if_neg b, if_neg b]
  rw [E]
  exact S
/-- a row's chain, in the slow file -/
theorem r_row1 (h : r_B fl sl tb xB) {ro : Nat} (hr : ro < 12) (hs : ¬ f_MD_isSlow xB ro = 0) (pl xpa xhe : Nat → Int32) : ∃ mo : Int32, r_go sl 16 mo (f_Ch_follow pl 512 sl 28 (f_MD_entry xB (13 + ro) - 1)) (f_MD_go xB xpa xhe ro) := by
  have hp := r_pl_of (r_enty h (show 13 + ro < 40 by omega))
  refine ⟨f_Bl_get 512 sl (nI (28 + 4)) (f_MD_entry xB (13 + ro) - 1) 2, ?_⟩
  have S := r_sim_1 (mo := f_Bl_get 512 sl (nI (28 + 4)) (f_MD_entry xB (13 + ro) - 1) 2) h.2.1 (fun k hk => h.ys k hk) (3 + 1) 0 _ pl xpa xhe 0 (by omega) (by omega) hp (fun j hj => absurd hj (Nat.not_lt_zero j)) r_ly0 (by omega)
  have M := r_mo_1 h.2.1 hp
  have E : f_MD_go xB xpa xhe ro = f_MD_go_l79_1 xB (3 + 1) 0 1 (f_MD_entry xB (13 + ro) - 1) (f_Bl_get 512 sl (nI (28 + 4)) (f_MD_entry xB (13 + ro) - 1) 2) xpa 0 xhe 0 := by
    unfold f_MD_go
    rw [if_neg hs, M]
    by_cases a : f_MD_entry xB (13 + ro) - 1 < 0
    · rw [if_pos a, if_pos a]
    · rw [if_neg a, if_neg a]
      by_cases b : 16 ≤ f_MD_entry xB (13 + ro) - 1
      · rw [if_pos b, if_pos b]
      · rw [if_neg b, if_neg b]
  rw [E]
  exact S
end RR
