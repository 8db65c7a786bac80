/-! THE COMPARISON, 5: what a write writes. -/
/-- the sum of the first bytes -/
def r_sm (f : Nat → Int32) : Nat → Int32
  | 0 => 0
  | k + 1 => f_MD_stir (r_sm f k) (f k)
theorem r_sm_E {f g : Nat → Int32} : ∀ k : Nat, (∀ i : Nat, i < k → f i = g i) → r_sm f k = r_sm g k := by
  intro k
  induction k with
  | zero => intro _; rfl
  | succ k ih => intro h; rw [r_sm, r_sm, ih (fun i hi => h i (by omega)), h k (by omega)]
/-- a block with its sum behind it -/
def r_fu (N : Nat) (f : Nat → Int32) : Nat → Int32 := fun i => if i < N then f i else (sf_ushr (r_sm f N) (nI (8 * (3 - (i - N))))) &&& 255
theorem r_fu_E {N : Nat} {f g : Nat → Int32} (h : ∀ i : Nat, i < N → f i = g i) (i : Nat) : r_fu N f i = r_fu N g i := by
  show (if i < N then f i else (sf_ushr (r_sm f N) (nI (8 * (3 - (i - N))))) &&& 255) = (if i < N then g i else (sf_ushr (r_sm g N) (nI (8 * (3 - (i - N))))) &&& 255)
  rw [r_sm_E N h]
  by_cases hi : i < N
  · rw [if_pos hi, if_pos hi, h i hi]
  · rw [if_neg hi, if_neg hi]
theorem r_fu_y {N : Nat} {f : Nat → Int32} (h : ∀ i : Nat, i < N → r_by (f i)) (i : Nat) : r_by (r_fu N f i) := by
  show r_by (if i < N then f i else (sf_ushr (r_sm f N) (nI (8 * (3 - (i - N))))) &&& 255)
  by_cases hi : i < N
  · rw [if_pos hi]; exact h i hi
  · rw [if_neg hi]; exact r_by_255 _
/-- a stretch of bytes that is written over -/
def r_ap (B : Nat → Int32) (a n : Nat) (v : Nat → Int32) : Nat → Int32 := fun q => if a ≤ q ∧ q < a + n then v (q - a) else B q
theorem r_ap_in {B v : Nat → Int32} {a n q : Nat} (h1 : a ≤ q) (h2 : q < a + n) : r_ap B a n v q = v (q - a) := if_pos ⟨h1, h2⟩
theorem r_ap_out {B v : Nat → Int32} {a n q : Nat} (h : q < a ∨ a + n ≤ q) : r_ap B a n v q = B q := if_neg (fun c => by omega)
theorem r_upd_at (f : Nat → Int32) (k : Nat) (x : Int32) : upd f k x k = x := if_pos rfl
theorem r_upd_ne {f : Nat → Int32} {k q : Nat} {x : Int32} (h : ¬ q = k) : upd f k x q = f q := if_neg h
/-- the reference's sum, behind a block -/
theorem r_psm {xto xwa f : Nat → Int32} {mn nb fm : Nat} (h1 : nb ≤ mn) (h2 : mn < 2 ^ 30) (hf : ∀ k : Nat, k < nb → xwa ((mn - nb) + k) = f k) :
    (∀ q : Nat, (f_MD_putSum xto xwa mn nb fm).1 q = if mn ≤ q ∧ q < mn + 4 then nI ((fm + nb) + (q - mn)) else xto q) ∧ (∀ q : Nat, (f_MD_putSum xto xwa mn nb fm).2 q = if mn ≤ q ∧ q < mn + 4 then (sf_ushr (r_sm f nb) (nI (8 * (3 - (q - mn))))) &&& 255 else xwa q) := by
  have L4 : ∀ (fu kk : Nat) (vto vwa : Nat → Int32), kk + fu = 5 → kk ≤ 4 → (∀ q : Nat, (f_MD_putSum_l40 mn nb fm (r_sm f nb) fu kk vto vwa).1 q = if mn + kk ≤ q ∧ q < mn + 4 then nI ((fm + nb) + (q - mn)) else vto q) ∧ (∀ q : Nat, (f_MD_putSum_l40 mn nb fm (r_sm f nb) fu kk vto vwa).2 q = if mn + kk ≤ q ∧ q < mn + 4 then (sf_ushr (r_sm f nb) (nI (8 * (3 - (q - mn))))) &&& 255 else vwa q) := by
    intro fu
    induction fu with
    | zero => intro kk vto vwa a b; omega
    | succ fu ih =>
      intro kk vto vwa a b
      rw [f_MD_putSum_l40]
      by_cases hk : 4 ≤ kk
      · rw [if_pos (show (4 : Int32) ≤ nI kk from nI_le (a := 4) hk (by omega))]
        exact ⟨fun q => by rw [if_neg (fun c => by omega)], fun q => by rw [if_neg (fun c => by omega)]⟩
      · rw [if_neg (show ¬ (4 : Int32) ≤ nI kk from nI_ge (b := 4) (by omega) (by omega))]
        have e : (24 : Int32) - nI (8 * kk) = nI (8 * (3 - kk)) := by
          rw [show 8 * (3 - kk) = 24 - 8 * kk by omega]
          exact r_sub (a := 24) (by omega)
        rw [e]
        have I := ih (kk + 1) (upd vto (mn + kk) (nI ((fm + nb) + kk))) (upd vwa (mn + kk) ((sf_ushr (r_sm f nb) (nI (8 * (3 - kk)))) &&& 255)) (by omega) (by omega)
        refine ⟨fun q => ?_, fun q => ?_⟩
        · rw [I.1 q]
          by_cases c1 : mn + (kk + 1) ≤ q ∧ q < mn + 4
          · rw [if_pos c1, if_pos ⟨by omega, by omega⟩]
          · rw [if_neg c1]
            by_cases c2 : q = mn + kk
            · subst c2
              rw [r_upd_at, if_pos ⟨by omega, by omega⟩]
              exact congrArg nI (by omega)
            · rw [r_upd_ne c2, if_neg (fun c => by omega)]
        · rw [I.2 q]
          by_cases c1 : mn + (kk + 1) ≤ q ∧ q < mn + 4
          · rw [if_pos c1, if_pos ⟨by omega, by omega⟩]
          · rw [if_neg c1]
            by_cases c2 : q = mn + kk
            · subst c2
              rw [r_upd_at, if_pos ⟨by omega, by omega⟩, show mn + kk - mn = kk by omega]
            · rw [r_upd_ne c2, if_neg (fun c => by omega)]
  have L10 : ∀ (fu k : Nat), k + fu = nb + 1 → k ≤ nb → f_MD_putSum_l10 xto xwa mn nb fm fu k (r_sm f k) = f_MD_putSum_l40 mn nb fm (r_sm f nb) (4 + 1) 0 xto xwa := by
    intro fu
    induction fu with
    | zero => intro k a b; omega
    | succ fu ih =>
      intro k a b
      rw [f_MD_putSum_l10]
      by_cases hk : nb ≤ k
      · rw [if_pos (nI_le (by omega) (by omega)), show k = nb by omega]
      · rw [if_neg (nI_ge (show (mn - nb) + k < mn by omega) (by omega)), hf k (by omega)]
        exact ih (k + 1) (by omega) (by omega)
  have E : f_MD_putSum xto xwa mn nb fm = f_MD_putSum_l40 mn nb fm (r_sm f nb) (4 + 1) 0 xto xwa := L10 (nb + 1) 0 (by omega) (by omega)
  rw [E]
  exact L4 (4 + 1) 0 xto xwa (by omega) (by omega)
/-- the bytes of a place of a chain -/
def r_bk (lk m : Nat) (mo : Int32) (d : Nat → Int32) : Nat → Int32 := fun i => if i = 0 then nI lk else if i = 1 then nI m else if i = 2 then mo else if i - 3 < m then d (i - 3) else 0
/-- entries of the reference's list, one behind the other, put into the bytes -/
def r_cs (xto xwa : Nat → Int32) : Nat → Nat → (Nat → Int32) → (Nat → Int32)
  | _, 0, B => B
  | s, c + 1, B => r_cs xto xwa (s + 1) c (upd B ((xto s).toNatClampNeg) (xwa s))
theorem r_cs_add {xto xwa : Nat → Int32} (b : Nat) : ∀ (a s : Nat) (B : Nat → Int32), r_cs xto xwa s (a + b) B = r_cs xto xwa (s + a) b (r_cs xto xwa s a B) := by
  intro a
  induction a with
  | zero => intro s B; rw [Nat.zero_add, Nat.add_zero, r_cs]
  | succ a ih => intro s B; rw [show a + 1 + b = (a + b) + 1 by omega, r_cs, r_cs, ih (s + 1), show s + 1 + a = s + (a + 1) by omega]
theorem r_cs_ap {xto xwa v : Nat → Int32} {a s : Nat} : ∀ (n : Nat) (j : Nat) (B : Nat → Int32), a + (j + n) < 2 ^ 31 → (∀ i : Nat, i < j + n → xto (s + i) = nI (a + i) ∧ xwa (s + i) = v i) → ∀ q : Nat, r_cs xto xwa (s + j) n B q = if a + j ≤ q ∧ q < a + (j + n) then v (q - a) else B q := by
  intro n
  induction n with
  | zero => intro j B _ _ q; rw [r_cs, if_neg (fun c => by omega)]
  | succ n ih =>
    intro j B hl h q
    have h0 := h j (by omega)
    rw [r_cs, h0.1, h0.2, nI_clamp (by omega)]
    have I := ih (j + 1) (upd B (a + j) (v j)) (by omega) (fun i hi => h i (by omega)) q
    rw [show s + j + 1 = s + (j + 1) by omega, I]
    by_cases c1 : a + (j + 1) ≤ q ∧ q < a + (j + 1 + n)
    · rw [if_pos c1, if_pos ⟨by omega, by omega⟩]
    · rw [if_neg c1]
      by_cases c2 : q = a + j
      · subst c2
        rw [r_upd_at, if_pos ⟨by omega, by omega⟩, show a + j - a = j by omega]
      · rw [r_upd_ne c2, if_neg (fun c => by omega)]
/-- a block of the list, put into the bytes -/
theorem r_cs_blk {xto xwa v B : Nat → Int32} {a s n : Nat} (hl : a + n < 2 ^ 31) (h : ∀ i : Nat, i < n → xto (s + i) = nI (a + i) ∧ xwa (s + i) = v i) : r_cs xto xwa s n B = r_ap B a n v := by
  funext q
  have := r_cs_ap (xto := xto) (xwa := xwa) (v := v) (a := a) (s := s) n 0 B (by omega) (fun i hi => h i (by omega)) q
  rw [Nat.add_zero, Nat.add_zero, Nat.zero_add] at this
  exact this
theorem r_cm0 {xcu : Int32} {xto xwa : Nat → Int32} {mn : Nat} (hm : mn < 2 ^ 31) : ∀ (fu kk : Nat) (B : Nat → Int32), kk + fu = mn + 1 → kk ≤ mn → f_MD_comes_l42_0 xcu xto xwa mn fu kk B = r_cs xto xwa kk (mn - kk) B := by
  intro fu
  induction fu with
  | zero => intro kk B a b; omega
  | succ fu ih =>
    intro kk B a b
    rw [f_MD_comes_l42_0]
    by_cases hk : mn ≤ kk
    · rw [if_pos (nI_le hk (by omega)), show mn - kk = 0 by omega, r_cs]
    · rw [if_neg (nI_ge (by omega) (by omega)), ih (kk + 1) _ (by omega) (by omega), show mn - kk = (mn - (kk + 1)) + 1 by omega, r_cs]
theorem r_cm1 {x : Nat} {xto xwa : Nat → Int32} {mn : Nat} (hm : x < 2 ^ 31) : ∀ (fu kk : Nat) (B : Nat → Int32), kk + fu = x + 1 → kk ≤ x → f_MD_comes_l42_1 (nI x) xto xwa mn fu kk B = r_cs xto xwa kk (x - kk) B := by
  intro fu
  induction fu with
  | zero => intro kk B a b; omega
  | succ fu ih =>
    intro kk B a b
    rw [f_MD_comes_l42_1, nI_clamp hm]
    by_cases hk : x ≤ kk
    · rw [if_pos (nI_le hk (by omega)), show x - kk = 0 by omega, r_cs]
    · rw [if_neg (nI_ge (by omega) (by omega)), ih (kk + 1) _ (by omega) (by omega), show x - kk = (x - (kk + 1)) + 1 by omega, r_cs]
/-- a cut that is told: none, or behind so many bytes -/
def r_cu (cu : Int32) : Prop := cu = -1 ∨ ∃ c : Nat, c ≤ 200 ∧ cu = nI c
/-- how many bytes come, and whether the power fails -/
theorem r_comes {cu : Int32} (h : r_cu cu) (n : Nat) (hn : n ≤ 3) : ∃ (X : Nat) (pf : Int32), X ≤ 32 * n + 40 ∧ (pf = 0 ∧ X = 32 * n + 40 ∨ pf = 1) ∧ f_SF_beginWriting cu (nI n) = (-1, nI X, pf) ∧
    ∀ (xB xto xwa : Nat → Int32), f_MD_comes xB 0 cu xto xwa (0 + 32 * n + 40) = (1 - pf, r_cs xto xwa 0 X xB, pf) := by
  have eb : (nI n * 32) + 40 = nI (32 * n + 40) := by
    show (nI n * nI 32) + nI 40 = _
    rw [r_mul, nI_add, Nat.mul_comm]
  have em : 0 + 32 * n + 40 = 32 * n + 40 := by omega
  have full : ∀ (cu : Int32) (xB xto xwa : Nat → Int32), f_MD_comes_l42_0 cu xto xwa (32 * n + 40) (32 * n + 40 + 1) 0 xB = r_cs xto xwa 0 (32 * n + 40) xB := fun cu xB xto xwa => r_cm0 (by omega) (32 * n + 40 + 1) 0 xB (by omega) (by omega)
  rcases h with rfl | ⟨c, hc, rfl⟩
  · refine ⟨32 * n + 40, 0, Nat.le_refl _, Or.inl ⟨rfl, rfl⟩, ?_, fun xB xto xwa => ?_⟩
    · unfold f_SF_beginWriting
      rw [if_pos rfl, eb]
    · unfold f_MD_comes
      rw [em, if_pos (by decide), if_pos rfl, full]
      rfl
  · have hm1 : ¬ nI c = -1 := fun q => by
      have := r_m1lt (n := c) (by omega)
      rw [q] at this
      exact absurd this (by decide)
    by_cases hx : 32 * n + 40 ≤ c
    · refine ⟨32 * n + 40, 0, Nat.le_refl _, Or.inl ⟨rfl, rfl⟩, ?_, fun xB xto xwa => ?_⟩
      · unfold f_SF_beginWriting
        rw [if_neg hm1, eb, if_pos (nI_le hx (by omega))]
      · unfold f_MD_comes
        rw [em, if_neg (nI_pos (by omega)), if_pos (nI_le hx (by omega)), if_pos rfl, full]
        rfl
    · refine ⟨c, 1, by omega, Or.inr rfl, ?_, fun xB xto xwa => ?_⟩
      · unfold f_SF_beginWriting
        rw [if_neg hm1, eb, if_neg (nI_ge (by omega) (by omega))]
      · unfold f_MD_comes
        rw [em, if_neg (nI_pos (by omega)), if_neg (nI_ge (by omega) (by omega)), if_pos rfl, nI_clamp (by omega), r_cm1 (by omega) (c + 1) 0 xB (by omega) (by omega)]
        rfl
/-- the class's own sum, behind a block of its own -/
theorem r_sumOf {n N : Nat} {F : Nat → Int32} (hn : N + 4 ≤ n) (hl : n < 2 ^ 30) : f_Bl_sumOf n F (nI (N + 4)) 0 N = r_sm F N := by
  have L : ∀ fu k : Nat, k + fu = N + 1 → k ≤ N → f_Bl_sumOf_l F (nI (N + 4)) (nI 0) N fu k (r_sm F k) = r_sm F N := by
    intro fu
    induction fu with
    | zero => intro k a b; omega
    | succ fu ih =>
      intro k a b
      rw [f_Bl_sumOf_l]
      by_cases hk : N ≤ k
      · rw [if_pos (nI_le hk (by omega)), show k = N by omega]
      · rw [if_neg (nI_ge (by omega) (by omega)), r_mul, Nat.zero_mul, nI_add, Nat.zero_add, nI_clamp (by omega)]
        exact ih (k + 1) (by omega) (by omega)
  show f_Bl_sumOf n F (nI (N + 4)) (nI 0) N = r_sm F N
  unfold f_Bl_sumOf
  rw [r_mul, Nat.zero_mul, if_neg (by decide), r_sub (by omega), if_pos (nI_le (by omega) (by omega))]
  exact L (N + 1) 0 (by omega) (by omega)
theorem r_set0 {n : Nat} {F : Nat → Int32} {sz j : Nat} {v : Int32} (h : j < n) (hn : n < 2 ^ 31) : f_Bl_set n F (nI sz) 0 (nI j) v = upd F j (v &&& 255) := by
  have := r_set (F := F) (sz := sz) (b := 0) (i := j) (n := n) (v := v) (by omega) hn
  rw [Nat.zero_mul, Nat.zero_add] at this
  exact this
theorem r_setSum {n N : Nat} {F : Nat → Int32} (hn : n = N + 4) (hl : n < 2 ^ 30) (i : Nat) (hi : i < n) : f_SF_setSum n F N i = r_fu N F i := by
  have L : ∀ (fu k : Nat) (vF : Nat → Int32), k + fu = 5 → k ≤ 4 → ∀ i : Nat, f_SF_setSum_l n F N fu k vF i = if N + k ≤ i ∧ i < N + 4 then (sf_ushr (r_sm F N) (nI (8 * (3 - (i - N))))) &&& 255 else vF i := by
    intro fu
    induction fu with
    | zero => intro k vF a b; omega
    | succ fu ih =>
      intro k vF a b i
      rw [f_SF_setSum_l]
      by_cases hk : 4 ≤ k
      · rw [if_pos (show (4 : Int32) ≤ nI k from nI_le (a := 4) hk (by omega)), if_neg (fun c => by omega)]
      · have e : (8 : Int32) * (3 - nI k) = nI (8 * (3 - k)) := by
          show nI 8 * (nI 3 - nI k) = _
          rw [r_sub (by omega), r_mul]
        rw [if_neg (show ¬ (4 : Int32) ≤ nI k from nI_ge (b := 4) (by omega) (by omega)), e, r_sumOf (by omega) hl, nI_add, r_set0 (by omega) (by omega), ih (k + 1) _ (by omega) (by omega) i]
        by_cases c1 : N + (k + 1) ≤ i ∧ i < N + 4
        · rw [if_pos c1, if_pos ⟨by omega, by omega⟩]
        · rw [if_neg c1]
          by_cases c2 : i = N + k
          · subst c2
            rw [r_upd_at, if_pos ⟨by omega, by omega⟩, show N + k - N = k by omega]
          · rw [r_upd_ne c2, if_neg (fun c => by omega)]
  have := L (4 + 1) 0 F (by omega) (by omega) i
  show f_SF_setSum_l n F N (4 + 1) 0 F i = (if i < N then F i else (sf_ushr (r_sm F N) (nI (8 * (3 - (i - N))))) &&& 255)
  rw [this]
  by_cases c : i < N
  · rw [if_pos c, if_neg (fun d => by omega)]
  · rw [if_neg c, if_pos ⟨by omega, by omega⟩]
/-- a block is put into its place, as far as bytes are left -/
theorem r_put_nf {np vf v : Nat → Int32} {p X : Nat} (hp : p < 24) (hX : X < 2 ^ 31) (hv : ∀ i : Nat, i < 32 → np i = v i ∧ r_by (v i)) : f_SF_putBlock_nf vf np (nI X) (nI p) = (r_ap vf (32 * p) (min 32 X) v, nI (X - min 32 X)) := by
  have L : ∀ (fu k : Nat) (w : Nat → Int32) (x : Nat), k + fu = 32 + 1 → k ≤ 32 → x < 2 ^ 31 → f_SF_putBlock_nf_l3 np (nI p) fu k w (nI x) = ((fun q => if 32 * p + k ≤ q ∧ q < 32 * p + min 32 (k + x) then v (q - 32 * p) else w q), nI (x - (min 32 (k + x) - k))) := by
    intro fu
    induction fu with
    | zero => intro k w x a b; omega
    | succ fu ih =>
      intro k w x a b hx
      rw [f_SF_putBlock_nf_l3]
      by_cases hk : 32 ≤ k
      · rw [if_pos (nI_le hk (by omega))]
        have e2 : x - (min 32 (k + x) - k) = x := by omega
        rw [e2]
        refine congrArg (fun z => (z, nI x)) ?_
        funext q
        exact (if_neg (fun c => by omega)).symm
      · rw [if_neg (nI_ge (show k < 32 by omega) (by omega))]
        cases x with
        | zero =>
          rw [if_pos (show nI 0 ≤ 0 by decide)]
          have e2 : 0 - (min 32 (k + 0) - k) = 0 := by omega
          rw [e2]
          refine congrArg (fun z => (z, nI 0)) ?_
          funext q
          exact (if_neg (fun c => by omega)).symm
        | succ x =>
          rw [if_neg (nI_nle (by omega) hx), nI_pred, r_set (show p * 32 + k < 768 by omega) (by omega), r_get0 (show k < 32 by omega) (by omega), (hv k (by omega)).1, r_255 (hv k (by omega)).2, ih (k + 1) _ x (by omega) (by omega) (by omega)]
          have e2 : x - (min 32 (k + 1 + x) - (k + 1)) = x + 1 - (min 32 (k + (x + 1)) - k) := by omega
          rw [e2]
          refine congrArg (fun z => (z, nI (x + 1 - (min 32 (k + (x + 1)) - k)))) ?_
          funext q
          show (if 32 * p + (k + 1) ≤ q ∧ q < 32 * p + min 32 (k + 1 + x) then v (q - 32 * p) else upd w (p * 32 + k) (v k) q) = (if 32 * p + k ≤ q ∧ q < 32 * p + min 32 (k + (x + 1)) then v (q - 32 * p) else w q)
          by_cases c1 : 32 * p + (k + 1) ≤ q ∧ q < 32 * p + min 32 (k + 1 + x)
          · rw [if_pos c1, if_pos ⟨by omega, by omega⟩]
          · rw [if_neg c1]
            by_cases c2 : q = p * 32 + k
            · rw [c2, r_upd_at, if_pos ⟨by omega, by omega⟩]
              exact congrArg v (by omega)
            · rw [r_upd_ne c2, if_neg (fun c => by omega)]
  have := L (32 + 1) 0 vf X (by omega) (by omega) hX
  unfold f_SF_putBlock_nf
  rw [this]
  have e2 : X - (min 32 (0 + X) - 0) = X - min 32 X := by omega
  rw [e2]
  refine congrArg (fun z => (z, nI (X - min 32 X))) ?_
  funext q
  show (if 32 * p + 0 ≤ q ∧ q < 32 * p + min 32 (0 + X) then v (q - 32 * p) else vf q) = (if 32 * p ≤ q ∧ q < 32 * p + min 32 X then v (q - 32 * p) else vf q)
  rw [Nat.add_zero, Nat.zero_add]
/-- a block is put into its place, as far as bytes are left -/
theorem r_put_ns {np vf v : Nat → Int32} {p X : Nat} (hp : p < 16) (hX : X < 2 ^ 31) (hv : ∀ i : Nat, i < 32 → np i = v i ∧ r_by (v i)) : f_SF_putBlock_ns vf np (nI X) (nI p) = (r_ap vf (32 * p) (min 32 X) v, nI (X - min 32 X)) := by
  have L : ∀ (fu k : Nat) (w : Nat → Int32) (x : Nat), k + fu = 32 + 1 → k ≤ 32 → x < 2 ^ 31 → f_SF_putBlock_ns_l3 np (nI p) fu k w (nI x) = ((fun q => if 32 * p + k ≤ q ∧ q < 32 * p + min 32 (k + x) then v (q - 32 * p) else w q), nI (x - (min 32 (k + x) - k))) := by
    intro fu
    induction fu with
    | zero => intro k w x a b; omega
    | succ fu ih =>
      intro k w x a b hx
      rw [f_SF_putBlock_ns_l3]
      by_cases hk : 32 ≤ k
      · rw [if_pos (nI_le hk (by omega))]
        have e2 : x - (min 32 (k + x) - k) = x := by omega
        rw [e2]
        refine congrArg (fun z => (z, nI x)) ?_
        funext q
        exact (if_neg (fun c => by omega)).symm
      · rw [if_neg (nI_ge (show k < 32 by omega) (by omega))]
        cases x with
        | zero =>
          rw [if_pos (show nI 0 ≤ 0 by decide)]
          have e2 : 0 - (min 32 (k + 0) - k) = 0 := by omega
          rw [e2]
          refine congrArg (fun z => (z, nI 0)) ?_
          funext q
          exact (if_neg (fun c => by omega)).symm
        | succ x =>
          rw [if_neg (nI_nle (by omega) hx), nI_pred, r_set (show p * 32 + k < 512 by omega) (by omega), r_get0 (show k < 32 by omega) (by omega), (hv k (by omega)).1, r_255 (hv k (by omega)).2, ih (k + 1) _ x (by omega) (by omega) (by omega)]
          have e2 : x - (min 32 (k + 1 + x) - (k + 1)) = x + 1 - (min 32 (k + (x + 1)) - k) := by omega
          rw [e2]
          refine congrArg (fun z => (z, nI (x + 1 - (min 32 (k + (x + 1)) - k)))) ?_
          funext q
          show (if 32 * p + (k + 1) ≤ q ∧ q < 32 * p + min 32 (k + 1 + x) then v (q - 32 * p) else upd w (p * 32 + k) (v k) q) = (if 32 * p + k ≤ q ∧ q < 32 * p + min 32 (k + (x + 1)) then v (q - 32 * p) else w q)
          by_cases c1 : 32 * p + (k + 1) ≤ q ∧ q < 32 * p + min 32 (k + 1 + x)
          · rw [if_pos c1, if_pos ⟨by omega, by omega⟩]
          · rw [if_neg c1]
            by_cases c2 : q = p * 32 + k
            · rw [c2, r_upd_at, if_pos ⟨by omega, by omega⟩]
              exact congrArg v (by omega)
            · rw [r_upd_ne c2, if_neg (fun c => by omega)]
  have := L (32 + 1) 0 vf X (by omega) (by omega) hX
  unfold f_SF_putBlock_ns
  rw [this]
  have e2 : X - (min 32 (0 + X) - 0) = X - min 32 X := by omega
  rw [e2]
  refine congrArg (fun z => (z, nI (X - min 32 X))) ?_
  funext q
  show (if 32 * p + 0 ≤ q ∧ q < 32 * p + min 32 (0 + X) then v (q - 32 * p) else vf q) = (if 32 * p ≤ q ∧ q < 32 * p + min 32 X then v (q - 32 * p) else vf q)
  rw [Nat.add_zero, Nat.zero_add]
/-- a block is put into its place, as far as bytes are left -/
theorem r_put_tt {np vf v : Nat → Int32} {p X : Nat} (hp : p < 2) (hX : X < 2 ^ 31) (hv : ∀ i : Nat, i < 40 → np i = v i ∧ r_by (v i)) : f_SF_putBlock_tt vf np (nI X) (nI p) = (r_ap vf (40 * p) (min 40 X) v, nI (X - min 40 X)) := by
  have L : ∀ (fu k : Nat) (w : Nat → Int32) (x : Nat), k + fu = 40 + 1 → k ≤ 40 → x < 2 ^ 31 → f_SF_putBlock_tt_l3 np (nI p) fu k w (nI x) = ((fun q => if 40 * p + k ≤ q ∧ q < 40 * p + min 40 (k + x) then v (q - 40 * p) else w q), nI (x - (min 40 (k + x) - k))) := by
    intro fu
    induction fu with
    | zero => intro k w x a b; omega
    | succ fu ih =>
      intro k w x a b hx
      rw [f_SF_putBlock_tt_l3]
      by_cases hk : 40 ≤ k
      · rw [if_pos (nI_le hk (by omega))]
        have e2 : x - (min 40 (k + x) - k) = x := by omega
        rw [e2]
        refine congrArg (fun z => (z, nI x)) ?_
        funext q
        exact (if_neg (fun c => by omega)).symm
      · rw [if_neg (nI_ge (show k < 40 by omega) (by omega))]
        cases x with
        | zero =>
          rw [if_pos (show nI 0 ≤ 0 by decide)]
          have e2 : 0 - (min 40 (k + 0) - k) = 0 := by omega
          rw [e2]
          refine congrArg (fun z => (z, nI 0)) ?_
          funext q
          exact (if_neg (fun c => by omega)).symm
        | succ x =>
          rw [if_neg (nI_nle (by omega) hx), nI_pred, r_set (show p * 40 + k < 80 by omega) (by omega), r_get0 (show k < 40 by omega) (by omega), (hv k (by omega)).1, r_255 (hv k (by omega)).2, ih (k + 1) _ x (by omega) (by omega) (by omega)]
          have e2 : x - (min 40 (k + 1 + x) - (k + 1)) = x + 1 - (min 40 (k + (x + 1)) - k) := by omega
          rw [e2]
          refine congrArg (fun z => (z, nI (x + 1 - (min 40 (k + (x + 1)) - k)))) ?_
          funext q
          show (if 40 * p + (k + 1) ≤ q ∧ q < 40 * p + min 40 (k + 1 + x) then v (q - 40 * p) else upd w (p * 40 + k) (v k) q) = (if 40 * p + k ≤ q ∧ q < 40 * p + min 40 (k + (x + 1)) then v (q - 40 * p) else w q)
          by_cases c1 : 40 * p + (k + 1) ≤ q ∧ q < 40 * p + min 40 (k + 1 + x)
          · rw [if_pos c1, if_pos ⟨by omega, by omega⟩]
          · rw [if_neg c1]
            by_cases c2 : q = p * 40 + k
            · rw [c2, r_upd_at, if_pos ⟨by omega, by omega⟩]
              exact congrArg v (by omega)
            · rw [r_upd_ne c2, if_neg (fun c => by omega)]
  have := L (40 + 1) 0 vf X (by omega) (by omega) hX
  unfold f_SF_putBlock_tt
  rw [this]
  have e2 : X - (min 40 (0 + X) - 0) = X - min 40 X := by omega
  rw [e2]
  refine congrArg (fun z => (z, nI (X - min 40 X))) ?_
  funext q
  show (if 40 * p + 0 ≤ q ∧ q < 40 * p + min 40 (0 + X) then v (q - 40 * p) else vf q) = (if 40 * p ≤ q ∧ q < 40 * p + min 40 X then v (q - 40 * p) else vf q)
  rw [Nat.add_zero, Nat.zero_add]
/-- the bytes stay side by side when a block of each is written over -/
theorem r_B.file {fl sl tb xB v : Nat → Int32} (h : r_B fl sl tb xB) {p m : Nat} (hp : p < 24) (hm : m ≤ 32) (hv : ∀ i : Nat, i < 32 → r_by (v i)) : r_B (r_ap fl (32 * p) m v) sl tb (r_ap xB (0 + 32 * p) m v) := by
  refine ⟨fun k hk => ?_, fun k hk => ?_, fun k hk => ?_, fun k hk => ?_⟩
  · by_cases c : 32 * p ≤ k ∧ k < 32 * p + m
    · rw [r_ap_in c.1 c.2, r_ap_in (by omega) (by omega)]
      exact congrArg v (by omega)
    · rw [r_ap_out (by omega), r_ap_out (by omega)]; exact h.1 k hk
  · rw [r_ap_out (by omega)]; exact h.2.1 k hk
  · rw [r_ap_out (by omega)]; exact h.2.2.1 k hk
  · by_cases c : 0 + 32 * p ≤ k ∧ k < 0 + 32 * p + m
    · rw [r_ap_in c.1 c.2]; exact hv _ (by omega)
    · rw [r_ap_out (by omega)]; exact h.2.2.2 k hk
theorem r_B.slow {fl sl tb xB v : Nat → Int32} (h : r_B fl sl tb xB) {p m : Nat} (hp : p < 16) (hm : m ≤ 32) (hv : ∀ i : Nat, i < 32 → r_by (v i)) : r_B fl (r_ap sl (32 * p) m v) tb (r_ap xB (768 + 32 * p) m v) := by
  refine ⟨fun k hk => ?_, fun k hk => ?_, fun k hk => ?_, fun k hk => ?_⟩
  · rw [r_ap_out (by omega)]; exact h.1 k hk
  · by_cases c : 32 * p ≤ k ∧ k < 32 * p + m
    · rw [r_ap_in c.1 c.2, r_ap_in (by omega) (by omega)]
      exact congrArg v (by omega)
    · rw [r_ap_out (by omega), r_ap_out (by omega)]; exact h.2.1 k hk
  · rw [r_ap_out (by omega)]; exact h.2.2.1 k hk
  · by_cases c : 768 + 32 * p ≤ k ∧ k < 768 + 32 * p + m
    · rw [r_ap_in c.1 c.2]; exact hv _ (by omega)
    · rw [r_ap_out (by omega)]; exact h.2.2.2 k hk
theorem r_B.tab {fl sl tb xB v : Nat → Int32} (h : r_B fl sl tb xB) {t m : Nat} (ht : t < 2) (hm : m ≤ 40) (hv : ∀ i : Nat, i < 40 → r_by (v i)) : r_B fl sl (r_ap tb (40 * t) m v) (r_ap xB (1280 + 40 * t) m v) := by
  refine ⟨fun k hk => ?_, fun k hk => ?_, fun k hk => ?_, fun k hk => ?_⟩
  · rw [r_ap_out (by omega)]; exact h.1 k hk
  · rw [r_ap_out (by omega)]; exact h.2.1 k hk
  · by_cases c : 40 * t ≤ k ∧ k < 40 * t + m
    · rw [r_ap_in c.1 c.2, r_ap_in (by omega) (by omega)]
      exact congrArg v (by omega)
    · rw [r_ap_out (by omega), r_ap_out (by omega)]; exact h.2.2.1 k hk
  · by_cases c : 1280 + 40 * t ≤ k ∧ k < 1280 + 40 * t + m
    · rw [r_ap_in c.1 c.2]; exact hv _ (by omega)
    · rw [r_ap_out (by omega)]; exact h.2.2.2 k hk
/-- the bytes of the next table -/
def r_tv (xB : Nat → Int32) (ro : Nat) (nu fi sw : Int32) : Nat → Int32 := fun i => if i = 0 then nu else if i = 1 + ro then fi else if i = 13 + ro then sw else if i < 25 then f_MD_entry xB i else 0
theorem r_tv0 {xB : Nat → Int32} {ro : Nat} {nu fi sw : Int32} : r_tv xB ro nu fi sw 0 = nu := if_pos rfl
theorem r_tv1 {xB : Nat → Int32} {ro i : Nat} {nu fi sw : Int32} (h : i = 1 + ro) : r_tv xB ro nu fi sw i = fi := by
  unfold r_tv
  rw [if_neg (by omega), if_pos h]
theorem r_tv2 {xB : Nat → Int32} {ro i : Nat} {nu fi sw : Int32} (hr : ro < 12) (h : i = 13 + ro) : r_tv xB ro nu fi sw i = sw := by
  unfold r_tv
  rw [if_neg (by omega), if_neg (by omega), if_pos h]
theorem r_tv3 {xB : Nat → Int32} {ro i : Nat} {nu fi sw : Int32} (h0 : ¬ i = 0) (h1 : ¬ i = 1 + ro) (h2 : ¬ i = 13 + ro) (h3 : i < 25) : r_tv xB ro nu fi sw i = f_MD_entry xB i := by
  unfold r_tv
  rw [if_neg h0, if_neg h1, if_neg h2, if_pos h3]
theorem r_tv4 {xB : Nat → Int32} {ro i : Nat} {nu fi sw : Int32} (hr : ro < 12) (h3 : ¬ i < 25) : r_tv xB ro nu fi sw i = 0 := by
  unfold r_tv
  rw [if_neg (by omega), if_neg (by omega), if_neg (by omega), if_neg h3]
/-- the number of the next table, and which of the two it is -/
def r_nu (xB : Nat → Int32) : Int32 := if f_MD_counting xB = -1 then 1 else if f_MD_counting xB = 0 then f_MD_next (xB 1280) else f_MD_next (xB 1320)
def r_nt (xB : Nat → Int32) : Nat := if f_MD_counting xB = 0 then 1 else 0
theorem r_nt2 (xB : Nat → Int32) : r_nt xB < 2 := by
  unfold r_nt
  by_cases h : f_MD_counting xB = 0
  · rw [if_pos h]; omega
  · rw [if_neg h]; omega
theorem r_next_y {x : Int32} (hx : r_by x) (h : ¬ 250 < x) : r_by (f_MD_next x) := by
  unfold f_MD_next
  by_cases e : x = 250
  · rw [if_pos e]; exact r_by_n (b := 1) (by omega)
  · rw [if_neg e]
    obtain ⟨b, hb, rfl⟩ := r_by_of hx
    rw [nI_1]
    refine r_by_n ?_
    rcases Nat.lt_or_ge 250 b with q | q
    · exact absurd (show (250 : Int32) < nI b from nI_lt (a := 250) q (by omega)) h
    · omega
theorem r_nu_y {fl sl tb xB : Nat → Int32} (h : r_B fl sl tb xB) : r_by (r_nu xB) := by
  unfold r_nu
  rcases r_cnt3 xB with c | ⟨c, g⟩ | ⟨c, g⟩
  · rw [if_pos c]; exact r_by_n (b := 1) (by omega)
  · rw [c, if_neg (by decide), if_pos rfl]; exact r_next_y (h.2.2.2 _ (by omega)) g
  · rw [c, if_neg (by decide), if_neg (by decide)]; exact r_next_y (h.2.2.2 _ (by omega)) g
theorem r_nu_c {fl sl tb xB : Nat → Int32} (h : r_B fl sl tb xB) : f_SF_numberBehind (f_SF_numberOf tb (f_SF_countingTable tb)) = r_nu xB := by
  rw [r_num h]
  unfold r_nu
  rcases r_cnt3 xB with c | ⟨c, g⟩ | ⟨c, g⟩
  · rw [r_entN c, if_pos c]; decide
  · rw [r_ent0 c, c, if_neg (by decide), if_pos rfl]; exact r_next g
  · rw [r_ent1 c, c, if_neg (by decide), if_neg (by decide)]; exact r_next g
theorem r_tv_y {fl sl tb xB : Nat → Int32} (h : r_B fl sl tb xB) {ro : Nat} {fi sw : Int32} (hf : r_by fi) (hs : r_by sw) (i : Nat) (hi : i < 36) : r_by (r_tv xB ro (r_nu xB) fi sw i) := by
  unfold r_tv
  by_cases h0 : i = 0
  · rw [if_pos h0]; exact r_nu_y h
  rw [if_neg h0]
  by_cases h1 : i = 1 + ro
  · rw [if_pos h1]; exact hf
  rw [if_neg h1]
  by_cases h2 : i = 13 + ro
  · rw [if_pos h2]; exact hs
  rw [if_neg h2]
  by_cases h3 : i < 25
  · rw [if_pos h3]; exact r_enty h (by omega)
  · rw [if_neg h3]; exact r_by0
theorem r_ptl_0 {xB : Nat → Int32} {mn ro : Nat} {fi sw nu : Int32} (hr : ro < 12) (hmn : mn < 2 ^ 20) : ∀ (fu k : Nat) (vt vw : Nat → Int32), k + fu = 36 → k ≤ 35 → (∀ i : Nat, i < 1 + k → vt (mn + i) = nI (1280 + i) ∧ vw (mn + i) = r_tv xB ro nu fi sw i) →
    (∀ i : Nat, i < 40 → (f_MD_putTable_l71_0 xB mn ro fi sw fu k vt vw).1 (mn + i) = nI (1280 + i) ∧ (f_MD_putTable_l71_0 xB mn ro fi sw fu k vt vw).2 (mn + i) = r_fu 36 (r_tv xB ro nu fi sw) i) ∧
    (∀ q : Nat, q < mn → (f_MD_putTable_l71_0 xB mn ro fi sw fu k vt vw).1 q = vt q ∧ (f_MD_putTable_l71_0 xB mn ro fi sw fu k vt vw).2 q = vw q) := by
  intro fu
  induction fu with
  | zero => intro k vt vw a b; omega
  | succ fu ih =>
    intro k vt vw a b hv
    rw [f_MD_putTable_l71_0]
    by_cases hk : 36 ≤ 1 + k
    · rw [if_pos (show (36 : Int32) ≤ nI (1 + k) from nI_le (a := 36) hk (by omega))]
      have S := r_psm (xto := vt) (xwa := vw) (f := r_tv xB ro nu fi sw) (mn := (mn + 1) + 35) (nb := 36) (fm := 1280) (by omega) (by omega) (fun j hj => by rw [show mn + 1 + 35 - 36 + j = mn + j by omega]; exact (hv j (by omega)).2)
      refine ⟨fun i hi => ?_, fun q hq => ?_⟩
      · show (f_MD_putSum vt vw ((mn + 1) + 35) 36 1280).1 (mn + i) = _ ∧ (f_MD_putSum vt vw ((mn + 1) + 35) 36 1280).2 (mn + i) = _
        rw [S.1, S.2]
        show _ ∧ _ = (if i < 36 then r_tv xB ro nu fi sw i else (sf_ushr (r_sm (r_tv xB ro nu fi sw) 36) (nI (8 * (3 - (i - 36))))) &&& 255)
        by_cases c : i < 36
        · rw [if_neg (fun d => by omega), if_neg (fun d => by omega), if_pos c]
          exact hv i (by omega)
        · rw [if_pos ⟨by omega, by omega⟩, if_pos ⟨by omega, by omega⟩, if_neg c, show mn + i - (mn + 1 + 35) = i - 36 by omega]
          exact ⟨congrArg nI (by omega), rfl⟩
      · show (f_MD_putSum vt vw ((mn + 1) + 35) 36 1280).1 q = _ ∧ (f_MD_putSum vt vw ((mn + 1) + 35) 36 1280).2 q = _
        rw [S.1, S.2, if_neg (fun d => by omega), if_neg (fun d => by omega)]
        exact ⟨rfl, rfl⟩
    · rw [if_neg (show ¬ (36 : Int32) ≤ nI (1 + k) from nI_ge (b := 36) (by omega) (by omega))]
      have go : ∀ x : Int32, x = r_tv xB ro nu fi sw (1 + k) → (∀ i : Nat, i < 40 → (f_MD_putTable_l71_0 xB mn ro fi sw fu (k + 1) (upd vt ((mn + 1) + k) (nI (1280 + (1 + k)))) (upd vw ((mn + 1) + k) x)).1 (mn + i) = nI (1280 + i) ∧ (f_MD_putTable_l71_0 xB mn ro fi sw fu (k + 1) (upd vt ((mn + 1) + k) (nI (1280 + (1 + k)))) (upd vw ((mn + 1) + k) x)).2 (mn + i) = r_fu 36 (r_tv xB ro nu fi sw) i) ∧
          (∀ q : Nat, q < mn → (f_MD_putTable_l71_0 xB mn ro fi sw fu (k + 1) (upd vt ((mn + 1) + k) (nI (1280 + (1 + k)))) (upd vw ((mn + 1) + k) x)).1 q = vt q ∧ (f_MD_putTable_l71_0 xB mn ro fi sw fu (k + 1) (upd vt ((mn + 1) + k) (nI (1280 + (1 + k)))) (upd vw ((mn + 1) + k) x)).2 q = vw q) := by
        intro x hx
        have I := ih (k + 1) (upd vt ((mn + 1) + k) (nI (1280 + (1 + k)))) (upd vw ((mn + 1) + k) x) (by omega) (by omega) (fun i hi => by
          by_cases c : i = 1 + k
          · subst c
            rw [show mn + (1 + k) = mn + 1 + k by omega, r_upd_at, r_upd_at]
            exact ⟨rfl, hx⟩
          · rw [r_upd_ne (by omega), r_upd_ne (by omega)]
            exact hv i (by omega))
        refine ⟨I.1, fun q hq => ?_⟩
        have J := I.2 q hq
        rw [r_upd_ne (by omega), r_upd_ne (by omega)] at J
        exact J
      by_cases c1 : 1 + k = 1 + ro
      · have n1 : nI (1 + k) = nI (1 + ro) := by rw [c1]
        have T := go fi (r_tv1 c1).symm
        by_cases c0 : 25 ≤ 1 + k
        · rw [if_pos (show (25 : Int32) ≤ nI (1 + k) from nI_le (a := 25) c0 (by omega)), if_pos n1]; exact T
        · rw [if_neg (show ¬ (25 : Int32) ≤ nI (1 + k) from nI_ge (b := 25) (by omega) (by omega)), if_pos n1]; exact T
      · have n1 : ¬ nI (1 + k) = nI (1 + ro) := fun q => c1 ((nI_eq (by omega) (by omega)).mp q)
        by_cases c2 : 1 + k = 13 + ro
        · have n2 : nI (1 + k) = nI (13 + ro) := by rw [c2]
          have T := go sw (r_tv2 hr c2).symm
          by_cases c0 : 25 ≤ 1 + k
          · rw [if_pos (show (25 : Int32) ≤ nI (1 + k) from nI_le (a := 25) c0 (by omega)), if_neg n1, if_pos n2]; exact T
          · rw [if_neg (show ¬ (25 : Int32) ≤ nI (1 + k) from nI_ge (b := 25) (by omega) (by omega)), if_neg n1, if_pos n2]; exact T
        · have n2 : ¬ nI (1 + k) = nI (13 + ro) := fun q => c2 ((nI_eq (by omega) (by omega)).mp q)
          by_cases c0 : 25 ≤ 1 + k
          · rw [if_pos (show (25 : Int32) ≤ nI (1 + k) from nI_le (a := 25) c0 (by omega)), if_neg n1, if_neg n2]
            exact go 0 (r_tv4 hr (by omega)).symm
          · rw [if_neg (show ¬ (25 : Int32) ≤ nI (1 + k) from nI_ge (b := 25) (by omega) (by omega)), if_neg n1, if_neg n2]
            exact go _ (r_tv3 (by omega) c1 c2 (by omega)).symm
theorem r_ptl_1 {xB : Nat → Int32} {mn ro : Nat} {fi sw nu : Int32} (hr : ro < 12) (hmn : mn < 2 ^ 20) : ∀ (fu k : Nat) (vt vw : Nat → Int32), k + fu = 36 → k ≤ 35 → (∀ i : Nat, i < 1 + k → vt (mn + i) = nI (1320 + i) ∧ vw (mn + i) = r_tv xB ro nu fi sw i) →
    (∀ i : Nat, i < 40 → (f_MD_putTable_l71_1 xB mn ro fi sw fu k vt vw).1 (mn + i) = nI (1320 + i) ∧ (f_MD_putTable_l71_1 xB mn ro fi sw fu k vt vw).2 (mn + i) = r_fu 36 (r_tv xB ro nu fi sw) i) ∧
    (∀ q : Nat, q < mn → (f_MD_putTable_l71_1 xB mn ro fi sw fu k vt vw).1 q = vt q ∧ (f_MD_putTable_l71_1 xB mn ro fi sw fu k vt vw).2 q = vw q) := by
  intro fu
  induction fu with
  | zero => intro k vt vw a b; omega
  | succ fu ih =>
    intro k vt vw a b hv
    rw [f_MD_putTable_l71_1]
    by_cases hk : 36 ≤ 1 + k
    · rw [if_pos (show (36 : Int32) ≤ nI (1 + k) from nI_le (a := 36) hk (by omega))]
      have S := r_psm (xto := vt) (xwa := vw) (f := r_tv xB ro nu fi sw) (mn := (mn + 1) + 35) (nb := 36) (fm := 1320) (by omega) (by omega) (fun j hj => by rw [show mn + 1 + 35 - 36 + j = mn + j by omega]; exact (hv j (by omega)).2)
      refine ⟨fun i hi => ?_, fun q hq => ?_⟩
      · show (f_MD_putSum vt vw ((mn + 1) + 35) 36 1320).1 (mn + i) = _ ∧ (f_MD_putSum vt vw ((mn + 1) + 35) 36 1320).2 (mn + i) = _
        rw [S.1, S.2]
        show _ ∧ _ = (if i < 36 then r_tv xB ro nu fi sw i else (sf_ushr (r_sm (r_tv xB ro nu fi sw) 36) (nI (8 * (3 - (i - 36))))) &&& 255)
        by_cases c : i < 36
        · rw [if_neg (fun d => by omega), if_neg (fun d => by omega), if_pos c]
          exact hv i (by omega)
        · rw [if_pos ⟨by omega, by omega⟩, if_pos ⟨by omega, by omega⟩, if_neg c, show mn + i - (mn + 1 + 35) = i - 36 by omega]
          exact ⟨congrArg nI (by omega), rfl⟩
      · show (f_MD_putSum vt vw ((mn + 1) + 35) 36 1320).1 q = _ ∧ (f_MD_putSum vt vw ((mn + 1) + 35) 36 1320).2 q = _
        rw [S.1, S.2, if_neg (fun d => by omega), if_neg (fun d => by omega)]
        exact ⟨rfl, rfl⟩
    · rw [if_neg (show ¬ (36 : Int32) ≤ nI (1 + k) from nI_ge (b := 36) (by omega) (by omega))]
      have go : ∀ x : Int32, x = r_tv xB ro nu fi sw (1 + k) → (∀ i : Nat, i < 40 → (f_MD_putTable_l71_1 xB mn ro fi sw fu (k + 1) (upd vt ((mn + 1) + k) (nI (1320 + (1 + k)))) (upd vw ((mn + 1) + k) x)).1 (mn + i) = nI (1320 + i) ∧ (f_MD_putTable_l71_1 xB mn ro fi sw fu (k + 1) (upd vt ((mn + 1) + k) (nI (1320 + (1 + k)))) (upd vw ((mn + 1) + k) x)).2 (mn + i) = r_fu 36 (r_tv xB ro nu fi sw) i) ∧
          (∀ q : Nat, q < mn → (f_MD_putTable_l71_1 xB mn ro fi sw fu (k + 1) (upd vt ((mn + 1) + k) (nI (1320 + (1 + k)))) (upd vw ((mn + 1) + k) x)).1 q = vt q ∧ (f_MD_putTable_l71_1 xB mn ro fi sw fu (k + 1) (upd vt ((mn + 1) + k) (nI (1320 + (1 + k)))) (upd vw ((mn + 1) + k) x)).2 q = vw q) := by
        intro x hx
        have I := ih (k + 1) (upd vt ((mn + 1) + k) (nI (1320 + (1 + k)))) (upd vw ((mn + 1) + k) x) (by omega) (by omega) (fun i hi => by
          by_cases c : i = 1 + k
          · subst c
            rw [show mn + (1 + k) = mn + 1 + k by omega, r_upd_at, r_upd_at]
            exact ⟨rfl, hx⟩
          · rw [r_upd_ne (by omega), r_upd_ne (by omega)]
            exact hv i (by omega))
        refine ⟨I.1, fun q hq => ?_⟩
        have J := I.2 q hq
        rw [r_upd_ne (by omega), r_upd_ne (by omega)] at J
        exact J
      by_cases c1 : 1 + k = 1 + ro
      · have n1 : nI (1 + k) = nI (1 + ro) := by rw [c1]
        have T := go fi (r_tv1 c1).symm
        by_cases c0 : 25 ≤ 1 + k
        · rw [if_pos (show (25 : Int32) ≤ nI (1 + k) from nI_le (a := 25) c0 (by omega)), if_pos n1]; exact T
        · rw [if_neg (show ¬ (25 : Int32) ≤ nI (1 + k) from nI_ge (b := 25) (by omega) (by omega)), if_pos n1]; exact T
      · have n1 : ¬ nI (1 + k) = nI (1 + ro) := fun q => c1 ((nI_eq (by omega) (by omega)).mp q)
        by_cases c2 : 1 + k = 13 + ro
        · have n2 : nI (1 + k) = nI (13 + ro) := by rw [c2]
          have T := go sw (r_tv2 hr c2).symm
          by_cases c0 : 25 ≤ 1 + k
          · rw [if_pos (show (25 : Int32) ≤ nI (1 + k) from nI_le (a := 25) c0 (by omega)), if_neg n1, if_pos n2]; exact T
          · rw [if_neg (show ¬ (25 : Int32) ≤ nI (1 + k) from nI_ge (b := 25) (by omega) (by omega)), if_neg n1, if_pos n2]; exact T
        · have n2 : ¬ nI (1 + k) = nI (13 + ro) := fun q => c2 ((nI_eq (by omega) (by omega)).mp q)
          by_cases c0 : 25 ≤ 1 + k
          · rw [if_pos (show (25 : Int32) ≤ nI (1 + k) from nI_le (a := 25) c0 (by omega)), if_neg n1, if_neg n2]
            exact go 0 (r_tv4 hr (by omega)).symm
          · rw [if_neg (show ¬ (25 : Int32) ≤ nI (1 + k) from nI_ge (b := 25) (by omega) (by omega)), if_neg n1, if_neg n2]
            exact go _ (r_tv3 (by omega) c1 c2 (by omega)).symm
/-- the reference's table, in its list -/
theorem r_pt {xB xto xwa : Nat → Int32} {mn ro : Nat} {fi sw : Int32} (hr : ro < 12) (hmn : mn < 2 ^ 20) :
    (∀ i : Nat, i < 40 → (f_MD_putTable xB xto xwa mn ro fi sw).1 (mn + i) = nI ((1280 + 40 * r_nt xB) + i) ∧ (f_MD_putTable xB xto xwa mn ro fi sw).2 (mn + i) = r_fu 36 (r_tv xB ro (r_nu xB) fi sw) i) ∧
    (∀ q : Nat, q < mn → (f_MD_putTable xB xto xwa mn ro fi sw).1 q = xto q ∧ (f_MD_putTable xB xto xwa mn ro fi sw).2 q = xwa q) := by
  have beg : ∀ (a : Int32) (A : Nat) (nu : Int32), a = nI A → ∀ i : Nat, i < 1 + 0 → upd xto mn a (mn + i) = nI (A + i) ∧ upd xwa mn nu (mn + i) = r_tv xB ro nu fi sw i := fun a A nu ha i hi => by
    have : i = 0 := by omega
    subst this
    rw [Nat.add_zero, r_upd_at, r_upd_at, r_tv0, Nat.add_zero]
    exact ⟨ha, rfl⟩
  have fin : ∀ (T : (Nat → Int32) × (Nat → Int32)) (a nu : Int32), (∀ q : Nat, q < mn → T.1 q = upd xto mn a q ∧ T.2 q = upd xwa mn nu q) → ∀ q : Nat, q < mn → T.1 q = xto q ∧ T.2 q = xwa q := fun T a nu h q hq => by
    have J := h q hq
    rw [r_upd_ne (by omega), r_upd_ne (by omega)] at J
    exact J
  unfold f_MD_putTable r_nu r_nt
  rcases r_cnt3 xB with c | ⟨c, g⟩ | ⟨c, g⟩
  · rw [c, if_pos rfl, if_pos rfl, if_neg (show ¬ (-1 : Int32) = 0 by decide)]
    have Z := r_ptl_0 (xB := xB) (fi := fi) (sw := sw) (nu := 1) hr hmn (35 + 1) 0 (upd xto mn 1280) (upd xwa mn 1) (by omega) (by omega) (beg 1280 1280 1 rfl)
    exact ⟨Z.1, fin _ _ _ Z.2⟩
  · rw [c, if_neg (show ¬ (0 : Int32) = -1 by decide), if_pos rfl, if_neg (show ¬ (0 : Int32) = -1 by decide), if_pos rfl, if_pos rfl]
    have Z := r_ptl_1 (xB := xB) (fi := fi) (sw := sw) (nu := f_MD_next (xB 1280)) hr hmn (35 + 1) 0 (upd xto mn 1320) (upd xwa mn (f_MD_next (xB 1280))) (by omega) (by omega) (beg 1320 1320 _ rfl)
    exact ⟨Z.1, fin _ _ _ Z.2⟩
  · rw [c, if_neg (show ¬ (1 : Int32) = -1 by decide), if_neg (show ¬ (1 : Int32) = 0 by decide), if_neg (show ¬ (1 : Int32) = -1 by decide), if_neg (show ¬ (1 : Int32) = 0 by decide), if_neg (show ¬ (1 : Int32) = 0 by decide)]
    have Z := r_ptl_0 (xB := xB) (fi := fi) (sw := sw) (nu := f_MD_next (xB 1320)) hr hmn (35 + 1) 0 (upd xto mn 1280) (upd xwa mn (f_MD_next (xB 1320))) (by omega) (by omega) (beg 1280 1280 _ rfl)
    exact ⟨Z.1, fin _ _ _ Z.2⟩
/-- the class's table: what it prepares, what it puts -/
theorem r_ct {fl sl tb xB nt : Nat → Int32} (h : r_B fl sl tb xB) (hz : ∀ k : Nat, 25 ≤ k → k < 36 → nt k = 0) {ro X : Nat} {fi sw : Int32} (hr : ro < 12) (hX : X < 2 ^ 31) (hf : r_by fi) (hs : r_by sw) :
    (f_SF_putTable tb nt (nI X) (nI ro) fi sw).2.1 = r_ap tb (40 * r_nt xB) (min 40 X) (r_fu 36 (r_tv xB ro (r_nu xB) fi sw)) ∧ (∀ k : Nat, 25 ≤ k → k < 36 → (f_SF_putTable tb nt (nI X) (nI ro) fi sw).1 k = 0) := by
  have fin : ∀ vn : Nat → Int32, (∀ i : Nat, i < 36 → vn i = r_tv xB ro (r_nu xB) fi sw i) → ∀ p : Nat, p < 2 → (f_SF_putBlock_tt tb (f_SF_setSum 40 vn 36) (nI X) (nI p)).1 = r_ap tb (40 * p) (min 40 X) (r_fu 36 (r_tv xB ro (r_nu xB) fi sw)) ∧ (∀ k : Nat, 25 ≤ k → k < 36 → f_SF_setSum 40 vn 36 k = 0) := by
    intro vn hvn p hp
    refine ⟨?_, fun k h1 h2 => ?_⟩
    · rw [r_put_tt hp hX (fun i hi => ⟨by rw [r_setSum rfl (by omega) i hi]; exact r_fu_E hvn i, r_fu_y (fun j hj => r_tv_y h hf hs j hj) i⟩)]
    · rw [r_setSum rfl (by omega) k (by omega), r_fu_E hvn k]
      show (if k < 36 then r_tv xB ro (r_nu xB) fi sw k else _) = 0
      rw [if_pos h2]
      exact r_tv4 hr (by omega)
  have L : ∀ (fu k : Nat) (vn : Nat → Int32), k + fu = 13 → k ≤ 12 → (∀ i : Nat, i < 36 → (i < 1 + k ∨ (13 ≤ i ∧ i < 13 + k) ∨ 25 ≤ i) → vn i = r_tv xB ro (r_nu xB) fi sw i) →
      (f_SF_putTable_l27 tb (nI X) (nI ro) fi sw fu k vn).2.1 = r_ap tb (40 * r_nt xB) (min 40 X) (r_fu 36 (r_tv xB ro (r_nu xB) fi sw)) ∧ (∀ j : Nat, 25 ≤ j → j < 36 → (f_SF_putTable_l27 tb (nI X) (nI ro) fi sw fu k vn).1 j = 0) := by
    intro fu
    induction fu with
    | zero => intro k vn a b; omega
    | succ fu ih =>
      intro k vn a b hv
      rw [f_SF_putTable_l27]
      by_cases hk : 12 ≤ k
      · rw [if_pos (show (12 : Int32) ≤ nI k from nI_le (a := 12) hk (by omega)), r_cnt h]
        have hvn : ∀ i : Nat, i < 36 → vn i = r_tv xB ro (r_nu xB) fi sw i := fun i hi => hv i hi (by omega)
        unfold r_nt
        by_cases c : f_MD_counting xB = 0
        · rw [if_pos c, if_pos c]; exact fin vn hvn 1 (by omega)
        · rw [if_neg c, if_neg c]; exact fin vn hvn 0 (by omega)
      · have hk' : k < 12 := by omega
        rw [if_neg (show ¬ (12 : Int32) ≤ nI k from nI_ge (b := 12) hk' (by omega))]
        have go : ∀ x y : Int32, r_by x → r_by y → x = r_tv xB ro (r_nu xB) fi sw (1 + k) → y = r_tv xB ro (r_nu xB) fi sw (13 + k) →
            (f_SF_putTable_l27 tb (nI X) (nI ro) fi sw fu (k + 1) (f_Bl_set 40 (f_Bl_set 40 vn (nI 40) 0 (1 + (nI k)) x) (nI 40) 0 (13 + (nI k)) y)).2.1 = r_ap tb (40 * r_nt xB) (min 40 X) (r_fu 36 (r_tv xB ro (r_nu xB) fi sw)) ∧ (∀ j : Nat, 25 ≤ j → j < 36 → (f_SF_putTable_l27 tb (nI X) (nI ro) fi sw fu (k + 1) (f_Bl_set 40 (f_Bl_set 40 vn (nI 40) 0 (1 + (nI k)) x) (nI 40) 0 (13 + (nI k)) y)).1 j = 0) := by
          intro x y hx hy ex ey
          have e1 : (1 : Int32) + nI k = nI (1 + k) := nI_add 1 k
          have e2 : (13 : Int32) + nI k = nI (13 + k) := nI_add 13 k
          rw [e1, e2, r_set0 (show 1 + k < 40 by omega) (by omega), r_set0 (show 13 + k < 40 by omega) (by omega), r_255 hx, r_255 hy]
          refine ih (k + 1) _ (by omega) (by omega) (fun i hi hc => ?_)
          by_cases c1 : i = 13 + k
          · subst c1
            rw [r_upd_at]; exact ey
          · rw [r_upd_ne c1]
            by_cases c2 : i = 1 + k
            · subst c2
              rw [r_upd_at]; exact ex
            · rw [r_upd_ne c2]; exact hv i hi (by omega)
        by_cases c : k = ro
        · rw [if_pos (by rw [c])]
          exact go fi sw hf hs (r_tv1 (by omega)).symm (r_tv2 hr (by omega)).symm
        · rw [if_neg (fun q => c ((nI_eq (by omega) (by omega)).mp q)), r_first h hk', r_firstS h hk']
          exact go _ _ (r_enty h (by omega)) (r_enty h (by omega)) (r_tv3 (by omega) (by omega) (by omega) (by omega)).symm (r_tv3 (by omega) (by omega) (by omega) (by omega)).symm
  unfold f_SF_putTable
  refine L (12 + 1) 0 _ (by omega) (by omega) (fun i hi hc => ?_)
  have e0 : f_Bl_set 40 nt (nI 40) 0 0 (f_SF_numberBehind (f_SF_numberOf tb (f_SF_countingTable tb))) = upd nt 0 (r_nu xB) := by
    rw [r_nu_c h]
    exact (r_set0 (j := 0) (by omega) (by omega)).trans (by rw [r_255 (r_nu_y h)])
  rw [e0]
  by_cases c : i = 0
  · subst c
    rw [r_upd_at, r_tv0]
  · rw [r_upd_ne c, hz i (by omega) hi, r_tv4 hr (by omega)]
theorem r_end0 : f_SF_endWriting 0 0 = (1, 0) := by unfold f_SF_endWriting; rw [if_pos rfl]
theorem r_end1 : f_SF_endWriting 1 0 = (0, 1) := by unfold f_SF_endWriting; rw [if_neg (by decide)]
/-- what must hold behind a row's taking away -/
def r_Rm (fl sl : Nat → Int32) (r : Int32 × Int32 × (Nat → Int32) × (Nat → Int32) × Int32 × Int32 × Int32 × Int32) {β : Type} (w : Int32 × Int32 × (Nat → Int32) × Int32 × Int32 × β) : Prop :=
  r_C 1 2 0 0 r w ∧ r_B fl sl r.2.2.1 w.2.2.1 ∧ (∀ k : Nat, 25 ≤ k → k < 36 → r.2.2.2.1 k = 0) ∧ r.2.2.2.2.1 = w.2.2.2.2.1 ∧ r_cu r.2.2.2.2.1 ∧ r.2.2.2.2.2.2.2 = w.2.2.2.1 ∧ (r.2.2.2.2.2.2.2 = 0 ∨ r.2.2.2.2.2.2.2 = 1)
theorem r_Rmk {fl sl T N xB : Nat → Int32} {c a a' t cu cu' bl pf sh sh' : Int32} {β : Type} {y : β} (h1 : t = lw_c 1 2 0 0 c) (h2 : c = 0 → a = a') (h3 : r_B fl sl T xB) (h4 : ∀ k : Nat, 25 ≤ k → k < 36 → N k = 0) (h5 : cu = cu') (h6 : r_cu cu) (h7 : sh = sh') (h8 : sh = 0 ∨ sh = 1) :
    r_Rm fl sl (c, a, T, N, cu, bl, pf, sh) (a', t, xB, sh', cu', y) := ⟨⟨h1, h2⟩, h3, h4, h5, h6, h7, h8⟩
/-- a row is taken away -/
theorem r_rem {fl sl tb xB nt : Nat → Int32} (h : r_B fl sl tb xB) (hz : ∀ k : Nat, 25 ≤ k → k < 36 → nt k = 0) {cu : Int32} (hcu : r_cu cu) {bl pf xmn ro : Int32} {sh : Int32} (hsh : sh = 0 ∨ sh = 1) (xto xwa : Nat → Int32) :
    r_Rm fl sl (f_SF_remove tb nt cu bl pf sh ro) (f_MD_remove xB sh cu xto xwa xmn ro) := by
  unfold f_SF_remove f_MD_remove
  rw [r_rowin]
  by_cases hr : f_SF_isRow ro = 0
  · rw [if_pos hr, if_pos hr]
    by_cases s : sh = 0
    · rw [if_pos s]; exact r_Rmk (by decide) (r_no (by decide)) h hz rfl hcu rfl hsh
    · rw [if_neg s]; exact r_Rmk (by decide) (r_no (by decide)) h hz rfl hcu rfl hsh
  rw [if_neg hr, if_neg hr]
  by_cases s : sh = 0
  rotate_left
  · rw [if_neg s, if_neg s]; exact r_Rmk (by decide) (r_no (by decide)) h hz rfl hcu rfl hsh
  subst s
  obtain ⟨r, hr12, rfl⟩ := r_isRow hr
  rw [if_pos rfl, if_pos rfl, r_there h hr12, nI_clamp (show r < 2 ^ 31 by omega)]
  by_cases t : f_MD_isThere xB r = 0
  · rw [if_pos t, if_pos t]; exact r_Rmk (by decide) (r_no (by decide)) h hz rfl hcu rfl (Or.inl rfl)
  rw [if_neg t, if_neg t]
  obtain ⟨X, pf', hX, hpf, eb, ec⟩ := r_comes hcu 0 (by omega)
  have eb0 : f_SF_beginWriting cu 0 = (-1, nI X, pf') := eb
  rw [eb0]
  have P := r_pt (xB := xB) (xto := xto) (xwa := xwa) (mn := 0) (fi := 0) (sw := 0) hr12 (by omega)
  have T := r_ct h hz (X := X) hr12 (by omega) r_by0 r_by0
  have ec0 : f_MD_comes xB 0 cu (f_MD_putTable xB xto xwa 0 r 0 0).1 (f_MD_putTable xB xto xwa 0 r 0 0).2 (0 + 40) = (1 - pf', r_ap xB (1280 + 40 * r_nt xB) (min 40 X) (r_fu 36 (r_tv xB r (r_nu xB) 0 0)), pf') := by
    have hnt := r_nt2 xB
    refine (ec xB _ _).trans ?_
    rw [show min 40 X = X by omega, r_cs_blk (a := 1280 + 40 * r_nt xB) (v := r_fu 36 (r_tv xB r (r_nu xB) 0 0)) (by omega) (fun i hi => P.1 i (by omega))]
  rw [ec0]
  dsimp only
  have hB : r_B fl sl (f_SF_putTable tb nt (nI X) (nI r) 0 0).2.1 (r_ap xB (1280 + 40 * r_nt xB) (min 40 X) (r_fu 36 (r_tv xB r (r_nu xB) 0 0))) := by
    rw [T.1]
    exact h.tab (r_nt2 xB) (by omega) (fun i hi => r_fu_y (fun j hj => r_tv_y h r_by0 r_by0 j hj) i)
  have hm : r_cu (-1) := Or.inl rfl
  rcases hpf with ⟨rfl, _⟩ | rfl
  · rw [r_end0, if_neg (show ¬ ((1, 0) : Int32 × Int32).1 = 0 by decide), if_neg (show ¬ (1 : Int32) - 0 = 0 by decide)]
    exact r_Rmk (by decide) (fun _ => rfl) hB T.2 rfl hm rfl (Or.inl rfl)
  · rw [r_end1, if_pos (show ((0, 1) : Int32 × Int32).1 = 0 by decide), if_pos (show (1 : Int32) - 1 = 0 by decide)]
    exact r_Rmk (by decide) (fun _ => rfl) hB T.2 rfl hm rfl (Or.inr rfl)
