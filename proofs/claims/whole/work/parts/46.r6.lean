/-! THE COMPARISON, 6: a chain that is written, in the reference's list and in the bytes. -/
/-- the link and the number of bytes of the j-th place of a chain of n places -/
def r_lk (g : Nat → Nat) (n j : Nat) : Nat := if j + 1 < n then g (j + 1) + 1 else 0
def r_ml (ho j : Nat) : Nat := min 25 (ho - 25 * j)
/-- the bytes of the j-th place of a chain, with its sum -/
def r_pb (g : Nat → Nat) (n ho : Nat) (mo : Int32) (he : Nat → Int32) (j : Nat) : Nat → Int32 := r_fu 28 (r_bk (r_lk g n j) (r_ml ho j) mo (fun t => he (25 * j + t)))
theorem r_bk0 {lk m : Nat} {mo : Int32} {d : Nat → Int32} : r_bk lk m mo d 0 = nI lk := if_pos rfl
theorem r_bk1 {lk m : Nat} {mo : Int32} {d : Nat → Int32} : r_bk lk m mo d 1 = nI m := by unfold r_bk; rw [if_neg (by omega), if_pos rfl]
theorem r_bk2 {lk m : Nat} {mo : Int32} {d : Nat → Int32} : r_bk lk m mo d 2 = mo := by unfold r_bk; rw [if_neg (by omega), if_neg (by omega), if_pos rfl]
theorem r_bk3 {lk m i : Nat} {mo : Int32} {d : Nat → Int32} (h : 3 ≤ i) (h2 : i - 3 < m) : r_bk lk m mo d i = d (i - 3) := by unfold r_bk; rw [if_neg (by omega), if_neg (by omega), if_neg (by omega), if_pos h2]
theorem r_bk4 {lk m i : Nat} {mo : Int32} {d : Nat → Int32} (h : 3 ≤ i) (h2 : ¬ i - 3 < m) : r_bk lk m mo d i = 0 := by unfold r_bk; rw [if_neg (by omega), if_neg (by omega), if_neg (by omega), if_neg h2]
/-- the bytes with the first places of a chain put into them -/
def r_sq (F : Nat → Int32) (off : Nat) (g : Nat → Nat) (v : Nat → Nat → Int32) (X : Nat) : Nat → (Nat → Int32)
  | 0 => F
  | k + 1 => r_ap (r_sq F off g v X k) (off + 32 * g k) (min 32 (X - 32 * k)) (v k)
theorem r_sq_0 {fl sl tb xB : Nat → Int32} (h : r_B fl sl tb xB) {g : Nat → Nat} {v : Nat → Nat → Int32} {X n : Nat} (hg : ∀ j : Nat, j < n → g j < 24) (hv : ∀ j i : Nat, j < n → i < 32 → r_by (v j i)) : ∀ k : Nat, k ≤ n → r_B (r_sq fl 0 g v X k) sl tb (r_sq xB 0 g v X k) := by
  intro k
  induction k with
  | zero => intro _; exact h
  | succ k ih =>
    intro hk
    have := (ih (by omega)).file (m := min 32 (X - 32 * k)) (hg k (by omega)) (by omega) (fun i hi => hv k i (by omega) hi)
    rw [r_sq, r_sq]
    rw [Nat.zero_add] at this ⊢
    exact this
theorem r_sq_1 {fl sl tb xB : Nat → Int32} (h : r_B fl sl tb xB) {g : Nat → Nat} {v : Nat → Nat → Int32} {X n : Nat} (hg : ∀ j : Nat, j < n → g j < 16) (hv : ∀ j i : Nat, j < n → i < 32 → r_by (v j i)) : ∀ k : Nat, k ≤ n → r_B fl (r_sq sl 0 g v X k) tb (r_sq xB 768 g v X k) := by
  intro k
  induction k with
  | zero => intro _; exact h
  | succ k ih =>
    intro hk
    have := (ih (by omega)).slow (m := min 32 (X - 32 * k)) (hg k (by omega)) (by omega) (fun i hi => hv k i (by omega) hi)
    rw [r_sq, r_sq]
    rw [Nat.zero_add]
    exact this
/-- the list's bytes, as far as they come -/
theorem r_csq {xto xwa xB tv : Nat → Int32} {off n X t : Nat} {g : Nat → Nat} {v : Nat → Nat → Int32} (hX : X ≤ 32 * n + 40) (hoff : off ≤ 768) (hg : ∀ j : Nat, j < n → g j < 24) (ht : t < 2)
    (h : ∀ j i : Nat, j < n → i < 32 → xto (32 * j + i) = nI ((off + 32 * g j) + i) ∧ xwa (32 * j + i) = v j i) (h2 : ∀ i : Nat, i < 40 → xto (32 * n + i) = nI ((1280 + 40 * t) + i) ∧ xwa (32 * n + i) = tv i) :
    r_cs xto xwa 0 X xB = r_ap (r_sq xB off g v X n) (1280 + 40 * t) (min 40 (X - 32 * n)) tv := by
  have L : ∀ k : Nat, k ≤ n → r_cs xto xwa 0 (min X (32 * k)) xB = r_sq xB off g v X k := by
    intro k
    induction k with
    | zero => intro _; rw [show min X (32 * 0) = 0 by omega, r_cs, r_sq]
    | succ k ih =>
      intro hk
      rw [show min X (32 * (k + 1)) = min X (32 * k) + min 32 (X - 32 * k) by omega, r_cs_add, ih (by omega), r_sq, Nat.zero_add]
      have hgk := hg k (by omega)
      by_cases c : X ≤ 32 * k
      · rw [show min 32 (X - 32 * k) = 0 by omega, r_cs]
        funext q
        exact (r_ap_out (by omega)).symm
      · rw [show min X (32 * k) = 32 * k by omega]
        exact r_cs_blk (by omega) (fun i hi => h k i (by omega) (by omega))
  have E : X = min X (32 * n) + (X - 32 * n) := by omega
  have := L n (Nat.le_refl n)
  rw [show min 40 (X - 32 * n) = X - 32 * n by omega]
  have E2 : r_cs xto xwa 0 X xB = r_cs xto xwa (0 + min X (32 * n)) (X - 32 * n) (r_cs xto xwa 0 (min X (32 * n)) xB) := by
    rw [← r_cs_add, ← E]
  rw [E2, this, Nat.zero_add]
  by_cases c : X ≤ 32 * n
  · rw [show X - 32 * n = 0 by omega, r_cs]
    funext q
    exact (r_ap_out (by omega)).symm
  · rw [show min X (32 * n) = 32 * n by omega]
    exact r_cs_blk (by omega) (fun i hi => h2 i (by omega))
theorem r_l125_0_0 {xhe : Nat → Int32} {ho mn p k : Nat} (hp : p < 256) : ∀ (fu kk : Nat) (yt yw : Nat → Int32), kk + fu = 26 → kk ≤ 25 →
    (∀ q : Nat, (f_MD_putChain_0_l125_0 xhe ho mn (nI p) k fu kk yt yw).1 q = if ((((mn + (32 * k)) + 1) + 1) + 1) + kk ≤ q ∧ q < ((((mn + (32 * k)) + 1) + 1) + 1) + 25 then nI (((0 + (32 * p)) + 3) + (q - ((((mn + (32 * k)) + 1) + 1) + 1))) else yt q) ∧
    (∀ q : Nat, (f_MD_putChain_0_l125_0 xhe ho mn (nI p) k fu kk yt yw).2 q = if ((((mn + (32 * k)) + 1) + 1) + 1) + kk ≤ q ∧ q < ((((mn + (32 * k)) + 1) + 1) + 1) + 25 then xhe ((25 * k) + (q - ((((mn + (32 * k)) + 1) + 1) + 1))) else yw q) := by
  intro fu
  induction fu with
  | zero => intro kk yt yw a b; omega
  | succ fu ih =>
    intro kk yt yw a b
    rw [f_MD_putChain_0_l125_0, nI_clamp (show p < 2 ^ 31 by omega)]
    by_cases hk : 25 ≤ kk
    · rw [if_pos (show (25 : Int32) ≤ nI kk from nI_le (a := 25) hk (by omega))]
      exact ⟨fun q => by rw [if_neg (fun c => by omega)], fun q => by rw [if_neg (fun c => by omega)]⟩
    · rw [if_neg (show ¬ (25 : Int32) ≤ nI kk from nI_ge (b := 25) (by omega) (by omega))]
      have I := ih (kk + 1) (upd yt (((((mn + (32 * k)) + 1) + 1) + 1) + kk) (nI (((0 + (32 * p)) + 3) + kk))) (upd yw (((((mn + (32 * k)) + 1) + 1) + 1) + kk) (xhe ((25 * k) + kk))) (by omega) (by omega)
      refine ⟨fun q => ?_, fun q => ?_⟩
      · rw [I.1 q]
        by_cases c1 : ((((mn + (32 * k)) + 1) + 1) + 1) + (kk + 1) ≤ q ∧ q < ((((mn + (32 * k)) + 1) + 1) + 1) + 25
        · rw [if_pos c1, if_pos ⟨by omega, by omega⟩]
        · rw [if_neg c1]
          by_cases c2 : q = ((((mn + (32 * k)) + 1) + 1) + 1) + kk
          · subst c2
            rw [r_upd_at, if_pos ⟨by omega, by omega⟩]
            exact congrArg nI (by omega)
          · rw [r_upd_ne c2, if_neg (fun c => by omega)]
      · rw [I.2 q]
        by_cases c1 : ((((mn + (32 * k)) + 1) + 1) + 1) + (kk + 1) ≤ q ∧ q < ((((mn + (32 * k)) + 1) + 1) + 1) + 25
        · rw [if_pos c1, if_pos ⟨by omega, by omega⟩]
        · rw [if_neg c1]
          by_cases c2 : q = ((((mn + (32 * k)) + 1) + 1) + 1) + kk
          · subst c2
            rw [r_upd_at, if_pos ⟨by omega, by omega⟩]
            exact congrArg xhe (by omega)
          · rw [r_upd_ne c2, if_neg (fun c => by omega)]
theorem r_l125_0_1 {xhe : Nat → Int32} {ho mn p k : Nat} (hp : p < 256) (hho : ho < 2 ^ 20) : ∀ (fu kk : Nat) (yt yw : Nat → Int32), kk + fu = 26 → kk ≤ 25 →
    (∀ q : Nat, (f_MD_putChain_0_l125_1 xhe ho mn (nI p) k fu kk yt yw).1 q = if ((((mn + (32 * k)) + 1) + 1) + 1) + kk ≤ q ∧ q < ((((mn + (32 * k)) + 1) + 1) + 1) + 25 then nI (((0 + (32 * p)) + 3) + (q - ((((mn + (32 * k)) + 1) + 1) + 1))) else yt q) ∧
    (∀ q : Nat, (f_MD_putChain_0_l125_1 xhe ho mn (nI p) k fu kk yt yw).2 q = if ((((mn + (32 * k)) + 1) + 1) + 1) + kk ≤ q ∧ q < ((((mn + (32 * k)) + 1) + 1) + 1) + 25 then (if q - ((((mn + (32 * k)) + 1) + 1) + 1) < ho - 25 * k then xhe ((25 * k) + (q - ((((mn + (32 * k)) + 1) + 1) + 1))) else 0) else yw q) := by
  intro fu
  induction fu with
  | zero => intro kk yt yw a b; omega
  | succ fu ih =>
    intro kk yt yw a b
    rw [f_MD_putChain_0_l125_1, nI_clamp (show p < 2 ^ 31 by omega)]
    by_cases hk : 25 ≤ kk
    · rw [if_pos (show (25 : Int32) ≤ nI kk from nI_le (a := 25) hk (by omega))]
      exact ⟨fun q => by rw [if_neg (fun c => by omega)], fun q => by rw [if_neg (fun c => by omega)]⟩
    · rw [if_neg (show ¬ (25 : Int32) ≤ nI kk from nI_ge (b := 25) (by omega) (by omega))]
      have go : ∀ x : Int32, x = (if kk < ho - 25 * k then xhe ((25 * k) + kk) else 0) →
          (∀ q : Nat, (f_MD_putChain_0_l125_1 xhe ho mn (nI p) k fu (kk + 1) (upd yt (((((mn + (32 * k)) + 1) + 1) + 1) + kk) (nI (((0 + (32 * p)) + 3) + kk))) (upd yw (((((mn + (32 * k)) + 1) + 1) + 1) + kk) x)).1 q = if ((((mn + (32 * k)) + 1) + 1) + 1) + kk ≤ q ∧ q < ((((mn + (32 * k)) + 1) + 1) + 1) + 25 then nI (((0 + (32 * p)) + 3) + (q - ((((mn + (32 * k)) + 1) + 1) + 1))) else yt q) ∧
          (∀ q : Nat, (f_MD_putChain_0_l125_1 xhe ho mn (nI p) k fu (kk + 1) (upd yt (((((mn + (32 * k)) + 1) + 1) + 1) + kk) (nI (((0 + (32 * p)) + 3) + kk))) (upd yw (((((mn + (32 * k)) + 1) + 1) + 1) + kk) x)).2 q = if ((((mn + (32 * k)) + 1) + 1) + 1) + kk ≤ q ∧ q < ((((mn + (32 * k)) + 1) + 1) + 1) + 25 then (if q - ((((mn + (32 * k)) + 1) + 1) + 1) < ho - 25 * k then xhe ((25 * k) + (q - ((((mn + (32 * k)) + 1) + 1) + 1))) else 0) else yw q) := by
        intro x hx
        have I := ih (kk + 1) (upd yt (((((mn + (32 * k)) + 1) + 1) + 1) + kk) (nI (((0 + (32 * p)) + 3) + kk))) (upd yw (((((mn + (32 * k)) + 1) + 1) + 1) + kk) x) (by omega) (by omega)
        refine ⟨fun q => ?_, fun q => ?_⟩
        · rw [I.1 q]
          by_cases c1 : ((((mn + (32 * k)) + 1) + 1) + 1) + (kk + 1) ≤ q ∧ q < ((((mn + (32 * k)) + 1) + 1) + 1) + 25
          · rw [if_pos c1, if_pos ⟨by omega, by omega⟩]
          · rw [if_neg c1]
            by_cases c2 : q = ((((mn + (32 * k)) + 1) + 1) + 1) + kk
            · subst c2
              rw [r_upd_at, if_pos ⟨by omega, by omega⟩]
              exact congrArg nI (by omega)
            · rw [r_upd_ne c2, if_neg (fun c => by omega)]
        · rw [I.2 q]
          by_cases c1 : ((((mn + (32 * k)) + 1) + 1) + 1) + (kk + 1) ≤ q ∧ q < ((((mn + (32 * k)) + 1) + 1) + 1) + 25
          · rw [if_pos c1]
            exact (if_pos ⟨by omega, by omega⟩).symm
          · rw [if_neg c1]
            by_cases c2 : q = ((((mn + (32 * k)) + 1) + 1) + 1) + kk
            · subst c2
              rw [r_upd_at, show mn + 32 * k + 1 + 1 + 1 + kk - (mn + 32 * k + 1 + 1 + 1) = kk by omega, hx]
              exact (if_pos ⟨by omega, by omega⟩).symm
            · rw [r_upd_ne c2]
              exact (if_neg (fun c => by omega)).symm
      by_cases c : ho - 25 * k ≤ kk
      · rw [if_pos (nI_le c (by omega))]
        exact go 0 (by rw [if_neg (by omega)])
      · rw [if_neg (nI_ge (by omega) (by omega))]
        exact go _ (by rw [if_pos (by omega)])
/-- a place of the list, with its sum -/
theorem r_plc_0 {D : (Nat → Int32) × (Nat → Int32)} {vt vw d : Nat → Int32} {mn k p m lk : Nat} {a0 a1 mo : Int32} (hb : mn + 32 * k < 2 ^ 20) (h0 : a0 = nI lk) (h1 : a1 = nI m)
    (D1 : ∀ q : Nat, D.1 q = if ((((mn + (32 * k)) + 1) + 1) + 1) + 0 ≤ q ∧ q < ((((mn + (32 * k)) + 1) + 1) + 1) + 25 then nI (((0 + (32 * p)) + 3) + (q - ((((mn + (32 * k)) + 1) + 1) + 1))) else (upd (upd (upd vt (mn + (32 * k)) (nI (0 + (32 * p)))) ((mn + (32 * k)) + 1) (nI ((0 + (32 * p)) + 1))) (((mn + (32 * k)) + 1) + 1) (nI ((0 + (32 * p)) + 2))) q)
    (D2 : ∀ q : Nat, D.2 q = if ((((mn + (32 * k)) + 1) + 1) + 1) + 0 ≤ q ∧ q < ((((mn + (32 * k)) + 1) + 1) + 1) + 25 then d (q - ((((mn + (32 * k)) + 1) + 1) + 1)) else (upd (upd (upd vw (mn + (32 * k)) a0) ((mn + (32 * k)) + 1) a1) (((mn + (32 * k)) + 1) + 1) mo) q)
    {e : Nat → Int32} (he : ∀ t : Nat, t < 25 → d t = if t < m then e t else 0) :
    (∀ i : Nat, i < 32 → (f_MD_putSum D.1 D.2 (((((mn + (32 * k)) + 1) + 1) + 1) + 25) 28 (0 + (32 * p))).1 ((mn + 32 * k) + i) = nI ((0 + 32 * p) + i) ∧ (f_MD_putSum D.1 D.2 (((((mn + (32 * k)) + 1) + 1) + 1) + 25) 28 (0 + (32 * p))).2 ((mn + 32 * k) + i) = r_fu 28 (r_bk lk m mo e) i) ∧
    (∀ q : Nat, q < mn + 32 * k → (f_MD_putSum D.1 D.2 (((((mn + (32 * k)) + 1) + 1) + 1) + 25) 28 (0 + (32 * p))).1 q = vt q ∧ (f_MD_putSum D.1 D.2 (((((mn + (32 * k)) + 1) + 1) + 1) + 25) 28 (0 + (32 * p))).2 q = vw q) := by
  have E1 : ∀ i : Nat, i < 28 → D.1 ((mn + 32 * k) + i) = nI ((0 + 32 * p) + i) := by
    intro i hi
    rw [D1]
    by_cases c : 3 ≤ i
    · rw [if_pos ⟨by omega, by omega⟩]
      exact congrArg nI (by omega)
    · rw [if_neg (fun d => by omega)]
      rcases (show i = 0 ∨ i = 1 ∨ i = 2 by omega) with rfl | rfl | rfl
      · rw [r_upd_ne (by omega), r_upd_ne (by omega), Nat.add_zero, r_upd_at, Nat.add_zero]
      · rw [r_upd_ne (by omega), r_upd_at]
      · rw [show mn + 32 * k + 2 = mn + 32 * k + 1 + 1 from rfl, r_upd_at]
  have E2 : ∀ i : Nat, i < 28 → D.2 ((mn + 32 * k) + i) = r_bk lk m mo e i := by
    intro i hi
    rw [D2]
    by_cases c : 3 ≤ i
    · rw [if_pos ⟨by omega, by omega⟩, show mn + 32 * k + i - (mn + 32 * k + 1 + 1 + 1) = i - 3 by omega, he (i - 3) (by omega)]
      by_cases cm : i - 3 < m
      · rw [if_pos cm, r_bk3 c cm]
      · rw [if_neg cm, r_bk4 c cm]
    · rw [if_neg (fun d => by omega)]
      rcases (show i = 0 ∨ i = 1 ∨ i = 2 by omega) with rfl | rfl | rfl
      · rw [r_upd_ne (by omega), r_upd_ne (by omega), Nat.add_zero, r_upd_at, r_bk0, h0]
      · rw [r_upd_ne (by omega), r_upd_at, r_bk1, h1]
      · rw [show mn + 32 * k + 2 = mn + 32 * k + 1 + 1 from rfl, r_upd_at, r_bk2]
  have S := r_psm (xto := D.1) (xwa := D.2) (f := r_bk lk m mo e) (mn := ((((mn + (32 * k)) + 1) + 1) + 1) + 25) (nb := 28) (fm := 0 + (32 * p)) (by omega) (by omega) (fun j hj => by rw [show mn + 32 * k + 1 + 1 + 1 + 25 - 28 + j = mn + 32 * k + j by omega]; exact E2 j hj)
  refine ⟨fun i hi => ?_, fun q hq => ?_⟩
  · rw [S.1, S.2]
    show _ ∧ _ = (if i < 28 then r_bk lk m mo e i else (sf_ushr (r_sm (r_bk lk m mo e) 28) (nI (8 * (3 - (i - 28))))) &&& 255)
    by_cases c : i < 28
    · rw [if_neg (fun d => by omega), if_neg (fun d => by omega), if_pos c]
      exact ⟨E1 i c, E2 i c⟩
    · rw [if_pos ⟨by omega, by omega⟩, if_pos ⟨by omega, by omega⟩, if_neg c, show mn + 32 * k + i - (mn + 32 * k + 1 + 1 + 1 + 25) = i - 28 by omega]
      exact ⟨congrArg nI (by omega), rfl⟩
  · rw [S.1, S.2, if_neg (fun d => by omega), if_neg (fun d => by omega), D1, D2, if_neg (fun d => by omega), if_neg (fun d => by omega), r_upd_ne (by omega), r_upd_ne (by omega), r_upd_ne (by omega), r_upd_ne (by omega), r_upd_ne (by omega), r_upd_ne (by omega)]
    exact ⟨rfl, rfl⟩
/-- the chain in the list -/
theorem r_pc_0 {xhe us xtk xto xwa : Nat → Int32} {ho n : Nat} {g : Nat → Nat} {mo : Int32} (hn1 : 1 ≤ n) (hn3 : n ≤ 3) (hh1 : 25 * n < ho + 25) (hh2 : ho ≤ 25 * n) (hE : r_E us xtk) (hg : r_pk us 24 n g) :
    (f_MD_putChain_0 xhe xtk xto xwa ho 0 mo).1 = nI (g 0) ∧ ∀ j i : Nat, j < n → i < 32 → (f_MD_putChain_0 xhe xtk xto xwa ho 0 mo).2.1 (32 * j + i) = nI ((0 + 32 * g j) + i) ∧ (f_MD_putChain_0 xhe xtk xto xwa ho 0 mo).2.2 (32 * j + i) = r_pb g n ho mo xhe j i := by
  have L : ∀ (fu k : Nat) (vf vp : Int32) (vt vw : Nat → Int32), k + fu = 4 → k ≤ n → (k < n → vp = nI (g k)) → (∀ j i : Nat, j < k → i < 32 → vt (32 * j + i) = nI ((0 + 32 * g j) + i) ∧ vw (32 * j + i) = r_pb g n ho mo xhe j i) →
      (f_MD_putChain_0_l12 xhe xtk ho 0 mo fu k vf vp vt vw).1 = vf ∧ ∀ j i : Nat, j < n → i < 32 → (f_MD_putChain_0_l12 xhe xtk ho 0 mo fu k vf vp vt vw).2.1 (32 * j + i) = nI ((0 + 32 * g j) + i) ∧ (f_MD_putChain_0_l12 xhe xtk ho 0 mo fu k vf vp vt vw).2.2 (32 * j + i) = r_pb g n ho mo xhe j i := by
    intro fu
    induction fu with
    | zero => intro k vf vp vt vw a b; omega
    | succ fu ih =>
      intro k vf vp vt vw a b hvp hv
      rw [f_MD_putChain_0_l12]
      by_cases hk : n ≤ k
      · have : k = n := by omega
        subst this
        rw [if_pos (nI_le (show ho ≤ 25 * k by omega) (by omega))]
        exact ⟨rfl, hv⟩
      · have hgk := hvp (by omega)
        subst hgk
        have hg24 := (hg k (by omega)).2.1
        have step : ∀ (S : (Nat → Int32) × (Nat → Int32)) (vq : Int32) , ((∀ i : Nat, i < 32 → S.1 ((0 + 32 * k) + i) = nI ((0 + 32 * g k) + i) ∧ S.2 ((0 + 32 * k) + i) = r_fu 28 (r_bk (r_lk g n k) (r_ml ho k) mo (fun t => xhe (25 * k + t))) i) ∧ (∀ q : Nat, q < 0 + 32 * k → S.1 q = vt q ∧ S.2 q = vw q)) → (k + 1 < n → vq = nI (g (k + 1))) →
            (f_MD_putChain_0_l12 xhe xtk ho 0 mo fu (k + 1) vf vq S.1 S.2).1 = vf ∧ ∀ j i : Nat, j < n → i < 32 → (f_MD_putChain_0_l12 xhe xtk ho 0 mo fu (k + 1) vf vq S.1 S.2).2.1 (32 * j + i) = nI ((0 + 32 * g j) + i) ∧ (f_MD_putChain_0_l12 xhe xtk ho 0 mo fu (k + 1) vf vq S.1 S.2).2.2 (32 * j + i) = r_pb g n ho mo xhe j i := by
          intro S vq hS hq
          refine ih (k + 1) vf vq S.1 S.2 (by omega) (by omega) hq (fun j i hj hi => ?_)
          by_cases c : j = k
          · subst c
            have := hS.1 i hi
            rw [Nat.zero_add] at this
            exact this
          · have := hS.2 (32 * j + i) (by omega)
            rw [this.1, this.2]
            exact hv j i (by omega) hi
        rw [if_neg (nI_ge (show 25 * k < ho by omega) (by omega)), nI_clamp (show g k < 2 ^ 31 by omega)]
        by_cases c25 : 25 ≤ ho - 25 * k
        · have hm : r_ml ho k = 25 := by unfold r_ml; omega
          have K := r_l125_0_0 (xhe := xhe) (ho := ho) (mn := 0) (p := g k) (k := k) (by omega) (25 + 1) 0
          rw [if_pos (show (25 : Int32) ≤ nI (ho - 25 * k) from nI_le (a := 25) c25 (by omega))]
          by_cases cl : 25 * k + 25 = ho
          · have hlk : r_lk g n k = 0 := by unfold r_lk; rw [if_neg (by omega)]
            rw [if_pos (show nI ((25 * k) + 25) = nI ho by rw [cl])]
            refine step (f_MD_putSum _ _ _ _ _) (-1) ?_ (fun q => by omega)
            rw [hm, hlk]
            exact r_plc_0 (by omega) (show (-1 : Int32) + 1 = nI 0 by decide) rfl (K _ _ (by omega) (by omega)).1 (K _ _ (by omega) (by omega)).2 (fun t ht => by rw [if_pos ht])
          · have hff := r_ff (j := k + 1) (by omega) hE hg (by omega)
            have hff2 : f_MD_freeFrom xtk (g k + 1) = nI (g (k + 1)) := hff
            have hgk1 := (hg (k + 1) (by omega)).2.1
            have hlk : r_lk g n k = g (k + 1) + 1 := by unfold r_lk; rw [if_pos (by omega)]
            rw [if_neg (show ¬ nI ((25 * k) + 25) = nI ho from fun q => cl ((nI_eq (by omega) (by omega)).mp q)), hff2, nI_clamp (show g (k + 1) < 2 ^ 31 by omega)]
            refine step (f_MD_putSum _ _ _ _ _) (nI (g (k + 1))) ?_ (fun _ => rfl)
            rw [hm, hlk]
            exact r_plc_0 (by omega) rfl rfl (K _ _ (by omega) (by omega)).1 (K _ _ (by omega) (by omega)).2 (fun t ht => by rw [if_pos ht])
        · have hm : r_ml ho k = ho - 25 * k := by unfold r_ml; omega
          have hlk : r_lk g n k = 0 := by unfold r_lk; rw [if_neg (by omega)]
          have K := r_l125_0_1 (xhe := xhe) (ho := ho) (mn := 0) (p := g k) (k := k) (by omega) (by omega) (25 + 1) 0
          rw [if_neg (show ¬ (25 : Int32) ≤ nI (ho - 25 * k) from nI_ge (b := 25) (by omega) (by omega))]
          refine step (f_MD_putSum _ _ _ _ _) (-1) ?_ (fun q => by omega)
          rw [hm, hlk]
          exact r_plc_0 (d := fun t => if t < ho - 25 * k then xhe (25 * k + t) else 0) (by omega) (show (-1 : Int32) + 1 = nI 0 by decide) rfl (K _ _ (by omega) (by omega)).1 (K _ _ (by omega) (by omega)).2 (fun t ht => rfl)
  have hff : f_MD_freeFrom xtk 0 = nI (g 0) := r_ff (j := 0) (by omega) hE hg (by omega)
  have h0 := (hg 0 (by omega)).2.1
  unfold f_MD_putChain_0
  rw [hff, nI_clamp (show g 0 < 2 ^ 31 by omega)]
  exact L (3 + 1) 0 (nI (g 0)) (nI (g 0)) xto xwa (by omega) (by omega) (fun _ => rfl) (fun j i hj => absurd hj (Nat.not_lt_zero j))
theorem r_l125_1_0 {xhe : Nat → Int32} {ho mn p k : Nat} (hp : p < 256) : ∀ (fu kk : Nat) (yt yw : Nat → Int32), kk + fu = 26 → kk ≤ 25 →
    (∀ q : Nat, (f_MD_putChain_1_l125_0 xhe ho mn (nI p) k fu kk yt yw).1 q = if ((((mn + (32 * k)) + 1) + 1) + 1) + kk ≤ q ∧ q < ((((mn + (32 * k)) + 1) + 1) + 1) + 25 then nI (((768 + (32 * p)) + 3) + (q - ((((mn + (32 * k)) + 1) + 1) + 1))) else yt q) ∧
    (∀ q : Nat, (f_MD_putChain_1_l125_0 xhe ho mn (nI p) k fu kk yt yw).2 q = if ((((mn + (32 * k)) + 1) + 1) + 1) + kk ≤ q ∧ q < ((((mn + (32 * k)) + 1) + 1) + 1) + 25 then xhe ((25 * k) + (q - ((((mn + (32 * k)) + 1) + 1) + 1))) else yw q) := by
  intro fu
  induction fu with
  | zero => intro kk yt yw a b; omega
  | succ fu ih =>
    intro kk yt yw a b
    rw [f_MD_putChain_1_l125_0, nI_clamp (show p < 2 ^ 31 by omega)]
    by_cases hk : 25 ≤ kk
    · rw [if_pos (show (25 : Int32) ≤ nI kk from nI_le (a := 25) hk (by omega))]
      exact ⟨fun q => by rw [if_neg (fun c => by omega)], fun q => by rw [if_neg (fun c => by omega)]⟩
    · rw [if_neg (show ¬ (25 : Int32) ≤ nI kk from nI_ge (b := 25) (by omega) (by omega))]
      have I := ih (kk + 1) (upd yt (((((mn + (32 * k)) + 1) + 1) + 1) + kk) (nI (((768 + (32 * p)) + 3) + kk))) (upd yw (((((mn + (32 * k)) + 1) + 1) + 1) + kk) (xhe ((25 * k) + kk))) (by omega) (by omega)
      refine ⟨fun q => ?_, fun q => ?_⟩
      · rw [I.1 q]
        by_cases c1 : ((((mn + (32 * k)) + 1) + 1) + 1) + (kk + 1) ≤ q ∧ q < ((((mn + (32 * k)) + 1) + 1) + 1) + 25
        · rw [if_pos c1, if_pos ⟨by omega, by omega⟩]
        · rw [if_neg c1]
          by_cases c2 : q = ((((mn + (32 * k)) + 1) + 1) + 1) + kk
          · subst c2
            rw [r_upd_at, if_pos ⟨by omega, by omega⟩]
            exact congrArg nI (by omega)
          · rw [r_upd_ne c2, if_neg (fun c => by omega)]
      · rw [I.2 q]
        by_cases c1 : ((((mn + (32 * k)) + 1) + 1) + 1) + (kk + 1) ≤ q ∧ q < ((((mn + (32 * k)) + 1) + 1) + 1) + 25
        · rw [if_pos c1, if_pos ⟨by omega, by omega⟩]
        · rw [if_neg c1]
          by_cases c2 : q = ((((mn + (32 * k)) + 1) + 1) + 1) + kk
          · subst c2
            rw [r_upd_at, if_pos ⟨by omega, by omega⟩]
            exact congrArg xhe (by omega)
          · rw [r_upd_ne c2, if_neg (fun c => by omega)]
theorem r_l125_1_1 {xhe : Nat → Int32} {ho mn p k : Nat} (hp : p < 256) (hho : ho < 2 ^ 20) : ∀ (fu kk : Nat) (yt yw : Nat → Int32), kk + fu = 26 → kk ≤ 25 →
    (∀ q : Nat, (f_MD_putChain_1_l125_1 xhe ho mn (nI p) k fu kk yt yw).1 q = if ((((mn + (32 * k)) + 1) + 1) + 1) + kk ≤ q ∧ q < ((((mn + (32 * k)) + 1) + 1) + 1) + 25 then nI (((768 + (32 * p)) + 3) + (q - ((((mn + (32 * k)) + 1) + 1) + 1))) else yt q) ∧
    (∀ q : Nat, (f_MD_putChain_1_l125_1 xhe ho mn (nI p) k fu kk yt yw).2 q = if ((((mn + (32 * k)) + 1) + 1) + 1) + kk ≤ q ∧ q < ((((mn + (32 * k)) + 1) + 1) + 1) + 25 then (if q - ((((mn + (32 * k)) + 1) + 1) + 1) < ho - 25 * k then xhe ((25 * k) + (q - ((((mn + (32 * k)) + 1) + 1) + 1))) else 0) else yw q) := by
  intro fu
  induction fu with
  | zero => intro kk yt yw a b; omega
  | succ fu ih =>
    intro kk yt yw a b
    rw [f_MD_putChain_1_l125_1, nI_clamp (show p < 2 ^ 31 by omega)]
    by_cases hk : 25 ≤ kk
    · rw [if_pos (show (25 : Int32) ≤ nI kk from nI_le (a := 25) hk (by omega))]
      exact ⟨fun q => by rw [if_neg (fun c => by omega)], fun q => by rw [if_neg (fun c => by omega)]⟩
    · rw [if_neg (show ¬ (25 : Int32) ≤ nI kk from nI_ge (b := 25) (by omega) (by omega))]
      have go : ∀ x : Int32, x = (if kk < ho - 25 * k then xhe ((25 * k) + kk) else 0) →
          (∀ q : Nat, (f_MD_putChain_1_l125_1 xhe ho mn (nI p) k fu (kk + 1) (upd yt (((((mn + (32 * k)) + 1) + 1) + 1) + kk) (nI (((768 + (32 * p)) + 3) + kk))) (upd yw (((((mn + (32 * k)) + 1) + 1) + 1) + kk) x)).1 q = if ((((mn + (32 * k)) + 1) + 1) + 1) + kk ≤ q ∧ q < ((((mn + (32 * k)) + 1) + 1) + 1) + 25 then nI (((768 + (32 * p)) + 3) + (q - ((((mn + (32 * k)) + 1) + 1) + 1))) else yt q) ∧
          (∀ q : Nat, (f_MD_putChain_1_l125_1 xhe ho mn (nI p) k fu (kk + 1) (upd yt (((((mn + (32 * k)) + 1) + 1) + 1) + kk) (nI (((768 + (32 * p)) + 3) + kk))) (upd yw (((((mn + (32 * k)) + 1) + 1) + 1) + kk) x)).2 q = if ((((mn + (32 * k)) + 1) + 1) + 1) + kk ≤ q ∧ q < ((((mn + (32 * k)) + 1) + 1) + 1) + 25 then (if q - ((((mn + (32 * k)) + 1) + 1) + 1) < ho - 25 * k then xhe ((25 * k) + (q - ((((mn + (32 * k)) + 1) + 1) + 1))) else 0) else yw q) := by
        intro x hx
        have I := ih (kk + 1) (upd yt (((((mn + (32 * k)) + 1) + 1) + 1) + kk) (nI (((768 + (32 * p)) + 3) + kk))) (upd yw (((((mn + (32 * k)) + 1) + 1) + 1) + kk) x) (by omega) (by omega)
        refine ⟨fun q => ?_, fun q => ?_⟩
        · rw [I.1 q]
          by_cases c1 : ((((mn + (32 * k)) + 1) + 1) + 1) + (kk + 1) ≤ q ∧ q < ((((mn + (32 * k)) + 1) + 1) + 1) + 25
          · rw [if_pos c1, if_pos ⟨by omega, by omega⟩]
          · rw [if_neg c1]
            by_cases c2 : q = ((((mn + (32 * k)) + 1) + 1) + 1) + kk
            · subst c2
              rw [r_upd_at, if_pos ⟨by omega, by omega⟩]
              exact congrArg nI (by omega)
            · rw [r_upd_ne c2, if_neg (fun c => by omega)]
        · rw [I.2 q]
          by_cases c1 : ((((mn + (32 * k)) + 1) + 1) + 1) + (kk + 1) ≤ q ∧ q < ((((mn + (32 * k)) + 1) + 1) + 1) + 25
          · rw [if_pos c1]
            exact (if_pos ⟨by omega, by omega⟩).symm
          · rw [if_neg c1]
            by_cases c2 : q = ((((mn + (32 * k)) + 1) + 1) + 1) + kk
            · subst c2
              rw [r_upd_at, show mn + 32 * k + 1 + 1 + 1 + kk - (mn + 32 * k + 1 + 1 + 1) = kk by omega, hx]
              exact (if_pos ⟨by omega, by omega⟩).symm
            · rw [r_upd_ne c2]
              exact (if_neg (fun c => by omega)).symm
      by_cases c : ho - 25 * k ≤ kk
      · rw [if_pos (nI_le c (by omega))]
        exact go 0 (by rw [if_neg (by omega)])
      · rw [if_neg (nI_ge (by omega) (by omega))]
        exact go _ (by rw [if_pos (by omega)])
/-- a place of the list, with its sum -/
theorem r_plc_1 {D : (Nat → Int32) × (Nat → Int32)} {vt vw d : Nat → Int32} {mn k p m lk : Nat} {a0 a1 mo : Int32} (hb : mn + 32 * k < 2 ^ 20) (h0 : a0 = nI lk) (h1 : a1 = nI m)
    (D1 : ∀ q : Nat, D.1 q = if ((((mn + (32 * k)) + 1) + 1) + 1) + 0 ≤ q ∧ q < ((((mn + (32 * k)) + 1) + 1) + 1) + 25 then nI (((768 + (32 * p)) + 3) + (q - ((((mn + (32 * k)) + 1) + 1) + 1))) else (upd (upd (upd vt (mn + (32 * k)) (nI (768 + (32 * p)))) ((mn + (32 * k)) + 1) (nI ((768 + (32 * p)) + 1))) (((mn + (32 * k)) + 1) + 1) (nI ((768 + (32 * p)) + 2))) q)
    (D2 : ∀ q : Nat, D.2 q = if ((((mn + (32 * k)) + 1) + 1) + 1) + 0 ≤ q ∧ q < ((((mn + (32 * k)) + 1) + 1) + 1) + 25 then d (q - ((((mn + (32 * k)) + 1) + 1) + 1)) else (upd (upd (upd vw (mn + (32 * k)) a0) ((mn + (32 * k)) + 1) a1) (((mn + (32 * k)) + 1) + 1) mo) q)
    {e : Nat → Int32} (he : ∀ t : Nat, t < 25 → d t = if t < m then e t else 0) :
    (∀ i : Nat, i < 32 → (f_MD_putSum D.1 D.2 (((((mn + (32 * k)) + 1) + 1) + 1) + 25) 28 (768 + (32 * p))).1 ((mn + 32 * k) + i) = nI ((768 + 32 * p) + i) ∧ (f_MD_putSum D.1 D.2 (((((mn + (32 * k)) + 1) + 1) + 1) + 25) 28 (768 + (32 * p))).2 ((mn + 32 * k) + i) = r_fu 28 (r_bk lk m mo e) i) ∧
    (∀ q : Nat, q < mn + 32 * k → (f_MD_putSum D.1 D.2 (((((mn + (32 * k)) + 1) + 1) + 1) + 25) 28 (768 + (32 * p))).1 q = vt q ∧ (f_MD_putSum D.1 D.2 (((((mn + (32 * k)) + 1) + 1) + 1) + 25) 28 (768 + (32 * p))).2 q = vw q) := by
  have E1 : ∀ i : Nat, i < 28 → D.1 ((mn + 32 * k) + i) = nI ((768 + 32 * p) + i) := by
    intro i hi
    rw [D1]
    by_cases c : 3 ≤ i
    · rw [if_pos ⟨by omega, by omega⟩]
      exact congrArg nI (by omega)
    · rw [if_neg (fun d => by omega)]
      rcases (show i = 0 ∨ i = 1 ∨ i = 2 by omega) with rfl | rfl | rfl
      · rw [r_upd_ne (by omega), r_upd_ne (by omega), Nat.add_zero, r_upd_at, Nat.add_zero]
      · rw [r_upd_ne (by omega), r_upd_at]
      · rw [show mn + 32 * k + 2 = mn + 32 * k + 1 + 1 from rfl, r_upd_at]
  have E2 : ∀ i : Nat, i < 28 → D.2 ((mn + 32 * k) + i) = r_bk lk m mo e i := by
    intro i hi
    rw [D2]
    by_cases c : 3 ≤ i
    · rw [if_pos ⟨by omega, by omega⟩, show mn + 32 * k + i - (mn + 32 * k + 1 + 1 + 1) = i - 3 by omega, he (i - 3) (by omega)]
      by_cases cm : i - 3 < m
      · rw [if_pos cm, r_bk3 c cm]
      · rw [if_neg cm, r_bk4 c cm]
    · rw [if_neg (fun d => by omega)]
      rcases (show i = 0 ∨ i = 1 ∨ i = 2 by omega) with rfl | rfl | rfl
      · rw [r_upd_ne (by omega), r_upd_ne (by omega), Nat.add_zero, r_upd_at, r_bk0, h0]
      · rw [r_upd_ne (by omega), r_upd_at, r_bk1, h1]
      · rw [show mn + 32 * k + 2 = mn + 32 * k + 1 + 1 from rfl, r_upd_at, r_bk2]
  have S := r_psm (xto := D.1) (xwa := D.2) (f := r_bk lk m mo e) (mn := ((((mn + (32 * k)) + 1) + 1) + 1) + 25) (nb := 28) (fm := 768 + (32 * p)) (by omega) (by omega) (fun j hj => by rw [show mn + 32 * k + 1 + 1 + 1 + 25 - 28 + j = mn + 32 * k + j by omega]; exact E2 j hj)
  refine ⟨fun i hi => ?_, fun q hq => ?_⟩
  · rw [S.1, S.2]
    show _ ∧ _ = (if i < 28 then r_bk lk m mo e i else (sf_ushr (r_sm (r_bk lk m mo e) 28) (nI (8 * (3 - (i - 28))))) &&& 255)
    by_cases c : i < 28
    · rw [if_neg (fun d => by omega), if_neg (fun d => by omega), if_pos c]
      exact ⟨E1 i c, E2 i c⟩
    · rw [if_pos ⟨by omega, by omega⟩, if_pos ⟨by omega, by omega⟩, if_neg c, show mn + 32 * k + i - (mn + 32 * k + 1 + 1 + 1 + 25) = i - 28 by omega]
      exact ⟨congrArg nI (by omega), rfl⟩
  · rw [S.1, S.2, if_neg (fun d => by omega), if_neg (fun d => by omega), D1, D2, if_neg (fun d => by omega), if_neg (fun d => by omega), r_upd_ne (by omega), r_upd_ne (by omega), r_upd_ne (by omega), r_upd_ne (by omega), r_upd_ne (by omega), r_upd_ne (by omega)]
    exact ⟨rfl, rfl⟩
/-- the chain in the list -/
theorem r_pc_1 {xhe us xtk xto xwa : Nat → Int32} {ho n : Nat} {g : Nat → Nat} {mo : Int32} (hn1 : 1 ≤ n) (hn3 : n ≤ 3) (hh1 : 25 * n < ho + 25) (hh2 : ho ≤ 25 * n) (hE : r_E us xtk) (hg : r_pk us 16 n g) :
    (f_MD_putChain_1 xhe xtk xto xwa ho 0 mo).1 = nI (g 0) ∧ ∀ j i : Nat, j < n → i < 32 → (f_MD_putChain_1 xhe xtk xto xwa ho 0 mo).2.1 (32 * j + i) = nI ((768 + 32 * g j) + i) ∧ (f_MD_putChain_1 xhe xtk xto xwa ho 0 mo).2.2 (32 * j + i) = r_pb g n ho mo xhe j i := by
  have L : ∀ (fu k : Nat) (vf vp : Int32) (vt vw : Nat → Int32), k + fu = 4 → k ≤ n → (k < n → vp = nI (g k)) → (∀ j i : Nat, j < k → i < 32 → vt (32 * j + i) = nI ((768 + 32 * g j) + i) ∧ vw (32 * j + i) = r_pb g n ho mo xhe j i) →
      (f_MD_putChain_1_l12 xhe xtk ho 0 mo fu k vf vp vt vw).1 = vf ∧ ∀ j i : Nat, j < n → i < 32 → (f_MD_putChain_1_l12 xhe xtk ho 0 mo fu k vf vp vt vw).2.1 (32 * j + i) = nI ((768 + 32 * g j) + i) ∧ (f_MD_putChain_1_l12 xhe xtk ho 0 mo fu k vf vp vt vw).2.2 (32 * j + i) = r_pb g n ho mo xhe j i := by
    intro fu
    induction fu with
    | zero => intro k vf vp vt vw a b; omega
    | succ fu ih =>
      intro k vf vp vt vw a b hvp hv
      rw [f_MD_putChain_1_l12]
      by_cases hk : n ≤ k
      · have : k = n := by omega
        subst this
        rw [if_pos (nI_le (show ho ≤ 25 * k by omega) (by omega))]
        exact ⟨rfl, hv⟩
      · have hgk := hvp (by omega)
        subst hgk
        have hg24 := (hg k (by omega)).2.1
        have step : ∀ (S : (Nat → Int32) × (Nat → Int32)) (vq : Int32) , ((∀ i : Nat, i < 32 → S.1 ((0 + 32 * k) + i) = nI ((768 + 32 * g k) + i) ∧ S.2 ((0 + 32 * k) + i) = r_fu 28 (r_bk (r_lk g n k) (r_ml ho k) mo (fun t => xhe (25 * k + t))) i) ∧ (∀ q : Nat, q < 0 + 32 * k → S.1 q = vt q ∧ S.2 q = vw q)) → (k + 1 < n → vq = nI (g (k + 1))) →
            (f_MD_putChain_1_l12 xhe xtk ho 0 mo fu (k + 1) vf vq S.1 S.2).1 = vf ∧ ∀ j i : Nat, j < n → i < 32 → (f_MD_putChain_1_l12 xhe xtk ho 0 mo fu (k + 1) vf vq S.1 S.2).2.1 (32 * j + i) = nI ((768 + 32 * g j) + i) ∧ (f_MD_putChain_1_l12 xhe xtk ho 0 mo fu (k + 1) vf vq S.1 S.2).2.2 (32 * j + i) = r_pb g n ho mo xhe j i := by
          intro S vq hS hq
          refine ih (k + 1) vf vq S.1 S.2 (by omega) (by omega) hq (fun j i hj hi => ?_)
          by_cases c : j = k
          · subst c
            have := hS.1 i hi
            rw [Nat.zero_add] at this
            exact this
          · have := hS.2 (32 * j + i) (by omega)
            rw [this.1, this.2]
            exact hv j i (by omega) hi
        rw [if_neg (nI_ge (show 25 * k < ho by omega) (by omega)), nI_clamp (show g k < 2 ^ 31 by omega)]
        by_cases c25 : 25 ≤ ho - 25 * k
        · have hm : r_ml ho k = 25 := by unfold r_ml; omega
          have K := r_l125_1_0 (xhe := xhe) (ho := ho) (mn := 0) (p := g k) (k := k) (by omega) (25 + 1) 0
          rw [if_pos (show (25 : Int32) ≤ nI (ho - 25 * k) from nI_le (a := 25) c25 (by omega))]
          by_cases cl : 25 * k + 25 = ho
          · have hlk : r_lk g n k = 0 := by unfold r_lk; rw [if_neg (by omega)]
            rw [if_pos (show nI ((25 * k) + 25) = nI ho by rw [cl])]
            refine step (f_MD_putSum _ _ _ _ _) (-1) ?_ (fun q => by omega)
            rw [hm, hlk]
            exact r_plc_1 (by omega) (show (-1 : Int32) + 1 = nI 0 by decide) rfl (K _ _ (by omega) (by omega)).1 (K _ _ (by omega) (by omega)).2 (fun t ht => by rw [if_pos ht])
          · have hff := r_ff (j := k + 1) (by omega) hE hg (by omega)
            have hff2 : f_MD_freeFrom xtk (g k + 1) = nI (g (k + 1)) := hff
            have hgk1 := (hg (k + 1) (by omega)).2.1
            have hlk : r_lk g n k = g (k + 1) + 1 := by unfold r_lk; rw [if_pos (by omega)]
            rw [if_neg (show ¬ nI ((25 * k) + 25) = nI ho from fun q => cl ((nI_eq (by omega) (by omega)).mp q)), hff2, nI_clamp (show g (k + 1) < 2 ^ 31 by omega)]
            refine step (f_MD_putSum _ _ _ _ _) (nI (g (k + 1))) ?_ (fun _ => rfl)
            rw [hm, hlk]
            exact r_plc_1 (by omega) rfl rfl (K _ _ (by omega) (by omega)).1 (K _ _ (by omega) (by omega)).2 (fun t ht => by rw [if_pos ht])
        · have hm : r_ml ho k = ho - 25 * k := by unfold r_ml; omega
          have hlk : r_lk g n k = 0 := by unfold r_lk; rw [if_neg (by omega)]
          have K := r_l125_1_1 (xhe := xhe) (ho := ho) (mn := 0) (p := g k) (k := k) (by omega) (by omega) (25 + 1) 0
          rw [if_neg (show ¬ (25 : Int32) ≤ nI (ho - 25 * k) from nI_ge (b := 25) (by omega) (by omega))]
          refine step (f_MD_putSum _ _ _ _ _) (-1) ?_ (fun q => by omega)
          rw [hm, hlk]
          exact r_plc_1 (d := fun t => if t < ho - 25 * k then xhe (25 * k + t) else 0) (by omega) (show (-1 : Int32) + 1 = nI 0 by decide) rfl (K _ _ (by omega) (by omega)).1 (K _ _ (by omega) (by omega)).2 (fun t ht => rfl)
  have hff : f_MD_freeFrom xtk 0 = nI (g 0) := r_ff (j := 0) (by omega) hE hg (by omega)
  have h0 := (hg 0 (by omega)).2.1
  unfold f_MD_putChain_1
  rw [hff, nI_clamp (show g 0 < 2 ^ 31 by omega)]
  exact L (3 + 1) 0 (nI (g 0)) (nI (g 0)) xto xwa (by omega) (by omega) (fun _ => rfl) (fun j i hj => absurd hj (Nat.not_lt_zero j))
