/-! THE COMPARISON, 7: write. -/
theorem r_l100 {xtp : Nat → Int32} {td : Nat} (htd : td ≤ 60) : ∀ (fu kk : Nat) (yh : Nat → Int32), kk + fu = td + 1 → kk ≤ td → ∀ q : Nat, f_MD_write_l100 xtp td fu kk yh q = if kk ≤ q ∧ q < td then xtp q else yh q := by
  intro fu
  induction fu with
  | zero => intro kk yh a b; omega
  | succ fu ih =>
    intro kk yh a b q
    rw [f_MD_write_l100]
    by_cases hk : td ≤ kk
    · rw [if_pos (nI_le hk (by omega)), if_neg (fun c => by omega)]
    · rw [if_neg (nI_ge (by omega) (by omega)), ih (kk + 1) _ (by omega) (by omega) q]
      by_cases c1 : kk + 1 ≤ q ∧ q < td
      · rw [if_pos c1, if_pos ⟨by omega, by omega⟩]
      · rw [if_neg c1]
        by_cases c2 : q = kk
        · subst c2
          rw [r_upd_at, if_pos ⟨by omega, by omega⟩]
        · rw [r_upd_ne c2, if_neg (fun c => by omega)]
theorem r_n25' : ∀ t : Fin 61, ((nI t.val + 25) - 1) / 25 = nI ((t.val + 24) / 25) := by decide +kernel
theorem r_n25 {td : Nat} (h : td ≤ 60) : ((nI td + 25) - 1) / 25 = nI ((td + 24) / 25) := r_n25' ⟨td, by omega⟩
theorem r_tkAt {ta : Nat → Int32} {j : Nat} (hj : j < 3) : f_SF_takenAt ta (nI j) = ta j := by
  unfold f_SF_takenAt
  rw [if_neg (nI_pos (by omega)), if_neg (show ¬ (3 : Int32) ≤ nI j from nI_ge (b := 3) hj (by omega)), nI_clamp (by omega)]
theorem r_link {ta : Nat → Int32} {g : Nat → Nat} {n k : Nat} (hk : k < n) (hn : n ≤ 3) (h : ∀ j : Nat, j < n → ta j = nI (g j)) : f_SF_linkBehind ta (nI k) (nI n) = nI (r_lk g n k) := by
  unfold f_SF_linkBehind r_lk
  rw [nI_1]
  by_cases c : k + 1 < n
  · rw [if_neg (nI_ge c (by omega)), if_pos c, r_tkAt (by omega), h (k + 1) c, nI_1]
  · rw [if_pos (nI_le (by omega) (by omega)), if_neg c]; rfl
theorem r_held {td k : Nat} (htd : td ≤ 75) (hk : 25 * k < td) : (if (nI td - (nI k * 25)) < 25 then (nI td - (nI k * 25)) else 25) = nI (r_ml td k) := by
  have e : nI td - (nI k * 25) = nI (td - 25 * k) := by
    show nI td - (nI k * nI 25) = _
    rw [r_mul, r_sub (by omega), Nat.mul_comm]
  rw [e]
  unfold r_ml
  by_cases c : td - 25 * k < 25
  · rw [if_pos (show nI (td - 25 * k) < (25 : Int32) from nI_lt (b := 25) c (by omega)), show min 25 (td - 25 * k) = td - 25 * k by omega]
  · rw [if_neg (show ¬ nI (td - 25 * k) < (25 : Int32) from nI_nlt (b := 25) (by omega) (by omega)), show min 25 (td - 25 * k) = 25 by omega]; rfl
theorem r_tapeAt {tp : Nat → Int32} {td j : Nat} (h : j < td) (h2 : td ≤ 60) : f_SF_tapeAt tp (nI td) (nI j) = tp j := by
  unfold f_SF_tapeAt
  rw [if_neg (nI_pos (by omega)), if_neg (nI_ge h (by omega)), if_neg (show ¬ (60 : Int32) ≤ nI j from nI_ge (b := 60) (by omega) (by omega)), nI_clamp (by omega)]
theorem r_lk_y {g : Nat → Nat} {n k : Nat} (h : ∀ j : Nat, j < n → g j < 24) : r_lk g n k < 256 := by
  unfold r_lk
  by_cases c : k + 1 < n
  · rw [if_pos c]; have := h (k + 1) c; omega
  · rw [if_neg c]; omega
theorem r_bk_y {lk m : Nat} {mo : Int32} {d : Nat → Int32} (h1 : lk < 256) (h2 : m < 256) (h3 : r_by mo) (h4 : ∀ t : Nat, t < m → r_by (d t)) (i : Nat) : r_by (r_bk lk m mo d i) := by
  unfold r_bk
  by_cases c0 : i = 0
  · rw [if_pos c0]; exact r_by_n h1
  rw [if_neg c0]
  by_cases c1 : i = 1
  · rw [if_pos c1]; exact r_by_n h2
  rw [if_neg c1]
  by_cases c2 : i = 2
  · rw [if_pos c2]; exact h3
  rw [if_neg c2]
  by_cases c3 : i - 3 < m
  · rw [if_pos c3]; exact h4 _ c3
  · rw [if_neg c3]; exact r_by0
theorem r_ml_le (ho j : Nat) : r_ml ho j ≤ 25 ∧ r_ml ho j ≤ ho - 25 * j := by unfold r_ml; omega
theorem r_pb_y {g : Nat → Nat} {n ho : Nat} {mo : Int32} {he : Nat → Int32} (h : ∀ j : Nat, j < n → g j < 24) (h3 : r_by mo) (h4 : ∀ q : Nat, q < ho → r_by (he q)) (j i : Nat) : r_by (r_pb g n ho mo he j i) := by
  have hm := r_ml_le ho j
  exact r_fu_y (fun i _ => r_bk_y (r_lk_y h) (by omega) h3 (fun t ht => h4 _ (by omega)) i) i
theorem r_pb_E {g : Nat → Nat} {n ho : Nat} {mo : Int32} {he he' : Nat → Int32} (h : ∀ q : Nat, q < ho → he q = he' q) (j i : Nat) : r_pb g n ho mo he j i = r_pb g n ho mo he' j i := by
  have hm := r_ml_le ho j
  refine r_fu_E (fun i _ => ?_) i
  unfold r_bk
  by_cases c3 : i - 3 < r_ml ho j
  · dsimp only
    rw [h (25 * j + (i - 3)) (by omega)]
  · rw [if_neg c3, if_neg c3]
theorem r_prep {np ta tp : Nat → Int32} {td n k : Nat} {g : Nat → Nat} {mo : Int32} (hk : k < n) (hn : n ≤ 3) (htd : td ≤ 60) (h25 : 25 * k < td) (hg : ∀ j : Nat, j < n → ta j = nI (g j)) (hg24 : ∀ j : Nat, j < n → g j < 24) (hmo : r_by mo) (hy : ∀ q : Nat, q < td → r_by (tp q)) (i : Nat) (hi : i < 28) :
    f_SF_preparePlaceFromTape np ta tp (nI td) (nI k) (nI n) mo i = r_bk (r_lk g n k) (r_ml td k) mo (fun t => tp (25 * k + t)) i := by
  have hm := r_ml_le td k
  have L : ∀ (fu kk : Nat) (vn : Nat → Int32), kk + fu = 26 → kk ≤ 25 → ∀ i : Nat, f_SF_preparePlaceFromTape_l59 tp (nI td) (nI k) fu kk vn i = if 3 + kk ≤ i ∧ i < 28 then (if i - 3 < r_ml td k then tp (25 * k + (i - 3)) else 0) else vn i := by
    intro fu
    induction fu with
    | zero => intro kk vn a b; omega
    | succ fu ih =>
      intro kk vn a b i
      rw [f_SF_preparePlaceFromTape_l59, r_held (by omega) h25]
      by_cases hkk : 25 ≤ kk
      · rw [if_pos (show (25 : Int32) ≤ nI kk from nI_le (a := 25) hkk (by omega)), if_neg (fun c => by omega)]
      · have e3 : (3 : Int32) + nI kk = nI (3 + kk) := nI_add 3 kk
        rw [if_neg (show ¬ (25 : Int32) ≤ nI kk from nI_ge (b := 25) (by omega) (by omega)), e3, r_set0 (by omega) (by omega), r_set0 (by omega) (by omega)]
        have go : ∀ x : Int32, x = (if kk < r_ml td k then tp (25 * k + kk) else 0) → f_SF_preparePlaceFromTape_l59 tp (nI td) (nI k) fu (kk + 1) (upd vn (3 + kk) x) i = if 3 + kk ≤ i ∧ i < 28 then (if i - 3 < r_ml td k then tp (25 * k + (i - 3)) else 0) else vn i := by
          intro x hx
          rw [ih (kk + 1) _ (by omega) (by omega) i]
          by_cases c1 : 3 + (kk + 1) ≤ i ∧ i < 28
          · rw [if_pos c1]
            exact (if_pos ⟨by omega, by omega⟩).symm
          · rw [if_neg c1]
            by_cases c2 : i = 3 + kk
            · subst c2
              rw [r_upd_at, show 3 + kk - 3 = kk by omega, hx]
              exact (if_pos ⟨by omega, by omega⟩).symm
            · rw [r_upd_ne c2]
              exact (if_neg (fun c => by omega)).symm
        by_cases c : r_ml td k ≤ kk
        · rw [if_pos (nI_le c (by omega)), r_255 r_by0]
          exact go 0 (by rw [if_neg (by omega)])
        · have et : f_SF_tapeAt tp (nI td) ((nI k * 25) + nI kk) = tp (25 * k + kk) := by
            show f_SF_tapeAt tp (nI td) ((nI k * nI 25) + nI kk) = _
            rw [r_mul, nI_add, r_tapeAt (by omega) htd, Nat.mul_comm]
          rw [if_neg (nI_ge (by omega) (by omega)), et, r_255 (hy _ (by omega))]
          exact go _ (by rw [if_pos (by omega)])
  have e0 : ∀ x : Int32, r_by x → f_Bl_set 32 np (nI 32) 0 0 x = upd np 0 x := fun x hx => (r_set0 (j := 0) (by omega) (by omega)).trans (by rw [r_255 hx])
  have e1 : ∀ (f : Nat → Int32) (x : Int32), r_by x → f_Bl_set 32 f (nI 32) 0 1 x = upd f 1 x := fun f x hx => (r_set0 (j := 1) (by omega) (by omega)).trans (by rw [r_255 hx])
  have e2 : ∀ (f : Nat → Int32) (x : Int32), r_by x → f_Bl_set 32 f (nI 32) 0 2 x = upd f 2 x := fun f x hx => (r_set0 (j := 2) (by omega) (by omega)).trans (by rw [r_255 hx])
  unfold f_SF_preparePlaceFromTape
  rw [r_link hk hn hg, r_held (by omega) h25, e0 _ (r_by_n (r_lk_y hg24)), e1 _ _ (r_by_n (by omega)), e2 _ _ hmo, L (25 + 1) 0 _ (by omega) (by omega) i]
  by_cases c : 3 ≤ i
  · rw [if_pos ⟨by omega, by omega⟩]
    by_cases cm : i - 3 < r_ml td k
    · rw [if_pos cm, r_bk3 c cm]
    · rw [if_neg cm, r_bk4 c cm]
  · rw [if_neg (fun d => by omega)]
    rcases (show i = 0 ∨ i = 1 ∨ i = 2 by omega) with rfl | rfl | rfl
    · rw [r_upd_ne (by omega), r_upd_ne (by omega), r_upd_at, r_bk0]
    · rw [r_upd_ne (by omega), r_upd_at, r_bk1]
    · rw [r_upd_at, r_bk2]
theorem r_pplace {np vf v : Nat → Int32} {p X : Nat} (hp : p < 24) (hX : X < 2 ^ 31) (hv : ∀ i : Nat, i < 32 → r_fu 28 np i = v i ∧ r_by (v i)) : (f_SF_putPlace_f vf np (nI X) (nI p)).2.1 = r_ap vf (32 * p) (min 32 X) v ∧ (f_SF_putPlace_f vf np (nI X) (nI p)).2.2 = nI (X - min 32 X) := by
  have e := r_put_nf (vf := vf) (np := f_SF_setSum 32 np 28) (v := v) hp hX (fun i hi => ⟨by rw [r_setSum rfl (by omega) i hi]; exact (hv i hi).1, (hv i hi).2⟩)
  unfold f_SF_putPlace_f
  rw [e]
  exact ⟨rfl, rfl⟩
/-- the class's way through the places that it writes -/
theorem r_wl {fl tb np nt mp us ta tp : Nat → Int32} {mc mb mh mm cu sh ro mo : Int32} {td n X : Nat} {g : Nat → Nat} (hn : n = (td + 24) / 25) (h1 : 1 ≤ td) (htd : td ≤ 60) (hX : X < 2 ^ 20)
    (hg : ∀ j : Nat, j < n → (f_SF_takePlaces_0 fl tb mp mc mb mh mm us ta (nI n)).2.2.2.2.2.2.2 j = nI (g j)) (hg24 : ∀ j : Nat, j < n → g j < 24) (hmo : r_by mo) (hy : ∀ q : Nat, q < td → r_by (tp q)) :
    ∀ (fu k : Nat) (vn : Nat → Int32), k + fu = n + 1 → k ≤ n → ∃ vn' : Nat → Int32, f_SF_write_l98 fl tb nt mp mc mb mh mm us ta tp (nI td) cu sh ro mo fu k vn (r_sq fl 0 g (r_pb g n td mo tp) X k) (nI (X - 32 * k)) = f_SF_write_l98 fl tb nt mp mc mb mh mm us ta tp (nI td) cu sh ro mo (0 + 1) n vn' (r_sq fl 0 g (r_pb g n td mo tp) X n) (nI (X - 32 * n)) := by
  intro fu
  induction fu with
  | zero => intro k vn a b; omega
  | succ fu ih =>
    intro k vn a b
    by_cases hk : n ≤ k
    · have e1 : k = n := by omega
      have e2 : fu = 0 := by omega
      subst e1
      subst e2
      exact ⟨vn, rfl⟩
    · have hgk := hg24 k (by omega)
      have P := r_pplace (vf := r_sq fl 0 g (r_pb g n td mo tp) X k) (np := f_SF_preparePlaceFromTape vn (f_SF_takePlaces_0 fl tb mp mc mb mh mm us ta (nI n)).2.2.2.2.2.2.2 tp (nI td) (nI k) (nI n) mo) (v := r_pb g n td mo tp k) (X := X - 32 * k) hgk (by omega) (fun i hi => ⟨r_fu_E (fun j hj => r_prep (by omega) (by omega) htd (by omega) hg hg24 hmo hy j hj) i, r_pb_y hg24 hmo hy k i⟩)
      rw [f_SF_write_l98, r_n25 htd, ← hn, if_neg (nI_ge (show k < n by omega) (by omega)), r_tkAt (by omega), hg k (by omega), P.1, P.2, show X - 32 * k - min 32 (X - 32 * k) = X - 32 * (k + 1) by omega]
      have e : r_ap (r_sq fl 0 g (r_pb g n td mo tp) X k) (32 * g k) (min 32 (X - 32 * k)) (r_pb g n td mo tp k) = r_sq fl 0 g (r_pb g n td mo tp) X (k + 1) := by
        rw [r_sq, Nat.zero_add]
      rw [e]
      exact ih (k + 1) _ (by omega) (by omega)
/-- what stays as it was in the reference when a write is refused -/
def r_Q (c : Int32) (xB : Nat → Int32) (xsh xcu xtd : Int32) {β : Type} (w : Int32 × Int32 × (Nat → Int32) × Int32 × Int32 × Int32 × β) : Prop := w.2.1 = c ∧ w.2.2.1 = xB ∧ w.2.2.2.1 = xsh ∧ w.2.2.2.2.1 = xcu ∧ w.2.2.2.2.2.1 = xtd
theorem r_Ppos {α : Type} {P : α → Prop} {c : Prop} [Decidable c] {a b : α} (h : c) (k : P a) : P (if c then a else b) := by rw [if_pos h]; exact k
theorem r_Pneg {α : Type} {P : α → Prop} {c : Prop} [Decidable c] {a b : α} (h : ¬ c) (k : P b) : P (if c then a else b) := by rw [if_neg h]; exact k
theorem r_Pite {α : Type} {P : α → Prop} {c : Prop} [Decidable c] {a b : α} (h1 : c → P a) (h2 : ¬ c → P b) : P (if c then a else b) := by
  by_cases h : c
  · rw [if_pos h]; exact h1 h
  · rw [if_neg h]; exact h2 h

set_option maxHeartbeats 1000000 in
set_option maxRecDepth 100000 in
theorem r_Mw1 (xB : Nat → Int32) (xsh : Int32) (xcu : Int32) (xtp : Nat → Int32) (xpa : Nat → Int32) (xsp : Int32) (xwh : Int32) (xhe : Nat → Int32) (xho : Int32) (xtk : Nat → Int32) (xto : Nat → Int32) (xwa : Nat → Int32) (xmn : Int32) (td : Nat) (ro : Int32) (mo : Int32) (h : f_MD_in ro 0 11 = 0) : r_Q 1 xB xsh xcu (nI td) (f_MD_write xB xsh xcu xtp xpa xsp xwh xhe xho xtk xto xwa xmn td ro mo) := by
  unfold f_MD_write
  exact (r_Pite (fun h1 => (r_Ppos h (r_Pite (fun h2 => (r_Pite (fun h3 => (r_Pite (fun h4 => ⟨rfl, rfl, rfl, rfl, rfl⟩) (fun h4 => ⟨rfl, rfl, rfl, rfl, rfl⟩))) (fun h3 => (r_Pite (fun h5 => ⟨rfl, rfl, rfl, rfl, rfl⟩) (fun h5 => ⟨rfl, rfl, rfl, rfl, rfl⟩))))) (fun h2 => (r_Pite (fun h6 => ⟨rfl, rfl, rfl, rfl, rfl⟩) (fun h6 => ⟨rfl, rfl, rfl, rfl, rfl⟩)))))) (fun h1 => (r_Ppos h (r_Pite (fun h7 => (r_Pite (fun h8 => (r_Pite (fun h9 => ⟨rfl, rfl, rfl, rfl, rfl⟩) (fun h9 => ⟨rfl, rfl, rfl, rfl, rfl⟩))) (fun h8 => (r_Pite (fun h10 => ⟨rfl, rfl, rfl, rfl, rfl⟩) (fun h10 => ⟨rfl, rfl, rfl, rfl, rfl⟩))))) (fun h7 => (r_Pite (fun h11 => ⟨rfl, rfl, rfl, rfl, rfl⟩) (fun h11 => ⟨rfl, rfl, rfl, rfl, rfl⟩)))))))
set_option maxHeartbeats 1000000 in
set_option maxRecDepth 100000 in
theorem r_Mw2 (xB : Nat → Int32) (xsh : Int32) (xcu : Int32) (xtp : Nat → Int32) (xpa : Nat → Int32) (xsp : Int32) (xwh : Int32) (xhe : Nat → Int32) (xho : Int32) (xtk : Nat → Int32) (xto : Nat → Int32) (xwa : Nat → Int32) (xmn : Int32) (td : Nat) (ro : Int32) (mo : Int32) (h : ¬ f_MD_in ro 0 11 = 0) (h2 : ¬ xsh = 0) : r_Q 2 xB xsh xcu (nI td) (f_MD_write xB xsh xcu xtp xpa xsp xwh xhe xho xtk xto xwa xmn td ro mo) := by
  unfold f_MD_write
  exact (r_Pite (fun h1 => (r_Pneg h (r_Pneg h2 (r_Pite (fun h2 => ⟨rfl, rfl, rfl, rfl, rfl⟩) (fun h2 => ⟨rfl, rfl, rfl, rfl, rfl⟩))))) (fun h1 => (r_Pneg h (r_Pneg h2 (r_Pite (fun h3 => ⟨rfl, rfl, rfl, rfl, rfl⟩) (fun h3 => ⟨rfl, rfl, rfl, rfl, rfl⟩))))))
set_option maxHeartbeats 1000000 in
set_option maxRecDepth 100000 in
theorem r_Mw3 (xB : Nat → Int32) (xsh : Int32) (xcu : Int32) (xtp : Nat → Int32) (xpa : Nat → Int32) (xsp : Int32) (xwh : Int32) (xhe : Nat → Int32) (xho : Int32) (xtk : Nat → Int32) (xto : Nat → Int32) (xwa : Nat → Int32) (xmn : Int32) (td : Nat) (ro : Int32) (mo : Int32) (h : ¬ f_MD_in ro 0 11 = 0) (h2 : xsh = 0) (h3 : nI td = 0) : r_Q 2 xB xsh xcu (nI td) (f_MD_write xB xsh xcu xtp xpa xsp xwh xhe xho xtk xto xwa xmn td ro mo) := by
  unfold f_MD_write
  exact (r_Pite (fun h1 => (r_Pneg h (r_Ppos h2 (r_Ppos h3 (r_Pite (fun h2 => ⟨rfl, rfl, rfl, rfl, rfl⟩) (fun h2 => ⟨rfl, rfl, rfl, rfl, rfl⟩)))))) (fun h1 => (r_Pneg h (r_Ppos h2 (r_Ppos h3 (r_Pite (fun h3 => ⟨rfl, rfl, rfl, rfl, rfl⟩) (fun h3 => ⟨rfl, rfl, rfl, rfl, rfl⟩)))))))
set_option maxHeartbeats 1000000 in
set_option maxRecDepth 100000 in
theorem r_Mw4 (xB : Nat → Int32) (xsh : Int32) (xcu : Int32) (xtp : Nat → Int32) (xpa : Nat → Int32) (xsp : Int32) (xwh : Int32) (xhe : Nat → Int32) (xho : Int32) (xtk : Nat → Int32) (xto : Nat → Int32) (xwa : Nat → Int32) (xmn : Int32) (td : Nat) (ro : Int32) (mo : Int32) (h : ¬ f_MD_in ro 0 11 = 0) (h2 : xsh = 0) (h3 : ¬ nI td = 0) (h4 : f_MD_in mo 0 11 = 0) : r_Q 3 xB xsh xcu (nI td) (f_MD_write xB xsh xcu xtp xpa xsp xwh xhe xho xtk xto xwa xmn td ro mo) := by
  unfold f_MD_write
  exact (r_Pite (fun h1 => (r_Pneg h (r_Ppos h2 (r_Pneg h3 (r_Ppos h4 ⟨rfl, rfl, rfl, rfl, rfl⟩))))) (fun h1 => (r_Pneg h (r_Ppos h2 (r_Pneg h3 (r_Ppos h4 ⟨rfl, rfl, rfl, rfl, rfl⟩))))))
set_option maxHeartbeats 1000000 in
set_option maxRecDepth 100000 in
theorem r_Mw5 (xB : Nat → Int32) (xsh : Int32) (xcu : Int32) (xtp : Nat → Int32) (xpa : Nat → Int32) (xsp : Int32) (xwh : Int32) (xhe : Nat → Int32) (xho : Int32) (xtk : Nat → Int32) (xto : Nat → Int32) (xwa : Nat → Int32) (xmn : Int32) (td : Nat) (ro : Int32) (mo : Int32) (h : ¬ f_MD_in ro 0 11 = 0) (h2 : xsh = 0) (h3 : ¬ nI td = 0) (h4 : ¬ f_MD_in mo 0 11 = 0) (h5 : (f_MD_findTaken_0 xB xpa xsp xwh xhe xho xtk).1 < (nI (((td + 25) - 1) / 25))) : r_Q 4 xB xsh xcu (nI td) (f_MD_write xB xsh xcu xtp xpa xsp xwh xhe xho xtk xto xwa xmn td ro mo) := by
  unfold f_MD_write
  exact (r_Ppos h5 (r_Pneg h (r_Ppos h2 (r_Pneg h3 (r_Pneg h4 ⟨rfl, rfl, rfl, rfl, rfl⟩)))))
/-- what a write leaves in the reference -/
def r_Q6 (N : Int32) (C : Int32 × (Nat → Int32) × Int32) {β : Type} (w : Int32 × Int32 × (Nat → Int32) × Int32 × Int32 × Int32 × β) : Prop := w.2.1 = 0 ∧ w.1 = (if C.1 = 0 then -1 else N) ∧ w.2.2.1 = C.2.1 ∧ w.2.2.2.1 = C.2.2 ∧ w.2.2.2.2.1 = -1 ∧ w.2.2.2.2.2.1 = 0
set_option maxHeartbeats 1000000 in
set_option maxRecDepth 100000 in
theorem r_Mw6 (xB : Nat → Int32) (xsh : Int32) (xcu : Int32) (xtp : Nat → Int32) (xpa : Nat → Int32) (xsp : Int32) (xwh : Int32) (xhe : Nat → Int32) (xho : Int32) (xtk : Nat → Int32) (xto : Nat → Int32) (xwa : Nat → Int32) (xmn : Int32) (td : Nat) (ro : Int32) (mo : Int32) (h : ¬ f_MD_in ro 0 11 = 0) (h2 : xsh = 0) (h3 : ¬ nI td = 0) (h4 : ¬ f_MD_in mo 0 11 = 0) (h5 : ¬ (f_MD_findTaken_0 xB xpa xsp xwh xhe xho xtk).1 < (nI (((td + 25) - 1) / 25))) : r_Q6 (nI (((td + 25) - 1) / 25)) (f_MD_comes xB xsh xcu (f_MD_putTable xB (f_MD_putChain_0 (f_MD_write_l100 xtp td (td + 1) 0 (f_MD_findTaken_0 xB xpa xsp xwh xhe xho xtk).2.2.2.2.2.1) (f_MD_findTaken_0 xB xpa xsp xwh xhe xho xtk).2.1 xto xwa td 0 mo).2.1 (f_MD_putChain_0 (f_MD_write_l100 xtp td (td + 1) 0 (f_MD_findTaken_0 xB xpa xsp xwh xhe xho xtk).2.2.2.2.2.1) (f_MD_findTaken_0 xB xpa xsp xwh xhe xho xtk).2.1 xto xwa td 0 mo).2.2 (0 + 32 * ((td + 24) / 25)) (ro.toNatClampNeg) ((f_MD_putChain_0 (f_MD_write_l100 xtp td (td + 1) 0 (f_MD_findTaken_0 xB xpa xsp xwh xhe xho xtk).2.2.2.2.2.1) (f_MD_findTaken_0 xB xpa xsp xwh xhe xho xtk).2.1 xto xwa td 0 mo).1 + 1) 0).1 (f_MD_putTable xB (f_MD_putChain_0 (f_MD_write_l100 xtp td (td + 1) 0 (f_MD_findTaken_0 xB xpa xsp xwh xhe xho xtk).2.2.2.2.2.1) (f_MD_findTaken_0 xB xpa xsp xwh xhe xho xtk).2.1 xto xwa td 0 mo).2.1 (f_MD_putChain_0 (f_MD_write_l100 xtp td (td + 1) 0 (f_MD_findTaken_0 xB xpa xsp xwh xhe xho xtk).2.2.2.2.2.1) (f_MD_findTaken_0 xB xpa xsp xwh xhe xho xtk).2.1 xto xwa td 0 mo).2.2 (0 + 32 * ((td + 24) / 25)) (ro.toNatClampNeg) ((f_MD_putChain_0 (f_MD_write_l100 xtp td (td + 1) 0 (f_MD_findTaken_0 xB xpa xsp xwh xhe xho xtk).2.2.2.2.2.1) (f_MD_findTaken_0 xB xpa xsp xwh xhe xho xtk).2.1 xto xwa td 0 mo).1 + 1) 0).2 ((0 + 32 * ((td + 24) / 25)) + 40)) (f_MD_write xB xsh xcu xtp xpa xsp xwh xhe xho xtk xto xwa xmn td ro mo) := by
  unfold f_MD_write
  exact (r_Pneg h5 (r_Pneg h (r_Ppos h2 (r_Pneg h3 (r_Pneg h4 (r_Pite (fun h1 => ⟨rfl, (if_pos h1).symm, rfl, rfl, rfl, rfl⟩) (fun h1 => ⟨rfl, (if_neg h1).symm, rfl, rfl, rfl, rfl⟩)))))))
/-- what must hold behind a write -/
def r_Wr (sl : Nat → Int32) (td : Nat) (r : Int32 × Int32 × (Nat → Int32) × (Nat → Int32) × (Nat → Int32) × (Nat → Int32) × (Nat → Int32) × (Nat → Int32) × Int32 × Int32 × Int32 × Int32 × (Nat → Int32) × Int32 × Int32 × Int32 × Int32 × Int32) {β : Type} (w : Int32 × Int32 × (Nat → Int32) × Int32 × Int32 × Int32 × β) : Prop :=
  r_C 1 2 3 4 r w ∧ r_B r.2.2.1 sl r.2.2.2.1 w.2.2.1 ∧ (∀ k : Nat, 25 ≤ k → k < 36 → r.2.2.2.2.2.1 k = 0) ∧ (∃ z : Nat, z ≤ td ∧ r.2.2.2.2.2.2.2.2.2.2.2.2.2.1 = nI z ∧ w.2.2.2.2.2.1 = nI z) ∧ r.2.2.2.2.2.2.2.2.2.2.2.2.2.2.1 = w.2.2.2.2.1 ∧ r_cu r.2.2.2.2.2.2.2.2.2.2.2.2.2.2.1 ∧ r.2.2.2.2.2.2.2.2.2.2.2.2.2.2.2.2.2 = w.2.2.2.1 ∧ (r.2.2.2.2.2.2.2.2.2.2.2.2.2.2.2.2.2 = 0 ∨ r.2.2.2.2.2.2.2.2.2.2.2.2.2.2.2.2.2 = 1)
theorem r_Wmk {sl F T np N us mp ta : Nat → Int32} {td : Nat} {c a mc mb mh mm tl cu bl pf sh : Int32} {β : Type} {w : Int32 × Int32 × (Nat → Int32) × Int32 × Int32 × Int32 × β} (h1 : w.2.1 = lw_c 1 2 3 4 c) (h2 : c = 0 → a = w.1) (h3 : r_B F sl T w.2.2.1) (h4 : ∀ k : Nat, 25 ≤ k → k < 36 → N k = 0) (h5 : ∃ z : Nat, z ≤ td ∧ tl = nI z ∧ w.2.2.2.2.2.1 = nI z) (h6 : cu = w.2.2.2.2.1) (h7 : r_cu cu) (h8 : sh = w.2.2.2.1) (h9 : sh = 0 ∨ sh = 1) :
    r_Wr sl td (c, a, F, T, np, N, us, mp, mc, mb, mh, mm, ta, tl, cu, bl, pf, sh) w := ⟨⟨h1, h2⟩, h3, h4, h5, h6, h7, h8, h9⟩
theorem r_Wno {fl sl tb xB np nt : Nat → Int32} (h : r_B fl sl tb xB) (hz : ∀ k : Nat, 25 ≤ k → k < 36 → nt k = 0) {td : Nat} {cu sh : Int32} (hcu : r_cu cu) (hsh : sh = 0 ∨ sh = 1) {c d : Int32} (hc : ¬ c = 0) (hd : d = lw_c 1 2 3 4 c) {us mp ta : Nat → Int32} {mc mb mh mm bl pf : Int32} {β : Type} {w : Int32 × Int32 × (Nat → Int32) × Int32 × Int32 × Int32 × β} (hw : r_Q d xB sh cu (nI td) w) :
    r_Wr sl td (c, 0, fl, tb, np, nt, us, mp, mc, mb, mh, mm, ta, nI td, cu, bl, pf, sh) w := by
  obtain ⟨w1, w2, w3, w4, w5⟩ := hw
  exact r_Wmk (w1.trans hd) (fun q => absurd q hc) (by rw [w2]; exact h) hz ⟨td, Nat.le_refl _, rfl, w5⟩ w4.symm hcu w3.symm hsh
set_option maxHeartbeats 2000000 in
set_option maxRecDepth 100000 in
theorem r_wri {fl sl tb xB nt : Nat → Int32} (h : r_B fl sl tb xB) (hz : ∀ k : Nat, 25 ≤ k → k < 36 → nt k = 0) {cu sh : Int32} (hcu : r_cu cu) (hsh : sh = 0 ∨ sh = 1) {tp xtp : Nat → Int32} {td : Nat} (htd : td ≤ 60) (htp : ∀ k : Nat, k < td → tp k = xtp k ∧ r_by (tp k)) (np mp us ta xpa xhe xtk xto xwa : Nat → Int32) (mc mb mh mm bl pf xsp xwh xho xmn ro mo : Int32) :
    r_Wr sl td (f_SF_write fl tb np nt mp mc mb mh mm us ta tp (nI td) cu bl pf sh ro mo) (f_MD_write xB sh cu xtp xpa xsp xwh xhe xho xtk xto xwa xmn td ro mo) := by
  by_cases hr : f_SF_isRow ro = 0
  · have W := r_Mw1 xB sh cu xtp xpa xsp xwh xhe xho xtk xto xwa xmn td ro mo (by rw [r_rowin]; exact hr)
    unfold f_SF_write
    rw [if_pos hr]
    exact r_Wno h hz hcu hsh (by decide) (by decide) W
  have hr2 : ¬ f_MD_in ro 0 11 = 0 := by rw [r_rowin]; exact hr
  by_cases s : sh = 0
  rotate_left
  · have W := r_Mw2 xB sh cu xtp xpa xsp xwh xhe xho xtk xto xwa xmn td ro mo hr2 s
    unfold f_SF_write
    rw [if_neg hr, if_neg s]
    exact r_Wno h hz hcu hsh (by decide) (by decide) W
  by_cases t0 : nI td = 0
  · have W := r_Mw3 xB sh cu xtp xpa xsp xwh xhe xho xtk xto xwa xmn td ro mo hr2 s t0
    unfold f_SF_write
    rw [if_neg hr, if_pos s, if_pos t0]
    exact r_Wno h hz hcu hsh (by decide) (by decide) W
  by_cases m0 : f_SF_isMonth mo = 0
  · have W := r_Mw4 xB sh cu xtp xpa xsp xwh xhe xho xtk xto xwa xmn td ro mo hr2 s t0 (by rw [r_monin]; exact m0)
    unfold f_SF_write
    rw [if_neg hr, if_pos s, if_neg t0, if_pos m0]
    exact r_Wno h hz hcu hsh (by decide) (by decide) W
  have m2 : ¬ f_MD_in mo 0 11 = 0 := by rw [r_monin]; exact m0
  have t1 : 1 ≤ td := by
    rcases Nat.eq_zero_or_pos td with q | q
    · exact absurd (by rw [q]; rfl) t0
    · exact q
  obtain ⟨n, hn⟩ : ∃ n : Nat, n = (td + 24) / 25 := ⟨_, rfl⟩
  have en : ((nI td + 25) - 1) / 25 = nI n := by rw [r_n25 htd, hn]
  have en2 : ((td + 25) - 1) / 25 = n := by rw [hn]; rfl
  have FT := r_ft_0 h xpa xhe xtk mp us xsp xwh xho mc mb mh mm
  have hle := r_cz_le (f_SF_markUsed_0 fl tb mp mc mb mh mm us).1 24
  have TK := r_take_0 (fl := fl) (tb := tb) (mp := mp) (us := us) (ta := ta) (mc := mc) (mb := mb) (mh := mh) (mm := mm) (n := n) (by omega)
  by_cases room : n ≤ r_cz (f_SF_markUsed_0 fl tb mp mc mb mh mm us).1 24
  rotate_left
  · have W := r_Mw5 xB sh cu xtp xpa xsp xwh xhe xho xtk xto xwa xmn td ro mo hr2 s t0 m2 (by rw [FT.1, en2]; exact nI_lt (by omega) (by omega))
    unfold f_SF_write
    rw [if_neg hr, if_pos s, if_neg t0, if_neg m0, en, if_pos (TK.2 room)]
    exact r_Wno h hz hcu hsh (by decide) (by decide) W
  have W := r_Mw6 xB sh cu xtp xpa xsp xwh xhe xho xtk xto xwa xmn td ro mo hr2 s t0 m2 (by rw [FT.1, en2]; exact nI_nlt room (by omega))
  rw [en2] at W
  obtain ⟨hT1, g, hpk, hgT⟩ := TK.1 room
  have hg24 : ∀ j : Nat, j < n → g j < 24 := fun j hj => (hpk j hj).2.1
  have hg0 := hg24 0 (by omega)
  obtain ⟨r, hr12, rfl⟩ := r_isRow hr
  subst s
  have hmo : r_by mo := by
    obtain ⟨j, hj, e⟩ := lw_inr (B := 11) (by omega) m2
    rw [e]; exact r_by_n (by omega)
  have hyt : ∀ q : Nat, q < td → r_by (tp q) := fun q hq => (htp q hq).2
  obtain ⟨X, pf', hX, hpf, eb, ec⟩ := r_comes hcu n (by omega)
  have hnt := r_nt2 xB
  have hfi : r_by (nI (g 0) + 1) := by rw [nI_1]; exact r_by_n (by omega)
  -- the reference
  have PCH := r_pc_0 (xhe := f_MD_write_l100 xtp td (td + 1) 0 (f_MD_findTaken_0 xB xpa xsp xwh xhe xho xtk).2.2.2.2.2.1) (xtk := (f_MD_findTaken_0 xB xpa xsp xwh xhe xho xtk).2.1) (xto := xto) (xwa := xwa) (ho := td) (mo := mo) (by omega) (by omega) (by omega) (by omega) FT.2 hpk
  have PTB := r_pt (xB := xB) (xto := (f_MD_putChain_0 (f_MD_write_l100 xtp td (td + 1) 0 (f_MD_findTaken_0 xB xpa xsp xwh xhe xho xtk).2.2.2.2.2.1) (f_MD_findTaken_0 xB xpa xsp xwh xhe xho xtk).2.1 xto xwa td 0 mo).2.1) (xwa := (f_MD_putChain_0 (f_MD_write_l100 xtp td (td + 1) 0 (f_MD_findTaken_0 xB xpa xsp xwh xhe xho xtk).2.2.2.2.2.1) (f_MD_findTaken_0 xB xpa xsp xwh xhe xho xtk).2.1 xto xwa td 0 mo).2.2) (mn := 0 + 32 * ((td + 24) / 25)) (fi := nI (g 0) + 1) (sw := 0) hr12 (by omega)
  have ec0 : (f_MD_comes xB 0 cu (f_MD_putTable xB (f_MD_putChain_0 (f_MD_write_l100 xtp td (td + 1) 0 (f_MD_findTaken_0 xB xpa xsp xwh xhe xho xtk).2.2.2.2.2.1) (f_MD_findTaken_0 xB xpa xsp xwh xhe xho xtk).2.1 xto xwa td 0 mo).2.1 (f_MD_putChain_0 (f_MD_write_l100 xtp td (td + 1) 0 (f_MD_findTaken_0 xB xpa xsp xwh xhe xho xtk).2.2.2.2.2.1) (f_MD_findTaken_0 xB xpa xsp xwh xhe xho xtk).2.1 xto xwa td 0 mo).2.2 (0 + 32 * ((td + 24) / 25)) ((nI r).toNatClampNeg) ((f_MD_putChain_0 (f_MD_write_l100 xtp td (td + 1) 0 (f_MD_findTaken_0 xB xpa xsp xwh xhe xho xtk).2.2.2.2.2.1) (f_MD_findTaken_0 xB xpa xsp xwh xhe xho xtk).2.1 xto xwa td 0 mo).1 + 1) 0).1 (f_MD_putTable xB (f_MD_putChain_0 (f_MD_write_l100 xtp td (td + 1) 0 (f_MD_findTaken_0 xB xpa xsp xwh xhe xho xtk).2.2.2.2.2.1) (f_MD_findTaken_0 xB xpa xsp xwh xhe xho xtk).2.1 xto xwa td 0 mo).2.1 (f_MD_putChain_0 (f_MD_write_l100 xtp td (td + 1) 0 (f_MD_findTaken_0 xB xpa xsp xwh xhe xho xtk).2.2.2.2.2.1) (f_MD_findTaken_0 xB xpa xsp xwh xhe xho xtk).2.1 xto xwa td 0 mo).2.2 (0 + 32 * ((td + 24) / 25)) ((nI r).toNatClampNeg) ((f_MD_putChain_0 (f_MD_write_l100 xtp td (td + 1) 0 (f_MD_findTaken_0 xB xpa xsp xwh xhe xho xtk).2.2.2.2.2.1) (f_MD_findTaken_0 xB xpa xsp xwh xhe xho xtk).2.1 xto xwa td 0 mo).1 + 1) 0).2 ((0 + 32 * ((td + 24) / 25)) + 40)) = (1 - pf', r_ap (r_sq xB 0 g (r_pb g n td mo tp) X n) (1280 + 40 * r_nt xB) (min 40 (X - 32 * n)) (r_fu 36 (r_tv xB r (r_nu xB) (nI (g 0) + 1) 0)), pf') := by
    subst hn
    rw [nI_clamp (show r < 2 ^ 31 by omega), PCH.1]
    refine (ec xB _ _).trans ?_
    rw [r_csq (n := (td + 24) / 25) (off := 0) (g := g) (v := r_pb g ((td + 24) / 25) td mo tp) (t := r_nt xB) (tv := r_fu 36 (r_tv xB r (r_nu xB) (nI (g 0) + 1) 0)) hX (by omega) hg24 hnt ?_ ?_]
    · intro j i hj hi
      have A := PTB.2 (32 * j + i) (by omega)
      have B := PCH.2 j i hj hi
      rw [A.1, A.2, B.1, B.2]
      refine ⟨rfl, r_pb_E (fun q hq => ?_) j i⟩
      rw [r_l100 htd (td + 1) 0 _ (by omega) (by omega) q, if_pos ⟨by omega, hq⟩]
      exact ((htp q hq).1).symm
    · intro i hi
      have A := PTB.1 i hi
      rw [show 0 + 32 * ((td + 24) / 25) + i = 32 * ((td + 24) / 25) + i by omega] at A
      exact A
  rw [ec0] at W
  -- the class
  obtain ⟨vn', ew⟩ := r_wl (np := np) (nt := nt) (cu := cu) (sh := 0) (ro := nI r) (X := X) hn t1 htd (by omega) hgT hg24 hmo hyt (n + 1) 0 np (by omega) (by omega)
  have ew : f_SF_write_l98 fl tb nt mp mc mb mh mm us ta tp (nI td) cu 0 (nI r) mo (n + 1) 0 np fl (nI X) = f_SF_write_l98 fl tb nt mp mc mb mh mm us ta tp (nI td) cu 0 (nI r) mo (0 + 1) n vn' (r_sq fl 0 g (r_pb g n td mo tp) X n) (nI (X - 32 * n)) := ew
  have et : f_SF_takenAt (f_SF_takePlaces_0 fl tb mp mc mb mh mm us ta (nI n)).2.2.2.2.2.2.2 0 = nI (g 0) := (r_tkAt (j := 0) (by omega)).trans (hgT 0 (by omega))
  have T := r_ct h hz (X := X - 32 * n) hr12 (by omega) hfi r_by0
  unfold f_SF_write
  rw [if_neg hr, if_pos rfl, if_neg t0, if_neg m0, en, if_neg (by rw [hT1]; decide), eb, nI_clamp (show n < 2 ^ 31 by omega)]
  show r_Wr sl td (f_SF_write_l98 fl tb nt mp mc mb mh mm us ta tp (nI td) cu 0 (nI r) mo (n + 1) 0 np fl (nI X)) _
  rw [ew, f_SF_write_l98, en, if_pos (nI_le (Nat.le_refl n) (by omega)), et, eb]
  obtain ⟨w1, w2, w3, w4, w5, w6⟩ := W
  have hB : r_B (r_sq fl 0 g (r_pb g n td mo tp) X n) sl (f_SF_putTable tb nt (nI (X - 32 * n)) (nI r) (nI (g 0) + 1) 0).2.1 (r_ap (r_sq xB 0 g (r_pb g n td mo tp) X n) (1280 + 40 * r_nt xB) (min 40 (X - 32 * n)) (r_fu 36 (r_tv xB r (r_nu xB) (nI (g 0) + 1) 0))) := by
    rw [T.1]
    exact (r_sq_0 h (X := X) hg24 (fun j i _ _ => r_pb_y hg24 hmo hyt j i) n (Nat.le_refl n)).tab hnt (by omega) (fun i hi => r_fu_y (fun j hj => r_tv_y h hfi r_by0 j hj) i)
  have hm : r_cu (-1) := Or.inl rfl
  dsimp only at w2 w3 w4 ⊢
  rcases hpf with ⟨rfl, _⟩ | rfl
  · rw [if_neg (show ¬ (1 : Int32) - 0 = 0 by decide)] at w2
    rw [r_end0, if_neg (show ¬ ((1, 0) : Int32 × Int32).1 = 0 by decide)]
    exact r_Wmk (w1.trans (by decide)) (fun _ => w2.symm) (by rw [w3]; exact hB) T.2 ⟨0, by omega, rfl, w6⟩ w5.symm hm w4.symm (Or.inl rfl)
  · rw [if_pos (show (1 : Int32) - 1 = 0 by decide)] at w2
    rw [r_end1, if_pos (show ((0, 1) : Int32 × Int32).1 = 0 by decide)]
    exact r_Wmk (w1.trans (by decide)) (fun _ => w2.symm) (by rw [w3]; exact hB) T.2 ⟨0, by omega, rfl, w6⟩ w5.symm hm w4.symm (Or.inr rfl)

