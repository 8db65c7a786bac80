/-! class and reference at the first call (printed by wip/gen) -/
theorem sf_Ppos {α : Type} {P : α → Prop} {c : Prop} [Decidable c] {a b : α} (h : c) (k : P a) : P (if c then a else b) := by rw [if_pos h]; exact k
theorem sf_Pneg {α : Type} {P : α → Prop} {c : Prop} [Decidable c] {a b : α} (h : ¬ c) (k : P b) : P (if c then a else b) := by rw [if_neg h]; exact k
theorem sf_Pite {α : Type} {P : α → Prop} {c : Prop} [Decidable c] {a b : α} (h1 : c → P a) (h2 : ¬ c → P b) : P (if c then a else b) := by
  by_cases h : c
  · rw [if_pos h]; exact h1 h
  · rw [if_neg h]; exact h2 h
/-- the first two parts of a result -/
def z_r (c a : Int32) {β : Type} (r : Int32 × Int32 × β) : Prop := r.1 = c ∧ r.2.1 = a
def z_q (c a : Int32) (r : Int32 × Int32) : Prop := r.1 = c ∧ r.2 = a
set_option maxRecDepth 100000 in
theorem z_cnt : f_SF_countingTable (fun _ => 0) = -1 := by decide +kernel
set_option maxRecDepth 100000 in
theorem z_cntM : f_MD_counting (fun _ => 0) = -1 := by decide +kernel
theorem z_first (ro sw : Int32) : f_SF_firstOf (fun _ => 0) (f_SF_countingTable (fun _ => 0)) ro sw = 0 := by
  rw [z_cnt]; unfold f_SF_firstOf; rw [if_pos rfl]
theorem z_there (ro : Int32) : f_SF_isThere (fun _ => 0) ro = 0 := by
  unfold f_SF_isThere; rw [if_pos (z_first ro 0), if_pos (z_first ro 1)]
theorem z_entry (k : Nat) : f_MD_entry (fun _ => 0) k = 0 := by
  unfold f_MD_entry; rw [if_pos z_cntM]
theorem z_slowM (ro : Nat) : f_MD_isSlow (fun _ => 0) ro = 0 := by
  unfold f_MD_isSlow; rw [if_pos (z_entry _)]
theorem z_thereM (ro : Nat) : f_MD_isThere (fun _ => 0) ro = 0 := by
  unfold f_MD_isThere; rw [if_pos (z_entry _), if_pos (z_slowM _)]
theorem z_row (ro : Int32) : f_MD_in ro 0 11 = f_SF_isRow ro := lw_cell 11 (by omega) ro
theorem z_month (mo : Int32) : f_MD_in mo 0 11 = f_SF_isMonth mo := lw_cell 11 (by omega) mo
/-- what the law compares -/
def z_C (n1 n2 n3 n4 : Int32) {β γ : Type} (r : Int32 × Int32 × β) (w : Int32 × Int32 × γ) : Prop := w.2.1 = lw_c n1 n2 n3 n4 r.1 ∧ (r.1 = 0 → r.2.1 = w.1)
theorem z_C.of {n1 n2 n3 n4 c a a' c' : Int32} {β γ : Type} {r : Int32 × Int32 × β} {w : Int32 × Int32 × γ} (h1 : z_r c a r) (h2 : z_r a' c' w) (hc : c' = lw_c n1 n2 n3 n4 c) (ha : c = 0 → a = a') : z_C n1 n2 n3 n4 r w := by
  refine ⟨by rw [h2.2, h1.1]; exact hc, fun h => ?_⟩
  rw [h1.2, h2.1]
  exact ha (by rw [← h1.1]; exact h)
theorem z_no {t n : Int32} {A : Prop} (h : t = n) (hn : ¬ n = 0) : t = 0 → A := fun h0 => absurd (h.symm.trans h0) hn
set_option maxHeartbeats 1000000 in
set_option maxRecDepth 100000 in
theorem z_S_write_1 (ro mo : Int32) (h : f_SF_isRow ro = 0) : z_r 1 0 (f_SF_write (fun _ => 0) (fun _ => 0) (fun _ => 0) (fun _ => 0) (fun _ => 0) 0 1 0 0 (fun _ => 0) (fun _ => 0) (fun _ => 0) 0 (-1) 0 0 0 ro mo) := by
  unfold f_SF_write
  exact (sf_Ppos h ⟨rfl, rfl⟩)
set_option maxHeartbeats 1000000 in
set_option maxRecDepth 100000 in
theorem z_S_write_2 (ro mo : Int32) (h : ¬ f_SF_isRow ro = 0) : z_r 2 0 (f_SF_write (fun _ => 0) (fun _ => 0) (fun _ => 0) (fun _ => 0) (fun _ => 0) 0 1 0 0 (fun _ => 0) (fun _ => 0) (fun _ => 0) 0 (-1) 0 0 0 ro mo) := by
  unfold f_SF_write
  exact (sf_Pneg h (sf_Ppos rfl (sf_Ppos rfl ⟨rfl, rfl⟩)))
set_option maxHeartbeats 1000000 in
set_option maxRecDepth 100000 in
theorem z_M_write_1 (ro mo : Int32) (h : f_MD_in ro 0 11 = 0) : z_r 0 1 (f_MD_write (fun _ => 0) 0 (-1) (fun _ => 0) (fun _ => 0) 0 0 (fun _ => 0) 0 (fun _ => 0) (fun _ => 0) (fun _ => 0) 0 0 ro mo) := by
  unfold f_MD_write
  exact (sf_Pite (fun h1 => (sf_Ppos h (sf_Ppos rfl (sf_Ppos rfl (sf_Pite (fun h2 => ⟨rfl, rfl⟩) (fun h2 => ⟨rfl, rfl⟩)))))) (fun h1 => (sf_Ppos h (sf_Ppos rfl (sf_Ppos rfl (sf_Pite (fun h3 => ⟨rfl, rfl⟩) (fun h3 => ⟨rfl, rfl⟩)))))))
set_option maxHeartbeats 1000000 in
set_option maxRecDepth 100000 in
theorem z_M_write_2 (ro mo : Int32) (h : ¬ f_MD_in ro 0 11 = 0) : z_r 0 2 (f_MD_write (fun _ => 0) 0 (-1) (fun _ => 0) (fun _ => 0) 0 0 (fun _ => 0) 0 (fun _ => 0) (fun _ => 0) (fun _ => 0) 0 0 ro mo) := by
  unfold f_MD_write
  exact (sf_Pite (fun h1 => (sf_Pneg h (sf_Ppos rfl (sf_Ppos rfl (sf_Pite (fun h2 => ⟨rfl, rfl⟩) (fun h2 => ⟨rfl, rfl⟩)))))) (fun h1 => (sf_Pneg h (sf_Ppos rfl (sf_Ppos rfl (sf_Pite (fun h3 => ⟨rfl, rfl⟩) (fun h3 => ⟨rfl, rfl⟩)))))))
theorem z_write (ro mo : Int32) : z_C 1 2 3 4 (f_SF_write (fun _ => 0) (fun _ => 0) (fun _ => 0) (fun _ => 0) (fun _ => 0) 0 1 0 0 (fun _ => 0) (fun _ => 0) (fun _ => 0) 0 (-1) 0 0 0 ro mo) (f_MD_write (fun _ => 0) 0 (-1) (fun _ => 0) (fun _ => 0) 0 0 (fun _ => 0) 0 (fun _ => 0) (fun _ => 0) (fun _ => 0) 0 0 ro mo) := by
  by_cases h : f_SF_isRow ro = 0
  · exact z_C.of (z_S_write_1 ro mo h) (z_M_write_1 ro mo (by rw [z_row]; exact h)) (by decide) (fun h => absurd h (by decide))
  · exact z_C.of (z_S_write_2 ro mo h) (z_M_write_2 ro mo (by rw [z_row]; exact h)) (by decide) (fun h => absurd h (by decide))
set_option maxHeartbeats 1000000 in
set_option maxRecDepth 100000 in
theorem z_S_remove_1 (ro : Int32) (h : f_SF_isRow ro = 0) : z_r 1 0 (f_SF_remove (fun _ => 0) (fun _ => 0) (-1) 0 0 0 ro) := by
  unfold f_SF_remove
  exact (sf_Ppos h ⟨rfl, rfl⟩)
set_option maxHeartbeats 1000000 in
set_option maxRecDepth 100000 in
theorem z_S_remove_2 (ro : Int32) (h : ¬ f_SF_isRow ro = 0) : z_r 2 0 (f_SF_remove (fun _ => 0) (fun _ => 0) (-1) 0 0 0 ro) := by
  unfold f_SF_remove
  exact (sf_Pneg h (sf_Ppos rfl (sf_Ppos (z_there _) ⟨rfl, rfl⟩)))
set_option maxHeartbeats 1000000 in
set_option maxRecDepth 100000 in
theorem z_M_remove_1 (ro : Int32) (h : f_MD_in ro 0 11 = 0) : z_r 0 1 (f_MD_remove (fun _ => 0) 0 (-1) (fun _ => 0) (fun _ => 0) 0 ro) := by
  unfold f_MD_remove
  exact (sf_Ppos h (sf_Ppos rfl ⟨rfl, rfl⟩))
set_option maxHeartbeats 1000000 in
set_option maxRecDepth 100000 in
theorem z_M_remove_2 (ro : Int32) (h : ¬ f_MD_in ro 0 11 = 0) : z_r 0 2 (f_MD_remove (fun _ => 0) 0 (-1) (fun _ => 0) (fun _ => 0) 0 ro) := by
  unfold f_MD_remove
  exact (sf_Pneg h (sf_Ppos rfl (sf_Ppos (z_thereM _) ⟨rfl, rfl⟩)))
theorem z_remove (ro : Int32) : z_C 1 2 0 0 (f_SF_remove (fun _ => 0) (fun _ => 0) (-1) 0 0 0 ro) (f_MD_remove (fun _ => 0) 0 (-1) (fun _ => 0) (fun _ => 0) 0 ro) := by
  by_cases h : f_SF_isRow ro = 0
  · exact z_C.of (z_S_remove_1 ro h) (z_M_remove_1 ro (by rw [z_row]; exact h)) (by decide) (fun h => absurd h (by decide))
  · exact z_C.of (z_S_remove_2 ro h) (z_M_remove_2 ro (by rw [z_row]; exact h)) (by decide) (fun h => absurd h (by decide))
set_option maxHeartbeats 1000000 in
set_option maxRecDepth 100000 in
theorem z_S_row_1 (ro i : Int32) (h : f_SF_isRow ro = 0) : z_r 1 0 (f_SF_row (fun _ => 0) (fun _ => 0) (fun _ => 0) (fun _ => 0) 0 1 0 0 0 ro i) := by
  unfold f_SF_row
  exact (sf_Ppos h ⟨rfl, rfl⟩)
set_option maxHeartbeats 1000000 in
set_option maxRecDepth 100000 in
theorem z_M_row_1 (ro i : Int32) (h : f_MD_in ro 0 11 = 0) : z_r 0 1 (f_MD_row (fun _ => 0) 0 (fun _ => 0) 0 0 (fun _ => 0) 0 ro i) := by
  unfold f_MD_row
  exact (sf_Ppos h (sf_Ppos rfl ⟨rfl, rfl⟩))
set_option maxHeartbeats 1000000 in
set_option maxRecDepth 100000 in
theorem z_S_row_2 (ro i : Int32) (h : ¬ f_SF_isRow ro = 0) (g : ¬ (-1) ≤ i) : z_r 1 0 (f_SF_row (fun _ => 0) (fun _ => 0) (fun _ => 0) (fun _ => 0) 0 1 0 0 0 ro i) := by
  unfold f_SF_row
  exact (sf_Pneg h (sf_Pneg g ⟨rfl, rfl⟩))
set_option maxHeartbeats 1000000 in
set_option maxRecDepth 100000 in
theorem z_M_row_2 (ro i : Int32) (h : ¬ f_MD_in ro 0 11 = 0) (g : ¬ (-1) ≤ i) : z_r 0 1 (f_MD_row (fun _ => 0) 0 (fun _ => 0) 0 0 (fun _ => 0) 0 ro i) := by
  unfold f_MD_row
  exact (sf_Pneg h (sf_Pneg g (sf_Ppos rfl ⟨rfl, rfl⟩)))
set_option maxHeartbeats 1000000 in
set_option maxRecDepth 100000 in
theorem z_S_row_3 (ro i : Int32) (h : ¬ f_SF_isRow ro = 0) (g : (-1) ≤ i) : z_r 2 0 (f_SF_row (fun _ => 0) (fun _ => 0) (fun _ => 0) (fun _ => 0) 0 1 0 0 0 ro i) := by
  unfold f_SF_row
  exact (sf_Pneg h (sf_Ppos g (sf_Ppos rfl (sf_Ppos (z_there _) ⟨rfl, rfl⟩))))
set_option maxHeartbeats 1000000 in
set_option maxRecDepth 100000 in
theorem z_M_row_3 (ro i : Int32) (h : ¬ f_MD_in ro 0 11 = 0) (g : (-1) ≤ i) : z_r 0 2 (f_MD_row (fun _ => 0) 0 (fun _ => 0) 0 0 (fun _ => 0) 0 ro i) := by
  unfold f_MD_row
  exact (sf_Pneg h (sf_Ppos g (sf_Ppos rfl (sf_Ppos (z_thereM _) ⟨rfl, rfl⟩))))
theorem z_row2 (ro i : Int32) : z_C 1 2 0 0 (f_SF_row (fun _ => 0) (fun _ => 0) (fun _ => 0) (fun _ => 0) 0 1 0 0 0 ro i) (f_MD_row (fun _ => 0) 0 (fun _ => 0) 0 0 (fun _ => 0) 0 ro i) := by
  by_cases h : f_SF_isRow ro = 0
  · exact z_C.of (z_S_row_1 ro i h) (z_M_row_1 ro i (by rw [z_row]; exact h)) (by decide) (fun h => absurd h (by decide))
  · have hm : ¬ f_MD_in ro 0 11 = 0 := by rw [z_row]; exact h
    by_cases g : (-1) ≤ i
    · exact z_C.of (z_S_row_3 ro i h g) (z_M_row_3 ro i hm g) (by decide) (fun h => absurd h (by decide))
    · exact z_C.of (z_S_row_2 ro i h g) (z_M_row_2 ro i hm g) (by decide) (fun h => absurd h (by decide))
theorem z_pos {w : Int32} (g : ¬ w < 0) (g3 : ¬ w = 0) : ¬ w ≤ 0 := by
  obtain ⟨j, hj, rfl⟩ := nI_of g
  cases j with
  | zero => exact absurd rfl g3
  | succ j => exact nI_nle (by omega) hj
set_option maxHeartbeats 1000000 in
set_option maxRecDepth 100000 in
theorem z_S_at_1 (ro w : Int32) (h : f_SF_isRow ro = 0)  : z_r 1 0 (f_SF_at (fun _ => 0) (fun _ => 0) (fun _ => 0) (fun _ => 0) 0 1 0 0 0 ro w) := by
  unfold f_SF_at
  exact (sf_Ppos h ⟨rfl, rfl⟩)
set_option maxHeartbeats 1000000 in
set_option maxRecDepth 100000 in
theorem z_M_at_1 (ro w : Int32) (h : f_MD_in ro 0 11 = 0)  : z_r 0 1 (f_MD_at (fun _ => 0) 0 (fun _ => 0) 0 0 (fun _ => 0) 0 ro w) := by
  unfold f_MD_at
  exact (sf_Ppos h (sf_Ppos rfl ⟨rfl, rfl⟩))
set_option maxHeartbeats 1000000 in
set_option maxRecDepth 100000 in
theorem z_S_at_2 (ro w : Int32) (h : ¬ f_SF_isRow ro = 0) (g : w < 0) : z_r 1 0 (f_SF_at (fun _ => 0) (fun _ => 0) (fun _ => 0) (fun _ => 0) 0 1 0 0 0 ro w) := by
  unfold f_SF_at
  exact (sf_Pneg h (sf_Ppos g ⟨rfl, rfl⟩))
set_option maxHeartbeats 1000000 in
set_option maxRecDepth 100000 in
theorem z_M_at_2 (ro w : Int32) (h : ¬ f_MD_in ro 0 11 = 0) (g : w < 0) : z_r 0 1 (f_MD_at (fun _ => 0) 0 (fun _ => 0) 0 0 (fun _ => 0) 0 ro w) := by
  unfold f_MD_at
  exact (sf_Pneg h (sf_Ppos (by unfold f_MD_in; rw [if_pos g]) (sf_Ppos rfl ⟨rfl, rfl⟩)))
set_option maxHeartbeats 1000000 in
set_option maxRecDepth 100000 in
theorem z_S_at_3 (ro w : Int32) (h : ¬ f_SF_isRow ro = 0) (g : ¬ w < 0) (g2 : ¬ w ≤ 3) : z_r 1 0 (f_SF_at (fun _ => 0) (fun _ => 0) (fun _ => 0) (fun _ => 0) 0 1 0 0 0 ro w) := by
  unfold f_SF_at
  exact (sf_Pneg h (sf_Pneg g (sf_Pneg g2 ⟨rfl, rfl⟩)))
set_option maxHeartbeats 1000000 in
set_option maxRecDepth 100000 in
theorem z_M_at_3 (ro w : Int32) (h : ¬ f_MD_in ro 0 11 = 0) (g : ¬ w < 0) (g2 : ¬ w ≤ 3) : z_r 0 1 (f_MD_at (fun _ => 0) 0 (fun _ => 0) 0 0 (fun _ => 0) 0 ro w) := by
  unfold f_MD_at
  exact (sf_Pneg h (sf_Ppos (by unfold f_MD_in; rw [if_neg g, if_pos (Int32.not_le.mp g2)]) (sf_Ppos rfl ⟨rfl, rfl⟩)))
set_option maxHeartbeats 1000000 in
set_option maxRecDepth 100000 in
theorem z_S_at_4 (ro w : Int32) (h : ¬ f_SF_isRow ro = 0) (g : ¬ w < 0) (g2 : w ≤ 3) (g3 : w = 0) : z_r 0 0 (f_SF_at (fun _ => 0) (fun _ => 0) (fun _ => 0) (fun _ => 0) 0 1 0 0 0 ro w) := by
  unfold f_SF_at
  exact (sf_Pneg h (sf_Pneg g (sf_Ppos g2 (sf_Ppos rfl (sf_Ppos g3 (sf_Ppos (z_there _) ⟨rfl, rfl⟩))))))
set_option maxHeartbeats 1000000 in
set_option maxRecDepth 100000 in
theorem z_M_at_4 (ro w : Int32) (h : ¬ f_MD_in ro 0 11 = 0) (g : ¬ w < 0) (g2 : w ≤ 3) (g3 : w = 0) : z_r 0 0 (f_MD_at (fun _ => 0) 0 (fun _ => 0) 0 0 (fun _ => 0) 0 ro w) := by
  unfold f_MD_at
  exact (sf_Pneg h (sf_Pneg (by unfold f_MD_in; rw [if_neg g, if_neg (Int32.not_lt.mpr g2)]; decide) (sf_Ppos rfl (sf_Ppos (by rw [g3]; decide) (sf_Ppos g3 (sf_Ppos (z_thereM _) ⟨rfl, rfl⟩))))))
set_option maxHeartbeats 1000000 in
set_option maxRecDepth 100000 in
theorem z_S_at_5 (ro w : Int32) (h : ¬ f_SF_isRow ro = 0) (g : ¬ w < 0) (g2 : w ≤ 3) (g3 : ¬ w = 0) : z_r 2 0 (f_SF_at (fun _ => 0) (fun _ => 0) (fun _ => 0) (fun _ => 0) 0 1 0 0 0 ro w) := by
  unfold f_SF_at
  exact (sf_Pneg h (sf_Pneg g (sf_Ppos g2 (sf_Ppos rfl (sf_Pneg g3 (sf_Ppos (z_there _) ⟨rfl, rfl⟩))))))
set_option maxHeartbeats 1000000 in
set_option maxRecDepth 100000 in
theorem z_M_at_5 (ro w : Int32) (h : ¬ f_MD_in ro 0 11 = 0) (g : ¬ w < 0) (g2 : w ≤ 3) (g3 : ¬ w = 0) : z_r 0 2 (f_MD_at (fun _ => 0) 0 (fun _ => 0) 0 0 (fun _ => 0) 0 ro w) := by
  unfold f_MD_at
  exact (sf_Pneg h (sf_Pneg (by unfold f_MD_in; rw [if_neg g, if_neg (Int32.not_lt.mpr g2)]; decide) (sf_Ppos rfl (sf_Pneg (z_pos g g3) (sf_Ppos (z_thereM _) ⟨rfl, rfl⟩)))))
theorem z_at (ro w : Int32) : z_C 1 2 0 0 (f_SF_at (fun _ => 0) (fun _ => 0) (fun _ => 0) (fun _ => 0) 0 1 0 0 0 ro w) (f_MD_at (fun _ => 0) 0 (fun _ => 0) 0 0 (fun _ => 0) 0 ro w) := by
  by_cases h : f_SF_isRow ro = 0
  · exact z_C.of (z_S_at_1 ro w h) (z_M_at_1 ro w (by rw [z_row]; exact h)) (by decide) (fun h => absurd h (by decide))
  · have hm : ¬ f_MD_in ro 0 11 = 0 := by rw [z_row]; exact h
    by_cases g : w < 0
    · exact z_C.of (z_S_at_2 ro w h g) (z_M_at_2 ro w hm g) (by decide) (fun h => absurd h (by decide))
    · by_cases g2 : w ≤ 3
      · by_cases g3 : w = 0
        · exact z_C.of (z_S_at_4 ro w h g g2 g3) (z_M_at_4 ro w hm g g2 g3) (by decide) (fun _ => rfl)
        · exact z_C.of (z_S_at_5 ro w h g g2 g3) (z_M_at_5 ro w hm g g2 g3) (by decide) (fun h => absurd h (by decide))
      · exact z_C.of (z_S_at_3 ro w h g g2) (z_M_at_3 ro w hm g g2) (by decide) (fun h => absurd h (by decide))
set_option maxRecDepth 100000 in
theorem z_cf0 : (f_SF_countFree_0 (fun _ => 0) (fun _ => 0) (fun _ => 0) 0 1 0 0 (fun _ => 0)).1 = 24 := by decide +kernel
set_option maxRecDepth 100000 in
theorem z_ft0 : (f_MD_findTaken_0 (fun _ => 0) (fun _ => 0) 0 0 (fun _ => 0) 0 (fun _ => 0)).1 = 24 := by decide +kernel
set_option maxRecDepth 100000 in
theorem z_us0 : ∀ i, i < 24 → (f_SF_markUsed_0 (fun _ => 0) (fun _ => 0) (fun _ => 0) 0 1 0 0 (fun _ => 0)).1 i = 0 := by decide +kernel
set_option maxRecDepth 100000 in
theorem z_tk0 : ∀ i, i < 24 → (f_MD_findTaken_0 (fun _ => 0) (fun _ => 0) 0 0 (fun _ => 0) 0 (fun _ => 0)).2.1 i = 0 := by decide +kernel
set_option maxRecDepth 100000 in
theorem z_cf1 : (f_SF_countFree_1 (fun _ => 0) (fun _ => 0) (fun _ => 0) 0 1 0 0 (fun _ => 0)).1 = 16 := by decide +kernel
set_option maxRecDepth 100000 in
theorem z_ft1 : (f_MD_findTaken_1 (fun _ => 0) (fun _ => 0) 0 0 (fun _ => 0) 0 (fun _ => 0)).1 = 16 := by decide +kernel
set_option maxRecDepth 100000 in
theorem z_us1 : ∀ i, i < 24 → (f_SF_markUsed_1 (fun _ => 0) (fun _ => 0) (fun _ => 0) 0 1 0 0 (fun _ => 0)).1 i = 0 := by decide +kernel
set_option maxRecDepth 100000 in
theorem z_tk1 : ∀ i, i < 24 → (f_MD_findTaken_1 (fun _ => 0) (fun _ => 0) 0 0 (fun _ => 0) 0 (fun _ => 0)).2.1 i = 0 := by decide +kernel
set_option maxRecDepth 100000 in
theorem z_num : f_SF_numberOf (fun _ => 0) (f_SF_countingTable (fun _ => 0)) = 0 := by decide +kernel
set_option maxHeartbeats 1000000 in
set_option maxRecDepth 100000 in
theorem z_S_told_0  : z_r 0 24 (f_SF_told (fun _ => 0) (fun _ => 0) (fun _ => 0) (fun _ => 0) 0 1 0 0 (fun _ => 0) 0 0 0) := by
  unfold f_SF_told
  exact (sf_Pneg (by decide) (sf_Ppos (by decide) (sf_Ppos rfl (sf_Ppos (by decide) ⟨rfl, z_cf0⟩))))
set_option maxHeartbeats 1000000 in
set_option maxRecDepth 100000 in
theorem z_M_told_0  : z_r 24 0 (f_MD_told (fun _ => 0) 0 0 (fun _ => 0) 0 0 (fun _ => 0) 0 (fun _ => 0) 0) := by
  unfold f_MD_told
  exact (sf_Pneg (by decide) (sf_Ppos rfl (sf_Pneg (by decide) (sf_Pneg (by decide) ⟨z_ft0, rfl⟩))))
set_option maxHeartbeats 1000000 in
set_option maxRecDepth 100000 in
theorem z_S_told_1  : z_r 0 16 (f_SF_told (fun _ => 0) (fun _ => 0) (fun _ => 0) (fun _ => 0) 0 1 0 0 (fun _ => 0) 0 0 1) := by
  unfold f_SF_told
  exact (sf_Pneg (by decide) (sf_Ppos (by decide) (sf_Ppos rfl (sf_Pneg (by decide) (sf_Ppos (by decide) ⟨rfl, z_cf1⟩)))))
set_option maxHeartbeats 1000000 in
set_option maxRecDepth 100000 in
theorem z_M_told_1  : z_r 16 0 (f_MD_told (fun _ => 0) 0 0 (fun _ => 0) 0 0 (fun _ => 0) 0 (fun _ => 0) 1) := by
  unfold f_MD_told
  exact (sf_Pneg (by decide) (sf_Ppos rfl (sf_Pneg (by decide) (sf_Ppos (by decide) ⟨z_ft1, rfl⟩))))
set_option maxHeartbeats 1000000 in
set_option maxRecDepth 100000 in
theorem z_S_told_2  : z_r 0 0 (f_SF_told (fun _ => 0) (fun _ => 0) (fun _ => 0) (fun _ => 0) 0 1 0 0 (fun _ => 0) 0 0 2) := by
  unfold f_SF_told
  exact (sf_Pneg (by decide) (sf_Ppos (by decide) (sf_Ppos rfl (sf_Pneg (by decide) (sf_Pneg (by decide) (sf_Ppos (by decide) ⟨rfl, z_num⟩))))))
set_option maxHeartbeats 1000000 in
set_option maxRecDepth 100000 in
theorem z_M_told_2  : z_r 0 0 (f_MD_told (fun _ => 0) 0 0 (fun _ => 0) 0 0 (fun _ => 0) 0 (fun _ => 0) 2) := by
  unfold f_MD_told
  exact (sf_Pneg (by decide) (sf_Ppos rfl (sf_Ppos (by decide) (sf_Ppos (by decide) ⟨(z_entry 0), rfl⟩))))
set_option maxHeartbeats 1000000 in
set_option maxRecDepth 100000 in
theorem z_S_told_3  : z_r 0 (-1) (f_SF_told (fun _ => 0) (fun _ => 0) (fun _ => 0) (fun _ => 0) 0 1 0 0 (fun _ => 0) 0 0 3) := by
  unfold f_SF_told
  exact (sf_Pneg (by decide) (sf_Ppos (by decide) (sf_Ppos rfl (sf_Pneg (by decide) (sf_Pneg (by decide) (sf_Pneg (by decide) (sf_Ppos (by decide) ⟨rfl, z_cnt⟩)))))))
set_option maxHeartbeats 1000000 in
set_option maxRecDepth 100000 in
theorem z_M_told_3  : z_r (-1) 0 (f_MD_told (fun _ => 0) 0 0 (fun _ => 0) 0 0 (fun _ => 0) 0 (fun _ => 0) 3) := by
  unfold f_MD_told
  exact (sf_Pneg (by decide) (sf_Ppos rfl (sf_Ppos (by decide) (sf_Pneg (by decide) (sf_Ppos (by decide) ⟨z_cntM, rfl⟩)))))
set_option maxHeartbeats 1000000 in
set_option maxRecDepth 100000 in
theorem z_S_told_4  : z_r 0 0 (f_SF_told (fun _ => 0) (fun _ => 0) (fun _ => 0) (fun _ => 0) 0 1 0 0 (fun _ => 0) 0 0 4) := by
  unfold f_SF_told
  exact (sf_Pneg (by decide) (sf_Ppos (by decide) (sf_Ppos rfl (sf_Pneg (by decide) (sf_Pneg (by decide) (sf_Pneg (by decide) (sf_Pneg (by decide) ⟨rfl, rfl⟩)))))))
set_option maxHeartbeats 1000000 in
set_option maxRecDepth 100000 in
theorem z_M_told_4  : z_r 0 0 (f_MD_told (fun _ => 0) 0 0 (fun _ => 0) 0 0 (fun _ => 0) 0 (fun _ => 0) 4) := by
  unfold f_MD_told
  exact (sf_Pneg (by decide) (sf_Ppos rfl (sf_Ppos (by decide) (sf_Pneg (by decide) (sf_Pneg (by decide) ⟨rfl, rfl⟩)))))
set_option maxHeartbeats 1000000 in
set_option maxRecDepth 100000 in
theorem z_S_told_a (w : Int32) (g : w < 0) : z_r 1 0 (f_SF_told (fun _ => 0) (fun _ => 0) (fun _ => 0) (fun _ => 0) 0 1 0 0 (fun _ => 0) 0 0 w) := by
  unfold f_SF_told
  exact (sf_Ppos g ⟨rfl, rfl⟩)
set_option maxHeartbeats 1000000 in
set_option maxRecDepth 100000 in
theorem z_M_told_a (w : Int32) (g : w < 0) : z_r 0 1 (f_MD_told (fun _ => 0) 0 0 (fun _ => 0) 0 0 (fun _ => 0) 0 (fun _ => 0) w) := by
  unfold f_MD_told
  exact (sf_Ppos (by unfold f_MD_in; rw [if_pos g]) (sf_Ppos rfl ⟨rfl, rfl⟩))
set_option maxHeartbeats 1000000 in
set_option maxRecDepth 100000 in
theorem z_S_told_b (w : Int32) (g : ¬ w < 0) (g2 : ¬ w ≤ 4) : z_r 1 0 (f_SF_told (fun _ => 0) (fun _ => 0) (fun _ => 0) (fun _ => 0) 0 1 0 0 (fun _ => 0) 0 0 w) := by
  unfold f_SF_told
  exact (sf_Pneg g (sf_Pneg g2 ⟨rfl, rfl⟩))
set_option maxHeartbeats 1000000 in
set_option maxRecDepth 100000 in
theorem z_M_told_b (w : Int32) (g : ¬ w < 0) (g2 : ¬ w ≤ 4) : z_r 0 1 (f_MD_told (fun _ => 0) 0 0 (fun _ => 0) 0 0 (fun _ => 0) 0 (fun _ => 0) w) := by
  unfold f_MD_told
  exact (sf_Ppos (by unfold f_MD_in; rw [if_neg g, if_pos (Int32.not_le.mp g2)]) (sf_Ppos rfl ⟨rfl, rfl⟩))
theorem z_told (w : Int32) : z_C 1 2 0 0 (f_SF_told (fun _ => 0) (fun _ => 0) (fun _ => 0) (fun _ => 0) 0 1 0 0 (fun _ => 0) 0 0 w) (f_MD_told (fun _ => 0) 0 0 (fun _ => 0) 0 0 (fun _ => 0) 0 (fun _ => 0) w) := by
  by_cases g : w < 0
  · exact z_C.of (z_S_told_a w g) (z_M_told_a w g) (by decide) (fun h => absurd h (by decide))
  · by_cases g2 : w ≤ 4
    · rcases sf_five g g2 with rfl | rfl | rfl | rfl | rfl
      · exact z_C.of z_S_told_0 z_M_told_0 (by decide) (fun _ => rfl)
      · exact z_C.of z_S_told_1 z_M_told_1 (by decide) (fun _ => rfl)
      · exact z_C.of z_S_told_2 z_M_told_2 (by decide) (fun _ => rfl)
      · exact z_C.of z_S_told_3 z_M_told_3 (by decide) (fun _ => rfl)
      · exact z_C.of z_S_told_4 z_M_told_4 (by decide) (fun _ => rfl)
    · exact z_C.of (z_S_told_b w g g2) (z_M_told_b w g g2) (by decide) (fun h => absurd h (by decide))
theorem z_wp0_l (k0 : Int32) : ∀ (fu k : Nat) (vs : Int32), k ≤ 24 → k + fu = 25 → (f_SF_wrongPlace_0_l17 (fun _ => 0) (fun _ => 0) (fun _ => 0) 0 1 0 0 (fun _ => 0) k0 fu k vs).1 = -1 := by
  intro fu
  induction fu with
  | zero => intro k vs h1 h2; omega
  | succ fu ih =>
    intro k vs h1 h2
    rw [f_SF_wrongPlace_0_l17]
    by_cases c : f_SF_countPlaces 0 ≤ nI k
    · rw [if_pos c]
    · rw [if_neg c]
      by_cases d : (24 : Int32) ≤ nI k
      · rw [if_pos d]
      · have hlt : k < 24 := sf_lt_of (N := 24) (by omega) (by omega) d
        rw [if_neg d, if_pos (z_us0 k hlt)]
        exact ih _ _ (by omega) (by omega)
theorem z_wp0 (k0 : Int32) : (f_SF_wrongPlace_0 (fun _ => 0) (fun _ => 0) (fun _ => 0) 0 1 0 0 (fun _ => 0) k0).1 = -1 := by
  unfold f_SF_wrongPlace_0
  exact z_wp0_l k0 (24 + 1) 0 0 (by omega) (by omega)
theorem z_mw0_l : ∀ (fu k : Nat) (vl : Int32), k ≤ 24 → k + fu = 25 → z_r (-1) 0 (f_MD_wrong_l55_0 (fun _ => 0) (fun _ => 0) 0 0 (fun _ => 0) 0 (fun _ => 0) fu k vl) := by
  intro fu
  induction fu with
  | zero => intro k vl h1 h2; omega
  | succ fu ih =>
    intro k vl h1 h2
    rw [f_MD_wrong_l55_0]
    by_cases c : (24 : Int32) ≤ nI k
    · exact sf_Ppos c ⟨rfl, rfl⟩
    · have hlt : k < 24 := sf_lt_of (N := 24) (by omega) (by omega) c
      exact sf_Pneg c (sf_Ppos (by unfold f_MD_isWrong_0; rw [if_pos (z_tk0 k (by omega))]) (ih _ _ (by omega) (by omega)))
theorem z_wp1_l (k0 : Int32) : ∀ (fu k : Nat) (vs : Int32), k ≤ 24 → k + fu = 25 → (f_SF_wrongPlace_1_l17 (fun _ => 0) (fun _ => 0) (fun _ => 0) 0 1 0 0 (fun _ => 0) k0 fu k vs).1 = -1 := by
  intro fu
  induction fu with
  | zero => intro k vs h1 h2; omega
  | succ fu ih =>
    intro k vs h1 h2
    rw [f_SF_wrongPlace_1_l17]
    by_cases c : f_SF_countPlaces 1 ≤ nI k
    · rw [if_pos c]
    · rw [if_neg c]
      by_cases d : (24 : Int32) ≤ nI k
      · rw [if_pos d]
      · have hlt : k < 24 := sf_lt_of (N := 24) (by omega) (by omega) d
        rw [if_neg d, if_pos (z_us1 k hlt)]
        exact ih _ _ (by omega) (by omega)
theorem z_wp1 (k0 : Int32) : (f_SF_wrongPlace_1 (fun _ => 0) (fun _ => 0) (fun _ => 0) 0 1 0 0 (fun _ => 0) k0).1 = -1 := by
  unfold f_SF_wrongPlace_1
  exact z_wp1_l k0 (24 + 1) 0 0 (by omega) (by omega)
theorem z_mw1_l : ∀ (fu k : Nat) (vl : Int32), k ≤ 16 → k + fu = 17 → z_r (-1) 0 (f_MD_wrong_l55_1 (fun _ => 0) (fun _ => 0) 0 0 (fun _ => 0) 0 (fun _ => 0) fu k vl) := by
  intro fu
  induction fu with
  | zero => intro k vl h1 h2; omega
  | succ fu ih =>
    intro k vl h1 h2
    rw [f_MD_wrong_l55_1]
    by_cases c : (16 : Int32) ≤ nI k
    · exact sf_Ppos c ⟨rfl, rfl⟩
    · have hlt : k < 16 := sf_lt_of (N := 16) (by omega) (by omega) c
      exact sf_Pneg c (sf_Ppos (by unfold f_MD_isWrong_1; rw [if_pos (z_tk1 k (by omega))]) (ih _ _ (by omega) (by omega)))
set_option maxRecDepth 100000 in
theorem z_sr : ∀ i, i < 2 → ¬ f_Bl_sumIsRight 80 (fun _ => 0) (nI i) 36 = 0 := by decide +kernel
set_option maxRecDepth 100000 in
theorem z_iw2 : ∀ i, i < 2 → f_MD_isWrong_2 (fun _ => 0) i = 0 := by decide +kernel
theorem z_wt_l (k0 : Int32) : ∀ (fu k : Nat) (vs : Int32), k ≤ 2 → k + fu = 3 → f_SF_wrongTable_l4 (fun _ => 0) k0 fu k vs = -1 := by
  intro fu
  induction fu with
  | zero => intro k vs h1 h2; omega
  | succ fu ih =>
    intro k vs h1 h2
    rw [f_SF_wrongTable_l4]
    by_cases c : (2 : Int32) ≤ nI k
    · rw [if_pos c]
    · have hlt : k < 2 := sf_lt_of (N := 2) (by omega) (by omega) c
      rw [if_neg c, if_neg (z_sr k hlt)]
      exact ih _ _ (by omega) (by omega)
theorem z_wt (k0 : Int32) : f_SF_wrongTable (fun _ => 0) k0 = -1 := by
  unfold f_SF_wrongTable
  exact z_wt_l k0 (2 + 1) 0 0 (by omega) (by omega)
theorem z_mw2_l : ∀ (fu k : Nat) (vl : Int32), k ≤ 2 → k + fu = 3 → z_r (-1) 0 (f_MD_wrong_l55_2 (fun _ => 0) (fun _ => 0) 0 0 (fun _ => 0) 0 (fun _ => 0) fu k vl) := by
  intro fu
  induction fu with
  | zero => intro k vl h1 h2; omega
  | succ fu ih =>
    intro k vl h1 h2
    rw [f_MD_wrong_l55_2]
    by_cases c : (2 : Int32) ≤ nI k
    · exact sf_Ppos c ⟨rfl, rfl⟩
    · have hlt : k < 2 := sf_lt_of (N := 2) (by omega) (by omega) c
      exact sf_Pneg c (sf_Ppos (z_iw2 k hlt) (ih _ _ (by omega) (by omega)))
set_option maxHeartbeats 1000000 in
set_option maxRecDepth 100000 in
theorem z_S_wrong_0 (k0 : Int32) (g : 0 ≤ k0) : z_r 0 (-1) (f_SF_wrong (fun _ => 0) (fun _ => 0) (fun _ => 0) (fun _ => 0) 0 1 0 0 (fun _ => 0) 0 k0) := by
  unfold f_SF_wrong
  exact (sf_Pneg (by decide) (sf_Pneg (by decide) (sf_Ppos g (sf_Pneg (by decide) (sf_Pneg (by decide) ⟨rfl, (z_wp0 k0)⟩)))))
set_option maxHeartbeats 1000000 in
set_option maxRecDepth 100000 in
theorem z_M_wrong_0 (k0 : Int32) (g : 0 ≤ k0) : z_r (-1) 0 (f_MD_wrong (fun _ => 0) (fun _ => 0) 0 0 (fun _ => 0) 0 (fun _ => 0) 0 k0) := by
  unfold f_MD_wrong
  exact (sf_Pneg (by decide) (sf_Ppos g (sf_Ppos (by decide) (z_mw0_l (24 + 1) 0 k0 (by omega) (by omega)))))
set_option maxHeartbeats 1000000 in
set_option maxRecDepth 100000 in
theorem z_S_wrong_1 (k0 : Int32) (g : 0 ≤ k0) : z_r 0 (-1) (f_SF_wrong (fun _ => 0) (fun _ => 0) (fun _ => 0) (fun _ => 0) 0 1 0 0 (fun _ => 0) 1 k0) := by
  unfold f_SF_wrong
  exact (sf_Pneg (by decide) (sf_Pneg (by decide) (sf_Ppos g (sf_Pneg (by decide) (sf_Ppos (by decide) ⟨rfl, (z_wp1 k0)⟩)))))
set_option maxHeartbeats 1000000 in
set_option maxRecDepth 100000 in
theorem z_M_wrong_1 (k0 : Int32) (g : 0 ≤ k0) : z_r (-1) 0 (f_MD_wrong (fun _ => 0) (fun _ => 0) 0 0 (fun _ => 0) 0 (fun _ => 0) 1 k0) := by
  unfold f_MD_wrong
  exact (sf_Pneg (by decide) (sf_Ppos g (sf_Pneg (by decide) (sf_Ppos (by decide) (z_mw1_l (16 + 1) 0 k0 (by omega) (by omega))))))
set_option maxHeartbeats 1000000 in
set_option maxRecDepth 100000 in
theorem z_S_wrong_2 (k0 : Int32) (g : 0 ≤ k0) : z_r 0 (-1) (f_SF_wrong (fun _ => 0) (fun _ => 0) (fun _ => 0) (fun _ => 0) 0 1 0 0 (fun _ => 0) 2 k0) := by
  unfold f_SF_wrong
  exact (sf_Pneg (by decide) (sf_Pneg (by decide) (sf_Ppos g (sf_Ppos (by decide) ⟨rfl, (z_wt k0)⟩))))
set_option maxHeartbeats 1000000 in
set_option maxRecDepth 100000 in
theorem z_M_wrong_2 (k0 : Int32) (g : 0 ≤ k0) : z_r (-1) 0 (f_MD_wrong (fun _ => 0) (fun _ => 0) 0 0 (fun _ => 0) 0 (fun _ => 0) 2 k0) := by
  unfold f_MD_wrong
  exact (sf_Pneg (by decide) (sf_Ppos g (sf_Pneg (by decide) (sf_Pneg (by decide) (z_mw2_l (2 + 1) 0 k0 (by omega) (by omega))))))
set_option maxHeartbeats 1000000 in
set_option maxRecDepth 100000 in
theorem z_S_wrong_a (w k0 : Int32) (g : w < 0) : z_r 1 0 (f_SF_wrong (fun _ => 0) (fun _ => 0) (fun _ => 0) (fun _ => 0) 0 1 0 0 (fun _ => 0) w k0) := by
  unfold f_SF_wrong
  exact (sf_Ppos g ⟨rfl, rfl⟩)
set_option maxHeartbeats 1000000 in
set_option maxRecDepth 100000 in
theorem z_M_wrong_a (w k0 : Int32) (g : w < 0) : z_r 0 1 (f_MD_wrong (fun _ => 0) (fun _ => 0) 0 0 (fun _ => 0) 0 (fun _ => 0) w k0) := by
  unfold f_MD_wrong
  exact (sf_Ppos (by unfold f_MD_in; rw [if_pos g]) ⟨rfl, rfl⟩)
set_option maxHeartbeats 1000000 in
set_option maxRecDepth 100000 in
theorem z_S_wrong_b (w k0 : Int32) (g : ¬ w < 0) (g2 : 2 < w) : z_r 1 0 (f_SF_wrong (fun _ => 0) (fun _ => 0) (fun _ => 0) (fun _ => 0) 0 1 0 0 (fun _ => 0) w k0) := by
  unfold f_SF_wrong
  exact (sf_Pneg g (sf_Ppos g2 ⟨rfl, rfl⟩))
set_option maxHeartbeats 1000000 in
set_option maxRecDepth 100000 in
theorem z_M_wrong_b (w k0 : Int32) (g : ¬ w < 0) (g2 : 2 < w) : z_r 0 1 (f_MD_wrong (fun _ => 0) (fun _ => 0) 0 0 (fun _ => 0) 0 (fun _ => 0) w k0) := by
  unfold f_MD_wrong
  exact (sf_Ppos (by unfold f_MD_in; rw [if_neg g, if_pos g2]) ⟨rfl, rfl⟩)
set_option maxHeartbeats 1000000 in
set_option maxRecDepth 100000 in
theorem z_S_wrong_c (w k0 : Int32) (g : ¬ w < 0) (g2 : ¬ 2 < w) (g3 : ¬ 0 ≤ k0) : z_r 1 0 (f_SF_wrong (fun _ => 0) (fun _ => 0) (fun _ => 0) (fun _ => 0) 0 1 0 0 (fun _ => 0) w k0) := by
  unfold f_SF_wrong
  exact (sf_Pneg g (sf_Pneg g2 (sf_Pneg g3 ⟨rfl, rfl⟩)))
set_option maxHeartbeats 1000000 in
set_option maxRecDepth 100000 in
theorem z_M_wrong_c (w k0 : Int32) (g : ¬ w < 0) (g2 : ¬ 2 < w) (g3 : ¬ 0 ≤ k0) : z_r 0 1 (f_MD_wrong (fun _ => 0) (fun _ => 0) 0 0 (fun _ => 0) 0 (fun _ => 0) w k0) := by
  unfold f_MD_wrong
  exact (sf_Pneg (by unfold f_MD_in; rw [if_neg g, if_neg g2]; decide) (sf_Pneg g3 ⟨rfl, rfl⟩))
theorem z_wrong (w k0 : Int32) : z_C 1 0 0 0 (f_SF_wrong (fun _ => 0) (fun _ => 0) (fun _ => 0) (fun _ => 0) 0 1 0 0 (fun _ => 0) w k0) (f_MD_wrong (fun _ => 0) (fun _ => 0) 0 0 (fun _ => 0) 0 (fun _ => 0) w k0) := by
  by_cases g : w < 0
  · exact z_C.of (z_S_wrong_a w k0 g) (z_M_wrong_a w k0 g) (by decide) (fun h => absurd h (by decide))
  · by_cases g2 : 2 < w
    · exact z_C.of (z_S_wrong_b w k0 g g2) (z_M_wrong_b w k0 g g2) (by decide) (fun h => absurd h (by decide))
    · by_cases g3 : 0 ≤ k0
      · rcases sf_three g g2 with rfl | rfl | rfl
        · exact z_C.of (z_S_wrong_0 k0 g3) (z_M_wrong_0 k0 g3) (by decide) (fun _ => rfl)
        · exact z_C.of (z_S_wrong_1 k0 g3) (z_M_wrong_1 k0 g3) (by decide) (fun _ => rfl)
        · exact z_C.of (z_S_wrong_2 k0 g3) (z_M_wrong_2 k0 g3) (by decide) (fun _ => rfl)
      · exact z_C.of (z_S_wrong_c w k0 g g2 g3) (z_M_wrong_c w k0 g g2 g3) (by decide) (fun h => absurd h (by decide))
set_option maxHeartbeats 1000000 in
theorem z_mvM (mo : Int32) : ∀ (fu k : Nat), k ≤ 12 → k + fu = 13 → z_r 0 0 (f_MD_move_l34 mo fu k 0 0 (fun _ => 0) 0 (-1) (fun _ => 0) 0 0 (fun _ => 0) 0 (fun _ => 0) (fun _ => 0) (fun _ => 0) 0) := by
  intro fu
  induction fu with
  | zero => intro k h1 h2; omega
  | succ fu ih =>
    intro k h1 h2
    rw [f_MD_move_l34]
    by_cases c : (12 : Int32) ≤ nI k
    · exact sf_Ppos c ⟨rfl, rfl⟩
    · have hlt : k < 12 := sf_lt_of (N := 12) (by omega) (by omega) c
      exact sf_Pneg c (sf_Ppos (z_thereM k) (ih _ (by omega) (by omega)))
theorem z_ftm (fl sl cp : Nat → Int32) (cc cb ch cm ro mo : Int32) : f_SF_followToMove fl sl (fun _ => 0) cp cc cb ch cm ro mo = (0, cp, cc, cb, ch, cm) := by
  unfold f_SF_followToMove; rw [if_pos (z_there ro)]
set_option maxHeartbeats 1000000 in
theorem z_mvS (mo : Int32) : ∀ (fu k : Nat) (ycp : Nat → Int32) (ycc ycb ych ycm : Int32), k ≤ 12 → k + fu = 13 → z_r 0 0 (f_SF_move_l38 (fun _ => 0) mo fu k 0 (fun _ => 0) (fun _ => 0) (fun _ => 0) (fun _ => 0) ycp ycc ycb ych ycm (fun _ => 0) (fun _ => 0) 0 1 0 0 (fun _ => 0) (-1) 0 0 0) := by
  intro fu
  induction fu with
  | zero => intro k _ _ _ _ _ h1 h2; omega
  | succ fu ih =>
    intro k ycp ycc ycb ych ycm h1 h2
    rw [f_SF_move_l38]
    by_cases c : (12 : Int32) ≤ nI k
    · exact sf_Ppos c ⟨rfl, rfl⟩
    · have hlt : k < 12 := sf_lt_of (N := 12) (by omega) (by omega) c
      refine sf_Pneg c (sf_Ppos (by rw [z_ftm]) ?_)
      rw [z_ftm]
      exact ih _ _ _ _ _ _ (by omega) (by omega)
set_option maxHeartbeats 1000000 in
set_option maxRecDepth 100000 in
theorem z_S_move_1 (mo : Int32) (h : f_SF_isMonth mo = 0) : z_r 3 0 (f_SF_move (fun _ => 0) (fun _ => 0) (fun _ => 0) (fun _ => 0) (fun _ => 0) (fun _ => 0) 0 1 0 0 (fun _ => 0) 0 1 0 0 (fun _ => 0) (fun _ => 0) (-1) 0 0 0 mo) := by
  unfold f_SF_move
  exact (sf_Ppos rfl (sf_Ppos h ⟨rfl, rfl⟩))
set_option maxHeartbeats 1000000 in
set_option maxRecDepth 100000 in
theorem z_S_move_2 (mo : Int32) (h : ¬ f_SF_isMonth mo = 0) : z_r 0 0 (f_SF_move (fun _ => 0) (fun _ => 0) (fun _ => 0) (fun _ => 0) (fun _ => 0) (fun _ => 0) 0 1 0 0 (fun _ => 0) 0 1 0 0 (fun _ => 0) (fun _ => 0) (-1) 0 0 0 mo) := by
  unfold f_SF_move
  exact (sf_Ppos rfl (sf_Pneg h (z_mvS mo (12 + 1) 0 _ _ _ _ _ (by omega) (by omega))))
set_option maxHeartbeats 1000000 in
set_option maxRecDepth 100000 in
theorem z_M_move_1 (mo : Int32) (h : f_MD_in mo 0 11 = 0) : z_r 0 2 (f_MD_move (fun _ => 0) 0 (-1) (fun _ => 0) 0 0 (fun _ => 0) 0 (fun _ => 0) (fun _ => 0) (fun _ => 0) 0 mo) := by
  unfold f_MD_move
  exact (sf_Ppos h (sf_Ppos rfl ⟨rfl, rfl⟩))
set_option maxHeartbeats 1000000 in
set_option maxRecDepth 100000 in
theorem z_M_move_2 (mo : Int32) (h : ¬ f_MD_in mo 0 11 = 0) : z_r 0 0 (f_MD_move (fun _ => 0) 0 (-1) (fun _ => 0) 0 0 (fun _ => 0) 0 (fun _ => 0) (fun _ => 0) (fun _ => 0) 0 mo) := by
  unfold f_MD_move
  exact (sf_Pneg h (sf_Ppos rfl (z_mvM mo (12 + 1) 0 (by omega) (by omega))))
theorem z_move (mo : Int32) : z_C 0 1 2 3 (f_SF_move (fun _ => 0) (fun _ => 0) (fun _ => 0) (fun _ => 0) (fun _ => 0) (fun _ => 0) 0 1 0 0 (fun _ => 0) 0 1 0 0 (fun _ => 0) (fun _ => 0) (-1) 0 0 0 mo) (f_MD_move (fun _ => 0) 0 (-1) (fun _ => 0) 0 0 (fun _ => 0) 0 (fun _ => 0) (fun _ => 0) (fun _ => 0) 0 mo) := by
  by_cases h : f_SF_isMonth mo = 0
  · exact z_C.of (z_S_move_1 mo h) (z_M_move_1 mo (by rw [z_month]; exact h)) (by decide) (fun h => absurd h (by decide))
  · exact z_C.of (z_S_move_2 mo h) (z_M_move_2 mo (by rw [z_month]; exact h)) (by decide) (fun _ => rfl)
theorem z_add (vt : Nat → Int32) (v : Nat) (x : Int32) (h : v < 60) : (f_SF_addToTape vt (nI v) x).2 = nI (v + 1) := by
  unfold f_SF_addToTape
  rw [if_neg (nI_pos (by omega)), if_neg (show ¬ (60 : Int32) ≤ nI v from fun c => absurd ((nI_leI (a := 60) (by omega) (by omega)).mp c) (by omega))]
  exact nI_1 v
theorem z_fdS (by0 : Int64) : ∀ (j : Nat) (vt : Nat → Int32) (v : Nat), v + j ≤ 60 → z_r 0 (nI (v + j)) (f_SF_feed_l47 by0 j vt (nI v))
  | 0, vt, v, h => ⟨rfl, rfl⟩
  | j + 1, vt, v, h => by
    rw [f_SF_feed_l47, z_add _ _ _ (by omega), show v + (j + 1) = v + 1 + j by omega]
    exact z_fdS by0 j _ (v + 1) (by omega)
theorem z_fdM (by0 : Int64) : ∀ (j : Nat) (vt : Nat → Int32) (v : Nat), z_r (nI (v + j)) 0 (f_MD_feed_l56 by0 j vt v)
  | 0, vt, v => ⟨rfl, rfl⟩
  | j + 1, vt, v => by
    rw [f_MD_feed_l56, show v + (j + 1) = v + 1 + j by omega]
    exact z_fdM by0 j _ (v + 1)
set_option maxHeartbeats 1000000 in
set_option maxRecDepth 100000 in
theorem z_S_feed_1 (by0 : Int64) (nn : Int32) (g : nn < 1) : z_r 3 0 (f_SF_feed (fun _ => 0) 0 by0 nn) := by
  unfold f_SF_feed
  exact (sf_Ppos g ⟨rfl, rfl⟩)
set_option maxHeartbeats 1000000 in
set_option maxRecDepth 100000 in
theorem z_S_feed_2 (by0 : Int64) (nn : Int32) (g : ¬ nn < 1) (g2 : ¬ nn ≤ 8) : z_r 3 0 (f_SF_feed (fun _ => 0) 0 by0 nn) := by
  unfold f_SF_feed
  exact (sf_Pneg g (sf_Pneg g2 ⟨rfl, rfl⟩))
set_option maxHeartbeats 1000000 in
set_option maxRecDepth 100000 in
theorem z_S_feed_3 (by0 : Int64) (nn : Int32) (g : ¬ nn < 1) (g2 : nn ≤ 8) (g3 : 0 + nn ≤ 60) (g4 : nn.toNatClampNeg ≤ 8) : z_r 0 (nI (0 + nn.toNatClampNeg)) (f_SF_feed (fun _ => 0) 0 by0 nn) := by
  unfold f_SF_feed
  exact (sf_Pneg g (sf_Ppos g2 (sf_Ppos g3 (z_fdS by0 nn.toNatClampNeg _ 0 (by omega)))))
set_option maxHeartbeats 1000000 in
set_option maxRecDepth 100000 in
theorem z_M_feed_1 (by0 : Int64) (nn : Int32) (h : f_MD_in nn 1 8 = 0) : z_r 0 1 (f_MD_feed (fun _ => 0) 0 by0 nn) := by
  unfold f_MD_feed
  exact (sf_Ppos h ⟨rfl, rfl⟩)
set_option maxHeartbeats 1000000 in
set_option maxRecDepth 100000 in
theorem z_M_feed_3 (by0 : Int64) (nn : Int32) (h : ¬ f_MD_in nn 1 8 = 0) (g : nI (0 + nn.toNatClampNeg) ≤ 60) : z_r (nI (0 + nn.toNatClampNeg)) 0 (f_MD_feed (fun _ => 0) 0 by0 nn) := by
  unfold f_MD_feed
  exact (sf_Pneg h (sf_Ppos g (z_fdM by0 nn.toNatClampNeg _ 0)))
theorem z_feed (by0 : Int64) (nn : Int32) : z_C 0 0 1 2 (f_SF_feed (fun _ => 0) 0 by0 nn) (f_MD_feed (fun _ => 0) 0 by0 nn) := by
  by_cases g : nn < 1
  · exact z_C.of (z_S_feed_1 by0 nn g) (z_M_feed_1 by0 nn (by unfold f_MD_in; rw [if_pos g])) (by decide) (fun h => absurd h (by decide))
  · by_cases g2 : nn ≤ 8
    · have h : ¬ f_MD_in nn 1 8 = 0 := by unfold f_MD_in; rw [if_neg g, if_neg (Int32.not_lt.mpr g2)]; decide
      obtain ⟨e, h1, h2⟩ := sf_nat8 rfl h
      have g3 : nI (0 + nn.toNatClampNeg) ≤ 60 := (nI_leI (b := 60) (by omega) (by omega)).mpr (by omega)
      have g5 : 0 + nn ≤ 60 := by
        rw [Int32.zero_add]
        rw [Nat.zero_add, ← e] at g3
        exact g3
      exact z_C.of (z_S_feed_3 by0 nn g g2 g5 h2) (z_M_feed_3 by0 nn h g3) (by decide) (fun _ => rfl)
    · exact z_C.of (z_S_feed_2 by0 nn g g2) (z_M_feed_1 by0 nn (by unfold f_MD_in; rw [if_neg g, if_pos (Int32.not_le.mp g2)])) (by decide) (fun h => absurd h (by decide))
theorem z_get (n : Nat) (sz b i : Int32) : f_Bl_get n (fun _ => 0) sz b i = 0 := by
  unfold f_Bl_get
  by_cases c : ((b * sz) + i) < 0
  · rw [if_pos c]
  · rw [if_neg c]
    by_cases d : nI n ≤ ((b * sz) + i)
    · rw [if_pos d]
    · rw [if_neg d]
set_option maxHeartbeats 1000000 in
set_option maxRecDepth 100000 in
theorem z_S_byteAt_1 (w i : Int32) (h : f_SF_hasByte w i = 0) : z_q 1 0 (f_SF_byteAt (fun _ => 0) (fun _ => 0) (fun _ => 0) w i) := by
  unfold f_SF_byteAt
  exact (sf_Ppos h ⟨rfl, rfl⟩)
set_option maxHeartbeats 1000000 in
set_option maxRecDepth 100000 in
theorem z_S_byteAt_2 (w i : Int32) (h : ¬ f_SF_hasByte w i = 0) : z_q 0 0 (f_SF_byteAt (fun _ => 0) (fun _ => 0) (fun _ => 0) w i) := by
  unfold f_SF_byteAt
  exact (sf_Pneg h (sf_Pite (fun h1 => ⟨rfl, z_get _ _ _ _⟩) (fun h1 => (sf_Pite (fun h2 => ⟨rfl, z_get _ _ _ _⟩) (fun h2 => ⟨rfl, z_get _ _ _ _⟩)))))
set_option maxHeartbeats 1000000 in
set_option maxRecDepth 100000 in
theorem z_M_byteAt_1 (w i : Int32) (h : ¬ 0 ≤ f_MD_where w i) : z_q 0 1 (f_MD_byteAt (fun _ => 0) w i) := by
  unfold f_MD_byteAt
  exact (sf_Pneg h ⟨rfl, rfl⟩)
set_option maxHeartbeats 1000000 in
set_option maxRecDepth 100000 in
theorem z_M_byteAt_2 (w i : Int32) (h : 0 ≤ f_MD_where w i) : z_q 0 0 (f_MD_byteAt (fun _ => 0) w i) := by
  unfold f_MD_byteAt
  exact (sf_Ppos h ⟨rfl, rfl⟩)
theorem z_byteAt (w i : Int32) : (f_MD_byteAt (fun _ => 0) w i).2 = lw_c 1 0 0 0 (f_SF_byteAt (fun _ => 0) (fun _ => 0) (fun _ => 0) w i).1 ∧ ((f_SF_byteAt (fun _ => 0) (fun _ => 0) (fun _ => 0) w i).1 = 0 → (f_SF_byteAt (fun _ => 0) (fun _ => 0) (fun _ => 0) w i).2 = (f_MD_byteAt (fun _ => 0) w i).1) := by
  by_cases h : 0 ≤ f_MD_where w i
  · have a := z_S_byteAt_2 w i ((lw_where_has w i).mp h)
    have b := z_M_byteAt_2 w i h
    exact ⟨by rw [a.1, b.2]; decide, fun _ => by rw [a.2, b.1]⟩
  · have a := z_S_byteAt_1 w i (Decidable.of_not_not (fun z => h ((lw_where_has w i).mpr z)))
    have b := z_M_byteAt_1 w i h
    exact ⟨by rw [a.1, b.2]; decide, fun _ => by rw [a.2, b.1]⟩
set_option maxRecDepth 100000 in
theorem z_open : (f_SF_open (fun _ => 0)).1 = (f_MD_open (fun _ => 0)).1 := by decide +kernel
theorem z0_feed {β : Type} {r : Int32 × β} (h : sf_TC [0, 3, 4] r) (hc : lw_c 0 0 1 2 r.1 = 0) : r.1 = 0 := by
  rcases sf_TC3 h with t | t | t
  · exact t
  · exact absurd hc (by rw [t]; decide)
  · exact absurd hc (by rw [t]; decide)
theorem z0_write {β : Type} {r : Int32 × β} (h : sf_TC [0, 1, 2, 3, 4] r) (hc : lw_c 1 2 3 4 r.1 = 0) : r.1 = 0 := by
  rcases sf_TC5 h with t | t | t | t | t
  · exact t
  · exact absurd hc (by rw [t]; decide)
  · exact absurd hc (by rw [t]; decide)
  · exact absurd hc (by rw [t]; decide)
  · exact absurd hc (by rw [t]; decide)
theorem z0_remove {β : Type} {r : Int32 × β} (h : sf_TC [0, 1, 2] r) (hc : lw_c 1 2 0 0 r.1 = 0) : r.1 = 0 := by
  rcases sf_TC3 h with t | t | t
  · exact t
  · exact absurd hc (by rw [t]; decide)
  · exact absurd hc (by rw [t]; decide)
theorem z0_move {β : Type} {r : Int32 × β} (h : sf_TC [0, 2, 3, 4] r) (hc : lw_c 0 1 2 3 r.1 = 0) : r.1 = 0 := by
  rcases sf_TC4 h with t | t | t | t
  · exact t
  · exact absurd hc (by rw [t]; decide)
  · exact absurd hc (by rw [t]; decide)
  · exact absurd hc (by rw [t]; decide)
theorem z0_cut {β : Type} {r : Int32 × β} (h : sf_TC [0, 3] r) (hc : lw_c 0 0 1 0 r.1 = 0) : r.1 = 0 := by
  rcases sf_TC2 h with t | t
  · exact t
  · exact absurd hc (by rw [t]; decide)
theorem z0_row {β : Type} {r : Int32 × β} (h : sf_TC [0, 1, 2] r) (hc : lw_c 1 2 0 0 r.1 = 0) : r.1 = 0 := by
  rcases sf_TC3 h with t | t | t
  · exact t
  · exact absurd hc (by rw [t]; decide)
  · exact absurd hc (by rw [t]; decide)
theorem z0_at {β : Type} {r : Int32 × β} (h : sf_TC [0, 1, 2] r) (hc : lw_c 1 2 0 0 r.1 = 0) : r.1 = 0 := by
  rcases sf_TC3 h with t | t | t
  · exact t
  · exact absurd hc (by rw [t]; decide)
  · exact absurd hc (by rw [t]; decide)
theorem z0_told {β : Type} {r : Int32 × β} (h : sf_TC [0, 1, 2] r) (hc : lw_c 1 2 0 0 r.1 = 0) : r.1 = 0 := by
  rcases sf_TC3 h with t | t | t
  · exact t
  · exact absurd hc (by rw [t]; decide)
  · exact absurd hc (by rw [t]; decide)
theorem z0_wrong {β : Type} {r : Int32 × β} (h : sf_TC [0, 1] r) (hc : lw_c 1 0 0 0 r.1 = 0) : r.1 = 0 := by
  rcases sf_TC2 h with t | t
  · exact t
  · exact absurd hc (by rw [t]; decide)
theorem z0_byteAt {β : Type} {r : Int32 × β} (h : sf_TC [0, 1] r) (hc : lw_c 1 0 0 0 r.1 = 0) : r.1 = 0 := by
  rcases sf_TC2 h with t | t
  · exact t
  · exact absurd hc (by rw [t]; decide)
theorem z0_poke {β : Type} {r : Int32 × β} (h : sf_TC [0, 1, 3] r) (hc : lw_c 1 0 2 0 r.1 = 0) : r.1 = 0 := by
  rcases sf_TC3 h with t | t | t
  · exact t
  · exact absurd hc (by rw [t]; decide)
  · exact absurd hc (by rw [t]; decide)
theorem z_out {t a b : Int32} {fo : Nat → Int64} (h0 : t = 0) (he : a = b) : lg_cmp (lw_out t fo a.toInt64 0) b.toInt64 = 0 := by
  rw [lw_out_0 h0, pk_uLs, he]
  exact (lg_cmp_eq _ _).mpr rfl
