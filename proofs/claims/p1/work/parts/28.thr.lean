/-! which exceptions a method throws, by their numbers -/
/-- which of the numbers a result's first part is -/
def sf_TC (cs : List Int32) {β : Type} (r : Int32 × β) : Prop := r.1 ∈ cs
theorem sf_TC.ite {cs : List Int32} {β : Type} {c : Prop} [Decidable c] {a b : Int32 × β} (ha : sf_TC cs a) (hb : sf_TC cs b) : sf_TC cs (if c then a else b) := by
  by_cases h : c
  · rw [if_pos h]; exact ha
  · rw [if_neg h]; exact hb
theorem sf_TC.mk {cs : List Int32} {β : Type} {n : Int32} {b : β} (h : n ∈ cs) : sf_TC cs (n, b) := h
theorem sf_TC2 {β : Type} {a b : Int32} {r : Int32 × β} (h : sf_TC [a, b] r) : r.1 = a ∨ r.1 = b := by simpa [sf_TC] using h
theorem sf_TC3 {β : Type} {a b c : Int32} {r : Int32 × β} (h : sf_TC [a, b, c] r) : r.1 = a ∨ r.1 = b ∨ r.1 = c := by simpa [sf_TC] using h
theorem sf_TC4 {β : Type} {a b c d : Int32} {r : Int32 × β} (h : sf_TC [a, b, c, d] r) : r.1 = a ∨ r.1 = b ∨ r.1 = c ∨ r.1 = d := by simpa [sf_TC] using h
theorem sf_TC5 {β : Type} {a b c d e : Int32} {r : Int32 × β} (h : sf_TC [a, b, c, d, e] r) : r.1 = a ∨ r.1 = b ∨ r.1 = c ∨ r.1 = d ∨ r.1 = e := by simpa [sf_TC] using h
theorem t_f_SF_feed_l47 (by0 : Int64) : ∀ (v0 : Nat) (v1 : (Nat → Int32)) (v2 : Int32), sf_TC [0, 3, 4] (f_SF_feed_l47 by0 v0 v1 v2) := by
  intro v0
  induction v0 with
  | zero =>
    intro v1 v2
    rw [f_SF_feed_l47]
    exact (sf_TC.mk (by decide))
  | succ v0 ih =>
    intro v1 v2
    rw [f_SF_feed_l47]
    exact (ih _ _)
theorem t_SF_feed (tp : Nat → Int32) (tl : Int32) (by0 : Int64) (nn : Int32) : sf_TC [0, 3, 4] (f_SF_feed tp tl by0 nn) := by
  unfold f_SF_feed
  exact (sf_TC.ite (sf_TC.mk (by decide)) (sf_TC.ite (sf_TC.ite (t_f_SF_feed_l47 _ _ _ _) (sf_TC.mk (by decide))) (sf_TC.mk (by decide))))
theorem t_f_SF_write_l98 (fl : Nat → Int32) (tb : Nat → Int32) (nt : Nat → Int32) (mp : Nat → Int32) (mc : Int32) (mb : Int32) (mh : Int32) (mm : Int32) (us : Nat → Int32) (ta : Nat → Int32) (tp : Nat → Int32) (tl : Int32) (cu : Int32) (sh : Int32) (ro : Int32) (mo : Int32) : ∀ (v0 : Nat) (v1 : Nat) (v2 : (Nat → Int32)) (v3 : (Nat → Int32)) (v4 : Int32), sf_TC [0, 1, 2, 3, 4] (f_SF_write_l98 fl tb nt mp mc mb mh mm us ta tp tl cu sh ro mo v0 v1 v2 v3 v4) := by
  intro v0
  induction v0 with
  | zero =>
    intro v1 v2 v3 v4
    rw [f_SF_write_l98]
    exact (sf_TC.mk (by decide))
  | succ v0 ih =>
    intro v1 v2 v3 v4
    rw [f_SF_write_l98]
    exact (sf_TC.ite (sf_TC.ite (sf_TC.mk (by decide)) (sf_TC.mk (by decide))) (ih _ _ _ _))
theorem t_SF_write (fl : Nat → Int32) (tb : Nat → Int32) (np : Nat → Int32) (nt : Nat → Int32) (mp : Nat → Int32) (mc : Int32) (mb : Int32) (mh : Int32) (mm : Int32) (us : Nat → Int32) (ta : Nat → Int32) (tp : Nat → Int32) (tl : Int32) (cu : Int32) (bl : Int32) (pf : Int32) (sh : Int32) (ro : Int32) (mo : Int32) : sf_TC [0, 1, 2, 3, 4] (f_SF_write fl tb np nt mp mc mb mh mm us ta tp tl cu bl pf sh ro mo) := by
  unfold f_SF_write
  exact (sf_TC.ite (sf_TC.mk (by decide)) (sf_TC.ite (sf_TC.ite (sf_TC.mk (by decide)) (sf_TC.ite (sf_TC.mk (by decide)) (sf_TC.ite (sf_TC.mk (by decide)) (t_f_SF_write_l98 _ _ _ _ _ _ _ _ _ _ _ _ _ _ _ _ _ _ _ _ _)))) (sf_TC.mk (by decide))))
theorem t_SF_remove (tb : Nat → Int32) (nt : Nat → Int32) (cu : Int32) (bl : Int32) (pf : Int32) (sh : Int32) (ro : Int32) : sf_TC [0, 1, 2] (f_SF_remove tb nt cu bl pf sh ro) := by
  unfold f_SF_remove
  exact (sf_TC.ite (sf_TC.mk (by decide)) (sf_TC.ite (sf_TC.ite (sf_TC.mk (by decide)) (sf_TC.ite (sf_TC.mk (by decide)) (sf_TC.mk (by decide)))) (sf_TC.mk (by decide))))
theorem t_f_SF_move_l38 (fl : Nat → Int32) (mo : Int32) : ∀ (v0 : Nat) (v1 : Nat) (v2 : Int32) (v3 : (Nat → Int32)) (v4 : (Nat → Int32)) (v5 : (Nat → Int32)) (v6 : (Nat → Int32)) (v7 : (Nat → Int32)) (v8 : Int32) (v9 : Int32) (v10 : Int32) (v11 : Int32) (v12 : (Nat → Int32)) (v13 : (Nat → Int32)) (v14 : Int32) (v15 : Int32) (v16 : Int32) (v17 : Int32) (v18 : (Nat → Int32)) (v19 : Int32) (v20 : Int32) (v21 : Int32) (v22 : Int32), sf_TC [0, 2, 3, 4] (f_SF_move_l38 fl mo v0 v1 v2 v3 v4 v5 v6 v7 v8 v9 v10 v11 v12 v13 v14 v15 v16 v17 v18 v19 v20 v21 v22) := by
  intro v0
  induction v0 with
  | zero =>
    intro v1 v2 v3 v4 v5 v6 v7 v8 v9 v10 v11 v12 v13 v14 v15 v16 v17 v18 v19 v20 v21 v22
    rw [f_SF_move_l38]
    exact (sf_TC.mk (by decide))
  | succ v0 ih =>
    intro v1 v2 v3 v4 v5 v6 v7 v8 v9 v10 v11 v12 v13 v14 v15 v16 v17 v18 v19 v20 v21 v22
    rw [f_SF_move_l38]
    exact (sf_TC.ite (sf_TC.mk (by decide)) (sf_TC.ite (ih _ _ _ _ _ _ _ _ _ _ _ _ _ _ _ _ _ _ _ _ _ _) (sf_TC.ite (sf_TC.mk (by decide)) (sf_TC.ite (sf_TC.mk (by decide)) (ih _ _ _ _ _ _ _ _ _ _ _ _ _ _ _ _ _ _ _ _ _ _)))))
theorem t_SF_move (fl : Nat → Int32) (sl : Nat → Int32) (tb : Nat → Int32) (np : Nat → Int32) (nt : Nat → Int32) (cp : Nat → Int32) (cc : Int32) (cb : Int32) (ch : Int32) (cm : Int32) (mp : Nat → Int32) (mc : Int32) (mb : Int32) (mh : Int32) (mm : Int32) (us : Nat → Int32) (ta : Nat → Int32) (cu : Int32) (bl : Int32) (pf : Int32) (sh : Int32) (mo : Int32) : sf_TC [0, 2, 3, 4] (f_SF_move fl sl tb np nt cp cc cb ch cm mp mc mb mh mm us ta cu bl pf sh mo) := by
  unfold f_SF_move
  exact (sf_TC.ite (sf_TC.ite (sf_TC.mk (by decide)) (t_f_SF_move_l38 _ _ _ _ _ _ _ _ _ _ _ _ _ _ _ _ _ _ _ _ _ _ _ _ _)) (sf_TC.mk (by decide)))
theorem t_SF_cut (cu : Int32) (bt : Int32) : sf_TC [0, 3] (f_SF_cut cu bt) := by
  unfold f_SF_cut
  exact (sf_TC.ite (sf_TC.mk (by decide)) (sf_TC.ite (sf_TC.mk (by decide)) (sf_TC.mk (by decide))))
theorem t_SF_row (fl : Nat → Int32) (sl : Nat → Int32) (tb : Nat → Int32) (cp : Nat → Int32) (cc : Int32) (cb : Int32) (ch : Int32) (cm : Int32) (sh : Int32) (ro : Int32) (i : Int32) : sf_TC [0, 1, 2] (f_SF_row fl sl tb cp cc cb ch cm sh ro i) := by
  unfold f_SF_row
  exact (sf_TC.ite (sf_TC.mk (by decide)) (sf_TC.ite (sf_TC.ite (sf_TC.ite (sf_TC.mk (by decide)) (sf_TC.ite (sf_TC.mk (by decide)) (sf_TC.ite (sf_TC.ite (sf_TC.mk (by decide)) (sf_TC.mk (by decide))) (sf_TC.mk (by decide))))) (sf_TC.mk (by decide))) (sf_TC.mk (by decide))))
theorem t_SF_at (fl : Nat → Int32) (sl : Nat → Int32) (tb : Nat → Int32) (cp : Nat → Int32) (cc : Int32) (cb : Int32) (ch : Int32) (cm : Int32) (sh : Int32) (ro : Int32) (wt : Int32) : sf_TC [0, 1, 2] (f_SF_at fl sl tb cp cc cb ch cm sh ro wt) := by
  unfold f_SF_at
  exact (sf_TC.ite (sf_TC.mk (by decide)) (sf_TC.ite (sf_TC.mk (by decide)) (sf_TC.ite (sf_TC.ite (sf_TC.ite (sf_TC.ite (sf_TC.mk (by decide)) (sf_TC.mk (by decide))) (sf_TC.ite (sf_TC.mk (by decide)) (sf_TC.ite (sf_TC.ite (sf_TC.mk (by decide)) (sf_TC.mk (by decide))) (sf_TC.ite (sf_TC.mk (by decide)) (sf_TC.mk (by decide)))))) (sf_TC.mk (by decide))) (sf_TC.mk (by decide)))))
theorem t_SF_told (fl : Nat → Int32) (sl : Nat → Int32) (tb : Nat → Int32) (mp : Nat → Int32) (mc : Int32) (mb : Int32) (mh : Int32) (mm : Int32) (us : Nat → Int32) (tl : Int32) (sh : Int32) (wt : Int32) : sf_TC [0, 1, 2] (f_SF_told fl sl tb mp mc mb mh mm us tl sh wt) := by
  unfold f_SF_told
  exact (sf_TC.ite (sf_TC.mk (by decide)) (sf_TC.ite (sf_TC.ite (sf_TC.ite (sf_TC.mk (by decide)) (sf_TC.ite (sf_TC.mk (by decide)) (sf_TC.ite (sf_TC.mk (by decide)) (sf_TC.ite (sf_TC.mk (by decide)) (sf_TC.mk (by decide)))))) (sf_TC.ite (sf_TC.ite (sf_TC.mk (by decide)) (sf_TC.ite (sf_TC.mk (by decide)) (sf_TC.ite (sf_TC.mk (by decide)) (sf_TC.ite (sf_TC.mk (by decide)) (sf_TC.mk (by decide)))))) (sf_TC.mk (by decide)))) (sf_TC.mk (by decide))))
theorem t_SF_wrong (fl : Nat → Int32) (sl : Nat → Int32) (tb : Nat → Int32) (mp : Nat → Int32) (mc : Int32) (mb : Int32) (mh : Int32) (mm : Int32) (us : Nat → Int32) (wt : Int32) (wk : Int32) : sf_TC [0, 1] (f_SF_wrong fl sl tb mp mc mb mh mm us wt wk) := by
  unfold f_SF_wrong
  exact (sf_TC.ite (sf_TC.mk (by decide)) (sf_TC.ite (sf_TC.mk (by decide)) (sf_TC.ite (sf_TC.ite (sf_TC.mk (by decide)) (sf_TC.ite (sf_TC.mk (by decide)) (sf_TC.mk (by decide)))) (sf_TC.mk (by decide)))))
theorem t_SF_byteAt (fl : Nat → Int32) (sl : Nat → Int32) (tb : Nat → Int32) (wt : Int32) (i : Int32) : sf_TC [0, 1] (f_SF_byteAt fl sl tb wt i) := by
  unfold f_SF_byteAt
  exact (sf_TC.ite (sf_TC.mk (by decide)) (sf_TC.ite (sf_TC.mk (by decide)) (sf_TC.ite (sf_TC.mk (by decide)) (sf_TC.mk (by decide)))))
theorem t_SF_poke (fl : Nat → Int32) (sl : Nat → Int32) (tb : Nat → Int32) (sh : Int32) (wt : Int32) (i : Int32) (ma : Int32) : sf_TC [0, 1, 3] (f_SF_poke fl sl tb sh wt i ma) := by
  unfold f_SF_poke
  exact (sf_TC.ite (sf_TC.mk (by decide)) (sf_TC.ite (sf_TC.mk (by decide)) (sf_TC.ite (sf_TC.ite (sf_TC.mk (by decide)) (sf_TC.ite (sf_TC.mk (by decide)) (sf_TC.mk (by decide)))) (sf_TC.mk (by decide)))))
