/-! WHAT HOLDS AT THE LAW'S ENTRY: exceptions can be made (texts, Throwable's statics), which is of no other's class, the arrays' classes -/
theorem lw_NCs {b : Nat} {s : State} (h : (Jvm.Cond.and given_1 narrow_1).before #[Value.ref b] s = true) : lw_NC s := by
  have hs := flat_of_before _ h
  have key : ∀ q ∈ lw_ncs, Cond.not (.castable q.1 q.2) ∈ flatC (Jvm.Cond.and given_1 narrow_1) := by decide +kernel
  exact fun q hq => va_Nc.of (args := #[Value.ref b]) (hs _ (key q hq))
def lw_isS (w : Cond) : Bool := match w with
  | .stringRef own k _ => decide (Cond.exactly (.string own k) "java/lang/String" ∈ flatC (Jvm.Cond.and given_1 narrow_1))
  | _ => true
set_option maxRecDepth 100000 in
theorem lw_isS_all : ∀ w ∈ lw_tbl, lw_isS w = true := by decide +kernel
theorem lw_STR {b : Nat} {s : State} (hts : ∀ w ∈ lw_tbl, w.before #[Value.ref b] s = true) (h : (Jvm.Cond.and given_1 narrow_1).before #[Value.ref b] s = true) : sf_STR s := by
  intro own k tx hw
  have hs := flat_of_before _ h
  have h1 : Cond.exactly (.string own k) "java/lang/String" ∈ flatC (Jvm.Cond.and given_1 narrow_1) := of_decide_eq_true (lw_isS_all _ hw)
  obtain ⟨a, c, cell, kk, h2, -⟩ := Cond.exactly_spec (hs _ h1)
  have h3 := hts _ hw
  exact ⟨a, vk_R.of h3 h2⟩
theorem lw_XW {b : Nat} {s : State} (hts : ∀ w ∈ lw_tbl, w.before #[Value.ref b] s = true) : sf_XW s := by
  intro w hw hg
  simp only [sf_xg, Bool.and_eq_true] at hg
  exact va_tabs hg.1 (u := s) (U := s) rfl (hts w hw)
set_option maxRecDepth 100000 in
theorem lw_th : Cond.laysStatic Bundle.tN "UNASSIGNED_STACK" Bundle.steD ∈ lw_tbl ∧ Cond.laysStatic Bundle.tN "SUPPRESSED_SENTINEL" Bundle.listD ∈ lw_tbl ∧ Cond.initialized Bundle.tN ∈ lw_tbl ∧ Cond.isRef (.static Bundle.tN "UNASSIGNED_STACK" Bundle.steD) ∈ flatC (Jvm.Cond.and given_1 narrow_1) ∧ Cond.isRef (.static Bundle.tN "SUPPRESSED_SENTINEL" Bundle.listD) ∈ flatC (Jvm.Cond.and given_1 narrow_1) := by decide +kernel
theorem lw_EX {b : Nat} {s : State} (hts : ∀ w ∈ lw_tbl, w.before #[Value.ref b] s = true) (h : (Jvm.Cond.and given_1 narrow_1).before #[Value.ref b] s = true) : sf_EX (fun z : Nat => s.heap.size ≤ z) s s.heap := by
  have hs := flat_of_before _ h
  obtain ⟨h1, h2, h3, h4, h5⟩ := lw_th
  exact ⟨lw_XW hts, lw_STR hts h, vx_Zqof (hts _ h1) (hts _ h3) (hs _ h4) (fun a ha => Nat.not_le.mpr ha), vx_Zqof (hts _ h2) (hts _ h3) (hs _ h5) (fun a ha => Nat.not_le.mpr ha)⟩
