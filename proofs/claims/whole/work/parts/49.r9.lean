/-! THE COMPARISON, 9: the calls, one by one. -/
theorem r_k_feed {fl sl tb nt tp : Nat → Int32} {tl cu sh : Int32} {xB xtp : Nat → Int32} {xsh xcu : Int32} {td : Nat} {by0 : Int64} {nn : Int32} {u : Int32 × Int32 × (Nat → Int32) × Int32} {w : Int32 × Int32 × (Nat → Int32) × Int32} (hR : r_R fl sl tb nt tp tl cu sh xB xsh xcu xtp td) (hu : u = f_SF_feed tp tl by0 nn) (hw : w = f_MD_feed xtp td by0 nn) : r_C 0 0 1 2 u w ∧ ∃ z : Nat, z ≤ 60 ∧ w.2.2.2 = nI z ∧ r_R fl sl tb nt u.2.2.1 u.2.2.2 cu sh xB xsh xcu w.2.2.1 z := by
  subst hu
  subst hw
  obtain ⟨a, z, b, c⟩ := r_c_feed hR by0 nn
  exact ⟨a, z, c.2.2.1.2.1, b, c⟩
theorem r_k_write {fl sl tb nt tp : Nat → Int32} {tl cu sh : Int32} {xB xtp : Nat → Int32} {xsh xcu : Int32} {td : Nat} {np : Nat → Int32} {mp : Nat → Int32} {mc : Int32} {mb : Int32} {mh : Int32} {mm : Int32} {us : Nat → Int32} {ta : Nat → Int32} {bl : Int32} {pf : Int32} {ro : Int32} {mo : Int32} {xpa : Nat → Int32} {xsp : Int32} {xwh : Int32} {xhe : Nat → Int32} {xho : Int32} {xtk : Nat → Int32} {xto : Nat → Int32} {xwa : Nat → Int32} {xmn : Int32} {u : Int32 × Int32 × (Nat → Int32) × (Nat → Int32) × (Nat → Int32) × (Nat → Int32) × (Nat → Int32) × (Nat → Int32) × Int32 × Int32 × Int32 × Int32 × (Nat → Int32) × Int32 × Int32 × Int32 × Int32 × Int32} {w : Int32 × Int32 × (Nat → Int32) × Int32 × Int32 × Int32 × (Nat → Int32) × Int32 × Int32 × (Nat → Int32) × Int32 × (Nat → Int32) × (Nat → Int32) × (Nat → Int32) × Int32} (hR : r_R fl sl tb nt tp tl cu sh xB xsh xcu xtp td) (hu : u = f_SF_write fl tb np nt mp mc mb mh mm us ta tp tl cu bl pf sh ro mo) (hw : w = f_MD_write xB xsh xcu xtp xpa xsp xwh xhe xho xtk xto xwa xmn td ro mo) : r_C 1 2 3 4 u w ∧ ∃ z : Nat, z ≤ 60 ∧ w.2.2.2.2.2.1 = nI z ∧ r_R u.2.2.1 sl u.2.2.2.1 u.2.2.2.2.2.1 tp u.2.2.2.2.2.2.2.2.2.2.2.2.2.1 u.2.2.2.2.2.2.2.2.2.2.2.2.2.2.1 u.2.2.2.2.2.2.2.2.2.2.2.2.2.2.2.2.2 w.2.2.1 w.2.2.2.1 w.2.2.2.2.1 xtp z := by
  subst hu
  subst hw
  obtain ⟨hB, hz, ⟨htl, htd, htp⟩, ⟨hc1, hc2⟩, ⟨hs1, hs2⟩⟩ := hR
  subst htl
  subst hc1
  subst hs1
  obtain ⟨a, b, c, ⟨z, z1, z2, z3⟩, d, e, f, g⟩ := r_wri hB hz hc2 hs2 htd htp np mp us ta xpa xhe xtk xto xwa mc mb mh mm bl pf xsp xwh xho xmn ro mo
  exact ⟨a, z, by omega, z3, b, c, ⟨z2, by omega, fun k hk => htp k (by omega)⟩, ⟨d, e⟩, ⟨f, g⟩⟩
theorem r_k_remove {fl sl tb nt tp : Nat → Int32} {tl cu sh : Int32} {xB xtp : Nat → Int32} {xsh xcu : Int32} {td : Nat} {bl : Int32} {pf : Int32} {ro : Int32} {xto : Nat → Int32} {xwa : Nat → Int32} {xmn : Int32} {u : Int32 × Int32 × (Nat → Int32) × (Nat → Int32) × Int32 × Int32 × Int32 × Int32} {w : Int32 × Int32 × (Nat → Int32) × Int32 × Int32 × (Nat → Int32) × (Nat → Int32) × Int32} (hR : r_R fl sl tb nt tp tl cu sh xB xsh xcu xtp td) (hu : u = f_SF_remove tb nt cu bl pf sh ro) (hw : w = f_MD_remove xB xsh xcu xto xwa xmn ro) : r_C 1 2 0 0 u w ∧ r_R fl sl u.2.2.1 u.2.2.2.1 tp tl u.2.2.2.2.1 u.2.2.2.2.2.2.2 w.2.2.1 w.2.2.2.1 w.2.2.2.2.1 xtp td := by
  subst hu
  subst hw
  obtain ⟨hB, hz, ⟨htl, htd, htp⟩, ⟨hc1, hc2⟩, ⟨hs1, hs2⟩⟩ := hR
  subst htl
  subst hc1
  subst hs1
  obtain ⟨a, b, c, d, e, f, g⟩ := r_rem hB hz hc2 (bl := bl) (pf := pf) (xmn := xmn) (ro := ro) hs2 xto xwa
  exact ⟨a, b, c, ⟨rfl, htd, htp⟩, ⟨d, e⟩, ⟨f, g⟩⟩
theorem r_k_cut {fl sl tb nt tp : Nat → Int32} {tl cu sh : Int32} {xB xtp : Nat → Int32} {xsh xcu : Int32} {td : Nat} {bt : Int32} {u : Int32 × Int32} {w : Int32 × Int32} (hR : r_R fl sl tb nt tp tl cu sh xB xsh xcu xtp td) (hu : u = f_SF_cut cu bt) (hw : w = f_MD_cut xcu bt) : w.1 = lw_c 0 0 1 0 u.1 ∧ r_R fl sl tb nt tp tl u.2 sh xB xsh w.2 xtp td := by
  subst hu
  subst hw
  obtain ⟨hB, hz, ⟨htl, htd, htp⟩, ⟨hc1, hc2⟩, ⟨hs1, hs2⟩⟩ := hR
  subst htl
  subst hc1
  subst hs1
  obtain ⟨a, b⟩ := r_s_cut hc2 bt
  exact ⟨lw_cmp_cut _ _ _, hB, hz, ⟨rfl, htd, htp⟩, ⟨a, b⟩, ⟨rfl, hs2⟩⟩
theorem r_open2 (xB : Nat → Int32) : (f_MD_open xB).2 = 0 := by
  have L : ∀ (fu k : Nat) (v : Int32), k + fu = 13 → k ≤ 12 → (f_MD_open_l14 xB fu k v).2 = 0 := by
    intro fu
    induction fu with
    | zero => intro k v h1 h2; omega
    | succ fu ih =>
      intro k v h1 h2
      rw [f_MD_open_l14]
      by_cases hk : 12 ≤ k
      · rw [if_pos (show (12 : Int32) ≤ nI k from nI_le (a := 12) hk (by omega))]
      · rw [if_neg (show ¬ (12 : Int32) ≤ nI k from nI_ge (b := 12) (by omega) (by omega))]
        by_cases e : f_MD_isThere xB k = 0
        · rw [if_pos e]; exact ih (k + 1) _ (by omega) (by omega)
        · rw [if_neg e]; exact ih (k + 1) _ (by omega) (by omega)
  unfold f_MD_open
  exact L (12 + 1) 0 0 (by omega) (by omega)
theorem r_k_open {fl sl tb nt tp : Nat → Int32} {tl cu sh : Int32} {xB xtp : Nat → Int32} {xsh xcu : Int32} {td : Nat}  {u : Int32 × Int32} {w : Int32 × Int32} (hR : r_R fl sl tb nt tp tl cu sh xB xsh xcu xtp td) (hu : u = f_SF_open tb) (hw : w = f_MD_open xB) : u.1 = w.1 ∧ r_R fl sl tb nt tp tl cu u.2 xB w.2 xcu xtp td := by
  obtain ⟨hB, hz, h3, h4, h5⟩ := hR
  have e : u = w := by rw [hu, hw]; exact r_open hB
  have e2 : w.2 = 0 := by rw [hw]; exact r_open2 xB
  rw [e]
  exact ⟨rfl, hB, hz, h3, h4, ⟨rfl, Or.inl e2⟩⟩
theorem r_k_row {fl sl tb nt tp : Nat → Int32} {tl cu sh : Int32} {xB xtp : Nat → Int32} {xsh xcu : Int32} {td : Nat} {cp : Nat → Int32} {cc : Int32} {cb : Int32} {ch : Int32} {cm : Int32} {ro : Int32} {i : Int32} {xpa : Nat → Int32} {xsp : Int32} {xwh : Int32} {xhe : Nat → Int32} {xho : Int32} {u : Int32 × Int32 × (Nat → Int32) × Int32 × Int32 × Int32 × Int32} {w : Int32 × Int32 × (Nat → Int32) × Int32 × Int32 × (Nat → Int32) × Int32} (hR : r_R fl sl tb nt tp tl cu sh xB xsh xcu xtp td) (hu : u = f_SF_row fl sl tb cp cc cb ch cm sh ro i) (hw : w = f_MD_row xB xsh xpa xsp xwh xhe xho ro i) : r_C 1 2 0 0 u w ∧ r_R fl sl tb nt tp tl cu sh xB xsh xcu xtp td := by
  subst hu
  subst hw
  obtain ⟨hB, hz, ⟨htl, htd, htp⟩, ⟨hc1, hc2⟩, ⟨hs1, hs2⟩⟩ := hR
  subst htl
  subst hc1
  subst hs1
  exact ⟨r_c_row hB cp xpa xhe cc cb ch cm sh xsp xwh xho ro i, hB, hz, ⟨rfl, htd, htp⟩, ⟨rfl, hc2⟩, ⟨rfl, hs2⟩⟩
theorem r_k_at {fl sl tb nt tp : Nat → Int32} {tl cu sh : Int32} {xB xtp : Nat → Int32} {xsh xcu : Int32} {td : Nat} {cp : Nat → Int32} {cc : Int32} {cb : Int32} {ch : Int32} {cm : Int32} {ro : Int32} {wt : Int32} {xpa : Nat → Int32} {xsp : Int32} {xwh : Int32} {xhe : Nat → Int32} {xho : Int32} {u : Int32 × Int32 × (Nat → Int32) × Int32 × Int32 × Int32 × Int32} {w : Int32 × Int32 × (Nat → Int32) × Int32 × Int32 × (Nat → Int32) × Int32} (hR : r_R fl sl tb nt tp tl cu sh xB xsh xcu xtp td) (hu : u = f_SF_at fl sl tb cp cc cb ch cm sh ro wt) (hw : w = f_MD_at xB xsh xpa xsp xwh xhe xho ro wt) : r_C 1 2 0 0 u w ∧ r_R fl sl tb nt tp tl cu sh xB xsh xcu xtp td := by
  subst hu
  subst hw
  obtain ⟨hB, hz, ⟨htl, htd, htp⟩, ⟨hc1, hc2⟩, ⟨hs1, hs2⟩⟩ := hR
  subst htl
  subst hc1
  subst hs1
  exact ⟨r_c_at hB cp xpa xhe cc cb ch cm sh xsp xwh xho ro wt, hB, hz, ⟨rfl, htd, htp⟩, ⟨rfl, hc2⟩, ⟨rfl, hs2⟩⟩
theorem r_k_told {fl sl tb nt tp : Nat → Int32} {tl cu sh : Int32} {xB xtp : Nat → Int32} {xsh xcu : Int32} {td : Nat} {mp : Nat → Int32} {mc : Int32} {mb : Int32} {mh : Int32} {mm : Int32} {us : Nat → Int32} {wt : Int32} {xpa : Nat → Int32} {xsp : Int32} {xwh : Int32} {xhe : Nat → Int32} {xho : Int32} {xtk : Nat → Int32} {u : Int32 × Int32 × (Nat → Int32) × (Nat → Int32) × Int32 × Int32 × Int32 × Int32} {w : Int32 × Int32 × (Nat → Int32) × (Nat → Int32) × Int32 × Int32 × (Nat → Int32) × Int32} (hR : r_R fl sl tb nt tp tl cu sh xB xsh xcu xtp td) (hu : u = f_SF_told fl sl tb mp mc mb mh mm us tl sh wt) (hw : w = f_MD_told xB xsh (nI td) xpa xsp xwh xhe xho xtk wt) : r_C 1 2 0 0 u w ∧ r_R fl sl tb nt tp tl cu sh xB xsh xcu xtp td := by
  subst hu
  subst hw
  obtain ⟨hB, hz, ⟨htl, htd, htp⟩, ⟨hc1, hc2⟩, ⟨hs1, hs2⟩⟩ := hR
  subst htl
  subst hc1
  subst hs1
  exact ⟨r_c_told hB mp us xpa xhe xtk mc mb mh mm (nI td) sh xsp xwh xho wt, hB, hz, ⟨rfl, htd, htp⟩, ⟨rfl, hc2⟩, ⟨rfl, hs2⟩⟩
theorem r_k_wrong {fl sl tb nt tp : Nat → Int32} {tl cu sh : Int32} {xB xtp : Nat → Int32} {xsh xcu : Int32} {td : Nat} {mp : Nat → Int32} {mc : Int32} {mb : Int32} {mh : Int32} {mm : Int32} {us : Nat → Int32} {wt : Int32} {wk : Int32} {xpa : Nat → Int32} {xsp : Int32} {xwh : Int32} {xhe : Nat → Int32} {xho : Int32} {xtk : Nat → Int32} {u : Int32 × Int32 × (Nat → Int32) × (Nat → Int32) × Int32 × Int32 × Int32 × Int32} {w : Int32 × Int32 × (Nat → Int32) × (Nat → Int32) × Int32 × Int32 × (Nat → Int32) × Int32} (hR : r_R fl sl tb nt tp tl cu sh xB xsh xcu xtp td) (hu : u = f_SF_wrong fl sl tb mp mc mb mh mm us wt wk) (hw : w = f_MD_wrong xB xpa xsp xwh xhe xho xtk wt wk) : r_C 1 0 0 0 u w ∧ r_R fl sl tb nt tp tl cu sh xB xsh xcu xtp td := by
  subst hu
  subst hw
  obtain ⟨hB, hz, ⟨htl, htd, htp⟩, ⟨hc1, hc2⟩, ⟨hs1, hs2⟩⟩ := hR
  subst htl
  subst hc1
  subst hs1
  exact ⟨r_c_wrong hB mp us xpa xhe xtk mc mb mh mm xsp xwh xho wt wk, hB, hz, ⟨rfl, htd, htp⟩, ⟨rfl, hc2⟩, ⟨rfl, hs2⟩⟩
theorem r_k_byteAt {fl sl tb nt tp : Nat → Int32} {tl cu sh : Int32} {xB xtp : Nat → Int32} {xsh xcu : Int32} {td : Nat} {wt : Int32} {i : Int32} {u : Int32 × Int32} {w : Int32 × Int32} (hR : r_R fl sl tb nt tp tl cu sh xB xsh xcu xtp td) (hu : u = f_SF_byteAt fl sl tb wt i) (hw : w = f_MD_byteAt xB wt i) : (w.2 = lw_c 1 0 0 0 u.1 ∧ (u.1 = 0 → u.2 = w.1)) ∧ r_R fl sl tb nt tp tl cu sh xB xsh xcu xtp td := by
  subst hu
  subst hw
  obtain ⟨hB, hz, ⟨htl, htd, htp⟩, ⟨hc1, hc2⟩, ⟨hs1, hs2⟩⟩ := hR
  subst htl
  subst hc1
  subst hs1
  exact ⟨r_c_byteAt hB wt i, hB, hz, ⟨rfl, htd, htp⟩, ⟨rfl, hc2⟩, ⟨rfl, hs2⟩⟩
theorem r_k_poke {fl sl tb nt tp : Nat → Int32} {tl cu sh : Int32} {xB xtp : Nat → Int32} {xsh xcu : Int32} {td : Nat} {wt : Int32} {i : Int32} {ma : Int32} {u : Int32 × (Nat → Int32) × (Nat → Int32) × (Nat → Int32) × Int32} {w : Int32 × (Nat → Int32) × Int32} (hR : r_R fl sl tb nt tp tl cu sh xB xsh xcu xtp td) (hu : u = f_SF_poke fl sl tb sh wt i ma) (hw : w = f_MD_poke xB xsh wt i ma) : w.1 = lw_c 1 0 2 0 u.1 ∧ r_R u.2.1 u.2.2.1 u.2.2.2.1 nt tp tl cu u.2.2.2.2 w.2.1 w.2.2 xcu xtp td := by
  subst hu
  subst hw
  obtain ⟨hB, hz, ⟨htl, htd, htp⟩, ⟨hc1, hc2⟩, ⟨hs1, hs2⟩⟩ := hR
  subst htl
  subst hc1
  subst hs1
  obtain ⟨a, b, c⟩ := r_s_poke hB hs2 wt i ma
  exact ⟨lw_cmp_poke _ _ _ _ _ _ _ _ _, a, hz, ⟨rfl, htd, htp⟩, ⟨rfl, hc2⟩, ⟨b, c⟩⟩
/-- at the beginning -/
theorem r_R0 : r_R (fun _ => 0) (fun _ => 0) (fun _ => 0) (fun _ => 0) (fun _ => 0) 0 (-1) 0 (fun _ => 0) 0 (-1) (fun _ => 0) 0 :=
  ⟨⟨fun _ _ => rfl, fun _ _ => rfl, fun _ _ => rfl, fun _ _ => r_by0⟩, fun _ _ _ => rfl, ⟨rfl, Nat.zero_le _, fun k hk => absurd hk (Nat.not_lt_zero k)⟩, ⟨rfl, Or.inl rfl⟩, ⟨rfl, Or.inl rfl⟩⟩
theorem r0_feed {β : Type} {r : Int32 × β} (h : sf_TC [0, 3, 4] r) (hc : lw_c 0 0 1 2 r.1 = 0) : r.1 = 0 := by
  rcases sf_TC3 h with t | t | t
  · exact t
  · exact absurd hc (by rw [t]; decide)
  · exact absurd hc (by rw [t]; decide)
theorem r0_write {β : Type} {r : Int32 × β} (h : sf_TC [0, 1, 2, 3, 4] r) (hc : lw_c 1 2 3 4 r.1 = 0) : r.1 = 0 := by
  rcases sf_TC5 h with t | t | t | t | t
  · exact t
  · exact absurd hc (by rw [t]; decide)
  · exact absurd hc (by rw [t]; decide)
  · exact absurd hc (by rw [t]; decide)
  · exact absurd hc (by rw [t]; decide)
theorem r0_remove {β : Type} {r : Int32 × β} (h : sf_TC [0, 1, 2] r) (hc : lw_c 1 2 0 0 r.1 = 0) : r.1 = 0 := by
  rcases sf_TC3 h with t | t | t
  · exact t
  · exact absurd hc (by rw [t]; decide)
  · exact absurd hc (by rw [t]; decide)
theorem r0_move {β : Type} {r : Int32 × β} (h : sf_TC [0, 2, 3, 4] r) (hc : lw_c 0 1 2 3 r.1 = 0) : r.1 = 0 := by
  rcases sf_TC4 h with t | t | t | t
  · exact t
  · exact absurd hc (by rw [t]; decide)
  · exact absurd hc (by rw [t]; decide)
  · exact absurd hc (by rw [t]; decide)
theorem r0_cut {β : Type} {r : Int32 × β} (h : sf_TC [0, 3] r) (hc : lw_c 0 0 1 0 r.1 = 0) : r.1 = 0 := by
  rcases sf_TC2 h with t | t
  · exact t
  · exact absurd hc (by rw [t]; decide)
theorem r0_row {β : Type} {r : Int32 × β} (h : sf_TC [0, 1, 2] r) (hc : lw_c 1 2 0 0 r.1 = 0) : r.1 = 0 := by
  rcases sf_TC3 h with t | t | t
  · exact t
  · exact absurd hc (by rw [t]; decide)
  · exact absurd hc (by rw [t]; decide)
theorem r0_at {β : Type} {r : Int32 × β} (h : sf_TC [0, 1, 2] r) (hc : lw_c 1 2 0 0 r.1 = 0) : r.1 = 0 := by
  rcases sf_TC3 h with t | t | t
  · exact t
  · exact absurd hc (by rw [t]; decide)
  · exact absurd hc (by rw [t]; decide)
theorem r0_told {β : Type} {r : Int32 × β} (h : sf_TC [0, 1, 2] r) (hc : lw_c 1 2 0 0 r.1 = 0) : r.1 = 0 := by
  rcases sf_TC3 h with t | t | t
  · exact t
  · exact absurd hc (by rw [t]; decide)
  · exact absurd hc (by rw [t]; decide)
theorem r0_wrong {β : Type} {r : Int32 × β} (h : sf_TC [0, 1] r) (hc : lw_c 1 0 0 0 r.1 = 0) : r.1 = 0 := by
  rcases sf_TC2 h with t | t
  · exact t
  · exact absurd hc (by rw [t]; decide)
theorem r0_byteAt {β : Type} {r : Int32 × β} (h : sf_TC [0, 1] r) (hc : lw_c 1 0 0 0 r.1 = 0) : r.1 = 0 := by
  rcases sf_TC2 h with t | t
  · exact t
  · exact absurd hc (by rw [t]; decide)
theorem r0_poke {β : Type} {r : Int32 × β} (h : sf_TC [0, 1, 3] r) (hc : lw_c 1 0 2 0 r.1 = 0) : r.1 = 0 := by
  rcases sf_TC3 h with t | t | t
  · exact t
  · exact absurd hc (by rw [t]; decide)
  · exact absurd hc (by rw [t]; decide)
theorem r_out {t a b : Int32} {fo : Nat → Int64} (h0 : t = 0) (he : a = b) : lg_cmp (lw_out t fo a.toInt64 0) b.toInt64 = 0 := by
  rw [lw_out_0 h0, pk_uLs, he]
  exact (lg_cmp_eq _ _).mpr rfl
