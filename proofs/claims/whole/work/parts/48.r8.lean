/-! THE COMPARISON, 8: feed, poke, cut; all that stands between the calls. -/
theorem r_v_32 (x : Int64) : r_v x.toInt32 = x.toUInt64.toBitVec.toNat % 2 ^ 32 := by
  show (x.toBitVec.signExtend 32).toNat = _
  rw [BitVec.signExtend_eq_setWidth_of_le _ (by omega), BitVec.toNat_setWidth]
  rfl
theorem r_fb_l (x : Int64) {j : Nat} (hj : j < 8) : r_v (((sf_lushr x (8 * (nI j)))).toInt32 &&& 255) = x.toUInt64.toBitVec.toNat / 2 ^ (8 * j) % 256 := by
  have e8 : (8 : Int32) * nI j = nI (8 * j) := r_mul 8 j
  have e6 : ((nI (8 * j)).toInt64.toUInt64 &&& Int64.toUInt64 63).toNat % 64 = 8 * j := by
    rcases (show j = 0 ∨ j = 1 ∨ j = 2 ∨ j = 3 ∨ j = 4 ∨ j = 5 ∨ j = 6 ∨ j = 7 by omega) with rfl | rfl | rfl | rfl | rfl | rfl | rfl | rfl <;> decide
  rw [r_v_255, r_v_32, e8]
  show (x.toUInt64 >>> ((nI (8 * j)).toInt64.toUInt64 &&& Int64.toUInt64 63)).toNat % 2 ^ 32 % 256 = _
  rw [UInt64.toNat_shiftRight, e6, Nat.shiftRight_eq_div_pow]
  show x.toUInt64.toBitVec.toNat / 2 ^ (8 * j) % 2 ^ 32 % 256 = _
  omega
theorem r_sar (X Y : BitVec 64) {j : Nat} (hj : j < 8) (hY : Y = X.sshiftRight (8 * j)) : Y.toNat % 256 = X.toNat / 2 ^ (8 * j) % 256 := by
  subst hY
  have hX := X.isLt
  have e : (X.sshiftRight (8 * j)).toNat % 256 = (X >>> (8 * j)).toNat % 256 := by
    have : (X.sshiftRight (8 * j)).setWidth 8 = (X >>> (8 * j)).setWidth 8 := by
      apply BitVec.eq_of_getLsbD_eq
      intro i hi
      rw [BitVec.getLsbD_setWidth, BitVec.getLsbD_setWidth, BitVec.getLsbD_sshiftRight, BitVec.getLsbD_ushiftRight, if_pos (by omega), decide_eq_false (show ¬ 64 ≤ i by omega)]
      rfl
    have h2 := congrArg BitVec.toNat this
    rw [BitVec.toNat_setWidth, BitVec.toNat_setWidth] at h2
    exact h2
  rw [e, BitVec.toNat_ushiftRight, Nat.shiftRight_eq_div_pow]
theorem r_fb_r (x : Int64) {j : Nat} (hj : j < 8) : r_v ((((x >>> (((nI (8 * j))).toInt64 &&& 63)) &&& 255)).toInt32) = x.toUInt64.toBitVec.toNat / 2 ^ (8 * j) % 256 := by
  have e6 : (((nI (8 * j))).toInt64 &&& 63).toBitVec.smod 64 = BitVec.ofNat 64 (8 * j) := by
    rcases (show j = 0 ∨ j = 1 ∨ j = 2 ∨ j = 3 ∨ j = 4 ∨ j = 5 ∨ j = 6 ∨ j = 7 by omega) with rfl | rfl | rfl | rfl | rfl | rfl | rfl | rfl <;> decide
  have e7 : (BitVec.ofNat 64 (8 * j)).toNat = 8 * j := by
    rw [BitVec.toNat_ofNat]; omega
  have A : (x >>> (((nI (8 * j))).toInt64 &&& 63)).toBitVec = x.toBitVec.sshiftRight (8 * j) := by
    show x.toBitVec.sshiftRight' ((((nI (8 * j))).toInt64 &&& 63).toBitVec.smod 64) = _
    rw [e6]
    show x.toBitVec.sshiftRight (BitVec.ofNat 64 (8 * j)).toNat = _
    rw [e7]
  rw [r_v_32]
  show ((x >>> (((nI (8 * j))).toInt64 &&& 63)).toBitVec.toNat &&& 255) % 2 ^ 32 = _
  have B := r_sar x.toBitVec _ hj A
  have C : (x >>> (((nI (8 * j))).toInt64 &&& 63)).toBitVec.toNat &&& 255 = (x >>> (((nI (8 * j))).toInt64 &&& 63)).toBitVec.toNat % 256 := Nat.and_two_pow_sub_one_eq_mod _ 8
  rw [C, B]
  show x.toUInt64.toBitVec.toNat / 2 ^ (8 * j) % 256 % 2 ^ 32 = x.toUInt64.toBitVec.toNat / 2 ^ (8 * j) % 256
  omega
/-- the same byte is fed -/
theorem r_fb (x : Int64) {j : Nat} (hj : j < 8) : (((sf_lushr x (8 * (nI j)))).toInt32) &&& 255 = (((x >>> (((nI (8 * j))).toInt64 &&& 63)) &&& 255)).toInt32 := r_v_inj ((r_fb_l x hj).trans (r_fb_r x hj).symm)
theorem r_feedl {x : Int64} : ∀ (j : Nat) (vt vx : Nat → Int32) (vd : Nat), j ≤ 8 → vd + j ≤ 60 → (∀ k : Nat, k < vd → vt k = vx k ∧ r_by (vt k)) →
    (f_SF_feed_l47 x j vt (nI vd)).1 = 0 ∧ (f_MD_feed_l56 x j vx vd).2.1 = 0 ∧ (f_SF_feed_l47 x j vt (nI vd)).2.1 = nI (vd + j) ∧ (f_MD_feed_l56 x j vx vd).1 = nI (vd + j) ∧ (f_SF_feed_l47 x j vt (nI vd)).2.2.2 = nI (vd + j) ∧ (f_MD_feed_l56 x j vx vd).2.2.2 = nI (vd + j) ∧ (∀ k : Nat, k < vd + j → (f_SF_feed_l47 x j vt (nI vd)).2.2.1 k = (f_MD_feed_l56 x j vx vd).2.2.1 k ∧ r_by ((f_SF_feed_l47 x j vt (nI vd)).2.2.1 k)) := by
  intro j
  induction j with
  | zero =>
    intro vt vx vd _ _ h
    rw [f_SF_feed_l47, f_MD_feed_l56]
    exact ⟨rfl, rfl, rfl, rfl, rfl, rfl, h⟩
  | succ j ih =>
    intro vt vx vd h8 h60 h
    have ea : ∀ y : Int32, f_SF_addToTape vt (nI vd) y = (upd vt vd y, nI (vd + 1)) := by
      intro y
      unfold f_SF_addToTape
      rw [if_neg (nI_pos (by omega)), if_neg (show ¬ (60 : Int32) ≤ nI vd from nI_ge (b := 60) (by omega) (by omega)), nI_clamp (by omega), nI_1]
    have I := ih (upd vt vd (((((sf_lushr x (8 * (nI j)))).toInt32) &&& 255))) (upd vx vd (((((x >>> (((nI (8 * j))).toInt64 &&& 63)) &&& 255)).toInt32))) (vd + 1) (by omega) (by omega) (fun k hk => by
      by_cases c : k = vd
      · subst c
        rw [r_upd_at, r_upd_at]
        exact ⟨r_fb x (by omega), r_by_255 _⟩
      · rw [r_upd_ne c, r_upd_ne c]
        exact h k (by omega))
    rw [f_SF_feed_l47, f_MD_feed_l56, ea, show vd + (j + 1) = vd + 1 + j by omega]
    exact I
/-- ALL THAT STANDS between the calls -/
def r_R (fl sl tb nt tp : Nat → Int32) (tl cu sh : Int32) (xB : Nat → Int32) (xsh xcu : Int32) (xtp : Nat → Int32) (td : Nat) : Prop :=
  r_B fl sl tb xB ∧ (∀ k : Nat, 25 ≤ k → k < 36 → nt k = 0) ∧ (tl = nI td ∧ td ≤ 60 ∧ ∀ k : Nat, k < td → tp k = xtp k ∧ r_by (tp k)) ∧ (cu = xcu ∧ r_cu cu) ∧ (sh = xsh ∧ (sh = 0 ∨ sh = 1))
theorem r_c_feed {fl sl tb nt tp : Nat → Int32} {tl cu sh : Int32} {xB xtp : Nat → Int32} {xsh xcu : Int32} {td : Nat} (h : r_R fl sl tb nt tp tl cu sh xB xsh xcu xtp td) (x : Int64) (nn : Int32) :
    r_C 0 0 1 2 (f_SF_feed tp tl x nn) (f_MD_feed xtp td x nn) ∧ ∃ z : Nat, (f_MD_feed xtp td x nn).2.2.2 = nI z ∧ r_R fl sl tb nt (f_SF_feed tp tl x nn).2.2.1 (f_SF_feed tp tl x nn).2.2.2 cu sh xB xsh xcu (f_MD_feed xtp td x nn).2.2.1 z := by
  have h0 := h
  obtain ⟨hB, hz, ⟨htl, htd, htp⟩, hc, hs⟩ := h
  subst htl
  unfold f_SF_feed f_MD_feed
  by_cases a : nn < 1
  · rw [if_pos a, if_pos (by unfold f_MD_in; rw [if_pos a])]
    exact ⟨r_Ct (by decide) (r_no (by decide)), td, rfl, h0⟩
  rw [if_neg a]
  by_cases b : nn ≤ 8
  · rw [if_pos b, if_neg (show ¬ f_MD_in nn 1 8 = 0 by unfold f_MD_in; rw [if_neg a, if_neg (Int32.not_lt.mpr b)]; decide)]
    obtain ⟨j, hj, rfl⟩ := nI_of (show ¬ nn < 0 from fun q => a (Int32.lt_trans q (by decide)))
    have j8 : j ≤ 8 := (nI_leI (b := 8) hj (by omega)).mp b
    rw [nI_add, nI_clamp hj]
    by_cases c : td + j ≤ 60
    · rw [if_pos (show nI (td + j) ≤ (60 : Int32) from nI_le (b := 60) c (by omega)), if_pos (show nI (td + j) ≤ (60 : Int32) from nI_le (b := 60) c (by omega))]
      obtain ⟨a1, a2, a3, a4, a5, a6, a7⟩ := r_feedl (x := x) j tp xtp td j8 c htp
      exact ⟨⟨by rw [a2, a1]; decide, fun _ => a3.trans a4.symm⟩, td + j, a6, hB, hz, ⟨a5, c, a7⟩, hc, hs⟩
    · rw [if_neg (show ¬ nI (td + j) ≤ (60 : Int32) from nI_ge (a := 60) (by omega) (by omega)), if_neg (show ¬ nI (td + j) ≤ (60 : Int32) from nI_ge (a := 60) (by omega) (by omega))]
      exact ⟨r_Ct (by decide) (r_no (by decide)), td, rfl, h0⟩
  · rw [if_neg b, if_pos (show f_MD_in nn 1 8 = 0 by unfold f_MD_in; rw [if_neg a, if_pos (Int32.not_le.mp b)])]
    exact ⟨r_Ct (by decide) (r_no (by decide)), td, rfl, h0⟩
theorem r_xor_y {x y : Int32} (hx : r_by x) (hy : r_by y) : r_by (x ^^^ y) := by
  show r_v (x ^^^ y) < 256
  rw [r_v_xor]
  exact Nat.xor_lt_two_pow (n := 8) hx hy
theorem r_upB0 {fl sl tb xB : Nat → Int32} (h : r_B fl sl tb xB) {j : Nat} (hj : j < 768) {x : Int32} (hx : r_by x) : r_B (upd fl j x) sl tb (upd xB (0 + j) x) := by
  refine ⟨fun k hk => ?_, fun k hk => ?_, fun k hk => ?_, fun k hk => ?_⟩
  · by_cases c : k = j
    · subst c; rw [r_upd_at, r_upd_at]
    · rw [r_upd_ne c, r_upd_ne (by omega)]; exact h.1 k hk
  · rw [r_upd_ne (by omega)]; exact h.2.1 k hk
  · rw [r_upd_ne (by omega)]; exact h.2.2.1 k hk
  · by_cases c : k = 0 + j
    · rw [c, r_upd_at]; exact hx
    · rw [r_upd_ne c]; exact h.2.2.2 k hk
theorem r_upB1 {fl sl tb xB : Nat → Int32} (h : r_B fl sl tb xB) {j : Nat} (hj : j < 512) {x : Int32} (hx : r_by x) : r_B fl (upd sl j x) tb (upd xB (768 + j) x) := by
  refine ⟨fun k hk => ?_, fun k hk => ?_, fun k hk => ?_, fun k hk => ?_⟩
  · rw [r_upd_ne (by omega)]; exact h.1 k hk
  · by_cases c : k = j
    · subst c; rw [r_upd_at, r_upd_at]
    · rw [r_upd_ne c, r_upd_ne (by omega)]; exact h.2.1 k hk
  · rw [r_upd_ne (by omega)]; exact h.2.2.1 k hk
  · by_cases c : k = 768 + j
    · rw [c, r_upd_at]; exact hx
    · rw [r_upd_ne c]; exact h.2.2.2 k hk
theorem r_upB2 {fl sl tb xB : Nat → Int32} (h : r_B fl sl tb xB) {j : Nat} (hj : j < 80) {x : Int32} (hx : r_by x) : r_B fl sl (upd tb j x) (upd xB (1280 + j) x) := by
  refine ⟨fun k hk => ?_, fun k hk => ?_, fun k hk => ?_, fun k hk => ?_⟩
  · rw [r_upd_ne (by omega)]; exact h.1 k hk
  · rw [r_upd_ne (by omega)]; exact h.2.1 k hk
  · by_cases c : k = j
    · subst c; rw [r_upd_at, r_upd_at]
    · rw [r_upd_ne c, r_upd_ne (by omega)]; exact h.2.2.1 k hk
  · by_cases c : k = 1280 + j
    · rw [c, r_upd_at]; exact hx
    · rw [r_upd_ne c]; exact h.2.2.2 k hk
theorem r_s_poke {fl sl tb xB : Nat → Int32} (h : r_B fl sl tb xB) {sh : Int32} (hsh : sh = 0 ∨ sh = 1) (wt wi ma : Int32) :
    r_B (f_SF_poke fl sl tb sh wt wi ma).2.1 (f_SF_poke fl sl tb sh wt wi ma).2.2.1 (f_SF_poke fl sl tb sh wt wi ma).2.2.2.1 (f_MD_poke xB sh wt wi ma).2.1 ∧ (f_SF_poke fl sl tb sh wt wi ma).2.2.2.2 = (f_MD_poke xB sh wt wi ma).2.2 ∧ ((f_SF_poke fl sl tb sh wt wi ma).2.2.2.2 = 0 ∨ (f_SF_poke fl sl tb sh wt wi ma).2.2.2.2 = 1) := by
  by_cases w : f_SF_hasByte wt wi = 0
  · have w2 : ¬ 0 ≤ f_MD_where wt wi := fun q => (lw_where_has wt wi).mp q w
    unfold f_SF_poke f_MD_poke
    rw [if_pos w, if_neg w2]
    by_cases a : f_MD_in ma 1 255 = 0
    · rw [if_pos a]; exact ⟨h, rfl, hsh⟩
    · rw [if_neg a]; exact ⟨h, rfl, hsh⟩
  · have w2 : 0 ≤ f_MD_where wt wi := (lw_where_has wt wi).mpr w
    obtain ⟨j, e, hz⟩ := r_has w
    unfold f_SF_poke f_MD_poke
    rw [if_neg w, if_pos w2]
    by_cases m1 : ma < 1
    · rw [if_pos m1, if_pos (by unfold f_MD_in; rw [if_pos m1])]; exact ⟨h, rfl, hsh⟩
    rw [if_neg m1]
    by_cases m2 : ma ≤ 255
    rotate_left
    · rw [if_neg m2, if_pos (by unfold f_MD_in; rw [if_neg m1, if_pos (Int32.not_le.mp m2)])]; exact ⟨h, rfl, hsh⟩
    rw [if_pos m2, if_neg (show ¬ f_MD_in ma 1 255 = 0 by unfold f_MD_in; rw [if_neg m1, if_neg (Int32.not_lt.mpr m2)]; decide)]
    have hma : r_by ma := by
      obtain ⟨b, hb, rfl⟩ := nI_of (show ¬ ma < 0 from fun q => m1 (Int32.lt_trans q (by decide)))
      have := (nI_leI (b := 255) hb (by omega)).mp m2
      exact r_by_n (by omega)
    rcases hz with ⟨z, hj, hw⟩ | ⟨z, hj, hw⟩ | ⟨z, hj, hw⟩
    · have hy := r_xor_y (h.yf j hj) hma
      rw [if_pos z, hw, nI_clamp (by omega), e, r_get0 hj (by omega), r_set0 hj (by omega), r_255 hy, h.1 j hj]
      exact ⟨r_upB0 h hj hy, rfl, Or.inr rfl⟩
    · have hy := r_xor_y (h.ys j hj) hma
      rw [if_neg (show ¬ wt = 0 by rw [z]; decide), if_pos z, hw, nI_clamp (by omega), e, r_get0 hj (by omega), r_set0 hj (by omega), r_255 hy, h.2.1 j hj]
      exact ⟨r_upB1 h hj hy, rfl, Or.inr rfl⟩
    · have hy := r_xor_y (h.yt j hj) hma
      rw [if_neg (show ¬ wt = 0 by rw [z]; decide), if_neg (show ¬ wt = 1 by rw [z]; decide), hw, nI_clamp (by omega), e, r_get0 hj (by omega), r_set0 hj (by omega), r_255 hy, h.2.2.1 j hj]
      exact ⟨r_upB2 h hj hy, rfl, Or.inr rfl⟩
theorem r_s_cut {cu : Int32} (h : r_cu cu) (n : Int32) : (f_SF_cut cu n).2 = (f_MD_cut cu n).2 ∧ r_cu (f_SF_cut cu n).2 := by
  unfold f_SF_cut f_MD_cut
  by_cases a : n < (-1)
  · rw [if_pos a, if_pos (by unfold f_MD_in; rw [if_pos a])]; exact ⟨rfl, h⟩
  rw [if_neg a]
  by_cases b : n ≤ 200
  · rw [if_pos b, if_neg (show ¬ f_MD_in n (-1) 200 = 0 by unfold f_MD_in; rw [if_neg a, if_neg (Int32.not_lt.mpr b)]; decide)]
    refine ⟨rfl, ?_⟩
    by_cases c : n = -1
    · exact Or.inl c
    · obtain ⟨j, hj, rfl⟩ := nI_of (r_ge0 (Int32.not_lt.mp a) c)
      exact Or.inr ⟨j, (nI_leI (b := 200) hj (by omega)).mp b, rfl⟩
  · rw [if_neg b, if_pos (by unfold f_MD_in; rw [if_neg a, if_pos (Int32.not_le.mp b)])]; exact ⟨rfl, h⟩
