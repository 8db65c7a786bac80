/-! THE COMPARISON, 10: the reference's way through a move, row by row. -/
theorem r_ly.cover {F : Nat → Int32} {P : Nat} {mo : Int32} {pl he : Nat → Int32} {k hn : Nat} (h : r_ly F P mo pl he k hn) (hy : ∀ q : Nat, q < 32 * P → r_by (F q)) (i : Nat) (hi : i < hn) : r_by (he i) := by
  obtain ⟨o, o0, ok, oj⟩ := h
  have L : ∀ n : Nat, n ≤ k → i < o n → ∃ j : Nat, j < n ∧ o j ≤ i ∧ i < o (j + 1) := by
    intro n
    induction n with
    | zero => intro _ h; omega
    | succ n ih =>
      intro hn h
      by_cases c : i < o n
      · obtain ⟨j, a, b, d⟩ := ih (by omega) c
        exact ⟨j, by omega, b, d⟩
      · exact ⟨n, by omega, by omega, h⟩
  obtain ⟨j, h1, h2, h3⟩ := L k (Nat.le_refl k) (by omega)
  obtain ⟨p, m, a1, a2, a3, a4, a5, a6, a7, a8⟩ := oj j h1
  have := a8 (i - o j) (by omega)
  rw [show o j + (i - o j) = i by omega] at this
  rw [this]
  exact hy _ (by omega)
/-- a row that the move passes over -/
theorem r_mvS {xB xpa xhe xtk xto xwa : Nat → Int32} {mo vn th sh cu xsp xwh xho xmn : Int32} {fu k : Nat} (hk : k < 12) (h : f_MD_isThere xB k = 0 ∨ ¬ f_MD_isSlow xB k = 0 ∨ ¬ (f_MD_monthOf xB xpa xhe k).1 = mo) :
    ∃ (pa : Nat → Int32) (sp wh : Int32) (he : Nat → Int32) (ho : Int32), f_MD_move_l34 mo (fu + 1) k vn th xB sh cu xpa xsp xwh xhe xho xtk xto xwa xmn = f_MD_move_l34 mo fu (k + 1) vn th xB sh cu pa sp wh he ho xtk xto xwa xmn := by
  rw [f_MD_move_l34, if_neg (show ¬ (12 : Int32) ≤ nI k from nI_ge (b := 12) hk (by omega))]
  by_cases a : f_MD_isThere xB k = 0
  · rw [if_pos a]; exact ⟨_, _, _, _, _, rfl⟩
  rw [if_neg a]
  by_cases b : f_MD_isSlow xB k = 0
  · rw [if_pos b]
    by_cases c : (f_MD_monthOf xB xpa xhe k).1 = mo
    · exact absurd h (fun h => by rcases h with h | h | h; exact a h; exact h b; exact h c)
    · rw [if_neg c]; exact ⟨_, _, _, _, _, rfl⟩
  · rw [if_neg b]; exact ⟨_, _, _, _, _, rfl⟩
set_option maxHeartbeats 2000000 in
/-- a row that the move takes -/
theorem r_mvG {fl sl tb xB : Nat → Int32} (h : r_B fl sl tb xB) {k : Nat} (hk : k < 12) (ht : ¬ f_MD_isThere xB k = 0) (hs : f_MD_isSlow xB k = 0) {mo : Int32} (hmn : ¬ mo = -1) {xpa xhe : Nat → Int32} (hm : (f_MD_monthOf xB xpa xhe k).1 = mo) {cu : Int32} (mp us xtk xto xwa : Nat → Int32) (mc mb mh mm xsp xwh xho xmn vn th : Int32) (fu : Nat) :
    ∃ (ho : Nat) (he : Nat → Int32), 1 ≤ ho ∧ ho ≤ 75 ∧ (∀ i : Nat, i < ho → r_by (he i)) ∧
      (∀ cp : Nat → Int32, (f_SF_followRow fl sl tb cp (nI k)).2.2.1 = 0 ∧ (f_SF_followRow fl sl tb cp (nI k)).2.2.2.1 = nI ho ∧ (f_SF_followRow fl sl tb cp (nI k)).2.2.2.2 = mo ∧ ∃ c : Nat, 1 ≤ c ∧ c ≤ 3 ∧ (f_SF_followRow fl sl tb cp (nI k)).2.1 = nI c ∧ r_ly fl 24 mo (f_SF_followRow fl sl tb cp (nI k)).1 he c ho) ∧
      (¬ (ho + 24) / 25 ≤ r_cz (f_SF_markUsed_1 sl tb mp mc mb mh mm us).1 16 → ∃ (pa : Nat → Int32) (sp wh : Int32) (hh : Nat → Int32) (hho : Int32) (tk : Nat → Int32), f_MD_move_l34 mo (fu + 1) k vn th xB 0 cu xpa xsp xwh xhe xho xtk xto xwa xmn = (0, 3, xB, 0, cu, pa, sp, wh, hh, hho, tk, xto, xwa, xmn)) ∧
      ((ho + 24) / 25 ≤ r_cz (f_SF_markUsed_1 sl tb mp mc mb mh mm us).1 16 → ∀ (g : Nat → Nat), r_pk (f_SF_markUsed_1 sl tb mp mc mb mh mm us).1 16 ((ho + 24) / 25) g → ∀ (X : Nat) (pf : Int32), X ≤ 32 * ((ho + 24) / 25) + 40 → (∀ (xB xto xwa : Nat → Int32), f_MD_comes xB 0 cu xto xwa (0 + 32 * ((ho + 24) / 25) + 40) = (1 - pf, r_cs xto xwa 0 X xB, pf)) →
        ∃ (pa : Nat → Int32) (sp wh : Int32) (hh : Nat → Int32) (hho : Int32) (tk to wa : Nat → Int32) (mn : Int32), f_MD_move_l34 mo (fu + 1) k vn th xB 0 cu xpa xsp xwh xhe xho xtk xto xwa xmn =
          if (1 : Int32) - pf = 0 then (-1, 0, r_ap (r_sq xB 768 g (r_pb g ((ho + 24) / 25) ho mo he) X ((ho + 24) / 25)) (1280 + 40 * r_nt xB) (min 40 (X - 32 * ((ho + 24) / 25))) (r_fu 36 (r_tv xB k (r_nu xB) 0 (nI (g 0) + 1))), pf, -1, pa, sp, wh, hh, hho, tk, to, wa, mn)
          else f_MD_move_l34 mo fu (k + 1) (vn + 1) 0 (r_ap (r_sq xB 768 g (r_pb g ((ho + 24) / 25) ho mo he) X ((ho + 24) / 25)) (1280 + 40 * r_nt xB) (min 40 (X - 32 * ((ho + 24) / 25))) (r_fu 36 (r_tv xB k (r_nu xB) 0 (nI (g 0) + 1)))) pf (-1) pa sp wh hh hho tk to wa mn) := by
  have hmon := fun cp => (r_mon h hk cp xpa xhe).1
  have E := Eq.refl (f_MD_move_l34 mo (fu + 1) k vn th xB 0 cu xpa xsp xwh xhe xho xtk xto xwa xmn)
  conv at E =>
    rhs
    rw [f_MD_move_l34]
  rw [if_neg (show ¬ (12 : Int32) ≤ nI k from nI_ge (b := 12) hk (by omega)), if_neg ht, if_pos hs, if_pos hm] at E
  rw [hm] at hmon
  obtain ⟨M, hM⟩ : ∃ M, M = f_MD_monthOf xB xpa xhe k := ⟨_, rfl⟩
  rw [← hM] at E
  obtain ⟨T, hT⟩ : ∃ T, T = f_MD_findTaken_1 xB M.2.1 M.2.2.1 M.2.2.2.1 M.2.2.2.2.1 M.2.2.2.2.2 xtk := ⟨_, rfl⟩
  have FT := r_ft_1 h M.2.1 M.2.2.2.2.1 xtk mp us M.2.2.1 M.2.2.2.1 M.2.2.2.2.2 mc mb mh mm
  rw [← hT] at E FT
  obtain ⟨G, hG⟩ : ∃ G, G = f_MD_go xB T.2.2.1 T.2.2.2.2.2.1 k := ⟨_, rfl⟩
  have A : ∀ cp : Nat → Int32, ∃ mo2 : Int32, r_go fl 24 mo2 (f_SF_followRow fl sl tb cp (nI k)) G := fun cp => by
    obtain ⟨mo2, q⟩ := r_row0 h hk hs cp T.2.2.1 T.2.2.2.2.2.1
    rw [← r_fr0 h hk hs cp, ← hG] at q
    exact ⟨mo2, q⟩
  rw [← hG] at E
  have B : ∀ cp : Nat → Int32, (f_SF_followRow fl sl tb cp (nI k)).2.2.1 = 0 ∧ (f_SF_followRow fl sl tb cp (nI k)).2.2.2.2 = mo ∧ ∃ c hn : Nat, 1 ≤ c ∧ c ≤ 3 ∧ 1 ≤ hn ∧ hn ≤ 75 ∧ (f_SF_followRow fl sl tb cp (nI k)).2.1 = nI c ∧ (f_SF_followRow fl sl tb cp (nI k)).2.2.2.1 = nI hn ∧ G.2.2.2.2 = nI hn ∧ r_ly fl 24 mo (f_SF_followRow fl sl tb cp (nI k)).1 G.2.2.2.1 c hn := by
    intro cp
    have hm3 := hmon cp
    obtain ⟨mo2, g1, c, g2, g3, g4, g5, g6⟩ := A cp
    unfold f_Ch_monthOrNone at hm3
    rcases g6 with ⟨a1, _, _⟩ | ⟨a1, a2, a3, hn, a4, a5, a6, a7, a8⟩
    · rw [a1, if_neg (by decide)] at hm3
      exact absurd hm3.symm hmn
    · rw [a1, if_pos rfl] at hm3
      have e : mo2 = mo := g1.symm.trans hm3
      rw [e] at a8
      exact ⟨a1, hm3, c, hn, a3, g2, a4, a5, g3, a6, a7, a8⟩
  obtain ⟨_, _, c0, ho, b1, b2, b3, b4, _, _, b7, b8⟩ := B (fun _ => 0)
  have eho : G.2.2.2.2.toNatClampNeg = ho := by rw [b7, nI_clamp (by omega)]
  rw [eho, FT.1] at E
  have hcz := r_cz_le (f_SF_markUsed_1 sl tb mp mc mb mh mm us).1 16
  have e24 : ((ho + 25) - 1) / 25 = (ho + 24) / 25 := rfl
  rw [e24] at E
  have hyy : ∀ i : Nat, i < ho → r_by (G.2.2.2.1 i) := fun i hi => b8.cover (fun q hq => h.yf q (by omega)) i hi
  refine ⟨ho, G.2.2.2.1, b3, b4, hyy, fun cp => ?_, fun no => ?_, fun room g hpk X pf hX hcm => ?_⟩
  · obtain ⟨d1, d2, c, hn, d3, d4, d5, d6, d7, d8, d9, d10⟩ := B cp
    have e : hn = ho := (nI_eq (by omega) (by omega)).mp (d9.symm.trans b7)
    subst e
    exact ⟨d1, d8, d2, c, d3, d4, d7, d10⟩
  · rw [if_neg (nI_ge (by omega) (by omega))] at E
    exact ⟨_, _, _, _, _, _, E⟩
  · rw [if_pos (nI_le room (by omega))] at E
    have hnt := r_nt2 xB
    have hg24 : ∀ j : Nat, j < (ho + 24) / 25 → g j < 24 := fun j hj => by have := (hpk j hj).2.1; omega
    have PCH := r_pc_1 (xhe := G.2.2.2.1) (xtk := T.2.1) (xto := xto) (xwa := xwa) (ho := ho) (mo := mo) (by omega) (by omega) (by omega) (by omega) FT.2 hpk
    have PTB := r_pt (xB := xB) (xto := (f_MD_putChain_1 G.2.2.2.1 T.2.1 xto xwa ho 0 mo).2.1) (xwa := (f_MD_putChain_1 G.2.2.2.1 T.2.1 xto xwa ho 0 mo).2.2) (mn := 0 + 32 * ((ho + 24) / 25)) (fi := 0) (sw := nI (g 0) + 1) hk (by omega)
    have ec0 : f_MD_comes xB 0 cu (f_MD_putTable xB (f_MD_putChain_1 G.2.2.2.1 T.2.1 xto xwa ho 0 mo).2.1 (f_MD_putChain_1 G.2.2.2.1 T.2.1 xto xwa ho 0 mo).2.2 (0 + 32 * ((ho + 24) / 25)) k 0 ((f_MD_putChain_1 G.2.2.2.1 T.2.1 xto xwa ho 0 mo).1 + 1)).1 (f_MD_putTable xB (f_MD_putChain_1 G.2.2.2.1 T.2.1 xto xwa ho 0 mo).2.1 (f_MD_putChain_1 G.2.2.2.1 T.2.1 xto xwa ho 0 mo).2.2 (0 + 32 * ((ho + 24) / 25)) k 0 ((f_MD_putChain_1 G.2.2.2.1 T.2.1 xto xwa ho 0 mo).1 + 1)).2 ((0 + 32 * ((ho + 24) / 25)) + 40) = (1 - pf, r_ap (r_sq xB 768 g (r_pb g ((ho + 24) / 25) ho mo G.2.2.2.1) X ((ho + 24) / 25)) (1280 + 40 * r_nt xB) (min 40 (X - 32 * ((ho + 24) / 25))) (r_fu 36 (r_tv xB k (r_nu xB) 0 (nI (g 0) + 1))), pf) := by
      rw [PCH.1]
      refine (hcm xB _ _).trans ?_
      rw [r_csq (n := (ho + 24) / 25) (off := 768) (g := g) (v := r_pb g ((ho + 24) / 25) ho mo G.2.2.2.1) (t := r_nt xB) (tv := r_fu 36 (r_tv xB k (r_nu xB) 0 (nI (g 0) + 1))) hX (by omega) hg24 hnt ?_ ?_]
      · intro j i hj hi
        have A := PTB.2 (32 * j + i) (by omega)
        have B := PCH.2 j i hj hi
        rw [A.1, A.2, B.1, B.2]
        exact ⟨rfl, rfl⟩
      · intro i hi
        have A := PTB.1 i hi
        rw [show 0 + 32 * ((ho + 24) / 25) + i = 32 * ((ho + 24) / 25) + i by omega] at A
        exact A
    rw [ec0] at E
    dsimp only at E
    exact ⟨_, _, _, _, _, _, _, _, _, E⟩
/-- a place of the slow file is put -/
theorem r_pplaceS {np vf v : Nat → Int32} {p X : Nat} (hp : p < 16) (hX : X < 2 ^ 31) (hv : ∀ i : Nat, i < 32 → r_fu 28 np i = v i ∧ r_by (v i)) : (f_SF_putPlace_s vf np (nI X) (nI p)).2.1 = r_ap vf (32 * p) (min 32 X) v ∧ (f_SF_putPlace_s vf np (nI X) (nI p)).2.2 = nI (X - min 32 X) := by
  have e := r_put_ns (vf := vf) (np := f_SF_setSum 32 np 28) (v := v) hp hX (fun i hi => ⟨by rw [r_setSum rfl (by omega) i hi]; exact (hv i hi).1, (hv i hi).2⟩)
  unfold f_SF_putPlace_s
  rw [e]
  exact ⟨rfl, rfl⟩
theorem r_n75' : ∀ t : Fin 76, ((nI t.val + 25) - 1) / 25 = nI ((t.val + 24) / 25) := by decide +kernel
theorem r_n75 {ho : Nat} (h : ho ≤ 75) : ((nI ho + 25) - 1) / 25 = nI ((ho + 24) / 25) := r_n75' ⟨ho, by omega⟩
