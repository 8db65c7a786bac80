/-! THE COMPARISON, 1: ints as natural numbers, bytes, sums. -/
/-- an int as a natural number -/
def r_v (x : Int32) : Nat := x.toUInt32.toBitVec.toNat
theorem r_v_inj {x y : Int32} (h : r_v x = r_v y) : x = y := Int32.toBitVec.inj (BitVec.eq_of_toNat_eq h)
theorem r_v_lt (x : Int32) : r_v x < 2 ^ 32 := x.toUInt32.toBitVec.isLt
theorem r_v_n {b : Nat} (h : b < 2 ^ 32) : r_v (nI b) = b := by
  show (BitVec.ofNat 32 b).toNat = b
  rw [BitVec.toNat_ofNat]
  exact Nat.mod_eq_of_lt h
theorem r_nv (x : Int32) : nI (r_v x) = x := r_v_inj (r_v_n (r_v_lt x))
theorem r_v_or (x y : Int32) : r_v (x ||| y) = r_v x ||| r_v y := rfl
theorem r_v_and (x y : Int32) : r_v (x &&& y) = r_v x &&& r_v y := rfl
theorem r_v_xor (x y : Int32) : r_v (x ^^^ y) = r_v x ^^^ r_v y := rfl
theorem r_v_shl8 (x : Int32) : r_v (x <<< (8 &&& 31)) = r_v x * 256 % 2 ^ 32 := by
  have h8 : ((8 &&& 31 : Int32)).toBitVec.smod 32 = 8#32 := by decide
  show (x.toBitVec <<< ((8 &&& 31 : Int32)).toBitVec.smod 32).toNat = _
  rw [h8]
  show (x.toBitVec <<< (8 : Nat)).toNat = _
  rw [BitVec.toNat_shiftLeft, Nat.shiftLeft_eq]
  rfl
theorem r_and31 : ∀ c : Fin 32, (c.val &&& 31) % 32 = c.val := by decide
theorem r_v_ushr (x : Int32) {c : Nat} (hc : c < 32) : r_v (sf_ushr x (nI c)) = r_v x / 2 ^ c := by
  have h1 : (nI c).toUInt32.toNat = c := r_v_n (by omega)
  have h2 : (Int32.toUInt32 31).toNat = 31 := by decide
  have h3 : (c &&& 31) % 32 = c := r_and31 ⟨c, hc⟩
  show (x.toUInt32 >>> ((nI c).toUInt32 &&& Int32.toUInt32 31)).toNat = _
  rw [UInt32.toNat_shiftRight, UInt32.toNat_and, h1, h2, h3, Nat.shiftRight_eq_div_pow]
  rfl
theorem r_v_255 (x : Int32) : r_v (x &&& 255) = r_v x % 256 := by
  rw [r_v_and]
  exact Nat.and_two_pow_sub_one_eq_mod (r_v x) 8
theorem r_or_byte {a b : Nat} (hb : b < 256) : (a * 256) ||| b = a * 256 + b := by
  have h := Nat.shiftLeft_add_eq_or_of_lt (i := 8) (b := b) hb a
  rw [Nat.shiftLeft_eq] at h
  exact h.symm
theorem r_step {h : Int32} {a b : Nat} (ha : r_v h = a) (hl : a < 16777216) (hb : b < 256) : r_v ((h <<< (8 &&& 31)) ||| nI b) = a * 256 + b := by
  rw [r_v_or, r_v_shl8, ha, r_v_n (by omega), Nat.mod_eq_of_lt (by omega), r_or_byte hb]
theorem r_mul (a b : Nat) : nI a * nI b = nI (a * b) := (Int32.ofNat_mul a b).symm
theorem r_sub {a b : Nat} (h : b ≤ a) : nI a - nI b = nI (a - b) := (Int32.ofNat_sub a b h).symm
/-- the int is a byte -/
def r_by (x : Int32) : Prop := r_v x < 256
theorem r_by_n {b : Nat} (h : b < 256) : r_by (nI b) := by
  show r_v (nI b) < 256
  rw [r_v_n (by omega)]
  exact h
theorem r_by_of {x : Int32} (h : r_by x) : ∃ b : Nat, b < 256 ∧ x = nI b := ⟨r_v x, h, (r_nv x).symm⟩
theorem r_by_255 (x : Int32) : r_by (x &&& 255) := by
  show r_v (x &&& 255) < 256
  rw [r_v_255]
  exact Nat.mod_lt _ (by omega)
theorem r_255 {x : Int32} (h : r_by x) : x &&& 255 = x := r_v_inj (by rw [r_v_255]; exact Nat.mod_eq_of_lt h)
theorem r_get {n : Nat} {F : Nat → Int32} {sz b i : Nat} (h : b * sz + i < n) (hn : n < 2 ^ 31) : f_Bl_get n F (nI sz) (nI b) (nI i) = F (b * sz + i) := by
  unfold f_Bl_get
  rw [r_mul, nI_add, if_neg (nI_pos (by omega)), if_neg (nI_ge h hn), nI_clamp (by omega)]
theorem r_set {n : Nat} {F : Nat → Int32} {sz b i : Nat} {v : Int32} (h : b * sz + i < n) (hn : n < 2 ^ 31) : f_Bl_set n F (nI sz) (nI b) (nI i) v = upd F (b * sz + i) (v &&& 255) := by
  unfold f_Bl_set
  rw [r_mul, nI_add, if_neg (nI_pos (by omega)), if_neg (nI_ge h hn), nI_clamp (by omega)]
theorem r_if {c d : Prop} [Decidable c] [Decidable d] {α : Type} {a b : α} (h : c ↔ d) : (if c then a else b) = (if d then a else b) := by
  by_cases hd : d
  · rw [if_pos hd, if_pos (h.mpr hd)]
  · rw [if_neg hd, if_neg (fun hc => hd (h.mp hc))]
/-- the class's own sum test, as natural numbers -/
theorem r_sir {n : Nat} {F : Nat → Int32} {b N : Nat} (hn : n < 2 ^ 31) (hb : b * (N + 4) + (N + 4) ≤ n) (c : Nat → Nat) (hc : ∀ k < 4, c k < 256 ∧ F (b * (N + 4) + (N + k)) = nI (c k)) :
    f_Bl_sumIsRight n F (nI b) N = if ((c 0 * 256 + c 1) * 256 + c 2) * 256 + c 3 = r_v (f_Bl_sumOf n F (nI (N + 4)) (nI b) N) then 1 else 0 := by
  have s : ∀ (fu k : Nat) (hd : Int32), k < 4 → f_Bl_sumIsRight_l n F (nI b) N (fu + 1) k hd = f_Bl_sumIsRight_l n F (nI b) N fu (k + 1) ((hd <<< (8 &&& 31)) ||| nI (c k)) := by
    intro fu k hd hk
    rw [f_Bl_sumIsRight_l, if_neg (nI_ge (by omega) (by omega)), r_get (by omega) hn, (hc k hk).2]
  have s4 : ∀ (fu : Nat) (hd : Int32), f_Bl_sumIsRight_l n F (nI b) N (fu + 1) 4 hd = if hd = (f_Bl_sumOf n F (nI (N + 4)) (nI b) N) then 1 else 0 := by
    intro fu hd
    rw [f_Bl_sumIsRight_l, if_pos (nI_le (Nat.le_refl _) (by omega))]
  refine (s 4 0 0 (by omega)).trans ((s 3 1 _ (by omega)).trans ((s 2 2 _ (by omega)).trans ((s 1 3 _ (by omega)).trans ((s4 0 _).trans (r_if ?_)))))
  have h0 := (hc 0 (by omega)).1
  have h1 := (hc 1 (by omega)).1
  have h2 := (hc 2 (by omega)).1
  have h3 := (hc 3 (by omega)).1
  have e0 := r_step (h := 0) (a := 0) rfl (by omega) h0
  have e1 := r_step e0 (by omega) h1
  have e2 := r_step e1 (by omega) h2
  have e3 := r_step e2 (by omega) h3
  rw [Nat.zero_mul, Nat.zero_add] at e3
  exact ⟨fun h => by rw [← h]; exact e3.symm, fun h => r_v_inj (e3.trans h)⟩
theorem r_l37z {xB : Nat → Int32} {fm nb : Nat} {sm : Int32} : ∀ fu kk : Nat, kk + fu = 5 → kk ≤ 4 → f_MD_isSummed_l37 xB fm nb sm fu kk 0 = 0 := by
  intro fu
  induction fu with
  | zero => intro kk h1 h2; omega
  | succ fu ih =>
    intro kk h1 h2
    rw [f_MD_isSummed_l37]
    by_cases h : 4 ≤ kk
    · rw [if_pos (show (4 : Int32) ≤ nI kk from nI_le (a := 4) h (by omega))]
    · rw [if_neg (show ¬ (4 : Int32) ≤ nI kk from nI_ge (b := 4) (by omega) (by omega)), if_pos rfl]
      exact ih (kk + 1) (by omega) (by omega)
theorem r_l37 {xB : Nat → Int32} {fm nb : Nat} {sm : Int32} (c : Nat → Nat) (hc : ∀ k < 4, c k < 256 ∧ xB ((fm + nb) + k) = nI (c k)) :
    f_MD_isSummed_l37 xB fm nb sm (4 + 1) 0 1 = if ((c 0 * 256 + c 1) * 256 + c 2) * 256 + c 3 = r_v sm then 1 else 0 := by
  have e : ∀ k < 4, (xB ((fm + nb) + k) = ((sf_ushr sm (24 - (nI (8 * k)))) &&& 255)) ↔ c k = r_v sm / 2 ^ (24 - 8 * k) % 256 := by
    intro k hk
    have h1 : (24 : Int32) - nI (8 * k) = nI (24 - 8 * k) := r_sub (a := 24) (by omega)
    have h2 : r_v ((sf_ushr sm (24 - (nI (8 * k)))) &&& 255) = r_v sm / 2 ^ (24 - 8 * k) % 256 := by
      rw [r_v_255, h1, r_v_ushr sm (by omega)]
    rw [(hc k hk).2, ← h2]
    have h3 := (hc k hk).1
    exact ⟨fun h => by rw [← h, r_v_n (by omega)], fun h => r_v_inj (by rw [r_v_n (by omega)]; exact h)⟩
  have sp : ∀ fu k : Nat, k < 4 → c k = r_v sm / 2 ^ (24 - 8 * k) % 256 → f_MD_isSummed_l37 xB fm nb sm (fu + 1) k 1 = f_MD_isSummed_l37 xB fm nb sm fu (k + 1) 1 := by
    intro fu k hk h
    rw [f_MD_isSummed_l37, if_neg (show ¬ (4 : Int32) ≤ nI k from nI_ge (b := 4) (by omega) (by omega)), if_neg (by decide), if_pos ((e k hk).mpr h)]
  have sn : ∀ fu k : Nat, k < 4 → k + fu = 4 → ¬ c k = r_v sm / 2 ^ (24 - 8 * k) % 256 → f_MD_isSummed_l37 xB fm nb sm (fu + 1) k 1 = 0 := by
    intro fu k hk hf h
    rw [f_MD_isSummed_l37, if_neg (show ¬ (4 : Int32) ≤ nI k from nI_ge (b := 4) (by omega) (by omega)), if_neg (by decide), if_neg (fun g => h ((e k hk).mp g))]
    exact r_l37z fu (k + 1) (by omega) (by omega)
  have h0 := (hc 0 (by omega)).1
  have h1 := (hc 1 (by omega)).1
  have h2 := (hc 2 (by omega)).1
  have h3 := (hc 3 (by omega)).1
  have hv := r_v_lt sm
  have q0 : 2 ^ (24 - 8 * 0) = 16777216 := rfl
  have q1 : 2 ^ (24 - 8 * 1) = 65536 := rfl
  have q2 : 2 ^ (24 - 8 * 2) = 256 := rfl
  have q3 : 2 ^ (24 - 8 * 3) = 1 := rfl
  by_cases g0 : c 0 = r_v sm / 2 ^ (24 - 8 * 0) % 256
  · by_cases g1 : c 1 = r_v sm / 2 ^ (24 - 8 * 1) % 256
    · by_cases g2 : c 2 = r_v sm / 2 ^ (24 - 8 * 2) % 256
      · by_cases g3 : c 3 = r_v sm / 2 ^ (24 - 8 * 3) % 256
        · have hz : f_MD_isSummed_l37 xB fm nb sm (0 + 1) 4 1 = 1 := by
            rw [f_MD_isSummed_l37, if_pos (show (4 : Int32) ≤ nI 4 from nI_le (a := 4) (Nat.le_refl _) (by omega))]
          refine ((sp 4 0 (by omega) g0).trans ((sp 3 1 (by omega) g1).trans ((sp 2 2 (by omega) g2).trans ((sp 1 3 (by omega) g3).trans hz)))).trans (if_pos ?_).symm
          rw [q0] at g0; rw [q1] at g1; rw [q2] at g2; rw [q3] at g3
          omega
        · refine ((sp 4 0 (by omega) g0).trans ((sp 3 1 (by omega) g1).trans ((sp 2 2 (by omega) g2).trans (sn 1 3 (by omega) (by omega) g3)))).trans (if_neg ?_).symm
          rw [q3] at g3
          omega
      · refine ((sp 4 0 (by omega) g0).trans ((sp 3 1 (by omega) g1).trans (sn 2 2 (by omega) (by omega) g2))).trans (if_neg ?_).symm
        rw [q2] at g2
        omega
    · refine ((sp 4 0 (by omega) g0).trans (sn 3 1 (by omega) (by omega) g1)).trans (if_neg ?_).symm
      rw [q1] at g1
      omega
  · refine (sn 4 0 (by omega) (by omega) g0).trans (if_neg ?_).symm
    rw [q0] at g0
    omega
theorem r_sum_l {F xB : Nat → Int32} {b sz fm N : Nat} (hb : b * sz + N < 2 ^ 31) (h : ∀ k < N, xB (fm + k) = F (b * sz + k)) :
    ∀ (fu k : Nat) (sm : Int32), k + fu = N + 1 → k ≤ N → f_MD_isSummed_l5 xB fm N fu k sm = f_MD_isSummed_l37 xB fm N (f_Bl_sumOf_l F (nI sz) (nI b) N fu k sm) (4 + 1) 0 1 := by
  intro fu
  induction fu with
  | zero => intro k sm h1 h2; omega
  | succ fu ih =>
    intro k sm h1 h2
    rw [f_MD_isSummed_l5, f_Bl_sumOf_l]
    by_cases hc : N ≤ k
    · rw [if_pos (nI_le hc (by omega)), if_pos (nI_le hc (by omega))]
    · have hc' : ¬ nI N ≤ nI k := nI_ge (by omega) (by omega)
      rw [if_neg hc', if_neg hc', ih (k + 1) _ (by omega) (by omega), r_mul, nI_add, nI_clamp (by omega), f_MD_stir, h k (by omega)]
/-- class and reference test a sum alike -/
theorem r_sum {n : Nat} {F xB : Nat → Int32} {b N fm : Nat} (hn : n < 2 ^ 31) (hb : b * (N + 4) + (N + 4) ≤ n) (hx : ∀ k < N + 4, xB (fm + k) = F (b * (N + 4) + k)) (hy : ∀ k < N + 4, r_by (F (b * (N + 4) + k))) :
    f_Bl_sumIsRight n F (nI b) N = f_MD_isSummed xB fm N := by
  have hs : f_Bl_sumOf n F (nI (N + 4)) (nI b) N = f_Bl_sumOf_l F (nI (N + 4)) (nI b) N (N + 1) 0 0 := by
    unfold f_Bl_sumOf
    rw [r_mul, if_neg (nI_pos (by omega)), r_sub (by omega), if_pos (nI_le (by omega) (by omega))]
  have hc : ∀ k < 4, r_v (F (b * (N + 4) + (N + k))) < 256 ∧ F (b * (N + 4) + (N + k)) = nI (r_v (F (b * (N + 4) + (N + k)))) := fun k hk => ⟨hy (N + k) (by omega), (r_nv _).symm⟩
  have hc2 : ∀ k < 4, r_v (F (b * (N + 4) + (N + k))) < 256 ∧ xB ((fm + N) + k) = nI (r_v (F (b * (N + 4) + (N + k)))) := fun k hk => ⟨hy (N + k) (by omega), by rw [r_nv, Nat.add_assoc]; exact hx (N + k) (by omega)⟩
  have A := r_l37 (xB := xB) (fm := fm) (nb := N) (sm := f_Bl_sumOf n F (nI (N + 4)) (nI b) N) (fun k => r_v (F (b * (N + 4) + (N + k)))) hc2
  have B := r_sir hn hb (fun k => r_v (F (b * (N + 4) + (N + k)))) hc
  have C := r_sum_l (F := F) (xB := xB) (sz := N + 4) (b := b) (fm := fm) (N := N) (by omega) (fun k hk => hx k (by omega)) (N + 1) 0 0 (by omega) (by omega)
  rw [← hs] at C
  exact B.trans (A.symm.trans C.symm)
