/-! THE LAW'S WRAPPERS: methods with an exception table that catch what the class throws; they return in every case ('sf_N': at most one new cell of six slots) -/
abbrev sf_wsH (y : MethodName) (b : ByteArray) (nL : Nat) (ret : Option FieldType) (hh : List (Nat × Nat × Nat × Nat)) : List Cond := Cond.codeWith y b nL ret hh :: sf_tb
/-- which exceptions are of no other's class -/
def lw_ncs : List (String × String) := (["java/lang/IndexOutOfBoundsException", "java/lang/IllegalStateException", "java/lang/IllegalArgumentException", "java/lang/UnsupportedOperationException"].flatMap fun a => ["java/lang/IndexOutOfBoundsException", "java/lang/IllegalStateException", "java/lang/IllegalArgumentException", "java/lang/UnsupportedOperationException"].map fun b => (a, b)).filter fun q => q.1 ≠ q.2
def lw_NC (U : State) : Prop := ∀ q ∈ lw_ncs, va_Nc q.1 q.2 U
theorem lw_NC.moved {u U : State} (hvm : u.vm.Alike U.vm) (h : lw_NC u) : lw_NC U := fun q hq => (h q hq).moved hvm
def sf_N {S : Type} (l : Launch) (D : va_G) (cl : List vw_C) (tys : List (ClassId × FieldType)) (y : MethodName) (ws : List Cond) (fr lo : Nat) (As : List Value) (wc : va_W) (ov : S → Option Value) (post : S → Prop) (w1 : S → va_W) : Prop :=
  ∀ sz : Nat, Met l y ws ({ frames := fr, cells := 1, slots := 6, locals := lo }) (va_Pc As (fun U => (U.heap.size = sz ∧ va_P D cl wc U.heap ∧ va_K D cl tys U ∧ va_D (fun _ => True) wc) ∧ sf_EX (va_A wc sz) U U.heap ∧ lw_NC U))
    (fun _ st o t => (∃ u : S, o = .returned (ov u) ∧ post u ∧ va_P D cl (w1 u) t.heap) ∧ va_F (va_A wc sz) st t) 1 6 (va_A wc sz)
def sf_NQ {S : Type} (s : State) (args : Array Value) (below : List Frame) (D : va_G) (cl : List vw_C) (A : Nat → Prop) (ov : S → Option Value) (post : S → Prop) (w1 : S → va_W) : State → Prop :=
  MQ below (fun _ st o t => (∃ u : S, o = .returned (ov u) ∧ post u ∧ va_P D cl (w1 u) t.heap) ∧ va_F A st t) args s 1 6 A
section SNA
variable {S : Type} {l : Launch} {D : va_G} {cl : List vw_C} {tys : List (ClassId × FieldType)} {y : MethodName} {fr lo : Nat} {As : List Value} {wc : va_W} {ov : S → Option Value} {post : S → Prop} {w1 : S → va_W}
theorem sf_ofWN {cc : ByteArray} {maxL : Nat} {ret : Option FieldType} {hh : List (Nat × Nat × Nat × Nat)} (hy : plainName y.cls = true) (hlen : (lg_sl As).length ≤ maxL)
    (body : ∀ (p : Program) (e : Env) (s : State) (m : MethodId) (below : List Frame) (meth : Method) (c : Code) (A : Nat → Prop) (ls : Array Slot) (R : Room) (args : Array Value) (Q : State → Prop), R = { frames := fr, cells := 1, slots := 6, locals := lo } → args = As.toArray → Q = sf_NQ s args below D cl A ov post w1 → sf_C p s m meth c cc maxL y args A → meth.sig.returnType = ret → c.exceptionTable.toList = tableOf hh → sf_EX A s s.heap → lw_NC s → va_K D cl tys s → va_P D cl wc s.heap → va_D A wc → lv_has ls maxL (lv_args 0 As) →
      W p l e R s m args below meth c s.heap [] 0 0 Q (F0 m 0 ls [])) : sf_N l D cl tys y (sf_wsH y cc maxL ret hh) fr lo As wc ov post w1 := by
  intro sz
  refine va_MetW (cc := cc) (maxL := maxL) (ret := ret) (hh := hh) hy rfl ?_
  intro p e s m args below meth c s₁ B hml hv
  obtain ⟨rfl, ⟨hsz, hP, hK, hD0⟩, hE, hN⟩ := hv
  have hts := atoms_spec (ws := sf_wsH y cc maxL ret hh) B.pre
  have htab := vx_table (x := y) B (hts _ List.mem_cons_self)
  have hown : s.vm.findClass y.cls = some m.cls := findClass_of_methodNamed B.named
  subst hsz
  have hD := hD0.self (sz := s.heap.size)
  have hl := lv_entry As (n := maxL) hlen
  rw [lg_entry_eq]
  exact body p e s m below meth c _ _ _ _ _ rfl rfl rfl ⟨B.exec, B.bytes, hml, hown, fun w h => hts w (List.mem_cons_of_mem _ h), fun q h => Or.inr h, B.notSynchronized⟩ B.returns htab hE hN hK hP hD hl
end SNA
/-! WORLDS OF TWO PARTS: the callee's cells are the first part, or the second -/
section SPA
variable {D : va_G} {cl : List vw_C} {X Y wc wl wr w1 : va_W} {H H1 : Heap} {A : Nat → Prop}
theorem sf_Pl (h : va_P D cl (X ++ Y) H) : va_P D cl X H := fun k q hq => h k q (by rw [List.getElem?_append_left (List.getElem?_eq_some_iff.mp hq).1]; exact hq)
theorem sf_Pr (h : va_P D cl (X ++ Y) H) : va_P D cl Y H := fun k q hq => h (X.length + k) q (by rw [List.getElem?_append_right (by omega), Nat.add_sub_cancel_left]; exact hq)
theorem sf_Dl (h : va_D A (X ++ Y)) : va_D A X := by
  have e : ∀ (k : Nat) (q : Nat × va_E), X[k]? = some q → (X ++ Y)[k]? = some q := fun k q hq => by rw [List.getElem?_append_left (List.getElem?_eq_some_iff.mp hq).1]; exact hq
  exact ⟨fun i j x y hx hy => h.1 i j x y (e i x hx) (e j y hy), fun k q hq => h.2 k q (e k q hq)⟩
theorem sf_Dr (h : va_D A (X ++ Y)) : va_D A Y := by
  have e : ∀ (k : Nat) (q : Nat × va_E), Y[k]? = some q → (X ++ Y)[X.length + k]? = some q := fun k q hq => by rw [List.getElem?_append_right (by omega), Nat.add_sub_cancel_left]; exact hq
  refine ⟨fun i j x y hx hy hxy => ?_, fun k q hq => h.2 _ q (e k q hq)⟩
  have := h.1 _ _ x y (e i x hx) (e j y hy) hxy
  omega
/-- cells of the one part are apart from those of the other -/
theorem sf_apart (h : va_D A (X ++ Y)) {i j : Nat} {x y : Nat × va_E} (hx : X[i]? = some x) (hy : Y[j]? = some y) : x.1 ≠ y.1 := by
  intro e
  have h1 : (X ++ Y)[i]? = some x := by rw [List.getElem?_append_left (List.getElem?_eq_some_iff.mp hx).1]; exact hx
  have h2 : (X ++ Y)[X.length + j]? = some y := by rw [List.getElem?_append_right (by omega), Nat.add_sub_cancel_left]; exact hy
  have h3 := h.1 _ _ x y h1 h2 e
  have h4 := (List.getElem?_eq_some_iff.mp hx).1
  omega
theorem sf_joinP (hP : va_P D cl (wc ++ wr) H) (hD : va_D A (wc ++ wr)) (hfst : w1.map Prod.fst = wc.map Prod.fst) (hk : ∀ q : Nat, q < H.size → ¬ va_A wc H.size q → H1[q]? = H[q]?) (hP1 : va_P D cl w1 H1) : va_P D cl (w1 ++ wr) H1 ∧ va_D A (w1 ++ wr) := by
  refine ⟨va_P.app hP1 (fun k q hq => ?_), sf_dsame hD (by rw [List.map_append, List.map_append, hfst])⟩
  have hl := (sf_Pr hP k q hq).lt
  refine (sf_Pr hP k q hq).kept (hk q.1 hl (fun h => ?_))
  rcases h with ⟨k2, e, h⟩ | h
  · exact sf_apart hD h hq rfl
  · omega
theorem sf_joinS (hP : va_P D cl (wl ++ wc) H) (hD : va_D A (wl ++ wc)) (hfst : w1.map Prod.fst = wc.map Prod.fst) (hk : ∀ q : Nat, q < H.size → ¬ va_A wc H.size q → H1[q]? = H[q]?) (hP1 : va_P D cl w1 H1) : va_P D cl (wl ++ w1) H1 ∧ va_D A (wl ++ w1) := by
  refine ⟨va_P.app (fun k q hq => ?_) hP1, sf_dsame hD (by rw [List.map_append, List.map_append, hfst])⟩
  have hl := (sf_Pl hP k q hq).lt
  refine (sf_Pl hP k q hq).kept (hk q.1 hl (fun h => ?_))
  rcases h with ⟨k2, e, h⟩ | h
  · exact sf_apart hD hq h rfl
  · omega
theorem sf_freeOf {H0 : Heap} {locs : List Loc} (hD : va_D A wc) (hS : va_S A H0 H locs) (hA : ∀ q : Nat, H0.size ≤ q → A q) : ∀ q, va_A wc H.size q → A q := fun q h => by
  rcases h with ⟨k, e, h⟩ | h
  · exact hD.2 k (q, e) h
  · exact hA q (Nat.le_trans hS.1 h)
end SPA
section SNB
variable {S : Type} {p : Program} {l : Launch} {e : Env} {R : Room} {s : State} {m : MethodId} {args : Array Value} {below : List Frame} {meth : Method} {c : Code} {H : Heap} {locs : List Loc} {cells slots : Nat} {Q : State → Prop} {D : va_G} {cl : List vw_C} {tys : List (ClassId × FieldType)} {wc wl wr : va_W} {A : Nat → Prop} {H0 : Heap} {thr : S → Int32} {ov : S → Option Value} {post : S → Prop} {w1 : S → va_W} {cc bytes : ByteArray}
  {pc nL maxL n index fr lo : Nat} {ls : Array Slot} {own C : String} {y : MethodName} {ret : Option FieldType} {ws Ts : List Cond} {As rest st0 : List Value} {b : Addr}
theorem sf_niret (u : S) {v : Int32} (hexec : p.tables.exec = Jvm.exec) (hb : c.code = cc) (hr : meth.sig.returnType = some .int) (hlocks : meth.locks = false) (hS : va_S A s.heap H locs) (ho : ov u = some (.int v)) (hp : post u) (hP : va_P D cl (w1 u) H)
    (hdg : decode cc pc = .ok (.ireturn, 1)) : W p l e R s m args below meth c H locs 1 6 (sf_NQ s args below D cl A ov post w1) (F0 m pc ls [.int v]) :=
  W.zret hexec hb hr rfl (fun t ht _ => ⟨⟨u, by rw [ho], hp, by rw [ht]; exact hP⟩, hS.F ht⟩) hS.2.2 hdg hlocks
theorem sf_xblind {av : List Value} {sz : Nat} : FrameBlind (va_Pc av (fun U => (U.heap.size = sz ∧ va_P D cl wc U.heap ∧ va_K D cl tys U ∧ va_D (fun _ => True) wc) ∧ sf_EX (va_A wc sz) U U.heap)) := fun a U g mk q => by
  obtain ⟨q0, ⟨q1, qP, qK, qD⟩, qE⟩ := q
  exact ⟨q0, ⟨q1, qP, va_K.moved (u := U) (U := U.calling g mk a) (Vm.Alike.refl U.vm) qK, qD⟩, sf_EX.same (s := U) (U := U.calling g mk a) rfl qE⟩
theorem sf_nblind {av : List Value} {sz : Nat} : FrameBlind (va_Pc av (fun U => (U.heap.size = sz ∧ va_P D cl wc U.heap ∧ va_K D cl tys U ∧ va_D (fun _ => True) wc) ∧ sf_EX (va_A wc sz) U U.heap ∧ lw_NC U)) := fun a U g mk q => by
  obtain ⟨q0, ⟨q1, qP, qK, qD⟩, qE, qN⟩ := q
  exact ⟨q0, ⟨q1, qP, va_K.moved (u := U) (U := U.calling g mk a) (Vm.Alike.refl U.vm) qK, qD⟩, sf_EX.same (s := U) (U := U.calling g mk a) rfl qE, lw_NC.moved (u := U) (U := U.calling g mk a) (Vm.Alike.refl U.vm) qN⟩
theorem sf_EX.at {A : Nat → Prop} {s : State} {H : Heap} {locs : List Loc} (h : sf_EX A s s.heap) (hS : va_S A s.heap H locs) : sf_EX A s H := h.kept (fun a h1 h2 => hS.2.1 a h1 h2)
/-- a call of a method that returns or throws -/
theorem sf_xcallV (Sx : CallFix p m c cc nL s args Ts own) (hM : sf_XM l D cl tys y ws fr lo (.ref b :: As) wc thr ov post w1) (cw : CallW R s args own C index y bytes maxL ret ws ({ frames := fr, cells := 1, slots := 6, locals := lo }) 1 6 n)
    (hK : va_K D cl tys s) (hE : sf_EX A s s.heap) (hP : va_P D cl (wc ++ wr) H) (hD : va_D A (wc ++ wr)) (hS : va_S A s.heap H locs) (hA : ∀ q : Nat, s.heap.size ≤ q → A q) (hfst : ∀ u, (w1 u).map Prod.fst = wc.map Prod.fst)
    {ci q0 : Nat} {fs : List Value} {qc : vw_C} (hcl : cl[ci]? = some qc) (hqc : qc.1 = C) (hq0 : wc[q0]? = some (b, .inr (ci, fs))) (hst : st0 = As.reverse ++ .ref b :: rest) (hn : As.length = n) (hsize : ls.size = nL) (hW : (rest.map fun v => v.category).sum ≤ 8) (hdg : decode cc pc = .ok (.invokevirtual index, 3)) (hf : cells + 1 ≤ R.cells ∧ slots + 6 ≤ R.slots)
    (kx : ∀ (u : S) (H1 : Heap) (locs1 : List Loc) (q : Addr) (ce : Cell), ¬ thr u = 0 → post u → va_P D cl (w1 u ++ wr) H1 → va_D A (w1 u ++ wr) → va_S A s.heap H1 locs1 → H1[q]? = some ce → ce.vm = .none → s.vm.findClass (sf_en (thr u)) = some ce.cls → vx_W p l e R s m args below meth c H1 locs1 (cells + 1) (slots + 6) Q (F0 m pc ls rest) q)
    (kk : ∀ (u : S) (H1 : Heap) (locs1 : List Loc), thr u = 0 → post u → va_P D cl (w1 u ++ wr) H1 → va_D A (w1 u ++ wr) → va_S A s.heap H1 locs1 → W p l e R s m args below meth c H1 locs1 (cells + 1) (slots + 6) Q (F0 m (pc + 3) ls ((ov u).toList ++ rest))) : W p l e R s m args below meth c H locs cells slots Q (F0 m pc ls st0) := by
  have hPc : va_P D cl wc H := sf_Pl hP
  have hDc : va_D (fun _ => True) wc := (sf_Dl hD).weaken (fun _ _ _ _ => trivial)
  have hrc : ∃ cellB : Cell, H[b]? = some cellB ∧ cellB.vm.isStatics = false ∧ s.vm.findClass C = some cellB.cls := by
    subst hqc
    exact va_recv hK hPc hcl hq0
  have hF := sf_freeOf (sf_Dl hD) hS hA
  have hEc : sf_EX (va_A wc H.size) s H := (hE.at hS).narrow hF
  have hr := vx_runV (As := As) (rest := rest) (b := b) (g := F0 m pc ls st0) (locs := locs) (cells := cells) (slots := slots) (R := R) (e := e) (below := below) (meth := meth) Sx (hM H.size) cw ⟨sf_xblind, hrc, fun U hU hW => ⟨rfl, ⟨by rw [hU], by rw [hU]; exact hPc, va_K.moved hW.alike hK, hDc⟩, by rw [hU]; exact hEc.warm hW⟩⟩ rfl hn hsize hst (lv_room hW) hdg ⟨hf.1, hf.2⟩
  intro T hT X
  rcases hr T hT X with ⟨v, st₀, t, T', L, h0, X', hL, e1, e2, ⟨⟨u, hv, ht0, hp, hb⟩, hz, hk⟩, st⟩ | ⟨q, st₀, t, T', L, E, ce, h0, X', hL, e1, e2, ⟨⟨u, hEe, hne, hp, hb⟩, hz, hk⟩, hce, hcv, hcl, st⟩
  · cases hv
    rw [h0] at hz hk
    obtain ⟨hP1, hD1⟩ := sf_joinP hP hD (hfst u) hk hb
    obtain ⟨t2, a1, b1⟩ := kk u T'.heap (locs ++ L) ht0 hp (by rw [e1]; exact hP1) hD1
      ⟨Nat.le_trans hS.1 (by rw [e1]; exact hz), fun q h1 h2 => by rw [e1, hk q (Nat.lt_of_lt_of_le h1 hS.1) (fun z => h2 (hF q z))]; exact hS.2.1 q h1 h2, fun q hq => by
        rcases List.mem_append.mp hq with h | h
        · exact hS.2.2 q h
        · exact hF _ (hL q h)⟩ T' rfl X'
    exact ⟨t2, st t2 a1, b1⟩
  · subst hEe
    rw [h0] at hz hk
    obtain ⟨hP1, hD1⟩ := sf_joinP hP hD (hfst u) hk hb
    obtain ⟨t2, a1, b1⟩ := kx u T'.heap (locs ++ L) q ce hne hp (by rw [e1]; exact hP1) hD1
      ⟨Nat.le_trans hS.1 (by rw [e1]; exact hz), fun q h1 h2 => by rw [e1, hk q (Nat.lt_of_lt_of_le h1 hS.1) (fun z => h2 (hF q z))]; exact hS.2.1 q h1 h2, fun q hq => by
        rcases List.mem_append.mp hq with h | h
        · exact hS.2.2 q h
        · exact hF _ (hL q h)⟩ (by rw [e1]; exact hce) hcv hcl T' rfl X'
    exact ⟨t2, st.trans a1, b1⟩
/-- a call of a wrapper -/
theorem sf_ncallS {hh : List (Nat × Nat × Nat × Nat)} (Sx : CallFix p m c cc nL s args Ts own) (hM : sf_N l D cl tys y ws fr lo As wc ov post w1) (cw : vx_CSW R s args own index y bytes maxL ret hh ws ({ frames := fr, cells := 1, slots := 6, locals := lo }) 1 6 n)
    (hK : va_K D cl tys s) (hE : sf_EX A s s.heap) (hN : lw_NC s) (hP : va_P D cl (wc ++ wr) H) (hD : va_D A (wc ++ wr)) (hS : va_S A s.heap H locs) (hA : ∀ q : Nat, s.heap.size ≤ q → A q) (hfst : ∀ u, (w1 u).map Prod.fst = wc.map Prod.fst)
    (hst : st0 = As.reverse ++ rest) (hn : As.length = n) (hsize : ls.size = nL) (hW : (rest.map fun v => v.category).sum ≤ 8) (hdg : decode cc pc = .ok (.invokestatic index, 3)) (hf : cells + 1 ≤ R.cells ∧ slots + 6 ≤ R.slots)
    (kk : ∀ (u : S) (H1 : Heap) (locs1 : List Loc), post u → va_P D cl (w1 u ++ wr) H1 → va_D A (w1 u ++ wr) → va_S A s.heap H1 locs1 → W p l e R s m args below meth c H1 locs1 (cells + 1) (slots + 6) Q (F0 m (pc + 3) ls ((ov u).toList ++ rest))) : W p l e R s m args below meth c H locs cells slots Q (F0 m pc ls st0) := by
  have hPc : va_P D cl wc H := sf_Pl hP
  have hDc : va_D (fun _ => True) wc := (sf_Dl hD).weaken (fun _ _ _ _ => trivial)
  have hF := sf_freeOf (sf_Dl hD) hS hA
  have hEc : sf_EX (va_A wc H.size) s H := (hE.at hS).narrow hF
  have hr := vx_runSW (As := As) (rest := rest) (g := F0 m pc ls st0) (locs := locs) (cells := cells) (slots := slots) (R := R) (e := e) (below := below) (meth := meth) Sx (hM H.size) cw ⟨sf_nblind, fun U hU hW => ⟨rfl, ⟨by rw [hU], by rw [hU]; exact hPc, va_K.moved hW.alike hK, hDc⟩, by rw [hU]; exact hEc.warm hW, hN.moved hW.alike⟩⟩ rfl hn hsize hst (lv_room hW) hdg ⟨hf.1, hf.2⟩
  intro T hT X
  obtain ⟨v, st₀, t, T', L, h0, X', hL, e1, e2, ⟨⟨u, hv, hp, hb⟩, hz, hk⟩, st⟩ := hr T hT X
  cases hv
  rw [h0] at hz hk
  obtain ⟨hP1, hD1⟩ := sf_joinP hP hD (hfst u) hk hb
  obtain ⟨t2, a1, b1⟩ := kk u T'.heap (locs ++ L) hp (by rw [e1]; exact hP1) hD1
    ⟨Nat.le_trans hS.1 (by rw [e1]; exact hz), fun q h1 h2 => by rw [e1, hk q (Nat.lt_of_lt_of_le h1 hS.1) (fun z => h2 (hF q z))]; exact hS.2.1 q h1 h2, fun q hq => by
      rcases List.mem_append.mp hq with h | h
      · exact hS.2.2 q h
      · exact hF _ (hL q h)⟩ T' rfl X'
  exact ⟨t2, st t2 a1, b1⟩
/-- a method that makes nothing, over the second part; over the first -/
theorem sf_callVS (Sx : CallFix p m c cc nL s args Ts own) (hM : sf_M l D cl tys y ws fr lo (.ref b :: As) wc ov post w1) (cw : CallW R s args own C index y bytes maxL ret ws ({ frames := fr, cells := 0, slots := 0, locals := lo }) 0 0 n)
    (hK : va_K D cl tys s) (hP : va_P D cl (wl ++ wc) H) (hD : va_D A (wl ++ wc)) (hS : va_S A H0 H locs) (hA : ∀ q : Nat, H0.size ≤ q → A q) (hfst : ∀ u, (w1 u).map Prod.fst = wc.map Prod.fst)
    {ci q0 : Nat} {fs : List Value} {qc : vw_C} (hcl : cl[ci]? = some qc) (hqc : qc.1 = C) (hq0 : wc[q0]? = some (b, .inr (ci, fs))) (hst : st0 = As.reverse ++ .ref b :: rest) (hn : As.length = n) (hsize : ls.size = nL) (hW : (rest.map fun v => v.category).sum ≤ 8) (hdg : decode cc pc = .ok (.invokevirtual index, 3)) (hf : cells ≤ R.cells ∧ slots ≤ R.slots)
    (kk : ∀ (u : S) (H1 : Heap) (locs1 : List Loc), post u → va_P D cl (wl ++ w1 u) H1 → va_D A (wl ++ w1 u) → va_S A H0 H1 locs1 → W p l e R s m args below meth c H1 locs1 cells slots Q (F0 m (pc + 3) ls ((ov u).toList ++ rest))) : W p l e R s m args below meth c H locs cells slots Q (F0 m pc ls st0) := by
  have hPc : va_P D cl wc H := sf_Pr hP
  have hDc : va_D (fun _ => True) wc := (sf_Dr hD).weaken (fun _ _ _ _ => trivial)
  have hrc : ∃ cellB : Cell, H[b]? = some cellB ∧ cellB.vm.isStatics = false ∧ s.vm.findClass C = some cellB.cls := by
    subst hqc
    exact va_recv hK hPc hcl hq0
  have hF := sf_freeOf (sf_Dr hD) hS hA
  have hr := va_runV (As := As) (rest := rest) (b := b) (g := F0 m pc ls st0) (locs := locs) (cells := cells) (slots := slots) (R := R) (e := e) (below := below) (meth := meth) Sx (hM H.size) cw ⟨sf_blind, hrc, fun U hU hW => ⟨rfl, by rw [hU], by rw [hU]; exact hPc, va_K.moved hW.alike hK, hDc⟩⟩ rfl hn hsize hst (lv_room hW) hdg ⟨hf.1, hf.2⟩
  intro T hT X
  obtain ⟨v, st₀, t, T', L, h0, X', hL, e1, e2, ⟨⟨u, hv, hp, hb⟩, hz, hk⟩, st⟩ := hr T hT X
  cases hv
  rw [h0] at hz hk
  obtain ⟨hP1, hD1⟩ := sf_joinS hP hD (hfst u) hk hb
  obtain ⟨t2, a1, b1⟩ := kk u T'.heap (locs ++ L) hp (by rw [e1]; exact hP1) hD1
    ⟨Nat.le_trans hS.1 (by rw [e1]; exact hz), fun q h1 h2 => by rw [e1, hk q (Nat.lt_of_lt_of_le h1 hS.1) (fun z => h2 (hF q z))]; exact hS.2.1 q h1 h2, fun q hq => by
      rcases List.mem_append.mp hq with h | h
      · exact hS.2.2 q h
      · exact hF _ (hL q h)⟩ T' rfl X'
  exact ⟨t2, st t2 a1, b1⟩
theorem sf_callVP (Sx : CallFix p m c cc nL s args Ts own) (hM : sf_M l D cl tys y ws fr lo (.ref b :: As) wc ov post w1) (cw : CallW R s args own C index y bytes maxL ret ws ({ frames := fr, cells := 0, slots := 0, locals := lo }) 0 0 n)
    (hK : va_K D cl tys s) (hP : va_P D cl (wc ++ wr) H) (hD : va_D A (wc ++ wr)) (hS : va_S A H0 H locs) (hA : ∀ q : Nat, H0.size ≤ q → A q) (hfst : ∀ u, (w1 u).map Prod.fst = wc.map Prod.fst)
    {ci q0 : Nat} {fs : List Value} {qc : vw_C} (hcl : cl[ci]? = some qc) (hqc : qc.1 = C) (hq0 : wc[q0]? = some (b, .inr (ci, fs))) (hst : st0 = As.reverse ++ .ref b :: rest) (hn : As.length = n) (hsize : ls.size = nL) (hW : (rest.map fun v => v.category).sum ≤ 8) (hdg : decode cc pc = .ok (.invokevirtual index, 3)) (hf : cells ≤ R.cells ∧ slots ≤ R.slots)
    (kk : ∀ (u : S) (H1 : Heap) (locs1 : List Loc), post u → va_P D cl (w1 u ++ wr) H1 → va_D A (w1 u ++ wr) → va_S A H0 H1 locs1 → W p l e R s m args below meth c H1 locs1 cells slots Q (F0 m (pc + 3) ls ((ov u).toList ++ rest))) : W p l e R s m args below meth c H locs cells slots Q (F0 m pc ls st0) := by
  have hPc : va_P D cl wc H := sf_Pl hP
  have hDc : va_D (fun _ => True) wc := (sf_Dl hD).weaken (fun _ _ _ _ => trivial)
  have hrc : ∃ cellB : Cell, H[b]? = some cellB ∧ cellB.vm.isStatics = false ∧ s.vm.findClass C = some cellB.cls := by
    subst hqc
    exact va_recv hK hPc hcl hq0
  have hF := sf_freeOf (sf_Dl hD) hS hA
  have hr := va_runV (As := As) (rest := rest) (b := b) (g := F0 m pc ls st0) (locs := locs) (cells := cells) (slots := slots) (R := R) (e := e) (below := below) (meth := meth) Sx (hM H.size) cw ⟨sf_blind, hrc, fun U hU hW => ⟨rfl, by rw [hU], by rw [hU]; exact hPc, va_K.moved hW.alike hK, hDc⟩⟩ rfl hn hsize hst (lv_room hW) hdg ⟨hf.1, hf.2⟩
  intro T hT X
  obtain ⟨v, st₀, t, T', L, h0, X', hL, e1, e2, ⟨⟨u, hv, hp, hb⟩, hz, hk⟩, st⟩ := hr T hT X
  cases hv
  rw [h0] at hz hk
  obtain ⟨hP1, hD1⟩ := sf_joinP hP hD (hfst u) hk hb
  obtain ⟨t2, a1, b1⟩ := kk u T'.heap (locs ++ L) hp (by rw [e1]; exact hP1) hD1
    ⟨Nat.le_trans hS.1 (by rw [e1]; exact hz), fun q h1 h2 => by rw [e1, hk q (Nat.lt_of_lt_of_le h1 hS.1) (fun z => h2 (hF q z))]; exact hS.2.1 q h1 h2, fun q hq => by
      rcases List.mem_append.mp hq with h | h
      · exact hS.2.2 q h
      · exact hF _ (hL q h)⟩ T' rfl X'
  exact ⟨t2, st t2 a1, b1⟩
end SNB
/-- the table's words for a call of a method that throws, and for a wrapper's -/
theorem sf_cwVX {R : Room} {s : State} {args : Array Value} {own : String} {index nL n fr lo : Nat} {y : MethodName} {b : ByteArray} {ret : Option FieldType} {Ts : List Cond} (h : sf_LV own index y b nL ret n) (ht : ∀ w ∈ Ts, w.before args s = true) (hT : ∀ w ∈ sf_tb, w ∈ Ts) (hR : fr + 1 ≤ R.frames ∧ 8 + (nL + 11) + lo ≤ R.locals) :
    CallW R s args own y.cls index y b nL ret (sf_ws y b nL ret) ({ frames := fr, cells := 1, slots := 6, locals := lo }) 1 6 n := by
  obtain ⟨h1, h2, h3, h4, h5, h6⟩ := h
  exact ⟨callB_of n ht (sf_goodIn hT h1) rfl rfl rfl (ht _ (hT _ h5)) (ht _ (hT _ h2)) h6 hR, ht _ (hT _ h3), ht _ (hT _ h4)⟩
def sf_LW (own : String) (index : Nat) (y : MethodName) (b : ByteArray) (nL : Nat) (ret : Option FieldType) (hh : List (Nat × Nat × Nat × Nat)) (n : Nat) : Prop :=
  Cond.codeWith y b nL ret hh ∈ sf_tb ∧ Cond.methodLink own index y ∈ sf_tb ∧ Cond.static y ∈ sf_tb ∧ Cond.initialized y.cls ∈ sf_tb ∧ (y.cls ≠ "java/lang/invoke/MethodHandle" ∧ y.cls ≠ "java/lang/invoke/VarHandle" ∧ (parseMethodDescriptor y.desc).map (fun d => d.parameters.length) = some n)
theorem sf_cwSW {R : Room} {s : State} {args : Array Value} {own : String} {index nL n fr lo : Nat} {y : MethodName} {b : ByteArray} {ret : Option FieldType} {hh : List (Nat × Nat × Nat × Nat)} {Ts : List Cond} (h : sf_LW own index y b nL ret hh n) (ht : ∀ w ∈ Ts, w.before args s = true) (hT : ∀ w ∈ sf_tb, w ∈ Ts) (hR : fr + 1 ≤ R.frames ∧ 8 + (nL + 11) + lo ≤ R.locals) :
    vx_CSW R s args own index y b nL ret hh (sf_wsH y b nL ret hh) ({ frames := fr, cells := 1, slots := 6, locals := lo }) 1 6 n := by
  obtain ⟨h1, h2, h3, h5, h6⟩ := h
  have hG : GoodIn Ts (sf_wsH y b nL ret hh) := by
    intro w hw
    rcases List.mem_cons.mp hw with rfl | hw
    · exact ⟨hT _ h1, sf_tb_good _ h1⟩
    · exact ⟨hT _ hw, sf_tb_good _ hw⟩
  refine ⟨⟨rfl, rfl, hR.1, hR.2, pay_in ht hG, List.mem_cons_self⟩, ht _ (hT _ h1), ht _ (hT _ h5), ⟨h6.1, h6.2.1⟩, fun sig h => ?_, ht _ (hT _ h2), ht _ (hT _ h3)⟩
  have h7 := h6.2.2
  rw [h] at h7
  exact (Option.some.inj h7).symm
