/-! THE BASE OF THE WORK: contracts of methods that make nothing ('sf_M'), calls by them over a larger world ('sf_repl': the callee's cells are replaced where they stand), one table of words for all. -/
def sf_repl : va_W → List Nat → va_W → va_W
  | W0, i :: is, e :: es => sf_repl (W0.set i e) is es
  | W0, [], _ => W0
  | W0, _ :: _, [] => W0
theorem sf_repl_get : ∀ (is : List Nat) (es W0 : va_W), is.length = es.length → (∀ i ∈ is, i < W0.length) → ∀ k : Nat, (∃ j : Nat, is[j]? = some k ∧ (sf_repl W0 is es)[k]? = es[j]?) ∨ (k ∉ is ∧ (sf_repl W0 is es)[k]? = W0[k]?)
  | [], es, W0, _, _, k => Or.inr ⟨List.not_mem_nil, by simp [sf_repl]⟩
  | i :: is, [], W0, h, _, k => by simp at h
  | i :: is, e :: es, W0, h, hl, k => by
    have h2 : is.length = es.length := by simpa using h
    rcases sf_repl_get is es (W0.set i e) h2 (fun x hx => by rw [List.length_set]; exact hl x (List.mem_cons_of_mem _ hx)) k with ⟨j, h3, h4⟩ | ⟨h3, h4⟩
    · exact Or.inl ⟨j + 1, by simpa using h3, by simpa [sf_repl] using h4⟩
    · by_cases hki : k = i
      · subst hki
        refine Or.inl ⟨0, by simp, ?_⟩
        show (sf_repl (W0.set k e) is es)[k]? = _
        rw [h4, List.getElem?_set_self (hl k List.mem_cons_self)]
        simp
      · refine Or.inr ⟨fun q => ?_, ?_⟩
        · rcases List.mem_cons.mp q with q | q
          · exact hki q
          · exact h3 q
        · show (sf_repl (W0.set i e) is es)[k]? = _
          rw [h4, List.getElem?_set_ne (Ne.symm hki)]
theorem sf_map_at {is : List Nat} {ws wc : va_W} (hC : is.map (fun i => ws[i]?) = wc.map some) (k : Nat) (q : Nat × va_E) (hq : wc[k]? = some q) : ∃ i, is[k]? = some i ∧ ws[i]? = some q := by
  have h1 : (is.map (fun i => ws[i]?))[k]? = some (some q) := by rw [hC, List.getElem?_map, hq]; rfl
  rw [List.getElem?_map] at h1
  cases hi : is[k]? with
  | none => rw [hi] at h1; cases h1
  | some i => rw [hi] at h1; exact ⟨i, rfl, Option.some.inj h1⟩
/-- behind a call: the callee's cells stand where they stood, with what it left in them -/
theorem sf_join {A0 : Nat → Prop} {D : va_G} {cl : List vw_C} {W0 wc w1 : va_W} {H H1 : Heap} (hP : va_P D cl W0 H) (hD : va_D A0 W0) (isC : List Nat) (hC : isC.map (fun i => W0[i]?) = wc.map some) (hfst : w1.map Prod.fst = wc.map Prod.fst)
    (hk : ∀ q : Nat, q < H.size → ¬ va_A wc H.size q → H1[q]? = H[q]?) (hP1 : va_P D cl w1 H1) : va_P D cl (sf_repl W0 isC w1) H1 ∧ va_D A0 (sf_repl W0 isC w1) := by
  have hlen : isC.length = w1.length := by
    have a1 := congrArg List.length hC
    have a2 := congrArg List.length hfst
    simp at a1 a2
    omega
  have hlt : ∀ i ∈ isC, i < W0.length := by
    intro i hi
    obtain ⟨j, hj⟩ := List.getElem?_of_mem hi
    have h1 : (isC.map (fun i => W0[i]?))[j]? = some (W0[i]?) := by rw [List.getElem?_map, hj]; rfl
    rw [hC, List.getElem?_map] at h1
    cases hw : wc[j]? with
    | none => rw [hw] at h1; simp at h1
    | some q =>
      rw [hw] at h1
      simp at h1
      exact (List.getElem?_eq_some_iff.mp h1.symm).1
  have hget := sf_repl_get isC w1 W0 hlen hlt
  have hold : ∀ (k : Nat) (q : Nat × va_E), (sf_repl W0 isC w1)[k]? = some q → ∃ e, W0[k]? = some (q.1, e) := by
    intro k q hq
    rcases hget k with ⟨j, h1, h2⟩ | ⟨h1, h2⟩
    · rw [hq] at h2
      have h3 : (w1.map Prod.fst)[j]? = some q.1 := by rw [List.getElem?_map, ← h2]; rfl
      rw [hfst, List.getElem?_map] at h3
      cases hw : wc[j]? with
      | none => rw [hw] at h3; simp at h3
      | some r =>
        rw [hw] at h3
        simp at h3
        obtain ⟨i, h4, h5⟩ := sf_map_at hC j r hw
        rw [h1] at h4
        obtain rfl := Option.some.inj h4
        exact ⟨r.2, by rw [h5, ← h3]⟩
    · rw [hq] at h2
      exact ⟨q.2, h2.symm⟩
  refine ⟨fun k q hq => ?_, ⟨fun i j x y hx hy hxy => ?_, fun k q hq => ?_⟩⟩
  · rcases hget k with ⟨j, h1, h2⟩ | ⟨h1, h2⟩
    · rw [hq] at h2
      exact hP1 j q h2.symm
    · rw [hq] at h2
      have hl := (hP k q h2.symm).lt
      refine (hP k q h2.symm).kept (hk q.1 hl (fun h => ?_))
      rcases h with ⟨k2, e, h⟩ | h
      · obtain ⟨i, h4, h5⟩ := sf_map_at hC k2 (q.1, e) h
        have := hD.1 k i q (q.1, e) h2.symm h5 rfl
        subst this
        exact h1 (List.mem_of_getElem? h4)
      · omega
  · obtain ⟨e1, h1⟩ := hold i x hx
    obtain ⟨e2, h2⟩ := hold j y hy
    exact hD.1 i j _ _ h1 h2 hxy
  · obtain ⟨e1, h1⟩ := hold k q hq
    exact hD.2 k (q.1, e1) h1
/-- one table of words for all methods: what stands in the tables and stays good -/
def sf_tb : List Cond := lw_tbl.filter goodWord
theorem sf_tb_good : ∀ w ∈ sf_tb, (w.onTables && w.keeps) = true ∨ ∃ ty, w = .arrayClass ty := fun _ h => good_of_word (List.mem_filter.mp h).2
theorem sf_tb_in {w : Cond} (i : Nat) (h : lw_tbl[i]? = some w) (hg : goodWord w = true) : w ∈ sf_tb := List.mem_filter.mpr ⟨List.mem_of_getElem? h, hg⟩
/-- a method's words: its own code, then the table -/
abbrev sf_ws (y : MethodName) (b : ByteArray) (nL : Nat) (ret : Option FieldType) : List Cond := Cond.code y b nL ret :: sf_tb
/-- THE CONTRACT of a method that makes nothing: from every heap that holds the cells wc it returns ov, and the heap holds the cells w1 u for a u with post u -/
def sf_M {S : Type} (l : Launch) (D : va_G) (cl : List vw_C) (tys : List (ClassId × FieldType)) (y : MethodName) (ws : List Cond) (fr lo : Nat) (As : List Value) (wc : va_W) (ov : S → Option Value) (post : S → Prop) (w1 : S → va_W) : Prop :=
  ∀ sz : Nat, Met l y ws ({ frames := fr, cells := 0, slots := 0, locals := lo }) (va_Pc As (fun U => U.heap.size = sz ∧ va_P D cl wc U.heap ∧ va_K D cl tys U ∧ va_D (fun _ => True) wc))
    (fun _ st o t => (∃ u : S, o = .returned (ov u) ∧ post u ∧ va_P D cl (w1 u) t.heap) ∧ va_F (va_A wc sz) st t) 0 0 (va_A wc sz)
/-- what stands at a method's beginning -/
def sf_C (p : Program) (s : State) (m : MethodId) (meth : Method) (c : Code) (cc : ByteArray) (nL : Nat) (y : MethodName) (args : Array Value) (A : Nat → Prop) : Prop :=
  p.tables.exec = Jvm.exec ∧ c.code = cc ∧ c.maxLocals = nL ∧ s.vm.findClass y.cls = some m.cls ∧ (∀ w ∈ sf_tb, w.before args s = true) ∧ (∀ q : Nat, s.heap.size ≤ q → A q) ∧ meth.locks = false
section SFA
variable {S : Type} {l : Launch} {D : va_G} {cl : List vw_C} {tys : List (ClassId × FieldType)} {y : MethodName} {fr lo : Nat} {As : List Value} {wc : va_W} {ov : S → Option Value} {post : S → Prop} {w1 : S → va_W}
def sf_Q {S : Type} (s : State) (args : Array Value) (below : List Frame) (D : va_G) (cl : List vw_C) (A : Nat → Prop) (ov : S → Option Value) (post : S → Prop) (w1 : S → va_W) : State → Prop :=
  MQ below (fun _ st o t => (∃ u : S, o = .returned (ov u) ∧ post u ∧ va_P D cl (w1 u) t.heap) ∧ va_F A st t) args s 0 0 A
theorem sf_ofW {cc : ByteArray} {maxL : Nat} {ret : Option FieldType} (hy : plainName y.cls = true) (hlen : (lg_sl As).length ≤ maxL)
    (body : ∀ (p : Program) (e : Env) (s : State) (m : MethodId) (below : List Frame) (meth : Method) (c : Code) (A : Nat → Prop) (ls : Array Slot) (R : Room) (args : Array Value) (Q : State → Prop), R = { frames := fr, cells := 0, slots := 0, locals := lo } → args = As.toArray → Q = sf_Q s args below D cl A ov post w1 → sf_C p s m meth c cc maxL y args A → meth.sig.returnType = ret → va_K D cl tys s → va_P D cl wc s.heap → va_D A wc → lv_has ls maxL (lv_args 0 As) →
      W p l e R s m args below meth c s.heap [] 0 0 Q (F0 m 0 ls [])) : sf_M l D cl tys y (sf_ws y cc maxL ret) fr lo As wc ov post w1 := by
  intro sz
  refine Met.ofW (cc := cc) (maxL := maxL) (ret := ret) hy rfl ?_
  intro p e s m args below meth c s₁ B hml hv
  obtain ⟨rfl, hsz, hP, hK, hD0⟩ := hv
  have hts := atoms_spec (ws := sf_ws y cc maxL ret) B.pre
  have hown : s.vm.findClass y.cls = some m.cls := findClass_of_methodNamed B.named
  subst hsz
  have hD := hD0.self (sz := s.heap.size)
  have hl := lv_entry As (n := maxL) hlen
  rw [lg_entry_eq]
  exact body p e s m below meth c _ _ _ _ _ rfl rfl rfl ⟨B.exec, B.bytes, hml, hown, fun w h => hts w (List.mem_cons_of_mem _ h), fun q h => Or.inr h, B.notSynchronized⟩ B.returns hK hP hD hl
end SFA
section SFB
variable {S : Type} {p : Program} {l : Launch} {e : Env} {R : Room} {s : State} {m : MethodId} {args : Array Value} {below : List Frame} {meth : Method} {c : Code} {H : Heap} {locs : List Loc} {cells slots : Nat} {Q : State → Prop} {D : va_G} {cl : List vw_C} {A : Nat → Prop} {ov : S → Option Value} {post : S → Prop} {w1 : S → va_W} {cc : ByteArray}
theorem sf_iret (u : S) {v : Int32} {ty : FieldType} (hexec : p.tables.exec = Jvm.exec) (hb : c.code = cc) (hr : meth.sig.returnType = some ty) (hlocks : meth.locks = false) (hS : va_S A s.heap H locs) (hn : narrow ty (.int v) = .int v) (ho : ov u = some (.int v)) (hp : post u) (hP : va_P D cl (w1 u) H)
    {pc : Nat} {ls : Array Slot} (hdg : decode cc pc = .ok (.ireturn, 1)) : W p l e R s m args below meth c H locs 0 0 (sf_Q s args below D cl A ov post w1) (F0 m pc ls [.int v]) :=
  W.zret hexec hb hr hn (fun t ht _ => ⟨⟨u, by rw [ho], hp, by rw [ht]; exact hP⟩, hS.F ht⟩) hS.2.2 hdg hlocks
theorem sf_vret (u : S) (hexec : p.tables.exec = Jvm.exec) (hb : c.code = cc) (hr : meth.sig.returnType = none) (hlocks : meth.locks = false) (hS : va_S A s.heap H locs) (ho : ov u = none) (hp : post u) (hP : va_P D cl (w1 u) H)
    {pc : Nat} {ls : Array Slot} (hdg : decode cc pc = .ok (.return_, 1)) : W p l e R s m args below meth c H locs 0 0 (sf_Q s args below D cl A ov post w1) (F0 m pc ls []) :=
  W.vret hexec hb hr (fun t ht _ => ⟨⟨u, by rw [ho], hp, by rw [ht]; exact hP⟩, hS.F ht⟩) hS.2.2 hdg hlocks
end SFB
section SFC
variable {S : Type} {p : Program} {l : Launch} {e : Env} {R : Room} {s : State} {m : MethodId} {args : Array Value} {below : List Frame} {meth : Method} {c : Code} {H : Heap} {locs : List Loc} {cells slots : Nat} {Q : State → Prop} {D : va_G} {cl : List vw_C} {tys : List (ClassId × FieldType)} {W0 wc : va_W} {A : Nat → Prop} {H0 : Heap} {ov : S → Option Value} {post : S → Prop} {w1 : S → va_W} {cc bytes : ByteArray}
  {pc nL maxL n index fr lo : Nat} {ls : Array Slot} {own C : String} {y : MethodName} {ret : Option FieldType} {ws Ts : List Cond} {As rest st0 : List Value} {b : Addr}
theorem sf_go (hr : va_Run p l e R s m args below meth c H locs cells slots 0 0 (F0 m pc ls st0) rest (fun st o t => (∃ u : S, o = .returned (ov u) ∧ post u ∧ va_P D cl (w1 u) t.heap) ∧ va_F (va_A wc H.size) st t) (va_A wc H.size))
    (hP : va_P D cl W0 H) (hD : va_D A W0) (hS : va_S A H0 H locs) (hA : ∀ q : Nat, H0.size ≤ q → A q) (isC : List Nat) (hC : isC.map (fun i => W0[i]?) = wc.map some) (hfst : ∀ u, (w1 u).map Prod.fst = wc.map Prod.fst)
    (kk : ∀ (u : S) (H1 : Heap) (locs1 : List Loc), post u → va_P D cl (sf_repl W0 isC (w1 u)) H1 → va_D A (sf_repl W0 isC (w1 u)) → va_S A H0 H1 locs1 → W p l e R s m args below meth c H1 locs1 cells slots Q (F0 m (pc + 3) ls ((ov u).toList ++ rest))) : W p l e R s m args below meth c H locs cells slots Q (F0 m pc ls st0) := by
  intro T hT X
  have hF := va_free (wc := wc) hD hS hA isC hC
  obtain ⟨v, st₀, t, T', L, h0, X', hL, e1, e2, ⟨⟨u, hv, hp, hb⟩, hz, hk⟩, st⟩ := hr T hT X
  cases hv
  rw [h0] at hz hk
  obtain ⟨hP1, hD1⟩ := sf_join hP hD isC hC (hfst u) hk hb
  obtain ⟨t2, a1, b1⟩ := kk u T'.heap (locs ++ L) hp (by rw [e1]; exact hP1) hD1
    ⟨Nat.le_trans hS.1 (by rw [e1]; exact hz), fun q h1 h2 => by rw [e1, hk q (Nat.lt_of_lt_of_le h1 hS.1) (fun z => h2 (hF q z))]; exact hS.2.1 q h1 h2, fun q hq => by
      rcases List.mem_append.mp hq with h | h
      · exact hS.2.2 q h
      · exact hF _ (hL q h)⟩ T' rfl X'
  exact ⟨t2, st t2 a1, b1⟩
theorem sf_blind {av : List Value} {sz : Nat} : FrameBlind (va_Pc av (fun U => U.heap.size = sz ∧ va_P D cl wc U.heap ∧ va_K D cl tys U ∧ va_D (fun _ => True) wc)) := fun a U g mk q => by
  obtain ⟨q0, q1, qP, qK, qD⟩ := q
  exact ⟨q0, q1, qP, va_K.moved (u := U) (U := U.calling g mk a) (Vm.Alike.refl U.vm) qK, qD⟩
theorem sf_callV (Sx : CallFix p m c cc nL s args Ts own) (hM : sf_M l D cl tys y ws fr lo (.ref b :: As) wc ov post w1) (cw : CallW R s args own C index y bytes maxL ret ws ({ frames := fr, cells := 0, slots := 0, locals := lo }) 0 0 n)
    (hK : va_K D cl tys s) (hP : va_P D cl W0 H) (hD : va_D A W0) (hS : va_S A H0 H locs) (hA : ∀ q : Nat, H0.size ≤ q → A q) (isC : List Nat) (hC : isC.map (fun i => W0[i]?) = wc.map some) (hnd : va_nd isC = true) (hfst : ∀ u, (w1 u).map Prod.fst = wc.map Prod.fst)
    {ci q0 : Nat} {fs : List Value} {qc : vw_C} (hcl : cl[ci]? = some qc) (hqc : qc.1 = C) (hq0 : wc[q0]? = some (b, .inr (ci, fs))) (hst : st0 = As.reverse ++ .ref b :: rest) (hn : As.length = n) (hsize : ls.size = nL) (hW : (rest.map fun v => v.category).sum ≤ 8) (hdg : decode cc pc = .ok (.invokevirtual index, 3)) (hf : cells ≤ R.cells ∧ slots ≤ R.slots)
    (kk : ∀ (u : S) (H1 : Heap) (locs1 : List Loc), post u → va_P D cl (sf_repl W0 isC (w1 u)) H1 → va_D A (sf_repl W0 isC (w1 u)) → va_S A H0 H1 locs1 → W p l e R s m args below meth c H1 locs1 cells slots Q (F0 m (pc + 3) ls ((ov u).toList ++ rest))) : W p l e R s m args below meth c H locs cells slots Q (F0 m pc ls st0) := by
  have hPc : va_P D cl wc H := fun k q hq => by
    obtain ⟨i, -, hi⟩ := sf_map_at hC k q hq
    exact hP i q hi
  have hDc : va_D (fun _ => True) wc := (hD.sub isC hnd hC).weaken (fun _ _ _ _ => trivial)
  have hrc : ∃ cellB : Cell, H[b]? = some cellB ∧ cellB.vm.isStatics = false ∧ s.vm.findClass C = some cellB.cls := by
    subst hqc
    exact va_recv hK hPc hcl hq0
  exact sf_go (va_runV (As := As) (rest := rest) (b := b) Sx (hM H.size) cw ⟨sf_blind, hrc, fun U hU hW => ⟨rfl, by rw [hU], by rw [hU]; exact hPc, va_K.moved hW.alike hK, hDc⟩⟩ rfl hn hsize hst (lv_room hW) hdg ⟨hf.1, hf.2⟩) hP hD hS hA isC hC hfst kk
theorem sf_callS (Sx : CallFix p m c cc nL s args Ts own) (hM : sf_M l D cl tys y ws fr lo As wc ov post w1) (cw : CallB R s args own index y bytes maxL ret ws ({ frames := fr, cells := 0, slots := 0, locals := lo }) 0 0 n ∧ (Cond.static y).before args s = true)
    (hK : va_K D cl tys s) (hP : va_P D cl W0 H) (hD : va_D A W0) (hS : va_S A H0 H locs) (hA : ∀ q : Nat, H0.size ≤ q → A q) (isC : List Nat) (hC : isC.map (fun i => W0[i]?) = wc.map some) (hnd : va_nd isC = true) (hfst : ∀ u, (w1 u).map Prod.fst = wc.map Prod.fst)
    (hst : st0 = As.reverse ++ rest) (hn : As.length = n) (hsize : ls.size = nL) (hW : (rest.map fun v => v.category).sum ≤ 8) (hdg : decode cc pc = .ok (.invokestatic index, 3)) (hf : cells ≤ R.cells ∧ slots ≤ R.slots)
    (kk : ∀ (u : S) (H1 : Heap) (locs1 : List Loc), post u → va_P D cl (sf_repl W0 isC (w1 u)) H1 → va_D A (sf_repl W0 isC (w1 u)) → va_S A H0 H1 locs1 → W p l e R s m args below meth c H1 locs1 cells slots Q (F0 m (pc + 3) ls ((ov u).toList ++ rest))) : W p l e R s m args below meth c H locs cells slots Q (F0 m pc ls st0) := by
  have hPc : va_P D cl wc H := fun k q hq => by
    obtain ⟨i, -, hi⟩ := sf_map_at hC k q hq
    exact hP i q hi
  have hDc : va_D (fun _ => True) wc := (hD.sub isC hnd hC).weaken (fun _ _ _ _ => trivial)
  exact sf_go (va_runS (As := As) (rest := rest) Sx (hM H.size) cw ⟨sf_blind, fun U hU hW => ⟨rfl, by rw [hU], by rw [hU]; exact hPc, va_K.moved hW.alike hK, hDc⟩⟩ rfl hn hsize hst (lv_room hW) hdg ⟨hf.1, hf.2⟩) hP hD hS hA isC hC hfst kk
end SFC
/-- what a call of y at an entry of own's pool needs of the table -/
def sf_LV (own : String) (index : Nat) (y : MethodName) (b : ByteArray) (nL : Nat) (ret : Option FieldType) (n : Nat) : Prop :=
  Cond.code y b nL ret ∈ sf_tb ∧ Cond.methodLink own index y ∈ sf_tb ∧ Cond.instanceMethod y ∈ sf_tb ∧ Cond.selects y.cls y y ∈ sf_tb ∧ Cond.initialized y.cls ∈ sf_tb ∧ (y.cls ≠ "java/lang/invoke/MethodHandle" ∧ y.cls ≠ "java/lang/invoke/VarHandle" ∧ (parseMethodDescriptor y.desc).map (fun d => d.parameters.length) = some n)
def sf_LS (own : String) (index : Nat) (y : MethodName) (b : ByteArray) (nL : Nat) (ret : Option FieldType) (n : Nat) : Prop :=
  Cond.code y b nL ret ∈ sf_tb ∧ Cond.methodLink own index y ∈ sf_tb ∧ Cond.static y ∈ sf_tb ∧ Cond.initialized y.cls ∈ sf_tb ∧ (y.cls ≠ "java/lang/invoke/MethodHandle" ∧ y.cls ≠ "java/lang/invoke/VarHandle" ∧ (parseMethodDescriptor y.desc).map (fun d => d.parameters.length) = some n)
section SFD
variable {R : Room} {s : State} {args : Array Value} {own : String} {index nL n fr lo : Nat} {y : MethodName} {b : ByteArray} {ret : Option FieldType} {Ts : List Cond}
theorem sf_goodIn (hT : ∀ w ∈ sf_tb, w ∈ Ts) (h : Cond.code y b nL ret ∈ sf_tb) : GoodIn Ts (sf_ws y b nL ret) := by
  intro w hw
  rcases List.mem_cons.mp hw with rfl | hw
  · exact ⟨hT _ h, sf_tb_good _ h⟩
  · exact ⟨hT _ hw, sf_tb_good _ hw⟩
theorem sf_cwV (h : sf_LV own index y b nL ret n) (ht : ∀ w ∈ Ts, w.before args s = true) (hT : ∀ w ∈ sf_tb, w ∈ Ts) (hR : fr + 1 ≤ R.frames ∧ 8 + (nL + 11) + lo ≤ R.locals) :
    CallW R s args own y.cls index y b nL ret (sf_ws y b nL ret) ({ frames := fr, cells := 0, slots := 0, locals := lo }) 0 0 n := by
  obtain ⟨h1, h2, h3, h4, h5, h6⟩ := h
  exact ⟨callB_of n ht (sf_goodIn hT h1) rfl rfl rfl (ht _ (hT _ h5)) (ht _ (hT _ h2)) h6 hR, ht _ (hT _ h3), ht _ (hT _ h4)⟩
theorem sf_cwS (h : sf_LS own index y b nL ret n) (ht : ∀ w ∈ Ts, w.before args s = true) (hT : ∀ w ∈ sf_tb, w ∈ Ts) (hR : fr + 1 ≤ R.frames ∧ 8 + (nL + 11) + lo ≤ R.locals) :
    CallB R s args own index y b nL ret (sf_ws y b nL ret) ({ frames := fr, cells := 0, slots := 0, locals := lo }) 0 0 n ∧ (Cond.static y).before args s = true := by
  obtain ⟨h1, h2, h3, h5, h6⟩ := h
  exact ⟨callB_of n ht (sf_goodIn hT h1) rfl rfl rfl (ht _ (hT _ h5)) (ht _ (hT _ h2)) h6 hR, ht _ (hT _ h3)⟩
end SFD
theorem sf_in {x : Int32} {n : Nat} (h1 : ¬ x < 0) (h2 : ¬ nI n ≤ x) (hn : n < 2 ^ 31) : vp_in x n := by
  rcases pk_ix x hn with h | h | ⟨j, hj, rfl⟩
  · exact absurd h h1
  · exact absurd h h2
  · exact vp_in_nI hj hn
theorem sf_b0 : narrow .boolean (.int 0) = .int 0 := by decide +kernel
theorem sf_b1 : narrow .boolean (.int 1) = .int 1 := by decide +kernel
def sf_ushr (x y : Int32) : Int32 := (x.toUInt32 >>> (y.toUInt32 &&& Int32.toUInt32 31)).toInt32
def sf_lushr (x : Int64) (y : Int32) : Int64 := (x.toUInt64 >>> (y.toInt64.toUInt64 &&& Int64.toUInt64 63)).toInt64
theorem sf_nz0 : vp_nar .boolean 0 = 0 := by decide +kernel
theorem sf_nz1 : vp_nar .boolean 1 = 1 := by decide +kernel
theorem sf_bp0 : narrow .boolean (.int 0) = .int 0 ∧ fits .boolean (.int 0) = true := by decide +kernel
theorem sf_bp1 : narrow .boolean (.int 1) = .int 1 ∧ fits .boolean (.int 1) = true := by decide +kernel
theorem sf_lt_of {N k : Nat} (hN : N < 2 ^ 31) (hk : k < 2 ^ 31) (h : ¬ nI N ≤ nI k) : k < N := by
  rcases Nat.lt_or_ge k N with q | q
  · exact q
  · exact absurd (nI_le q hk) h
theorem sf_sumin {x : Int32} {n N k : Nat} (h1 : ¬ x < 0) (h2 : x ≤ nI n - nI N) (hN : N ≤ n) (hn : n < 2 ^ 31) (hk : k < N) : vp_in (x + nI k) n := by
  obtain ⟨j, hj, rfl⟩ := nI_of h1
  rw [pk_sub hN] at h2
  have h3 := (nI_leI hj (by omega)).mp h2
  rw [nI_add]
  exact vp_in_nI (by omega) hn
theorem sf_m4 (N : Nat) : nI (N + 4) - 4 = nI N := by
  have h : nI (N + 4) - nI 4 = nI (N + 4 - 4) := pk_sub (by omega)
  exact h
theorem sf_clt (x : Int32) : x.toNatClampNeg < 2 ^ 31 := by
  by_cases h : x < 0
  · have h1 : x.toInt < 0 := by simpa [Int32.lt_iff_toInt_lt] using h
    have h2 : x.toNatClampNeg = x.toInt.toNat := rfl
    omega
  · obtain ⟨j, hj, rfl⟩ := nI_of h
    rw [nI_clamp hj]; exact hj
theorem sf_ltc {x : Int32} {k : Nat} (hk : k ≤ x.toNatClampNeg) (h : ¬ x ≤ nI k) : k < x.toNatClampNeg := by
  have hb := sf_clt x
  by_cases h0 : x < 0
  · refine absurd ?_ h
    have h1 : x.toInt < 0 := by simpa [Int32.lt_iff_toInt_lt] using h0
    rw [Int32.le_iff_toInt_le, nI_toInt (by omega)]
    omega
  · obtain ⟨j, hj, rfl⟩ := nI_of h0
    rw [nI_clamp hj] at hk ⊢
    exact sf_lt_of hj (by omega) h
theorem sf_nb {x : Int32} (h : x = 0 ∨ x = 1) : narrow .boolean (.int x) = .int x := by
  rcases h with rfl | rfl
  · exact sf_b0
  · exact sf_b1
section SFE
variable {S : Type} {p : Program} {l : Launch} {e : Env} {R : Room} {s : State} {m : MethodId} {args : Array Value} {below : List Frame} {meth : Method} {c : Code} {H : Heap} {locs : List Loc} {D : va_G} {cl : List vw_C} {A : Nat → Prop} {ov : S → Option Value} {post : S → Prop} {w1 : S → va_W} {cc : ByteArray}
theorem sf_aret (u : S) {v : Nat} {C : String} (hexec : p.tables.exec = Jvm.exec) (hb : c.code = cc) (hr : meth.sig.returnType = some (.object C)) (hlocks : meth.locks = false) (hS : va_S A s.heap H locs) (ho : ov u = some (.ref v)) (hp : post u) (hP : va_P D cl (w1 u) H)
    {pc : Nat} {ls : Array Slot} (hdg : decode cc pc = .ok (.areturn, 1)) : W p l e R s m args below meth c H locs 0 0 (sf_Q s args below D cl A ov post w1) (F0 m pc ls [.ref v]) :=
  W.aret hexec hb hr (Or.inl ⟨C, rfl⟩) (Or.inr ⟨v, rfl⟩) (fun t ht _ => ⟨⟨u, by rw [ho], hp, by rw [ht]; exact hP⟩, hS.F ht⟩) hS.2.2 hdg hlocks
end SFE
section SFF
variable {S : Type} {p : Program} {l : Launch} {e : Env} {R : Room} {s : State} {m : MethodId} {args : Array Value} {below : List Frame} {meth : Method} {c : Code} {H : Heap} {locs : List Loc} {cells slots : Nat} {Q : State → Prop} {D : va_G} {cl : List vw_C} {tys : List (ClassId × FieldType)} {W0 wc : va_W} {A : Nat → Prop} {H0 : Heap} {ov : S → Option Value} {post : S → Prop} {w1 : S → va_W} {cc bytes : ByteArray}
  {pc nL maxL n index fr lo : Nat} {ls : Array Slot} {own C : String} {y : MethodName} {ret : Option FieldType} {ws Ts : List Cond} {As rest st0 : List Value} {b : Addr}
/-- behind a call that leaves its cells as they were: the whole world stands -/
theorem sf_joinr {D : va_G} {cl : List vw_C} {W0 wc : va_W} {H H1 : Heap} {A0 : Nat → Prop} (hP : va_P D cl W0 H) (hD : va_D A0 W0) (isC : List Nat) (hC : isC.map (fun i => W0[i]?) = wc.map some)
    (hk : ∀ q : Nat, q < H.size → ¬ va_A wc H.size q → H1[q]? = H[q]?) (hP1 : va_P D cl wc H1) : va_P D cl W0 H1 := by
  intro k q hq
  by_cases hin : ∃ (k2 : Nat) (e : va_E), wc[k2]? = some (q.1, e)
  · obtain ⟨k2, e, h⟩ := hin
    obtain ⟨i, -, h5⟩ := sf_map_at hC k2 (q.1, e) h
    have hki := hD.1 k i q (q.1, e) hq h5 rfl
    subst hki
    rw [hq] at h5
    have h6 : q = (q.1, e) := Option.some.inj h5
    rw [h6]
    exact hP1 k2 _ h
  · have hl := (hP k q hq).lt
    refine (hP k q hq).kept (hk q.1 hl (fun h => ?_))
    rcases h with h | h
    · exact hin h
    · omega
theorem sf_gor (hr : va_Run p l e R s m args below meth c H locs cells slots 0 0 (F0 m pc ls st0) rest (fun st o t => (∃ u : S, o = .returned (ov u) ∧ post u ∧ va_P D cl (w1 u) t.heap) ∧ va_F (va_A wc H.size) st t) (va_A wc H.size))
    (hP : va_P D cl W0 H) (hD : va_D A W0) (hS : va_S A H0 H locs) (hA : ∀ q : Nat, H0.size ≤ q → A q) (isC : List Nat) (hC : isC.map (fun i => W0[i]?) = wc.map some) (hw : ∀ u, w1 u = wc)
    (kk : ∀ (u : S) (H1 : Heap) (locs1 : List Loc), post u → va_P D cl W0 H1 → va_S A H0 H1 locs1 → W p l e R s m args below meth c H1 locs1 cells slots Q (F0 m (pc + 3) ls ((ov u).toList ++ rest))) : W p l e R s m args below meth c H locs cells slots Q (F0 m pc ls st0) := by
  intro T hT X
  have hF := va_free (wc := wc) hD hS hA isC hC
  obtain ⟨v, st₀, t, T', L, h0, X', hL, e1, e2, ⟨⟨u, hv, hp, hb⟩, hz, hk⟩, st⟩ := hr T hT X
  cases hv
  rw [h0] at hz hk
  rw [hw u] at hb
  have hP1 := sf_joinr hP hD isC hC hk hb
  obtain ⟨t2, a1, b1⟩ := kk u T'.heap (locs ++ L) hp (by rw [e1]; exact hP1)
    ⟨Nat.le_trans hS.1 (by rw [e1]; exact hz), fun q h1 h2 => by rw [e1, hk q (Nat.lt_of_lt_of_le h1 hS.1) (fun z => h2 (hF q z))]; exact hS.2.1 q h1 h2, fun q hq => by
      rcases List.mem_append.mp hq with h | h
      · exact hS.2.2 q h
      · exact hF _ (hL q h)⟩ T' rfl X'
  exact ⟨t2, st t2 a1, b1⟩
theorem sf_callVr (Sx : CallFix p m c cc nL s args Ts own) (hM : sf_M l D cl tys y ws fr lo (.ref b :: As) wc ov post w1) (cw : CallW R s args own C index y bytes maxL ret ws ({ frames := fr, cells := 0, slots := 0, locals := lo }) 0 0 n)
    (hK : va_K D cl tys s) (hP : va_P D cl W0 H) (hD : va_D A W0) (hS : va_S A H0 H locs) (hA : ∀ q : Nat, H0.size ≤ q → A q) (isC : List Nat) (hC : isC.map (fun i => W0[i]?) = wc.map some) (hnd : va_nd isC = true) (hw : ∀ u, w1 u = wc)
    {ci q0 : Nat} {fs : List Value} {qc : vw_C} (hcl : cl[ci]? = some qc) (hqc : qc.1 = C) (hq0 : wc[q0]? = some (b, .inr (ci, fs))) (hst : st0 = As.reverse ++ .ref b :: rest) (hn : As.length = n) (hsize : ls.size = nL) (hW : (rest.map fun v => v.category).sum ≤ 8) (hdg : decode cc pc = .ok (.invokevirtual index, 3)) (hf : cells ≤ R.cells ∧ slots ≤ R.slots)
    (kk : ∀ (u : S) (H1 : Heap) (locs1 : List Loc), post u → va_P D cl W0 H1 → va_S A H0 H1 locs1 → W p l e R s m args below meth c H1 locs1 cells slots Q (F0 m (pc + 3) ls ((ov u).toList ++ rest))) : W p l e R s m args below meth c H locs cells slots Q (F0 m pc ls st0) := by
  have hPc : va_P D cl wc H := fun k q hq => by
    obtain ⟨i, -, hi⟩ := sf_map_at hC k q hq
    exact hP i q hi
  have hDc : va_D (fun _ => True) wc := (hD.sub isC hnd hC).weaken (fun _ _ _ _ => trivial)
  have hrc : ∃ cellB : Cell, H[b]? = some cellB ∧ cellB.vm.isStatics = false ∧ s.vm.findClass C = some cellB.cls := by
    subst hqc
    exact va_recv hK hPc hcl hq0
  exact sf_gor (va_runV (As := As) (rest := rest) (b := b) Sx (hM H.size) cw ⟨sf_blind, hrc, fun U hU hW => ⟨rfl, by rw [hU], by rw [hU]; exact hPc, va_K.moved hW.alike hK, hDc⟩⟩ rfl hn hsize hst (lv_room hW) hdg ⟨hf.1, hf.2⟩) hP hD hS hA isC hC hw kk
theorem sf_callSr (Sx : CallFix p m c cc nL s args Ts own) (hM : sf_M l D cl tys y ws fr lo As wc ov post w1) (cw : CallB R s args own index y bytes maxL ret ws ({ frames := fr, cells := 0, slots := 0, locals := lo }) 0 0 n ∧ (Cond.static y).before args s = true)
    (hK : va_K D cl tys s) (hP : va_P D cl W0 H) (hD : va_D A W0) (hS : va_S A H0 H locs) (hA : ∀ q : Nat, H0.size ≤ q → A q) (isC : List Nat) (hC : isC.map (fun i => W0[i]?) = wc.map some) (hnd : va_nd isC = true) (hw : ∀ u, w1 u = wc)
    (hst : st0 = As.reverse ++ rest) (hn : As.length = n) (hsize : ls.size = nL) (hW : (rest.map fun v => v.category).sum ≤ 8) (hdg : decode cc pc = .ok (.invokestatic index, 3)) (hf : cells ≤ R.cells ∧ slots ≤ R.slots)
    (kk : ∀ (u : S) (H1 : Heap) (locs1 : List Loc), post u → va_P D cl W0 H1 → va_S A H0 H1 locs1 → W p l e R s m args below meth c H1 locs1 cells slots Q (F0 m (pc + 3) ls ((ov u).toList ++ rest))) : W p l e R s m args below meth c H locs cells slots Q (F0 m pc ls st0) := by
  have hPc : va_P D cl wc H := fun k q hq => by
    obtain ⟨i, -, hi⟩ := sf_map_at hC k q hq
    exact hP i q hi
  have hDc : va_D (fun _ => True) wc := (hD.sub isC hnd hC).weaken (fun _ _ _ _ => trivial)
  exact sf_gor (va_runS (As := As) (rest := rest) Sx (hM H.size) cw ⟨sf_blind, fun U hU hW => ⟨rfl, by rw [hU], by rw [hU]; exact hPc, va_K.moved hW.alike hK, hDc⟩⟩ rfl hn hsize hst (lv_room hW) hdg ⟨hf.1, hf.2⟩) hP hD hS hA isC hC hw kk
theorem sf_dsame {A0 : Nat → Prop} {w w' : va_W} (hD : va_D A0 w) (h : w'.map Prod.fst = w.map Prod.fst) : va_D A0 w' := by
  have hold : ∀ (k : Nat) (q : Nat × va_E), w'[k]? = some q → ∃ e, w[k]? = some (q.1, e) := by
    intro k q hq
    have h1 : (w'.map Prod.fst)[k]? = some q.1 := by rw [List.getElem?_map, hq]; rfl
    rw [h, List.getElem?_map] at h1
    cases hw : w[k]? with
    | none => rw [hw] at h1; simp at h1
    | some r =>
      rw [hw] at h1
      simp at h1
      exact ⟨r.2, by rw [← h1]⟩
  refine ⟨fun i j x y hx hy hxy => ?_, fun k q hq => ?_⟩
  · obtain ⟨e1, h1⟩ := hold i x hx
    obtain ⟨e2, h2⟩ := hold j y hy
    exact hD.1 i j _ _ h1 h2 hxy
  · obtain ⟨e1, h1⟩ := hold k q hq
    exact hD.2 k (q.1, e1) h1
/-- a call whose cells are the caller's whole world -/
theorem sf_callVw (Sx : CallFix p m c cc nL s args Ts own) (hM : sf_M l D cl tys y ws fr lo (.ref b :: As) W0 ov post w1) (cw : CallW R s args own C index y bytes maxL ret ws ({ frames := fr, cells := 0, slots := 0, locals := lo }) 0 0 n)
    (hK : va_K D cl tys s) (hP : va_P D cl W0 H) (hD : va_D A W0) (hS : va_S A H0 H locs) (hA : ∀ q : Nat, H0.size ≤ q → A q) (hfst : ∀ u, (w1 u).map Prod.fst = W0.map Prod.fst)
    {ci q0 : Nat} {fs : List Value} {qc : vw_C} (hcl : cl[ci]? = some qc) (hqc : qc.1 = C) (hq0 : W0[q0]? = some (b, .inr (ci, fs))) (hst : st0 = As.reverse ++ .ref b :: rest) (hn : As.length = n) (hsize : ls.size = nL) (hW : (rest.map fun v => v.category).sum ≤ 8) (hdg : decode cc pc = .ok (.invokevirtual index, 3)) (hf : cells ≤ R.cells ∧ slots ≤ R.slots)
    (kk : ∀ (u : S) (H1 : Heap) (locs1 : List Loc), post u → va_P D cl (w1 u) H1 → va_D A (w1 u) → va_S A H0 H1 locs1 → W p l e R s m args below meth c H1 locs1 cells slots Q (F0 m (pc + 3) ls ((ov u).toList ++ rest))) : W p l e R s m args below meth c H locs cells slots Q (F0 m pc ls st0) := by
  have hDc : va_D (fun _ => True) W0 := hD.weaken (fun _ _ _ _ => trivial)
  have hrc : ∃ cellB : Cell, H[b]? = some cellB ∧ cellB.vm.isStatics = false ∧ s.vm.findClass C = some cellB.cls := by
    subst hqc
    exact va_recv hK hP hcl hq0
  have hr := va_runV (As := As) (rest := rest) (b := b) (g := F0 m pc ls st0) (locs := locs) (cells := cells) (slots := slots) (R := R) (e := e) (below := below) (meth := meth) Sx (hM H.size) cw ⟨sf_blind, hrc, fun U hU hW => ⟨rfl, by rw [hU], by rw [hU]; exact hP, va_K.moved hW.alike hK, hDc⟩⟩ rfl hn hsize hst (lv_room hW) hdg ⟨hf.1, hf.2⟩
  have hF : ∀ q, va_A W0 H.size q → A q := fun q h => by
    rcases h with ⟨k, e, h⟩ | h
    · exact hD.2 k (q, e) h
    · exact hA q (Nat.le_trans hS.1 h)
  intro T hT X
  obtain ⟨v, st₀, t, T', L, h0, X', hL, e1, e2, ⟨⟨u, hv, hp, hb⟩, hz, hk⟩, st⟩ := hr T hT X
  cases hv
  rw [h0] at hz hk
  obtain ⟨t2, a1, b1⟩ := kk u T'.heap (locs ++ L) hp (by rw [e1]; exact hb) (sf_dsame hD (hfst u))
    ⟨Nat.le_trans hS.1 (by rw [e1]; exact hz), fun q h1 h2 => by rw [e1, hk q (Nat.lt_of_lt_of_le h1 hS.1) (fun z => h2 (hF q z))]; exact hS.2.1 q h1 h2, fun q hq => by
      rcases List.mem_append.mp hq with h | h
      · exact hS.2.2 q h
      · exact hF _ (hL q h)⟩ T' rfl X'
  exact ⟨t2, st t2 a1, b1⟩
end SFF
theorem sf_three {x : Int32} (h1 : ¬ x < 0) (h2 : ¬ 2 < x) : x = 0 ∨ x = 1 ∨ x = 2 := by
  obtain ⟨j, hj, rfl⟩ := nI_of h1
  have h3 : ¬ nI 2 < nI j := h2
  rw [nI_ltI (by omega) hj] at h3
  rcases (show j = 0 ∨ j = 1 ∨ j = 2 by omega) with rfl | rfl | rfl
  · exact Or.inl rfl
  · exact Or.inr (Or.inl rfl)
  · exact Or.inr (Or.inr rfl)
theorem sf_eq_of {N k : Nat} (hN : N < 2 ^ 31) (hk : k < 2 ^ 31) (h : k ≤ N) (hc : nI N ≤ nI k) : k = N := by
  have := (nI_leI hN hk).mp hc
  omega
