/-! CONSTRUCTORS: new arrays of the three known classes; contracts of methods that make cells ('sf_I'); calls by invokespecial -/
section SIA
variable {p : Program} {l : Launch} {e : Env} {R : Room} {s : State} {m : MethodId} {args : Array Value} {below : List Frame} {meth : Method} {c : Code} {H : Heap} {locs : List Loc} {cells slots : Nat} {Q : State → Prop} {D : va_G} {cl : List vw_C} {tys : List (ClassId × FieldType)} {ws : va_W} {A : Nat → Prop} {H0 : Heap} {cc : ByteArray} {pc : Nat} {ls : Array Slot} {rest : List Value}
theorem sf_nn {N : Nat} (hN : N < 100000) : ¬ nI N < 0 := nI_pos (by omega)
theorem sf_newi (hexec : p.tables.exec = Jvm.exec) (hb : c.code = cc) (harr : (Cond.arrayClass .int).before args s = true) (hK : va_K D cl tys s) (hP : va_P D cl ws H) (hD : va_D A ws) (hS : va_S A H0 H locs) (hA : ∀ q : Nat, H0.size ≤ q → A q) {cA : ClassId} (t0 : Nat) (ht : tys[t0]? = some (cA, .int)) (N : Nat) {n : Int32} (hn : n = nI N) (hN : N < 100000) (hcells : cells + 1 ≤ R.cells) (hslots : slots + N ≤ R.slots) (hdg : decode cc pc = .ok (.newarray .int, 2))
    (kk : ∀ (q : Nat) (H1 : Heap), va_P D cl (ws ++ [(q, .inl (cA, N, .inl (fun _ => 0)))]) H1 → va_D A (ws ++ [(q, .inl (cA, N, .inl (fun _ => 0)))]) → va_S A H0 H1 locs → W p l e R s m args below meth c H1 locs (cells + 1) (slots + N) Q (F0 m (pc + 2) ls (.ref q :: rest))) : W p l e R s m args below meth c H locs cells slots Q (F0 m pc ls (.int n :: rest)) := by
  subst hn
  refine va_newa (atype := .int) (ty := .int) (a0 := (N, .inl (fun _ => 0))) (N' := N) hexec hb harr rfl hK hP hD hS hA (fun _ => rfl) (sf_nn hN) (nI_clamp (by omega)) (by show N * 4 ≤ 536870912; omega) hcells hslots hdg (fun q cB H1 hK1 hP hD hS => ?_)
  have h1 := va_nm_int (hK.2 t0 _ ht).2
  have h2 := va_nm_int (hK1.2 tys.length (cB, .int) (by simp)).2
  cases Option.some.inj (h1.symm.trans h2)
  exact kk q H1 hP hD hS
theorem sf_newz (hexec : p.tables.exec = Jvm.exec) (hb : c.code = cc) (harr : (Cond.arrayClass .boolean).before args s = true) (hK : va_K D cl tys s) (hP : va_P D cl ws H) (hD : va_D A ws) (hS : va_S A H0 H locs) (hA : ∀ q : Nat, H0.size ≤ q → A q) {cA : ClassId} (t0 : Nat) (ht : tys[t0]? = some (cA, .boolean)) (N : Nat) {n : Int32} (hn : n = nI N) (hN : N < 100000) (hcells : cells + 1 ≤ R.cells) (hslots : slots + N ≤ R.slots) (hdg : decode cc pc = .ok (.newarray .boolean, 2))
    (kk : ∀ (q : Nat) (H1 : Heap), va_P D cl (ws ++ [(q, .inl (cA, N, .inl (fun _ => 0)))]) H1 → va_D A (ws ++ [(q, .inl (cA, N, .inl (fun _ => 0)))]) → va_S A H0 H1 locs → W p l e R s m args below meth c H1 locs (cells + 1) (slots + N) Q (F0 m (pc + 2) ls (.ref q :: rest))) : W p l e R s m args below meth c H locs cells slots Q (F0 m pc ls (.int n :: rest)) := by
  subst hn
  refine va_newa (atype := .boolean) (ty := .boolean) (a0 := (N, .inl (fun _ => 0))) (N' := N) hexec hb harr rfl hK hP hD hS hA (fun _ => rfl) (sf_nn hN) (nI_clamp (by omega)) (by show N * 1 ≤ 536870912; omega) hcells hslots hdg (fun q cB H1 hK1 hP hD hS => ?_)
  have h1 := va_nm_boolean (hK.2 t0 _ ht).2
  have h2 := va_nm_boolean (hK1.2 tys.length (cB, .boolean) (by simp)).2
  cases Option.some.inj (h1.symm.trans h2)
  exact kk q H1 hP hD hS
theorem sf_newj (hexec : p.tables.exec = Jvm.exec) (hb : c.code = cc) (harr : (Cond.arrayClass .long).before args s = true) (hK : va_K D cl tys s) (hP : va_P D cl ws H) (hD : va_D A ws) (hS : va_S A H0 H locs) (hA : ∀ q : Nat, H0.size ≤ q → A q) {cA : ClassId} (t0 : Nat) (ht : tys[t0]? = some (cA, .long)) (N : Nat) {n : Int32} (hn : n = nI N) (hN : N < 100000) (hcells : cells + 1 ≤ R.cells) (hslots : slots + N ≤ R.slots) (hdg : decode cc pc = .ok (.newarray .long, 2))
    (kk : ∀ (q : Nat) (H1 : Heap), va_P D cl (ws ++ [(q, .inl (cA, N, .inr (.inl (fun _ => 0))))]) H1 → va_D A (ws ++ [(q, .inl (cA, N, .inr (.inl (fun _ => 0))))]) → va_S A H0 H1 locs → W p l e R s m args below meth c H1 locs (cells + 1) (slots + N) Q (F0 m (pc + 2) ls (.ref q :: rest))) : W p l e R s m args below meth c H locs cells slots Q (F0 m pc ls (.int n :: rest)) := by
  subst hn
  refine va_newa (atype := .long) (ty := .long) (a0 := (N, .inr (.inl (fun _ => 0)))) (N' := N) hexec hb harr rfl hK hP hD hS hA (fun _ => rfl) (sf_nn hN) (nI_clamp (by omega)) (by show N * 8 ≤ 536870912; omega) hcells hslots hdg (fun q cB H1 hK1 hP hD hS => ?_)
  have h1 := va_nm_long (hK.2 t0 _ ht).2
  have h2 := va_nm_long (hK1.2 tys.length (cB, .long) (by simp)).2
  cases Option.some.inj (h1.symm.trans h2)
  exact kk q H1 hP hD hS
end SIA
/-- THE CONTRACT of a constructor that makes mc cells of ms slots -/
def sf_I {S : Type} (l : Launch) (D : va_G) (cl : List vw_C) (tys : List (ClassId × FieldType)) (y : MethodName) (ws : List Cond) (fr lo mc ms : Nat) (As : List Value) (wc : va_W) (post : S → Prop) (w1 : S → va_W) : Prop :=
  ∀ sz : Nat, Met l y ws ({ frames := fr, cells := mc, slots := ms, locals := lo }) (va_Pc As (fun U => U.heap.size = sz ∧ va_P D cl wc U.heap ∧ va_K D cl tys U ∧ va_D (fun _ => True) wc))
    (fun _ st o t => (∃ u : S, o = .returned none ∧ post u ∧ va_P D cl (w1 u) t.heap ∧ va_D (va_A wc sz) (w1 u)) ∧ va_F (va_A wc sz) st t) mc ms (va_A wc sz)
def sf_IQ {S : Type} (s : State) (args : Array Value) (below : List Frame) (D : va_G) (cl : List vw_C) (A : Nat → Prop) (mc ms : Nat) (post : S → Prop) (w1 : S → va_W) : State → Prop :=
  MQ below (fun _ st o t => (∃ u : S, o = .returned none ∧ post u ∧ va_P D cl (w1 u) t.heap ∧ va_D A (w1 u)) ∧ va_F A st t) args s mc ms A
section SIB
variable {S : Type} {l : Launch} {D : va_G} {cl : List vw_C} {tys : List (ClassId × FieldType)} {y : MethodName} {fr lo mc ms : Nat} {As : List Value} {wc : va_W} {ov : S → Option Value} {post : S → Prop} {w1 : S → va_W}
theorem sf_ofWI {cc : ByteArray} {maxL : Nat} {ret : Option FieldType} (hy : plainName y.cls = true) (hlen : (lg_sl As).length ≤ maxL)
    (body : ∀ (p : Program) (e : Env) (s : State) (m : MethodId) (below : List Frame) (meth : Method) (c : Code) (A : Nat → Prop) (ls : Array Slot) (R : Room) (args : Array Value) (Q : State → Prop), R = { frames := fr, cells := mc, slots := ms, locals := lo } → args = As.toArray → Q = sf_IQ s args below D cl A mc ms post w1 → sf_C p s m meth c cc maxL y args A → meth.sig.returnType = ret → meth.name = y.name → va_K D cl tys s → va_P D cl wc s.heap → va_D A wc → lv_has ls maxL (lv_args 0 As) →
      W p l e R s m args below meth c s.heap [] 0 0 Q (F0 m 0 ls [])) : sf_I l D cl tys y (sf_ws y cc maxL ret) fr lo mc ms As wc post w1 := by
  intro sz
  refine Met.ofW (cc := cc) (maxL := maxL) (ret := ret) hy rfl ?_
  intro p e s m args below meth c s₁ B hml hv
  obtain ⟨rfl, hsz, hP, hK, hD0⟩ := hv
  have hts := atoms_spec (ws := sf_ws y cc maxL ret) B.pre
  have hown : s.vm.findClass y.cls = some m.cls := findClass_of_methodNamed B.named
  have hin : meth.name = y.name := (name_of_methodNamed B.named B.method).1
  subst hsz
  have hD := hD0.self (sz := s.heap.size)
  have hl := lv_entry As (n := maxL) hlen
  rw [lg_entry_eq]
  exact body p e s m below meth c _ _ _ _ _ rfl rfl rfl ⟨B.exec, B.bytes, hml, hown, fun w h => hts w (List.mem_cons_of_mem _ h), fun q h => Or.inr h, B.notSynchronized⟩ B.returns hin hK hP hD hl
/-- a constructor that makes nothing, by the same walk -/
theorem sf_ofWM {cc : ByteArray} {maxL : Nat} {ret : Option FieldType} (hy : plainName y.cls = true) (hlen : (lg_sl As).length ≤ maxL)
    (body : ∀ (p : Program) (e : Env) (s : State) (m : MethodId) (below : List Frame) (meth : Method) (c : Code) (A : Nat → Prop) (ls : Array Slot) (R : Room) (args : Array Value) (Q : State → Prop), R = { frames := fr, cells := 0, slots := 0, locals := lo } → args = As.toArray → Q = sf_Q s args below D cl A ov post w1 → sf_C p s m meth c cc maxL y args A → meth.sig.returnType = ret → meth.name = y.name → va_K D cl tys s → va_P D cl wc s.heap → va_D A wc → lv_has ls maxL (lv_args 0 As) →
      W p l e R s m args below meth c s.heap [] 0 0 Q (F0 m 0 ls [])) : sf_M l D cl tys y (sf_ws y cc maxL ret) fr lo As wc ov post w1 := by
  intro sz
  refine Met.ofW (cc := cc) (maxL := maxL) (ret := ret) hy rfl ?_
  intro p e s m args below meth c s₁ B hml hv
  obtain ⟨rfl, hsz, hP, hK, hD0⟩ := hv
  have hts := atoms_spec (ws := sf_ws y cc maxL ret) B.pre
  have hown : s.vm.findClass y.cls = some m.cls := findClass_of_methodNamed B.named
  have hin : meth.name = y.name := (name_of_methodNamed B.named B.method).1
  subst hsz
  have hD := hD0.self (sz := s.heap.size)
  have hl := lv_entry As (n := maxL) hlen
  rw [lg_entry_eq]
  exact body p e s m below meth c _ _ _ _ _ rfl rfl rfl ⟨B.exec, B.bytes, hml, hown, fun w h => hts w (List.mem_cons_of_mem _ h), fun q h => Or.inr h, B.notSynchronized⟩ B.returns hin hK hP hD hl
end SIB
section SIC
variable {S : Type} {p : Program} {l : Launch} {e : Env} {R : Room} {s : State} {m : MethodId} {args : Array Value} {below : List Frame} {meth : Method} {c : Code} {H : Heap} {locs : List Loc} {cells slots : Nat} {Q : State → Prop} {D : va_G} {cl : List vw_C} {tys : List (ClassId × FieldType)} {W0 wc wr : va_W} {A : Nat → Prop} {H0 : Heap} {ov : S → Option Value} {post : S → Prop} {w1 : S → va_W} {cc bytes : ByteArray}
  {pc nL maxL n index fr lo mc ms : Nat} {ls : Array Slot} {own C : String} {y : MethodName} {ret : Option FieldType} {ws Ts : List Cond} {As rest st0 : List Value} {b : Addr}
theorem sf_ivret (u : S) (hexec : p.tables.exec = Jvm.exec) (hb : c.code = cc) (hr : meth.sig.returnType = none) (hlocks : meth.locks = false) (hS : va_S A s.heap H locs) (hp : post u) (hP : va_P D cl (w1 u) H) (hD : va_D A (w1 u))
    (hdg : decode cc pc = .ok (.return_, 1)) : W p l e R s m args below meth c H locs mc ms (sf_IQ s args below D cl A mc ms post w1) (F0 m pc ls []) :=
  W.vret hexec hb hr (fun t ht _ => ⟨⟨u, rfl, hp, by rw [ht]; exact hP, hD⟩, hS.F ht⟩) hS.2.2 hdg hlocks
/-- a constructor that makes nothing -/
theorem sf_callIM (Sx : CallFix p m c cc nL s args Ts own) (hM : sf_M l D cl tys y ws fr lo (.ref b :: As) wc ov post w1) (cw : CallB R s args own index y bytes maxL none ws ({ frames := fr, cells := 0, slots := 0, locals := lo }) 0 0 n ∧ y.name = "<init>" ∧ (Cond.instanceMethod y).before args s = true)
    (hK : va_K D cl tys s) (hP : va_P D cl W0 H) (hD : va_D A W0) (hS : va_S A H0 H locs) (hA : ∀ q : Nat, H0.size ≤ q → A q) (isC : List Nat) (hC : isC.map (fun i => W0[i]?) = wc.map some) (hnd : va_nd isC = true) (hfst : ∀ u, (w1 u).map Prod.fst = wc.map Prod.fst)
    (hst : st0 = As.reverse ++ .ref b :: rest) (hn : As.length = n) (hsize : ls.size = nL) (hW : (rest.map fun v => v.category).sum ≤ 8) (hdg : decode cc pc = .ok (.invokespecial index, 3)) (hf : cells ≤ R.cells ∧ slots ≤ R.slots)
    (kk : ∀ (u : S) (H1 : Heap) (locs1 : List Loc), post u → va_P D cl (sf_repl W0 isC (w1 u)) H1 → va_D A (sf_repl W0 isC (w1 u)) → va_S A H0 H1 locs1 → W p l e R s m args below meth c H1 locs1 cells slots Q (F0 m (pc + 3) ls ((ov u).toList ++ rest))) : W p l e R s m args below meth c H locs cells slots Q (F0 m pc ls st0) := by
  have hPc : va_P D cl wc H := fun k q hq => by
    obtain ⟨i, -, hi⟩ := sf_map_at hC k q hq
    exact hP i q hi
  have hDc : va_D (fun _ => True) wc := (hD.sub isC hnd hC).weaken (fun _ _ _ _ => trivial)
  exact sf_go (va_runI (As := As) (rest := rest) (b := b) Sx (hM H.size) cw ⟨sf_blind, fun U hU hW => ⟨rfl, by rw [hU], by rw [hU]; exact hPc, va_K.moved hW.alike hK, hDc⟩⟩ rfl hn hsize hst (lv_room hW) hdg ⟨hf.1, hf.2⟩) hP hD hS hA isC hC hfst kk
/-- a constructor that makes cells: they stand at the world's end, behind the object's own -/
theorem sf_callII (Sx : CallFix p m c cc nL s args Ts own) (hM : sf_I l D cl tys y ws fr lo mc ms (.ref b :: As) wc post w1) (cw : CallB R s args own index y bytes maxL none ws ({ frames := fr, cells := mc, slots := ms, locals := lo }) mc ms n ∧ y.name = "<init>" ∧ (Cond.instanceMethod y).before args s = true)
    (hK : va_K D cl tys s) (hP : va_P D cl W0 H) (hD : va_D A W0) (hS : va_S A H0 H locs) (hA : ∀ q : Nat, H0.size ≤ q → A q) (isC isR : List Nat) (hC : isC.map (fun i => W0[i]?) = wc.map some) (hR : isR.map (fun i => W0[i]?) = wr.map some) (hnd : va_nd isC = true) (hnr : va_nd isR = true) (hdis : ∀ i ∈ isR, i ∉ isC)
    (hst : st0 = As.reverse ++ .ref b :: rest) (hn : As.length = n) (hsize : ls.size = nL) (hW : (rest.map fun v => v.category).sum ≤ 8) (hdg : decode cc pc = .ok (.invokespecial index, 3)) (hf : cells + mc ≤ R.cells ∧ slots + ms ≤ R.slots)
    (kk : ∀ (u : S) (H1 : Heap) (locs1 : List Loc), post u → va_P D cl (wr ++ w1 u) H1 → va_D A (wr ++ w1 u) → va_S A H0 H1 locs1 → W p l e R s m args below meth c H1 locs1 (cells + mc) (slots + ms) Q (F0 m (pc + 3) ls rest)) : W p l e R s m args below meth c H locs cells slots Q (F0 m pc ls st0) := by
  have hPc : va_P D cl wc H := fun k q hq => by
    obtain ⟨i, -, hi⟩ := sf_map_at hC k q hq
    exact hP i q hi
  have hDc : va_D (fun _ => True) wc := (hD.sub isC hnd hC).weaken (fun _ _ _ _ => trivial)
  have hr := va_runI (As := As) (rest := rest) (b := b) (g := F0 m pc ls st0) (locs := locs) (cells := cells) (slots := slots) (R := R) (e := e) (below := below) (meth := meth) Sx (hM H.size) cw ⟨sf_blind, fun U hU hW => ⟨rfl, by rw [hU], by rw [hU]; exact hPc, va_K.moved hW.alike hK, hDc⟩⟩ rfl hn hsize hst (lv_room hW) hdg ⟨hf.1, hf.2⟩
  have hF := va_free (wc := wc) hD hS hA isC hC
  intro T hT X
  obtain ⟨v, st₀, t, T', L, h0, X', hL, e1, e2, ⟨⟨u, hv, hp, hb, hd⟩, hz, hk⟩, st⟩ := hr T hT X
  cases hv
  rw [h0] at hz hk
  obtain ⟨hP1, hD1⟩ := va_join (wr := wr) hP hD isC isR hC hR hnr hdis hk hF hb hd
  obtain ⟨t2, a1, b1⟩ := kk u T'.heap (locs ++ L) hp (by rw [e1]; exact hP1) hD1
    ⟨Nat.le_trans hS.1 (by rw [e1]; exact hz), fun q h1 h2 => by rw [e1, hk q (Nat.lt_of_lt_of_le h1 hS.1) (fun z => h2 (hF q z))]; exact hS.2.1 q h1 h2, fun q hq => by
      rcases List.mem_append.mp hq with h | h
      · exact hS.2.2 q h
      · exact hF _ (hL q h)⟩ T' rfl X'
  exact ⟨t2, st t2 a1, b1⟩
end SIC
def sf_LI (own : String) (index : Nat) (y : MethodName) (b : ByteArray) (nL : Nat) (n : Nat) : Prop :=
  Cond.code y b nL none ∈ sf_tb ∧ Cond.methodLink own index y ∈ sf_tb ∧ Cond.instanceMethod y ∈ sf_tb ∧ Cond.initialized y.cls ∈ sf_tb ∧ (y.cls ≠ "java/lang/invoke/MethodHandle" ∧ y.cls ≠ "java/lang/invoke/VarHandle" ∧ (parseMethodDescriptor y.desc).map (fun d => d.parameters.length) = some n) ∧ y.name = "<init>"
theorem sf_cwI {R : Room} {s : State} {args : Array Value} {own : String} {index nL n fr lo mc ms : Nat} {y : MethodName} {b : ByteArray} {Ts : List Cond} (h : sf_LI own index y b nL n) (ht : ∀ w ∈ Ts, w.before args s = true) (hT : ∀ w ∈ sf_tb, w ∈ Ts) (hR : fr + 1 ≤ R.frames ∧ 8 + (nL + 11) + lo ≤ R.locals) :
    CallB R s args own index y b nL none (sf_ws y b nL none) ({ frames := fr, cells := mc, slots := ms, locals := lo }) mc ms n ∧ y.name = "<init>" ∧ (Cond.instanceMethod y).before args s = true := by
  obtain ⟨h1, h2, h3, h5, h6, h7⟩ := h
  exact ⟨callB_of n ht (sf_goodIn hT h1) rfl rfl rfl (ht _ (hT _ h5)) (ht _ (hT _ h2)) h6 hR, h7, ht _ (hT _ h3)⟩
