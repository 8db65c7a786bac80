/-! THE BASE FOR METHODS THAT MAY THROW: what an exception's making needs of the tables and of Throwable's statics ('sf_EX'), contracts of methods that return or throw ('sf_XM') -/
/-- the class of an exception by its number: 1 index, 2 turn, 3 range, 4 meaning -/
def sf_en (n : Int32) : String := if n = 1 then "java/lang/IndexOutOfBoundsException" else if n = 2 then "java/lang/IllegalStateException" else if n = 3 then "java/lang/IllegalArgumentException" else "java/lang/UnsupportedOperationException"
/-- words of the tables that stay under warmer tables, though not 'good' -/
def sf_xg (w : Cond) : Bool := w.onTables && w.keepsFace
def sf_XW (U : State) : Prop := ∀ w ∈ lw_tbl, sf_xg w = true → w.before #[] U = true
def sf_STR (U : State) : Prop := ∀ (own : String) (k : Nat) (tx : String), Cond.stringRef own k tx ∈ lw_tbl → ∃ a : Nat, vk_R own k tx a U
def sf_EX (A : Nat → Prop) (U : State) (H : Heap) : Prop := sf_XW U ∧ sf_STR U ∧ vx_Zq Bundle.tN "UNASSIGNED_STACK" Bundle.steD A U H ∧ vx_Zq Bundle.tN "SUPPRESSED_SENTINEL" Bundle.listD A U H
theorem sf_XW.warm {s U : State} (hW : s.WarmedH U.vm) (h : sf_XW s) : sf_XW U := by
  intro w hw hg
  have h1 := h w hw hg
  have hg2 := hg
  simp only [sf_xg, Bool.and_eq_true] at hg
  have h2 := Cond.before_shiftedFace (State.Shifted.of_warmed hW) w hg.2 h1
  exact va_tabs hg.1 (u := s.setVm U.vm) (U := U) rfl h2
theorem sf_STR.warm {s U : State} (hW : s.WarmedH U.vm) (h : sf_STR s) : sf_STR U := fun own k tx hw => by
  obtain ⟨a, ha⟩ := h own k tx hw
  exact ⟨a, vk_R.warm hW ha⟩
theorem sf_EX.warm {A : Nat → Prop} {s U : State} {H : Heap} (hW : s.WarmedH U.vm) (h : sf_EX A s H) : sf_EX A U H := ⟨h.1.warm hW, h.2.1.warm hW, h.2.2.1.moved hW.alike, h.2.2.2.moved hW.alike⟩
theorem sf_EX.same {A : Nat → Prop} {s U : State} {H : Heap} (hv : U.vm = s.vm) (h : sf_EX A s H) : sf_EX A U H := by
  have hW : s.WarmedH U.vm := by rw [hv]; exact State.WarmedH.refl s
  exact h.warm hW
theorem sf_EX.kept {A : Nat → Prop} {U : State} {H H1 : Heap} (h : sf_EX A U H) (hq : ∀ a : Nat, a < H.size → ¬ A a → H1[a]? = H[a]?) : sf_EX A U H1 := ⟨h.1, h.2.1, h.2.2.1.kept hq, h.2.2.2.kept hq⟩
theorem sf_EX.narrow {A B : Nat → Prop} {U : State} {H : Heap} (h : sf_EX A U H) (hAB : ∀ q, B q → A q) : sf_EX B U H := ⟨h.1, h.2.1, h.2.2.1.narrow hAB, h.2.2.2.narrow hAB⟩
/-- what the tables must say for a 'new cls(text)' of own's -/
def sf_names : List String := ["java/lang/RuntimeException", "java/lang/Exception"]
def sf_XOK (own : String) (ik ic : Nat) (cls : String) : Prop :=
  Bundle.fit cls = true ∧ (Cond.classLink own ik cls ∈ sf_tb ∧ Cond.initialized cls ∈ sf_tb) ∧ (∀ w ∈ vx_atS own ic cls sf_names, w ∈ lw_tbl ∧ (goodWord w || sf_xg w) = true) ∧ ∀ w ∈ Cond.classLink own ik cls :: Cond.initialized cls :: vx_atS own ic cls sf_names, vx_ot w = true
theorem sf_names_fit : ∀ n ∈ sf_names, Bundle.fit n = true := by decide +kernel
theorem sf_xhat {s : State} {args : Array Value} (hts : ∀ w ∈ sf_tb, w.before args s = true) (hxw : sf_XW s) {L : List Cond} (h : ∀ w ∈ L, w ∈ lw_tbl ∧ (goodWord w || sf_xg w) = true) : ∀ w ∈ L, w.before args s = true := by
  intro w hw
  obtain ⟨h1, h2⟩ := h w hw
  rcases Bool.or_eq_true _ _ |>.mp h2 with g | g
  · exact hts w (List.mem_filter.mpr ⟨h1, g⟩)
  · have h3 := hxw w h1 g
    simp only [sf_xg, Bool.and_eq_true] at g
    exact va_tabs g.1 (u := s) (U := s) rfl h3
section SXA
variable {S : Type} {l : Launch} {D : va_G} {cl : List vw_C} {tys : List (ClassId × FieldType)} {y : MethodName} {fr lo : Nat} {As : List Value} {wc : va_W} {thr : S → Int32} {ov : S → Option Value} {post : S → Prop} {w1 : S → va_W}
def sf_XQc {S : Type} (D : va_G) (cl : List vw_C) (A : Nat → Prop) (thr : S → Int32) (ov : S → Option Value) (post : S → Prop) (w1 : S → va_W) : Array Value → State → Outcome → State → Prop := fun _ st o t => (∃ u : S, o = .returned (ov u) ∧ thr u = 0 ∧ post u ∧ va_P D cl (w1 u) t.heap) ∧ va_F A st t
def sf_XXc {S : Type} (D : va_G) (cl : List vw_C) (A : Nat → Prop) (thr : S → Int32) (post : S → Prop) (w1 : S → va_W) : String → State → State → Prop := fun E st t => (∃ u : S, E = sf_en (thr u) ∧ ¬ thr u = 0 ∧ post u ∧ va_P D cl (w1 u) t.heap) ∧ va_F A st t
/-- THE CONTRACT of a method that returns or throws: which of the two, and what, the number 'thr' says (0: it returns) -/
def sf_XM {S : Type} (l : Launch) (D : va_G) (cl : List vw_C) (tys : List (ClassId × FieldType)) (y : MethodName) (ws : List Cond) (fr lo : Nat) (As : List Value) (wc : va_W) (thr : S → Int32) (ov : S → Option Value) (post : S → Prop) (w1 : S → va_W) : Prop :=
  ∀ sz : Nat, vx_Met l y ws ({ frames := fr, cells := 1, slots := 6, locals := lo }) (va_Pc As (fun U => (U.heap.size = sz ∧ va_P D cl wc U.heap ∧ va_K D cl tys U ∧ va_D (fun _ => True) wc) ∧ sf_EX (va_A wc sz) U U.heap))
    (sf_XQc D cl (va_A wc sz) thr ov post w1) (sf_XXc D cl (va_A wc sz) thr post w1) 1 6 (va_A wc sz)
def sf_XQ {S : Type} (s : State) (args : Array Value) (below : List Frame) (D : va_G) (cl : List vw_C) (A : Nat → Prop) (thr : S → Int32) (ov : S → Option Value) (post : S → Prop) (w1 : S → va_W) : State → Prop :=
  vx_MQ below (sf_XQc D cl A thr ov post w1) (sf_XXc D cl A thr post w1) args s 1 6 A
theorem sf_xofW {cc : ByteArray} {maxL : Nat} {ret : Option FieldType} (hy : plainName y.cls = true) (hlen : (lg_sl As).length ≤ maxL)
    (body : ∀ (p : Program) (e : Env) (s : State) (m : MethodId) (below : List Frame) (meth : Method) (c : Code) (A : Nat → Prop) (ls : Array Slot) (R : Room) (args : Array Value) (Q : State → Prop), R = { frames := fr, cells := 1, slots := 6, locals := lo } → args = As.toArray → Q = sf_XQ s args below D cl A thr ov post w1 → sf_C p s m meth c cc maxL y args A → meth.sig.returnType = ret → (∀ x ∈ c.exceptionTable.toList, False) → sf_EX A s s.heap → va_K D cl tys s → va_P D cl wc s.heap → va_D A wc → lv_has ls maxL (lv_args 0 As) →
      W p l e R s m args below meth c s.heap [] 0 0 Q (F0 m 0 ls [])) : sf_XM l D cl tys y (sf_ws y cc maxL ret) fr lo As wc thr ov post w1 := by
  intro sz
  refine vx_ofW (cc := cc) (maxL := maxL) (ret := ret) hy rfl ?_
  intro p e s m args below meth c s₁ B hml hex hv
  obtain ⟨rfl, ⟨hsz, hP, hK, hD0⟩, hE⟩ := hv
  have hts := atoms_spec (ws := sf_ws y cc maxL ret) B.pre
  have hown : s.vm.findClass y.cls = some m.cls := findClass_of_methodNamed B.named
  subst hsz
  have hD := hD0.self (sz := s.heap.size)
  have hl := lv_entry As (n := maxL) hlen
  rw [lg_entry_eq]
  exact body p e s m below meth c _ _ _ _ _ rfl rfl rfl ⟨B.exec, B.bytes, hml, hown, fun w h => hts w (List.mem_cons_of_mem _ h), fun q h => Or.inr h, B.notSynchronized⟩ B.returns hex hE hK hP hD hl
end SXA
section SXB
variable {S : Type} {p : Program} {l : Launch} {e : Env} {R : Room} {s : State} {m : MethodId} {args : Array Value} {below : List Frame} {meth : Method} {c : Code} {H : Heap} {locs : List Loc} {D : va_G} {cl : List vw_C} {A : Nat → Prop} {thr : S → Int32} {ov : S → Option Value} {post : S → Prop} {w1 : S → va_W} {cc : ByteArray}
theorem sf_xiret (u : S) {v : Int32} {ty : FieldType} (hexec : p.tables.exec = Jvm.exec) (hb : c.code = cc) (hr : meth.sig.returnType = some ty) (hlocks : meth.locks = false) (hS : va_S A s.heap H locs) (hn : narrow ty (.int v) = .int v) (ht0 : thr u = 0) (ho : ov u = some (.int v)) (hp : post u) (hP : va_P D cl (w1 u) H)
    {pc : Nat} {ls : Array Slot} (hdg : decode cc pc = .ok (.ireturn, 1)) : W p l e R s m args below meth c H locs 0 0 (sf_XQ s args below D cl A thr ov post w1) (F0 m pc ls [.int v]) :=
  W.widen (k := 1) (n := 6) (by omega) (by omega) (vx_ret (W.zret hexec hb hr hn (fun t ht _ => ⟨⟨u, by rw [ho], ht0, hp, by rw [ht]; exact hP⟩, hS.F ht⟩) hS.2.2 hdg hlocks))
theorem sf_xvret (u : S) (hexec : p.tables.exec = Jvm.exec) (hb : c.code = cc) (hr : meth.sig.returnType = none) (hlocks : meth.locks = false) (hS : va_S A s.heap H locs) (ht0 : thr u = 0) (ho : ov u = none) (hp : post u) (hP : va_P D cl (w1 u) H)
    {pc : Nat} {ls : Array Slot} (hdg : decode cc pc = .ok (.return_, 1)) : W p l e R s m args below meth c H locs 0 0 (sf_XQ s args below D cl A thr ov post w1) (F0 m pc ls []) :=
  W.widen (k := 1) (n := 6) (by omega) (by omega) (vx_ret (W.vret hexec hb hr (fun t ht _ => ⟨⟨u, by rw [ho], ht0, hp, by rw [ht]; exact hP⟩, hS.F ht⟩) hS.2.2 hdg hlocks))
/-- new E("text"), thrown: the whole row of it -/
theorem sf_xthrow (u : S) {nL : Nat} {own cls text : String} {ik ic is : Nat} (hexec : p.tables.exec = Jvm.exec) (hb : c.code = cc) (hst : l.stackTraces = false) (hml : c.maxLocals = nL) (hown : s.vm.findClass own = some m.cls) (hts : ∀ w ∈ sf_tb, w.before args s = true) (hE : sf_EX A s s.heap) (hex : ∀ x ∈ c.exceptionTable.toList, False)
    (hok : sf_XOK own ik ic cls) (hstr : Cond.stringRef own is text ∈ lw_tbl) (hlocks : meth.locks = false) (hS : va_S A s.heap H locs) (hne : ¬ thr u = 0) (hcls : cls = sf_en (thr u)) (hp : post u) (hP : va_P D cl (w1 u) H)
    {pc : Nat} {ls : Array Slot} (hsize : ls.size = nL) (hR : 6 ≤ R.frames ∧ 82 ≤ R.locals ∧ 1 ≤ R.cells ∧ 6 ≤ R.slots)
    (d0 : decode cc pc = .ok (.new ik, 3)) (d3 : decode cc (pc + 3) = .ok (.dup, 1)) (d4 : decode cc (pc + 4) = .ok (.ldc is, 2)) (d6 : decode cc (pc + 6) = .ok (.invokespecial ic, 3)) (d9 : decode cc (pc + 9) = .ok (.athrow, 1)) :
    W p l e R s m args below meth c H locs 0 0 (sf_XQ s args below D cl A thr ov post w1) (F0 m pc ls []) := by
  obtain ⟨hfit, ⟨hk, hi⟩, hat, hgood⟩ := hok
  obtain ⟨sa, hsa⟩ := hE.2.1 own is text hstr
  refine vx_throwS hexec hb hst (names := sf_names) hown hfit sf_names_fit (hts _ hk) (hts _ hi) hsa (sf_xhat hts hE.1 hat) hgood hE.2.2.1 hE.2.2.2 hS (hsize.trans hml.symm) d0 d3 d4 d6 d9 (fun x hx => (hex x hx).elim)
    (show 2 + 3 < R.frames by omega) (by show 0 + (13 * (2 + 1) + 43) ≤ R.locals; omega) (by omega) (by omega) hlocks ?_ hS.2.2 (Nat.le_refl _) (Nat.le_refl _)
  intro t _ hz hk
  refine ⟨⟨u, hcls, hne, hp, hP.kept (fun k q hq => hk q.1 (hP k q hq).lt)⟩, Nat.le_trans hS.1 hz, fun q h1 h2 => ?_⟩
  rw [hk q (Nat.lt_of_lt_of_le h1 hS.1)]
  exact hS.2.1 q h1 h2
end SXB
