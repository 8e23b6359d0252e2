/-! OWN ROWS: 'throw new E()', a callee's throw that leaves the caller, a callee's throw that the caller catches -/
section XT
variable {p : Program} {l : Launch} {e : Env} {R : Room} {s : State} {m : MethodId} {args : Array Value} {below : List Frame} {meth : Method} {c : Code} {H : Heap} {locs : List Loc} {cells slots : Nat} {Q : State → Prop}
variable {D : va_G} {cl : List vw_C} {tys : List (ClassId × FieldType)} {A : Nat → Prop} {w w' wc wc' wr w2 : va_W} {o : xO} {sz mc ms : Nat} {av As rest st0 : List Value} {y : MethodName} {ws ws' Ts : List Cond} {rm : Room}
variable {cc bytes : ByteArray} {pc nL maxL n index : Nat} {ls : Array Slot} {own C E : String} {ret : Option FieldType} {b : Addr}
/-- the launch takes no stack traces -/
def xL (l : Launch) : Prop := ∀ e : Env, l.admits e → e.platform.stackTraces = false
set_option maxHeartbeats 2000000 in
/-- the constructor of a fresh exception E(): one cell changes, nothing else -/
theorem x_ctor {T : State} (X : Stand p l e R s m args below meth c T locs cells slots) (hexec : p.tables.exec = Jvm.exec) (htr : e.platform.stackTraces = false) {cls : String} {names : List String} {ic : Nat}
    (hown : s.vm.findClass own = some m.cls) (hcls : Bundle.fit cls = true) (hnames : ∀ n ∈ names, Bundle.fit n = true) (h : ∀ a ∈ Bundle.ownAtoms0 own ic cls names, a.before args s = true)
    (hlocs : ∀ x ∈ locs, ∀ cell, s.heap[x.base]? = some cell → cell.vm.isStatics = false)
    {a : Addr} {cX : ClassId} {kX : Class} (hfoundX : s.vm.findClass cls = some cX) (hkX : s.vm.classes[cX]? = some kX) (hcell : T.heap[a]? = some (freshCell cX kX)) (hnew : s.heap.size ≤ a)
    {g : JFrame} (hg : g.method = m) (hsize : g.locals.size = c.maxLocals) {rest : List Value} (hstack : g.stack = .ref a :: .ref a :: rest) (hd : decode c.code g.pc = .ok (.invokespecial ic, 3))
    (hRframes : names.length + 3 < R.frames) (hRlocals : 2 * g.monitorRoom + ((Value.ref a :: rest).map fun v => v.category).sum + (13 * (names.length + 1) + 41) ≤ R.locals) :
    ∃ (vm' : Vm) (ce : Cell), Stand p l e R s m args below meth c ((T.setVm vm').setCell a ce) locs cells slots ∧ ce.vm = .none ∧ ce.cls = cX ∧
      ∀ target, Steps p.tables e below (((T.setVm vm').setCell a ce).setTop { g with pc := g.pc + 3, stack := .ref a :: rest }) target → Steps p.tables e below (T.setTop g) target := by
  have howns : e.platform.frameOwnsMonitors = true := by rw [X.admits.platform]
  have hfin : e.platform.finalization = false := by rw [X.admits.platform]
  have hpl : e.platform.magicAccessors = ({} : Platform).magicAccessors := by rw [X.admits.platform]
  have hat : ∀ x, x ∈ Bundle.ownAtoms0 own ic cls names → x.holds args s none s [] = true := fun x hx => h x hx
  obtain ⟨Th, Z, L, LZ, Y⟩ := ThrowableC.of_atoms (args := args) howns hfin hpl (fun x hx => h x (by simp [Bundle.ownAtoms0, hx]))
  obtain ⟨P1, Ps, hlen, L1, hL, hP1m, hlink1, hlink⟩ := Bundle.chain0 (args := args) hpl Y.init0 names cls hcls hnames (fun x hx => h x (by simp [Bundle.ownAtoms0, hx]))
  have hfound : s.vm.findClass cls = some P1.m.cls := findClass_of_methodNamed hP1m
  cases Option.some.inj (hfoundX.symm.trans hfound)
  obtain ⟨c1, kX', hc1, hk, hord, -, -, -⟩ := Cond.instantiable_spec (hat (.instantiable cls 6) (by simp [Bundle.ownAtoms0]))
  cases Option.some.inj (hc1.symm.trans hfound)
  cases Option.some.inj (hkX.symm.trans hk)
  have sel : ∀ (t : MethodName) (r : MethodId), s.methodNamed? t = some r → (t.cls ≠ "java/lang/invoke/MethodHandle" ∧ t.cls ≠ "java/lang/invoke/VarHandle") → Cond.selects cls t t ∈ Bundle.ownAtoms0 own ic cls names → selectMethod e.platform s.vm P1.m.cls r = .method r := by
    intro t r hr hn hin
    obtain ⟨c2, r2, m2, q1, q2, q3, q4, -⟩ := Cond.selects_spec (hat _ hin)
    cases Option.some.inj (q1.symm.trans hfound)
    cases Option.some.inj (q2.symm.trans (State.methodFound?_of_named hr hn))
    cases Option.some.inj (q3.symm.trans hr)
    rw [Launch.admits_selectMethod X.admits]; exact q4
  have hsel0 := sel Bundle.tFill0 Th.fill0 Y.fill0 (by decide) (by simp [Bundle.ownAtoms0])
  have hselF := sel Bundle.tFill Th.fill Y.fill (by decide) (by simp [Bundle.ownAtoms0])
  obtain ⟨cellS0, hcS0, hiss⟩ := Y.statics
  obtain ⟨u0, hu0⟩ := Cond.staticRefV Y.unassigned L.unassignedStatic L.statics hcS0 hiss (hat (.isRef (.static Bundle.tN "UNASSIGNED_STACK" Bundle.steD)) (by simp [Bundle.ownAtoms0]))
  obtain ⟨sen, hsen⟩ := Cond.staticRefV Y.sentinel L.sentinelStatic L.statics hcS0 hiss (hat (.isRef (.static Bundle.tN "SUPPRESSED_SENTINEL" Bundle.listD)) (by simp [Bundle.ownAtoms0]))
  obtain ⟨ci198, i198, fB, hk198, hg198, ha198, hsB, -, hnB, htB, hffB⟩ := Cond.ownField (t := .object "java/lang/Object") Y.found L.cls (by decide +kernel) (hat (.fieldLink Bundle.tN 198 Bundle.tN "backtrace" "Ljava/lang/Object;") (by simp [Bundle.ownAtoms0])) (hat (.lays Bundle.tN Bundle.tN "backtrace" "Ljava/lang/Object;") (by simp [Bundle.ownAtoms0])) e.platform hpl
  obtain ⟨cellS, hcS', heS, -, hkeep⟩ := X.same.2.2.2.2.2 Th.aS cellS0 hcS0
  have hcellS : T.heap[Th.aS]? = some cellS := hcS'
  have hnot : ∀ i, (⟨Th.aS, i⟩ : Loc) ∉ locs := fun i hmem => by
    have := hlocs _ hmem cellS0 hcS0
    rw [hiss] at this; cases this
  have hknownS : cellS.vm ≠ .unknown := by
    rw [heS]; intro hu
    rw [show cellS0.vm = .unknown from hu] at hiss
    cases hiss
  have hneS : Th.aS ≠ a := Nat.ne_of_lt (Nat.lt_of_lt_of_le (Array.getElem?_eq_some_iff.mp hcS0).1 hnew)
  obtain ⟨tyC, dC, hdC, hdnC⟩ := Cond.laysAt hfound hk Y.cause (hat (.lays cls Bundle.tN "cause" "Ljava/lang/Throwable;") (by simp [Bundle.ownAtoms0]))
  obtain ⟨tyS, dS, hdS, hdnS⟩ := Cond.laysAt hfound hk Y.stack (hat (.lays cls Bundle.tN "stackTrace" Bundle.steD) (by simp [Bundle.ownAtoms0]))
  obtain ⟨tyP, dP, hdP, hdnP⟩ := Cond.laysAt hfound hk Y.supp (hat (.lays cls Bundle.tN "suppressedExceptions" Bundle.listD) (by simp [Bundle.ownAtoms0]))
  obtain ⟨tyB, dB, hdB, hdnB⟩ := Cond.laysAt hfound hk hffB (hat (.lays cls Bundle.tN "backtrace" "Ljava/lang/Object;") (by simp [Bundle.ownAtoms0]))
  have bC := Cond.laysApart hdB hdC hdnB hdnC (by rw [hnB, Y.causeName]; decide)
  have bS := Cond.laysApart hdB hdS hdnB hdnS (by rw [hnB, Y.stackName]; decide)
  have bP := Cond.laysApart hdB hdP hdnB hdnP (by rw [hnB, Y.suppName]; decide)
  have hskip : SkipFacts Th e.platform s (fun u => u) u0 ((preparedCellV Th.toThrowableT (freshCell P1.m.cls kX) a u0 sen).withEntry T.cur) :=
    ⟨{ ci198 := ci198, i198 := i198, fBack := fB }, ⟨hk198, hg198, ha198, hsB⟩, by
      have := fresh_default (c := P1.m.cls) tyB
      rw [htB] at this
      simpa [preparedCellV, Cell.setSlot, Cell.withEntry, Array.getElem?_setIfInBounds, bC, bS, bP, bC.symm, bS.symm, bP.symm, defaultValue] using this, fun _ _ => rfl⟩
  obtain ⟨tm, methC, cdC, kC, vm₁, hnC, -, -, -, -, -, -, -, hW₁, st1⟩ := Steps.initCold (tb := p.tables) (e := e) (below := below) (s := s) (U := T) X.here hexec X.warmed hpl hown (t := Bundle.init0 cls) rfl rfl (Bundle.fit_spec hcls).2
    (hat (.methodLink own ic (Bundle.init0 cls)) (by simp [Bundle.ownAtoms0])) (h (.instanceMethod (Bundle.init0 cls)) (by cases names <;> simp [Bundle.ownAtoms0, Bundle.chain0Atoms, Bundle.passAtoms])) (bytes := Bundle.five) (maxL := 1) (h (.code (Bundle.init0 cls) Bundle.five 1 none) (by cases names <;> simp [Bundle.ownAtoms0, Bundle.chain0Atoms, Bundle.passAtoms]))
    (f := g) hg (a := a) (rest := .ref a :: rest) hstack hd
  cases Option.some.inj (hnC.symm.trans hP1m)
  obtain ⟨vm₂, X₂, st2⟩ := (X.noted hW₁).ctorPlainOffV hexec (g := { g with stack := .ref a :: rest }) hg hsize Th L Z LZ (P1 :: Ps)
    (fun P hP => by rcases List.mem_cons.mp hP with rfl | hP; exact L1; exact hL P hP) ⟨hlink1, hlink⟩ (u0 := u0) (sen := sen) (self := a) (cell := freshCell P1.m.cls kX) (cellS := cellS)
    hcell (fun _ => by simp) (by simp) rfl rfl hsel0 hselF hcellS hneS hknownS (by rw [hkeep _ (hnot _)]; exact hu0) (by rw [hkeep _ (hnot _)]; exact hsen)
    (Takes.of_laid hk hord tyC (by rw [Y.causeType]; rfl)) (Takes.of_laid hk hord tyS (by rw [Y.stackType]; exact fits_refV_array _ u0)) (Takes.of_laid hk hord tyP (by rw [Y.suppType]; exact fits_refV_object _ sen)) Y.objLocals hskip htr [] hd
    (by simp only [List.length_cons, hlen]; omega) (by simp only [List.length_cons, hlen]; exact hRlocals)
  refine ⟨vm₂, _, Stand.forget (T' := ((T.setVm vm₁).setVm vm₂).setCell a _) X₂ (fun q hq => ?_), rfl, rfl, fun target hrest => st1 _ (fun acts => ?_)⟩
  · have hb : q.base = a := by
      simp only [List.mem_cons, List.not_mem_nil, or_false] at hq
      rcases hq with rfl | rfl | rfl | rfl <;> rfl
    rw [hb]; exact hnew
  · rw [doInvoke_state]
    exact st2 _ hrest
theorem x_mem_locs (hns : ∀ q, A q → ∀ cell, s.heap[q]? = some cell → cell.vm.isStatics = false) (hS : va_S A s.heap H locs) : ∀ x ∈ locs, ∀ cell, s.heap[x.base]? = some cell → cell.vm.isStatics = false := fun x hx => hns _ (hS.2.2 x hx)
set_option maxHeartbeats 1000000 in
/-- throw new E() -/
theorem x_throw {cls : String} {names : List String} {ik ic : Nat} (hl : xL l) (hx : p.tables.exec = Jvm.exec) (hb : c.code = cc) (hml : c.maxLocals = nL) (hown : s.vm.findClass own = some m.cls) (hlocks : meth.locks = false) (hno : c.exceptionTable.isEmpty = true)
    (hcls : Bundle.fit cls = true) (hnames : ∀ n ∈ names, Bundle.fit n = true) (hat : ∀ a ∈ Bundle.ownAtoms0 own ic cls names, a.before args s = true) (hlink : (Cond.classLink own ik cls).before args s = true) (hini : (Cond.initialized cls).before args s = true)
    (hK : va_K D cl tys s) (hP : va_P D cl w H) (hD : va_D A w) (hS : va_S A s.heap H locs) (hns : ∀ q, A q → ∀ cell, s.heap[q]? = some cell → cell.vm.isStatics = false) (hls : ls.size = nL)
    (hc : cells + 1 ≤ mc) (hs : slots + 6 ≤ ms) (hRc : cells + 1 ≤ R.cells) (hRs : slots + 6 ≤ R.slots) (hRf : names.length + 3 < R.frames) (hRl : (rest.map fun v => v.category).sum + (13 * names.length + 60) ≤ R.locals)
    (d0 : decode cc pc = .ok (.new ik, 3)) (d3 : decode cc (pc + 3) = .ok (.dup, 1)) (d4 : decode cc (pc + 4) = .ok (.invokespecial ic, 3)) (d7 : decode cc (pc + 7) = .ok (.athrow, 1)) :
    W p l e R s m args below meth c H locs cells slots (xQ D cl tys below s A (.inr cls) w mc ms) (F0 m pc ls rest) := by
  refine W.newc hx hb hown hlink (hat (.instantiable cls 6) (by simp [Bundle.ownAtoms0])) hini (g := F0 m pc ls rest) rfl d0 hRc hRs (fun cC kC hfc hkC hkind hnum => ?_)
  refine W.eq (g2 := F0 m (pc + 3) ls (.ref H.size :: rest)) rfl ?_
  refine lv_dup hx hb d3 rfl ?_
  intro T hT X
  have hTa : T.heap[H.size]? = some (freshCell cC kC) := by rw [hT]; simp [freshCell]
  have hsz : s.heap.size ≤ H.size := hS.1
  obtain ⟨vm', ce, X', hv, hce, st⟩ := x_ctor X hx (hl e X.admits) hown hcls hnames hat (x_mem_locs hns hS) hfc hkC hTa hsz (g := F0 m (pc + 4) ls (.ref H.size :: .ref H.size :: rest)) rfl (hls.trans hml.symm) rfl (by rw [hb]; exact d4) hRf
    (by show 2 * 0 + ((Value.ref H.size).category + (rest.map fun v => v.category).sum) + _ ≤ _; rw [show (Value.ref H.size).category = 1 from rfl]; omega)
  have hout : ∀ x ∈ c.exceptionTable.toList, covers x (pc + 7) = false := by
    intro x hx
    have : c.exceptionTable.toList = [] := by simpa using hno
    rw [this] at hx; cases hx
  obtain ⟨hwalk, hrun, hend, hW, hsame⟩ := X'.athrowLeaves hx (g := F0 m (pc + 7) ls (.ref H.size :: rest)) rfl rfl rfl hout (a := H.size) (rest := rest) rfl (by rw [hb]; exact d7) hlocks
  have hheap : ((((T.setVm vm').setCell H.size ce)).setFrames (.throwing H.size :: below)).heap = (H.push (freshCell cC kC)).setIfInBounds H.size ce := by
    show (T.heap).setIfInBounds H.size ce = _
    rw [hT]
  have hold : ∀ q : Nat, q < H.size → ((H.push (freshCell cC kC)).setIfInBounds H.size ce)[q]? = H[q]? := by
    intro q hq
    rw [Array.getElem?_setIfInBounds_ne (by omega), Array.getElem?_push_lt hq]
    exact (Array.getElem?_eq_getElem hq).symm
  refine ⟨_, st _ hwalk, .threw H.size, hrun, hend, ⟨⟨H.size, ce, rfl, hsz, ?_, hv, by rw [hce]; exact hfc⟩, ?_, va_K.moved hW.alike hK, hD, ?_, ?_⟩, locs, ⟨Or.inr ⟨_, rfl⟩, hW, hsame.mono hc hs⟩, hS.2.2⟩
  · rw [hheap]; simp
  · rw [hheap]; exact hP.kept (fun k q hk => hold q.1 ((hP k q hk).lt))
  · rw [hheap]; simp; omega
  · intro q h1 h2
    rw [hheap, hold q (Nat.lt_of_lt_of_le h1 hsz)]
    exact hS.2.1 q h1 h2
/-- a callee that throws by its contract, from behind the invoking instruction's own step -/
theorem x_thr {T : State} (X : Stand p l e R s m args below meth c T locs cells slots) (hM : Cx l y ws rm D cl tys av wc (.inr E) wc') {g : JFrame} (hg : g.method = m) (hsize : g.locals.size = c.maxLocals) {ig : Instr} {len : Nat} (hdg : decode c.code g.pc = .ok (ig, len))
    (hW : 2 * g.monitorRoom + (g.stack.map fun v => v.category).sum ≤ 8) {mk : MethodId} (hnm : T.methodNamed? y = some mk) (hfr : rm.frames + 1 ≤ R.frames) (hlo : 8 + (maxL + 11) + rm.locals ≤ R.locals)
    (hws : ∀ w ∈ ws, ∀ (a' : Array Value) (U : State), s.WarmedH U.vm → w.before a' U = true) (hcw : Cond.code y bytes maxL ret ∈ ws) (hini : (Cond.initialized y.cls).before args s = true) (hf : cells + rm.cells ≤ R.cells ∧ slots + rm.slots ≤ R.slots)
    (hpre : va_Pc av (xPre D cl tys wc T.heap.size) av.toArray T) :
    ∃ (x : Addr) (cell : Cell) (T' : State) (L : List Loc), Stand p l e R s m args below meth c T' (locs ++ L) (cells + rm.cells) (slots + rm.slots) ∧ (∀ q ∈ L, va_A wc T.heap.size q.base) ∧ T.heap.size ≤ x ∧ T'.heap[x]? = some cell ∧ cell.vm = .none ∧ s.vm.findClass E = some cell.cls ∧
      va_P D cl wc' T'.heap ∧ va_D (va_A wc T.heap.size) wc' ∧ T.heap.size ≤ T'.heap.size ∧ (∀ q : Nat, q < T.heap.size → ¬ va_A wc T.heap.size q → T'.heap[q]? = T.heap[q]?) ∧
      ∀ acts, Steps p.tables e below (doInvoke e (T.setTop g) acts mk av.toArray).1 ((T'.setTop g).pushFrame (.throwing x)) := by
  have hcodeT : (Cond.code y bytes maxL ret).before av.toArray T = true := hws _ hcw _ _ X.warmed
  obtain ⟨methY, cY, hmY, hcY, -, hlY, -, -, -, -⟩ := Cond.code_spec hnm hcodeT
  obtain ⟨kY, hkY, -⟩ := className_of_methodNamed hnm
  have hiniT : (Cond.initialized y.cls).before av.toArray T = true := word_at X.warmed (Or.inl (by first | rfl | simp [Cond.onTables, Cond.keeps, Cond.steady])) hini
  have hinitY : kY.init = .initialized := Cond.initialized_spec (findClass_of_methodNamed hnm) hkY hiniT
  have h : At T g.method c below := by rw [hg]; exact X.here
  have happ : (headSpec ws rm).appliesLoose y e.platform (T.calling g mk av.toArray) = true :=
    Spec.appliesLoose_calling (g := g) h hdg hnm hkY hinitY (X.room_calling (g := g) (R' := rm) hsize hmY hcY hfr (by rw [hlY]; omega) hf.1 hf.2) (atoms_intro fun w hw => hws w hw _ _ X.warmed)
  obtain ⟨mid, hmid⟩ := h.above
  have hfrm : (T.setTop g).frames = (.java g :: mid) ++ below := by rw [State.frames_setTop' g h.top, hmid]; rfl
  obtain ⟨oc, s₂, hsteps, -, hend, hq⟩ := Steps.callFree (hM T.heap.size) p X.admits X.cas X.clock (acts := []) hfrm happ (x_blind _ T g mk hpre) trivial
  obtain ⟨⟨hout, hP1, hK1, hD1, hz, hk⟩, L, ⟨_, hW₂, hsame⟩, hL⟩ := hq
  obtain ⟨x, cell, rfl, hxl, hxc, hxv, hxf⟩ := hout
  rw [State.frames_setTop' g h.top, X.tail] at hend
  obtain ⟨T', X', hWT, hsT, rfl⟩ := X.outOfThrown hg (mk := mk) (a := av.toArray) hend hW₂ hsame
  refine ⟨x, cell, T', L, X', hL, hxl, hxc, hxv, ?_, hP1, hD1, hz, hk, fun acts => ?_⟩
  · have := X.warmed.alike.findClass (name := E)
    rw [← this]; exact hxf
  · rw [doInvoke_state] at hsteps ⊢
    exact hsteps
def xNote (p : Program) (l : Launch) (e : Env) (R : Room) (s : State) (m : MethodId) (args : Array Value) (below : List Frame) (meth : Method) (c : Code) (H : Heap) (locs : List Loc) (cells slots : Nat) (rm : Room) (D : va_G) (cl : List vw_C) (E : String) (wc wc' : va_W) (pc : Nat) (ls : Array Slot) (st0 rest : List Value) : Prop :=
  ∀ T : State, T.heap = H → Stand p l e R s m args below meth c T locs cells slots → ∃ (x : Addr) (cell : Cell) (T' : State) (L : List Loc), Stand p l e R s m args below meth c T' (locs ++ L) (cells + rm.cells) (slots + rm.slots) ∧ (∀ q ∈ L, va_A wc H.size q.base) ∧ H.size ≤ x ∧ T'.heap[x]? = some cell ∧ cell.vm = .none ∧ s.vm.findClass E = some cell.cls ∧
      va_P D cl wc' T'.heap ∧ va_D (va_A wc H.size) wc' ∧ H.size ≤ T'.heap.size ∧ (∀ q : Nat, q < H.size → ¬ va_A wc H.size q → T'.heap[q]? = H[q]?) ∧
      ∀ target, Steps p.tables e below ((T'.setTop (F0 m pc ls rest)).pushFrame (.throwing x)) target → Steps p.tables e below (T.setTop (F0 m pc ls st0)) target
theorem x_noteV {Tt : u_T} {N ci : Nat} {fs : List Value} (S0 : CallFix p m c cc nL s args Ts own) (hM : Cx l y ws rm D cl tys (.ref b :: As) wc (.inr E) wc') (cw : CallW R s args own C index y bytes maxL ret ws rm rm.cells rm.slots n)
    (hK : va_K D cl tys s) (hPc : va_P D cl wc H) (hpre : ∀ (av : List Value) (U : State), U.heap = H → s.WarmedH U.vm → va_Pc av (xPre D cl tys wc H.size) av.toArray U) (hc0 : wc[0]? = some (b, .inr (ci, fs))) (hcl : cl[ci]? = some (C, Tt, N)) (hlen : As.length = n) (hls : ls.size = nL) (hst : st0 = As.reverse ++ .ref b :: rest) (hW : (rest.map fun v => v.category).sum ≤ 8)
    (hdg : decode cc pc = .ok (.invokevirtual index, 3)) (hf : cells + rm.cells ≤ R.cells ∧ slots + rm.slots ≤ R.slots) : xNote p l e R s m args below meth c H locs cells slots rm D cl E wc wc' pc ls st0 rest := by
  obtain ⟨⟨-, -, hfr, hlo, hws, hcw, hcode, hini, hy, hlen', hl⟩, hin, hse⟩ := cw
  obtain ⟨hx, hb, hml, ho, -⟩ := S0
  obtain ⟨cellB, hcB, hoB, hclB⟩ := va_recv hK hPc hcl hc0
  intro T hT X
  obtain ⟨mk, methM, hnamed, hmethM, hstM, habM⟩ := Cond.instanceMethod_spec hin
  obtain ⟨methM', cM, hmethM', -, -, -, -, -, -, hsigM⟩ := Cond.code_spec hnamed hcode
  cases hmethM.symm.trans hmethM'
  obtain ⟨c2, r2, m2, q1, q2, q3, q4, kP, hkP, hkPi⟩ := Cond.selects_spec hse
  cases hclB.symm.trans q1
  cases (State.methodFound?_of_named hnamed hy).symm.trans q2
  cases hnamed.symm.trans q3
  have hselP : selectMethod e.platform s.vm cellB.cls mk = .method mk := by rw [Launch.admits_selectMethod X.admits]; exact q4
  obtain ⟨vm₁, X₁, hstep₁⟩ := X.invokevirtual hx ho hl hnamed hmethM hstM hkP hkPi hy (a := b) (cell := cellB) (by rw [hT]; exact hcB)
    (fun z h => by rw [h] at hoB; cases hoB) hselP hmethM habM hkP hkPi (g := F0 m pc ls st0) rfl (argsL := As) (rest := rest) (hlen.trans (hlen' _ hsigM)) hst (by rw [hb]; exact hdg)
  have hsz : (T.setVm vm₁).heap = H := hT
  obtain ⟨x, cell, T', L, X', hL, h1, h2, h3, h4, h5, h6, h7, h8, st⟩ := x_thr (bytes := bytes) (maxL := maxL) (ret := ret) X₁ hM (g := F0 m pc ls rest) rfl (hls.trans hml.symm) (by rw [hb]; exact hdg) (lv_room hW) (X₁.named hnamed) hfr hlo hws hcw hini hf
    (by rw [hsz]; exact hpre _ _ hT X₁.warmed)
  rw [hsz] at hL h1 h6 h7 h8
  exact ⟨x, cell, T', L, X', hL, h1, h2, h3, h4, h5, h6, h7, h8, fun target h => hstep₁ _ fun acts => (st acts).trans h⟩
theorem x_noteS (S0 : CallFix p m c cc nL s args Ts own) (hM : Cx l y ws rm D cl tys As wc (.inr E) wc') (cw : CallB R s args own index y bytes maxL ret ws rm rm.cells rm.slots n ∧ (Cond.static y).before args s = true)
    (hpre : ∀ (av : List Value) (U : State), U.heap = H → s.WarmedH U.vm → va_Pc av (xPre D cl tys wc H.size) av.toArray U) (hlen : As.length = n) (hls : ls.size = nL) (hst : st0 = As.reverse ++ rest) (hW : (rest.map fun v => v.category).sum ≤ 8)
    (hdg : decode cc pc = .ok (.invokestatic index, 3)) (hf : cells + rm.cells ≤ R.cells ∧ slots + rm.slots ≤ R.slots) : xNote p l e R s m args below meth c H locs cells slots rm D cl E wc wc' pc ls st0 rest := by
  obtain ⟨⟨-, -, hfr, hlo, hws, hcw, hcode, hini, hy, hlen', hl⟩, hstt⟩ := cw
  obtain ⟨hx, hb, hml, ho, -⟩ := S0
  intro T hT X
  obtain ⟨mk, hnamed⟩ := Cond.code_named hcode
  obtain ⟨methM, cM, hmethM, -, -, -, -, -, -, hsigM⟩ := Cond.code_spec hnamed hcode
  have hstatic : methM.isStatic = true := Cond.static_spec hnamed hmethM hstt
  obtain ⟨kP, hkP, -⟩ := className_of_methodNamed hnamed
  have hinitP : kP.init = .initialized := Cond.initialized_spec (findClass_of_methodNamed hnamed) hkP hini
  obtain ⟨vm₁, X₁, hstep₁⟩ := X.invokestatic hx ho hl hnamed hmethM hstatic hkP hinitP hy (g := F0 m pc ls st0) rfl (argsL := As) (rest := rest) (hlen.trans (hlen' _ hsigM)) hst (by rw [hb]; exact hdg)
  have hsz : (T.setVm vm₁).heap = H := hT
  obtain ⟨x, cell, T', L, X', hL, h1, h2, h3, h4, h5, h6, h7, h8, st⟩ := x_thr (bytes := bytes) (maxL := maxL) (ret := ret) X₁ hM (g := F0 m pc ls rest) rfl (hls.trans hml.symm) (by rw [hb]; exact hdg) (lv_room hW) (X₁.named hnamed) hfr hlo hws hcw hini hf
    (by rw [hsz]; exact hpre _ _ hT X₁.warmed)
  rw [hsz] at hL h1 h6 h7 h8
  exact ⟨x, cell, T', L, X', hL, h1, h2, h3, h4, h5, h6, h7, h8, fun target h => hstep₁ _ fun acts => (st acts).trans h⟩
/-- the callee's exception leaves the caller too -/
theorem x_out (hn : xNote p l e R s m args below meth c H locs cells slots rm D cl E wc wc' pc ls st0 rest) (hlocks : meth.locks = false) (hno : c.exceptionTable.isEmpty = true) (hK : va_K D cl tys s)
    (hP : va_P D cl w H) (hD : va_D A w) (hS : va_S A s.heap H locs) (hA : ∀ q, s.heap.size ≤ q → A q) (isC isR is2 : List Nat) (hC : isC.map (fun i => w[i]?) = wc.map some) (hR : isR.map (fun i => w[i]?) = (isR.filterMap (fun i => w[i]?)).map some) (hnd : va_nd isR = true) (hdis : ∀ i ∈ isR, i ∉ isC)
    (h2n : va_nd is2 = true) (h2 : is2.map (fun i => ((isR.filterMap (fun i => w[i]?)) ++ wc')[i]?) = w2.map some) (hc : cells + rm.cells ≤ mc) (hs : slots + rm.slots ≤ ms) :
    W p l e R s m args below meth c H locs cells slots (xQ D cl tys below s A (.inr E) w2 mc ms) (F0 m pc ls st0) := by
  have hF : ∀ q, va_A wc H.size q → A q := va_free hD hS hA isC hC
  intro T hT X
  obtain ⟨x, cell, T', L, X', hL, h1, h2', h3, h4, hP1, hD1, hz, hk, st⟩ := hn T hT X
  have hout : ∀ z ∈ c.exceptionTable.toList, covers z pc = false := by
    intro z hz
    have : c.exceptionTable.toList = [] := by simpa using hno
    rw [this] at hz; cases hz
  obtain ⟨hwalk, hrun, hend, hW, hsame⟩ := X'.leaveThrown x (g := F0 m pc ls rest) rfl rfl rfl hout hlocks
  obtain ⟨hP2, hD2⟩ := va_join hP hD isC isR hC hR hnd hdis hk hF hP1 hD1
  refine ⟨_, st _ hwalk, .threw x, hrun, hend, ⟨⟨x, cell, rfl, Nat.le_trans hS.1 h1, h2', h3, h4⟩, hP2.sub is2 (x_fm h2), va_K.moved hW.alike hK, hD2.sub is2 h2n h2, Nat.le_trans hS.1 hz, fun q g1 g2 => ?_⟩, locs ++ L, ⟨Or.inr ⟨_, rfl⟩, hW, hsame.mono hc hs⟩, fun q hq => ?_⟩
  · show T'.heap[q]? = _
    rw [hk q (Nat.lt_of_lt_of_le g1 hS.1) (fun z => g2 (hF q z))]
    exact hS.2.1 q g1 g2
  · rcases List.mem_append.mp hq with h | h
    · exact hS.2.2 q h
    · exact hF _ (hL q h)
end XT
