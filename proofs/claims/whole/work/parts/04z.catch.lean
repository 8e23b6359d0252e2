/-! OWN ROWS: a callee's exception caught by the caller; methods with an exception table -/
section XK
/-- one row of the table, its class linked or not yet: it catches, or is passed -/
theorem x_step1 {Q : Handler → Pre} {E : CtlPost} {e : Env} {d : Bool} {acts : List Action} {S : State} {f : JFrame} {a : Addr} {x : ExceptionTableEntry} {t : List ExceptionTableEntry} {c : ClassId} {cell : Cell} (hx : covers x f.pc = true) (h0 : x.catchType ≠ 0)
    (hl : S.vm.ClassLinks e.platform f.method.cls x.catchType c) (hcell : S.heap[a]? = some cell) (hobj : ∀ k, cell.vm ≠ .statics k) (hk : ∃ k, S.vm.classes[cell.cls]? = some k) (hc : ∃ k, S.vm.classes[c]? = some k) {b : Bool} (hb : S.vm.assignable cell.cls c = b) :
    wp (findHandler.go f a (x :: t)) Q E e d acts S ↔ if b = true then Q (.found x.handlerPc) d acts (S.setVm (S.vm.noted f.method.cls x.catchType (.cls c))) else wp (findHandler.go f a t) Q E e d acts (S.setVm (S.vm.noted f.method.cls x.catchType (.cls c))) := by
  simp only [covers] at hx
  obtain ⟨ha, ht⟩ := (resolveClass_links e.toSetting hl).op (op := VmOp.resolveClass f.method.cls x.catchType) rfl
  have hal : S.vm.Alike (S.vm.noted f.method.cls x.catchType (.cls c)) := (Vm.Alike.refl S.vm).noted _ _ _
  obtain ⟨k1, hk1⟩ := hk
  obtain ⟨k2, hk2⟩ := hc
  obtain ⟨k1', hk1', -⟩ := hal.2.2 _ _ hk1
  obtain ⟨k2', hk2', -⟩ := hal.2.2 _ _ hk2
  have hb' : (S.vm.noted f.method.cls x.catchType (.cls c)).assignable cell.cls c = b := by rw [hal.assignable]; exact hb
  cases b <;> simp [findHandler.go, hx, h0, ha, ht, hcell, hobj, hk1', hk2', hb', VmOp.dirties, VmOp.acts]
/-- a row, as the search meets it: covers the pc, links to a class, is of the object's kind or not -/
def xRow (pl : Platform) (s₀ : State) (d : ClassId) (pc : Nat) (thrown : ClassId) (b : Bool) (y : ExceptionTableEntry) : Prop :=
  covers y pc = true ∧ y.catchType ≠ 0 ∧ ∃ c, s₀.vm.ClassLinks pl d y.catchType c ∧ s₀.vm.assignable thrown c = b
theorem xRow.of {pl : Platform} (hpl : pl.magicAccessors = ({} : Platform).magicAccessors) {s₀ : State} {args : Array Value} {d : ClassId} {pc : Nat} {y : ExceptionTableEntry} {own name : String} {thrown t : ClassId} {b : Bool} (hown : s₀.vm.findClass own = some d) (hc : covers y pc = true) (h0 : y.catchType ≠ 0)
    (hlink : (Cond.classLink own y.catchType name).before args s₀ = true) (ht : s₀.vm.findClass name = some t) (hb : s₀.vm.assignable thrown t = b) : xRow pl s₀ d pc thrown b y := by
  obtain ⟨c', hc', hcl⟩ := Cond.classLink_spec hown hlink pl hpl
  cases ht.symm.trans hc'
  exact ⟨hc, h0, t, hcl, hb⟩
theorem x_search {e : Env} {s₀ : State} {f : JFrame} {a : Addr} {cell : Cell} (hobj : ∀ k, cell.vm ≠ .statics k) (hk0 : ∃ k, s₀.vm.classes[cell.cls]? = some k) (x : ExceptionTableEntry) (post : List ExceptionTableEntry) (hx : xRow e.platform s₀ f.method.cls f.pc cell.cls true x) :
    ∀ (pre : List ExceptionTableEntry) (S : State), s₀.WarmedH S.vm → S.heap[a]? = some cell → (∀ y ∈ pre, xRow e.platform s₀ f.method.cls f.pc cell.cls false y) →
      ∃ vm', s₀.WarmedH vm' ∧ ∀ (Q : Handler → Pre) (E : CtlPost) (d : Bool) (acts : List Action), wp (findHandler.go f a (pre ++ x :: post)) Q E e d acts S ↔ Q (.found x.handlerPc) d acts (S.setVm vm') := by
  obtain ⟨k0, hk0⟩ := hk0
  intro pre
  induction pre with
  | nil =>
    intro S hW hcell _
    obtain ⟨k0', hk0', -⟩ := hW.alike.2.2 _ _ hk0
    obtain ⟨hc, h0, c, hl, hfit⟩ := hx
    obtain ⟨dk, _, _, kt, hd, _, _, _, _, hkt, _, hopen⟩ := hl.here
    obtain ⟨kt', hkt', -⟩ := hW.alike.2.2 _ _ hkt
    refine ⟨_, hW.noted hd hopen (State.rightAt_cls hl), fun Q E d acts => ?_⟩
    rw [List.nil_append, x_step1 hc h0 (hW.classLinks hl) hcell hobj ⟨k0', hk0'⟩ ⟨kt', hkt'⟩ (b := true) (by rw [hW.alike.assignable]; exact hfit)]
    simp
  | cons y ys ih =>
    intro S hW hcell hpass
    obtain ⟨k0', hk0', -⟩ := hW.alike.2.2 _ _ hk0
    obtain ⟨hc, h0, c, hl, hfit⟩ := hpass y List.mem_cons_self
    obtain ⟨dk, _, _, kt, hd, _, _, _, _, hkt, _, hopen⟩ := hl.here
    obtain ⟨kt', hkt', -⟩ := hW.alike.2.2 _ _ hkt
    obtain ⟨vm', hW', hq⟩ := ih (S.setVm (S.vm.noted f.method.cls y.catchType (.cls c))) (hW.noted hd hopen (State.rightAt_cls hl)) hcell (fun z hz => hpass z (List.mem_cons_of_mem _ hz))
    refine ⟨vm', hW', fun Q E d acts => ?_⟩
    rw [List.cons_append, x_step1 hc h0 (hW.classLinks hl) hcell hobj ⟨k0', hk0'⟩ ⟨kt', hkt'⟩ (b := false) (by rw [hW.alike.assignable]; exact hfit)]
    have h9 := hq Q E d acts
    rw [State.setVm_twice] at h9
    simpa using h9
variable {p : Program} {l : Launch} {e : Env} {R : Room} {s : State} {m : MethodId} {args : Array Value} {below : List Frame} {meth : Method} {c : Code} {H : Heap} {locs : List Loc} {cells slots : Nat} {Q : State → Prop}
variable {D : va_G} {cl : List vw_C} {tys : List (ClassId × FieldType)} {A : Nat → Prop} {w w' wc wc' w2 : va_W} {o : xO} {sz mc ms : Nat} {av As rest st0 : List Value} {y : MethodName} {ws ws' Ts : List Cond} {rm : Room}
variable {cc bytes : ByteArray} {pc nL maxL n index : Nat} {ls : Array Slot} {own C E : String} {ret : Option FieldType} {b : Addr} {hh : List (Nat × Nat × Nat × Nat)}
/-- from the note to the handler -/
theorem x_caught {T : State} (X : Stand p l e R s m args below meth c T locs cells slots) (a : Addr) {g : JFrame} (hg : g.method = m) {cell : Cell} (hcell : T.heap[a]? = some cell) (hobj : cell.vm = .none) (hk0 : ∃ k, s.vm.classes[cell.cls]? = some k)
    (pre : List ExceptionTableEntry) (x : ExceptionTableEntry) (post : List ExceptionTableEntry) (hsplit : c.exceptionTable.toList = pre ++ x :: post) (hpass : ∀ y ∈ pre, xRow e.platform s m.cls g.pc cell.cls false y) (hx : xRow e.platform s m.cls g.pc cell.cls true x) :
    ∃ vm', Stand p l e R s m args below meth c (T.setVm vm') locs cells slots ∧ ∀ target, Steps p.tables e below ((T.setVm vm').setTop { g with pc := x.handlerPc, stack := [.ref a] }) target → Steps p.tables e below ((T.setTop g).pushFrame (.throwing a)) target := by
  subst hg
  obtain ⟨vm', hW', hq⟩ := x_search (e := e) (s₀ := s) (f := g) (a := a) (cell := cell) (fun k hk => by rw [hobj] at hk; cases hk) hk0 x post hx pre ((T.setTop g).pushFrame (.throwing a)) X.warmed hcell hpass
  have hfind : ∀ (Q : Handler → Pre) (E : CtlPost) (d : Bool) (acts : List Action), wp (findHandler g a) Q E e d acts ((T.setTop g).pushFrame (.throwing a)) ↔ Q (.found x.handlerPc) d acts (((T.setTop g).pushFrame (.throwing a)).setVm vm') := fun Q E d acts => by
    rw [W.findHandler_eq (s := (T.setTop g).pushFrame (.throwing a)) (meth := meth) (code := c) X.method' X.code, hsplit]; exact hq Q E d acts
  refine ⟨vm', X.noted hW', fun target hrest => ?_⟩
  have h := X.here
  obtain ⟨hgo, hw⟩ := h.throwing a
  refine Steps.head hgo hw ?_
  have hstep : (stepThrowing e ((T.setTop g).pushFrame (.throwing a)) a (.java g :: T.frames.tail)).Is ((((T.setTop g).pushFrame (.throwing a)).setVm vm').setFrames (.java { g with pc := x.handlerPc, stack := [.ref a] } :: T.frames.tail)) [] := by
    simp only [stepThrowing, searchFrame, vmDo]
    generalize hr : Sem.go _ e false [] ((T.setTop g).pushFrame (.throwing a)) = res
    obtain ⟨as, rfl, ha⟩ := Sem.eq_ok_of hr (a := Handler.found x.handlerPc) (s' := ((T.setTop g).pushFrame (.throwing a)).setVm vm') (acts' := []) (by simp [hfind _ _ _ _])
    exact ⟨rfl, ha⟩
  rw [stepThread_throwing (frames_entered h.top _), hstep.1]
  obtain ⟨g₀, hg₀⟩ := Option.isSome_iff_exists.mp h.top
  obtain ⟨r, hr⟩ := State.topJava?_eq_some.mp hg₀
  have hr' : (T.setVm vm').frames = .java g₀ :: r := hr
  rw [State.setTop_of_frames _ hr'] at hrest
  have e1 : ((((T.setTop g).pushFrame (.throwing a)).setVm vm').setFrames (.java { g with pc := x.handlerPc, stack := [.ref a] } :: T.frames.tail)) = (T.setVm vm').setFrames (.java { g with pc := x.handlerPc, stack := [.ref a] } :: r) := by
    rw [hr, List.tail_cons, State.pushFrame, State.setTop_of_frames _ hr, State.setFrames_setFrames]
    show ((T.setFrames _).setVm vm').setFrames _ = _
    rw [show (T.setFrames (.throwing a :: (T.setFrames (.java g :: r)).frames)).setVm vm' = (T.setVm vm').setFrames (.throwing a :: (T.setFrames (.java g :: r)).frames) from rfl, State.setFrames_setFrames]
  rw [e1]
  exact hrest
/-- the callee's exception E is caught by the row x, behind rows of other kinds -/
theorem x_catch (hn : xNote p l e R s m args below meth c H locs cells slots rm D cl E wc wc' pc ls st0 rest) (hown : s.vm.findClass own = some m.cls) (htab : c.exceptionTable.toList = tableOf hh) (hE : E ∈ xEs) (hN : xN s)
    (pre : List (Nat × Nat × Nat × Nat × String)) (x : Nat × Nat × Nat × Nat) (post : List (Nat × Nat × Nat × Nat)) (hsplit : hh = pre.map (fun q => (q.1, q.2.1, q.2.2.1, q.2.2.2.1)) ++ x :: post)
    (hpre : ∀ q ∈ pre, (decide (q.1 ≤ pc) && decide (pc < q.2.1)) = true ∧ q.2.2.2.1 ≠ 0 ∧ q.2.2.2.2 ∈ xEs ∧ E ≠ q.2.2.2.2 ∧ (Cond.classLink own q.2.2.2.1 q.2.2.2.2).before args s = true)
    (hx : (decide (x.1 ≤ pc) && decide (pc < x.2.1)) = true ∧ x.2.2.2 ≠ 0) (hlink : (Cond.classLink own x.2.2.2 E).before args s = true) (hcast : (Cond.castable E E).before args s = true)
    (hP : va_P D cl w H) (hD : va_D A w) (hS : va_S A s.heap H locs) (hA : ∀ q, s.heap.size ≤ q → A q) (isC isR is2 : List Nat) (hC : isC.map (fun i => w[i]?) = wc.map some) (hR : isR.map (fun i => w[i]?) = (isR.filterMap (fun i => w[i]?)).map some) (hnd : va_nd isR = true) (hdis : ∀ i ∈ isR, i ∉ isC)
    (h2n : va_nd is2 = true) (h2 : is2.map (fun i => ((isR.filterMap (fun i => w[i]?)) ++ wc')[i]?) = w2.map some)
    (kk : ∀ (q : Addr) (H1 : Heap) (locs1 : List Loc), va_P D cl w2 H1 → va_D A w2 → va_S A s.heap H1 locs1 → W p l e R s m args below meth c H1 locs1 (cells + rm.cells) (slots + rm.slots) Q (F0 m x.2.2.1 ls [.ref q])) :
    W p l e R s m args below meth c H locs cells slots Q (F0 m pc ls st0) := by
  have hF : ∀ q, va_A wc H.size q → A q := va_free hD hS hA isC hC
  intro T hT X
  obtain ⟨q, cell, T', L, X', hL, h1, h2', h3, h4, hP1, hD1, hz, hk, st⟩ := hn T hT X
  have hpl : e.platform.magicAccessors = ({} : Platform).magicAccessors := by rw [X.admits.platform]
  obtain ⟨c3, c4, hc3, hc4, hasg⟩ := Cond.castable_spec hcast
  cases hc3.symm.trans hc4
  cases hc3.symm.trans h4
  have hk0 : ∃ k, s.vm.classes[cell.cls]? = some k := Vm.classAt_of_findClass h4
  have hs2 : c.exceptionTable.toList = (pre.map (fun q => (⟨q.1, q.2.1, q.2.2.1, q.2.2.2.1⟩ : ExceptionTableEntry))) ++ (⟨x.1, x.2.1, x.2.2.1, x.2.2.2⟩ : ExceptionTableEntry) :: tableOf post := by
    rw [htab, hsplit]; simp [tableOf]
  obtain ⟨vm', X2, st2⟩ := x_caught X' q (g := F0 m pc ls rest) rfl h2' h3 hk0 _ _ _ hs2 (fun z hz => by
      obtain ⟨r, hr, rfl⟩ := List.mem_map.mp hz
      obtain ⟨g1, g2, g3, g4, g5⟩ := hpre r hr
      obtain ⟨cc1, tt1, n1, n2, n3⟩ := hN E hE _ g3 g4
      cases n1.symm.trans h4
      exact xRow.of hpl hown g1 g2 g5 n2 n3)
    (xRow.of hpl hown hx.1 hx.2 hlink h4 hasg)
  obtain ⟨hP2, hD2⟩ := va_join hP hD isC isR hC hR hnd hdis hk hF hP1 hD1
  obtain ⟨t2, a1, b1⟩ := kk q T'.heap (locs ++ L) (hP2.sub is2 (x_fm h2)) (hD2.sub is2 h2n h2)
    ⟨Nat.le_trans hS.1 hz, fun q h1 h2 => by
      rw [hk q (Nat.lt_of_lt_of_le h1 hS.1) (fun z => h2 (hF q z))]
      exact hS.2.1 q h1 h2, fun q hq => by
      rcases List.mem_append.mp hq with h | h
      · exact hS.2.2 q h
      · exact hF _ (hL q h)⟩ (T'.setVm vm') rfl X2
  exact ⟨t2, st _ (st2 _ a1), b1⟩
def xCH (p : Program) (s : State) (m : MethodId) (args : Array Value) (meth : Method) (c : Code) (cc : ByteArray) (nL : Nat) (own : String) (Ts : List Cond) (ret : Option FieldType) (nm : String) (hh : List (Nat × Nat × Nat × Nat)) : Prop :=
  p.tables.exec = Jvm.exec ∧ c.code = cc ∧ c.maxLocals = nL ∧ s.vm.findClass own = some m.cls ∧ (∀ w ∈ Ts, w.before args s = true) ∧ meth.sig.returnType = ret ∧ meth.locks = false ∧ meth.name = nm ∧ c.exceptionTable.toList = tableOf hh
theorem Cx.ofWH (hy : plainName y.cls = true) (hw : ws = Cond.codeWith y cc maxL ret hh :: ws')
    (body : ∀ (p : Program) (e : Env) (s : State) (m : MethodId) (below : List Frame) (meth : Method) (c : Code) (A : Nat → Prop), xCH p s m av.toArray meth c cc maxL y.cls ws ret y.name hh →
      va_P D cl w s.heap → va_K D cl tys s → va_D A w → (∀ q, s.heap.size ≤ q → A q) → (∀ q, A q → ∀ cell, s.heap[q]? = some cell → cell.vm.isStatics = false) → xZ A s s.heap →
      W p l e rm s m av.toArray below meth c s.heap [] 0 0 (xQ D cl tys below s A o w' rm.cells rm.slots) (entryFrame m av.toArray maxL)) :
    Cx l y ws rm D cl tys av w o w' := by
  intro sz
  refine MetFree.of_bodyS (code := cc) (maxLocals := maxL) (ret := ret) hy ?_ ?_
  · intro args s m h hn
    obtain ⟨m9, meth, c, hn9, h1, h2, h3, h4, -, h5, h6, -⟩ := Cond.codeWith_spec (atoms_spec (ws := ws) h _ (by rw [hw]; exact List.mem_cons_self))
    cases hn.symm.trans hn9
    exact ⟨meth, c, h1, h2, h3, h4, h5, h6⟩
  · intro p e s m args below meth c s₁ B hml hP _
    obtain ⟨rfl, hsz, hP, hK, hD0, hZ⟩ := hP
    subst hsz
    have hh0 : s₁.heap = s.heap := by rw [B.state]; rfl
    have hts := atoms_spec (ws := ws) B.pre
    obtain ⟨m9, meth9, c9, hn9, h1, h2, -, -, htab, -⟩ := Cond.codeWith_spec (hts _ (by rw [hw]; exact List.mem_cons_self))
    cases B.named.symm.trans hn9
    cases B.method.symm.trans h1
    cases (Stand.of_body B).code.symm.trans h2
    obtain ⟨t, a1, o, b1, b2, b3, b4⟩ := body p e s m below meth c (va_A w s.heap.size) ⟨B.exec, B.bytes, hml, findClass_of_methodNamed B.named, hts, B.returns, B.notSynchronized, (name_of_methodNamed B.named B.method).1, by rw [← htab, table_eq]⟩ hP hK (hD0.self (sz := s.heap.size)) (fun q h => Or.inr h) (x_nostat hP) hZ s₁ hh0 (Stand.of_body B)
    exact ⟨t, o, a1, b1, b2, b3, b4⟩
/-- a call of a static method with an exception table -/
theorem x_callSW {v : Option Value} (S0 : CallFix p m c cc nL s args tb own) (hM : Cx l y ws rm D cl tys As wc (.inl v) wc') (hw : ws = Cond.codeWith y bytes maxL ret hh :: tb) (k1 : Cond.methodLink own index y ∈ tb) (k2 : Cond.static y ∈ tb) (k4 : Cond.initialized y.cls ∈ tb) (k5 : Cond.codeWith y bytes maxL ret hh ∈ tb)
    (hd : y.cls ≠ "java/lang/invoke/MethodHandle" ∧ y.cls ≠ "java/lang/invoke/VarHandle" ∧ (parseMethodDescriptor y.desc).map (fun d => d.parameters.length) = some n) (hRm : rm.frames + 1 ≤ R.frames ∧ 8 + (maxL + 11) + rm.locals ≤ R.locals)
    (hK : va_K D cl tys s) (hP : va_P D cl w H) (hD : va_D A w) (hS : va_S A s.heap H locs) (hA : ∀ q, s.heap.size ≤ q → A q) (hZ : xZ A s s.heap) (isC isR is2 : List Nat) (hnd : va_nd isC = true) (hC : isC.map (fun i => w[i]?) = wc.map some) (hR : isR.map (fun i => w[i]?) = (isR.filterMap (fun i => w[i]?)).map some) (hn : va_nd isR = true) (hdis : ∀ i ∈ isR, i ∉ isC)
    (h2n : va_nd is2 = true) (h2 : is2.map (fun i => ((isR.filterMap (fun i => w[i]?)) ++ wc')[i]?) = w2.map some) (hlen : As.length = n) (hls : ls.size = nL) (hst : st0 = As.reverse ++ rest) (hW : (rest.map fun v => v.category).sum ≤ 8)
    (hdg : decode cc pc = .ok (.invokestatic index, 3)) (hf : cells + rm.cells ≤ R.cells ∧ slots + rm.slots ≤ R.slots)
    (kk : ∀ (H1 : Heap) (locs1 : List Loc), va_P D cl w2 H1 → va_D A w2 → va_S A s.heap H1 locs1 → W p l e R s m args below meth c H1 locs1 (cells + rm.cells) (slots + rm.slots) Q (F0 m (pc + 3) ls (v.toList ++ rest))) :
    W p l e R s m args below meth c H locs cells slots Q (F0 m pc ls st0) := by
  obtain ⟨hPc, hpre⟩ := x_cut hP hD hK hS hA hZ isC hnd hC
  obtain ⟨hx, hb, hml, ho, hts⟩ := S0
  have hws : ∀ w ∈ ws, ∀ (a' : Array Value) (U : State), s.WarmedH U.vm → w.before a' U = true := by
    intro w h a' U hW
    have hm : w ∈ tb := by
      rw [hw] at h
      rcases List.mem_cons.mp h with rfl | h
      · exact k5
      · exact h
    exact x_warm (List.mem_filter.mp hm).2 hW (hts w hm)
  have hini := hts _ k4
  have hKb : Back l R p e below s args y 3 8 (PreOf R rm.cells rm.slots (va_Pc As (xPre D cl tys wc H.size))) (PostOf (fun _ st oc t => xPost D cl tys (.inl v) wc' (va_A wc H.size) st oc t) rm.cells rm.slots (va_A wc H.size)) :=
    va_backW (hh := hh) (bytes := bytes) (maxL := maxL) (ret := ret) (hM.met H.size) x_blind rfl rfl hRm.1 hRm.2 hws (by rw [hw]; exact List.mem_cons_self) (fun a' U hW => x_warm (List.mem_filter.mp k4).2 hW hini)
  have hrun : va_Run p l e R s m args below meth c H locs cells slots rm.cells rm.slots (F0 m pc ls st0) rest (fun st oc t => xPost D cl tys (.inl v) wc' (va_A wc H.size) st oc t) (va_A wc H.size) := by
    intro T hT X
    obtain ⟨mk, methM, cM, hnamed, hmethM, hcM, -, -, -, -, -, hsigM⟩ := Cond.codeWith_spec (hts _ k5)
    have hstatic : methM.isStatic = true := Cond.static_spec hnamed hmethM (hts _ k2)
    obtain ⟨kP, hkP, -⟩ := className_of_methodNamed hnamed
    have hinitP : kP.init = .initialized := Cond.initialized_spec (findClass_of_methodNamed hnamed) hkP hini
    obtain ⟨vm₁, X₁, hstep₁⟩ := X.invokestatic hx ho (hts _ k1) hnamed hmethM hstatic hkP hinitP ⟨hd.1, hd.2.1⟩ (g := F0 m pc ls st0) rfl (argsL := As) (rest := rest) (hlen.trans (x_len hd _ hsigM)) hst (by rw [hb]; exact hdg)
    obtain ⟨v', ⟨U', l2, c2, s2⟩, X', ⟨g', mk', t, L, e1, e2, hq, h1, hL, h2, h3⟩, st⟩ := hKb m meth c ⟨T.setVm vm₁, locs, cells, slots⟩ (F0 m pc ls rest) (.invokestatic index) mk As.toArray X₁ rfl (hls.trans hml.symm) (by rw [hb]; exact hdg) (lv_room hW) (X₁.named hnamed) ⟨hf.1, hf.2, hpre As (T.setVm vm₁) hT X₁.warmed⟩
    dsimp only [Pt.U, Pt.locs, Pt.cells, Pt.slots] at X' e1 e2 h1 h2 h3 st
    subst h1; subst h2; subst h3
    exact ⟨v', (T.setVm vm₁).calling g' mk' As.toArray, t, U', L, hT, X', hL, e1, e2, hq, fun target h => hstep₁ _ fun acts => by rw [doInvoke_state]; exact st.trans h⟩
  exact x_go hrun hP hD hS hA isC isR is2 hC hR hn hdis h2n h2 kk
end XK
