/-! OWN ROWS: deterministic contracts of methods that return or throw -/
section XR
abbrev xO : Type := Option Value ⊕ String
/-- what a method has moved at its end, returned or thrown -/
def xEnd (st : State) (o : Outcome) (t : State) (L : List Loc) (k n : Nat) : Prop :=
  ((∃ v, o = .returned v) ∨ ∃ x, o = .threw x) ∧ st.WarmedH t.vm ∧ st.sameButNew ({ t with vm := st.vm } : State) L k n
/-- how it ended: with a value, or with a new object of the class E -/
def xOut (o : xO) (st : State) (oc : Outcome) (t : State) : Prop := match o with
  | .inl v => oc = .returned v
  | .inr E => ∃ (x : Addr) (cell : Cell), oc = .threw x ∧ st.heap.size ≤ x ∧ t.heap[x]? = some cell ∧ cell.vm = .none ∧ st.vm.findClass E = some cell.cls
/-- a static field is laid, in a cell that is none of A's -/
def xLs (C n d : String) (A : Nat → Prop) (U : State) (H : Heap) : Prop := ∃ (c : ClassId) (k : Class) (i : Nat) (f : Field) (a : Nat) (cell : Cell), U.vm.findClass C = some c ∧ U.fieldFound? C n d = some (c, k, i, f) ∧ f.isStatic = true ∧ k.statics = some a ∧ H[a]? = some cell ∧ cell.vm.isStatics = true ∧ cell.cls = c ∧ f.slot < cell.slots.size ∧ k.staticTypes[f.slot]? = some f.type ∧ ¬ A a
theorem xLs.moved {C n d : String} {A : Nat → Prop} {u U : State} {H : Heap} (hvm : u.vm.Alike U.vm) (h : xLs C n d A u H) : xLs C n d A U H := by
  obtain ⟨c, k, i, f, a, cell, h0, h1, h2, h3, h4, h5, h6, h7, h8, h9⟩ := h
  obtain ⟨k', hi', he⟩ := State.fieldFound?_setVm hvm h1
  exact ⟨c, k', i, f, a, cell, by rw [hvm.findClass]; exact h0, hi', h2, by rw [he]; exact h3, h4, h5, h6, h7, by rw [he]; exact h8, h9⟩
theorem xLs.kept {C n d : String} {A : Nat → Prop} {U : State} {H H1 : Heap} (h : xLs C n d A U H) (hq : ∀ a : Nat, a < H.size → ¬ A a → H1[a]? = H[a]?) : xLs C n d A U H1 := by
  obtain ⟨c, k, i, f, a, cell, h0, h1, h2, h3, h4, h5, h6, h7, h8, h9⟩ := h
  exact ⟨c, k, i, f, a, cell, h0, h1, h2, h3, by rw [hq a (Array.getElem?_eq_some_iff.mp h4).1 h9]; exact h4, h5, h6, h7, h8, h9⟩
theorem xLs.narrow {C n d : String} {A B : Nat → Prop} {U : State} {H : Heap} (h : xLs C n d A U H) (hAB : ∀ q, B q → A q) : xLs C n d B U H := by
  obtain ⟨c, k, i, f, a, cell, h0, h1, h2, h3, h4, h5, h6, h7, h8, h9⟩ := h
  exact ⟨c, k, i, f, a, cell, h0, h1, h2, h3, h4, h5, h6, h7, h8, fun z => h9 (hAB a z)⟩
theorem xLs.word {C n d : String} {A : Nat → Prop} {s : State} {args : Array Value} (h : xLs C n d A s s.heap) : (Cond.laysStatic C n d).before args s = true := by
  obtain ⟨c, k, i, f, a, cell, h0, h1, h2, h3, h4, h5, h6, h7, h8, -⟩ := h
  simp [Cond.before, Cond.holds, Cond.value, h0, h1, h2, h3, h4, h5, h6, h7, h8]
theorem xLs.of {args : Array Value} {s : State} {C n d : String} {A : Nat → Prop} (h : (Cond.laysStatic C n d).before args s = true) (hA : ∀ a : Nat, a < s.heap.size → ¬ A a) : xLs C n d A s s.heap := by
  obtain ⟨c, k, i, f, a, cell, h0, h1, h2, h3, h4, h5, h6, h7, h8⟩ := Cond.laysStatic_spec h
  exact ⟨c, k, i, f, a, cell, h0, h1, h2, h3, h4, h5, h6, h7, h8, hA a (Array.getElem?_eq_some_iff.mp h4).1⟩
theorem xZq_word {C n d : String} {A : Nat → Prop} {s : State} {args : Array Value} (h : va_Zq C n d A s s.heap) : (Cond.isRef (.static C n d)).before args s = true := by
  have key : ∀ v : Value, va_Z C n d v A s s.heap → v.isRef = true → (Cond.isRef (.static C n d)).before args s = true := by
    intro v h hv
    obtain ⟨cf, kf, fi, f, a, cell, h1, h2, h3, h4, h5, h6, h7, -⟩ := h
    have he : (Term.static C n d).eval args s none [] s = some v := by simp [Term.eval, State.fieldNamed?, h1, h2, h4, h5, h6, h7]
    cases v <;> simp [Value.isRef] at hv <;> simp [Cond.before, Cond.holds, Cond.value, he]
  rcases h with h | ⟨t, h⟩
  · exact key _ h rfl
  · exact key _ h rfl
/-- the exceptions of the document: none of them is another's kind -/
def xEs : List String := ["java/lang/IllegalArgumentException", "java/lang/IllegalStateException", "java/util/NoSuchElementException", "java/lang/UnsupportedOperationException", "java/lang/IndexOutOfBoundsException"]
def xN (U : State) : Prop := ∀ C ∈ xEs, ∀ T ∈ xEs, C ≠ T → va_Nc C T U
/-- the two statics of Throwable that every making of an exception reads; and which exceptions are kinds of which -/
def xZ (A : Nat → Prop) (U : State) (H : Heap) : Prop :=
  (va_Zq "java/lang/Throwable" "UNASSIGNED_STACK" "[Ljava/lang/StackTraceElement;" A U H ∧ va_Zq "java/lang/Throwable" "SUPPRESSED_SENTINEL" "Ljava/util/List;" A U H) ∧
  (xLs "java/lang/Throwable" "UNASSIGNED_STACK" "[Ljava/lang/StackTraceElement;" A U H ∧ xLs "java/lang/Throwable" "SUPPRESSED_SENTINEL" "Ljava/util/List;" A U H) ∧ xN U
theorem xZ.moved {A : Nat → Prop} {u U : State} {H : Heap} (hvm : u.vm.Alike U.vm) (h : xZ A u H) : xZ A U H := ⟨⟨h.1.1.moved hvm, h.1.2.moved hvm⟩, ⟨h.2.1.1.moved hvm, h.2.1.2.moved hvm⟩, fun C hC T hT hn => (h.2.2 C hC T hT hn).moved hvm⟩
theorem xZ.kept {A : Nat → Prop} {U : State} {H H1 : Heap} (h : xZ A U H) (hq : ∀ a : Nat, a < H.size → ¬ A a → H1[a]? = H[a]?) : xZ A U H1 := ⟨⟨h.1.1.kept hq, h.1.2.kept hq⟩, ⟨h.2.1.1.kept hq, h.2.1.2.kept hq⟩, h.2.2⟩
theorem xZ.narrow {A B : Nat → Prop} {U : State} {H : Heap} (h : xZ A U H) (hAB : ∀ q, B q → A q) : xZ B U H := ⟨⟨h.1.1.narrow hAB, h.1.2.narrow hAB⟩, ⟨h.2.1.1.narrow hAB, h.2.1.2.narrow hAB⟩, h.2.2⟩
def xPre (D : va_G) (cl : List vw_C) (tys : List (ClassId × FieldType)) (w : va_W) (sz : Nat) (U : State) : Prop :=
  U.heap.size = sz ∧ va_P D cl w U.heap ∧ va_K D cl tys U ∧ va_D (fun _ => True) w ∧ xZ (va_A w sz) U U.heap
def xPost (D : va_G) (cl : List vw_C) (tys : List (ClassId × FieldType)) (o : xO) (w' : va_W) (A : Nat → Prop) (st : State) (oc : Outcome) (t : State) : Prop :=
  xOut o st oc t ∧ va_P D cl w' t.heap ∧ va_K D cl tys t ∧ va_D A w' ∧ va_F A st t
/-- THE CONTRACT: over any heap that holds the world w the method ends with o, the heap holding w' -/
def Cx (l : Launch) (y : MethodName) (ws : List Cond) (rm : Room) (D : va_G) (cl : List vw_C) (tys : List (ClassId × FieldType)) (av : List Value) (w : va_W) (o : xO) (w' : va_W) : Prop :=
  ∀ sz : Nat, MetFree l y (headSpec ws rm) (va_Pc av (xPre D cl tys w sz)) (fun _ _ _ _ _ => True) (fun _ st oc t => xPost D cl tys o w' (va_A w sz) st oc t ∧ ∃ L, xEnd st oc t L rm.cells rm.slots ∧ ∀ q ∈ L, va_A w sz q.base)
def xQ (D : va_G) (cl : List vw_C) (tys : List (ClassId × FieldType)) (below : List Frame) (s : State) (A : Nat → Prop) (o : xO) (w' : va_W) (mc ms : Nat) : State → Prop := fun t =>
  ∃ oc, t.status = .running ∧ Ended t below oc ∧ xPost D cl tys o w' A s oc t ∧ ∃ L, xEnd s oc t L mc ms ∧ ∀ q ∈ L, A q.base
variable {p : Program} {l : Launch} {e : Env} {R : Room} {s : State} {m : MethodId} {args : Array Value} {below : List Frame} {meth : Method} {c : Code} {H : Heap} {locs : List Loc} {cells slots : Nat} {Q : State → Prop}
variable {D : va_G} {cl : List vw_C} {tys : List (ClassId × FieldType)} {A : Nat → Prop} {w w' wc wc' wr w2 : va_W} {o : xO} {sz mc ms : Nat} {av As rest st0 : List Value} {y : MethodName} {ws ws' Ts : List Cond} {rm : Room}
variable {cc bytes : ByteArray} {pc nL maxL n index : Nat} {ls : Array Slot} {own C E : String} {ret : Option FieldType} {b : Addr}
theorem x_blind : FrameBlind (va_Pc av (xPre D cl tys w sz)) := by
  intro a U g mk q
  obtain ⟨q0, q1, qP, qK, qD, qZ⟩ := q
  exact ⟨q0, q1, qP, va_K.moved (u := U) (U := U.calling g mk a) (Vm.Alike.refl U.vm) qK, qD, xZ.moved (u := U) (U := U.calling g mk a) (Vm.Alike.refl U.vm) qZ⟩
theorem Cx.met {v : Option Value} (h : Cx l y ws rm D cl tys av w (.inl v) w') (sz : Nat) :
    Met l y ws rm (va_Pc av (xPre D cl tys w sz)) (fun _ st oc t => xPost D cl tys (.inl v) w' (va_A w sz) st oc t) rm.cells rm.slots (va_A w sz) := by
  intro p e ha hc hk s m args below hf happ hP hK
  obtain ⟨n, o, h1, h2, h3, hq, L, ⟨_, hW, hs⟩, hL⟩ := h sz p e ha hc hk s m args below hf happ hP hK
  exact ⟨n, o, h1, h2, h3, hq, L, ⟨⟨v, hq.1⟩, hW, hs⟩, hL⟩
theorem x_fm {α β : Type} {f : α → Option β} : ∀ {is : List α} {ws : List β}, is.map f = ws.map some → is.filterMap f = ws
  | [], [], _ => rfl
  | [], _ :: _, h => by simp at h
  | _ :: _, [], h => by simp at h
  | i :: is, w :: ws, h => by
    simp only [List.map_cons, List.cons.injEq] at h
    rw [List.filterMap_cons, h.1]
    simp only [x_fm h.2]
theorem x_mono {Q' : State → Prop} {g : JFrame} (h : ∀ t, Q t → Q' t) (k : W p l e R s m args below meth c H locs cells slots Q g) : W p l e R s m args below meth c H locs cells slots Q' g := by
  intro T hT X
  obtain ⟨t, a1, b1⟩ := k T hT X
  exact ⟨t, a1, h t b1⟩
theorem x_ofMQ {t : State} (h : MQ below (fun _ st oc t => xPost D cl tys o w A st oc t) args s mc ms A t) : xQ D cl tys below s A o w mc ms t := by
  obtain ⟨oc, h1, h2, h3, L, ⟨h4, h5, h6⟩, h7⟩ := h
  exact ⟨oc, h1, h2, h3, L, ⟨Or.inl h4, h5, h6⟩, h7⟩
/-! returns -/
theorem x_iret {v : Int32} (hx : p.tables.exec = Jvm.exec) (hb : c.code = cc) (hr : meth.sig.returnType = some .int) (hlocks : meth.locks = false) (hK : va_K D cl tys s) (hP : va_P D cl w H) (hD : va_D A w) (hS : va_S A s.heap H locs) (hc : cells ≤ mc) (hs : slots ≤ ms) (hdg : decode cc pc = .ok (.ireturn, 1)) :
    W p l e R s m args below meth c H locs cells slots (xQ D cl tys below s A (.inl (some (.int v))) w mc ms) (F0 m pc ls [.int v]) :=
  W.widen hc hs (x_mono (fun _ => x_ofMQ) (W.iret (Qc := fun _ st oc t => xPost D cl tys (.inl (some (.int v))) w A st oc t) (free := A) hx hb hr (fun t ht hW => ⟨rfl, by rw [ht]; exact hP, va_K.moved hW.alike hK, hD, hS.F ht⟩) hS.2.2 hdg hlocks))
theorem x_zret {v : Int32} {ty : FieldType} (hx : p.tables.exec = Jvm.exec) (hb : c.code = cc) (hr : meth.sig.returnType = some ty) (hlocks : meth.locks = false) (hn : narrow ty (.int v) = .int v) (hK : va_K D cl tys s) (hP : va_P D cl w H) (hD : va_D A w) (hS : va_S A s.heap H locs) (hc : cells ≤ mc) (hs : slots ≤ ms) (hdg : decode cc pc = .ok (.ireturn, 1)) :
    W p l e R s m args below meth c H locs cells slots (xQ D cl tys below s A (.inl (some (.int v))) w mc ms) (F0 m pc ls [.int v]) :=
  W.widen hc hs (x_mono (fun _ => x_ofMQ) (W.zret (Qc := fun _ st oc t => xPost D cl tys (.inl (some (.int v))) w A st oc t) (free := A) hx hb hr hn (fun t ht hW => ⟨rfl, by rw [ht]; exact hP, va_K.moved hW.alike hK, hD, hS.F ht⟩) hS.2.2 hdg hlocks))
theorem x_lret {v : Int64} (hx : p.tables.exec = Jvm.exec) (hb : c.code = cc) (hr : meth.sig.returnType = some .long) (hlocks : meth.locks = false) (hK : va_K D cl tys s) (hP : va_P D cl w H) (hD : va_D A w) (hS : va_S A s.heap H locs) (hc : cells ≤ mc) (hs : slots ≤ ms) (hdg : decode cc pc = .ok (.lreturn, 1)) :
    W p l e R s m args below meth c H locs cells slots (xQ D cl tys below s A (.inl (some (.long v))) w mc ms) (F0 m pc ls [.long v]) :=
  W.widen hc hs (x_mono (fun _ => x_ofMQ) (W.lret (Qc := fun _ st oc t => xPost D cl tys (.inl (some (.long v))) w A st oc t) (free := A) hx hb hr (fun t ht hW => ⟨rfl, by rw [ht]; exact hP, va_K.moved hW.alike hK, hD, hS.F ht⟩) hS.2.2 hdg hlocks))
theorem x_vret (hx : p.tables.exec = Jvm.exec) (hb : c.code = cc) (hr : meth.sig.returnType = none) (hlocks : meth.locks = false) (hK : va_K D cl tys s) (hP : va_P D cl w H) (hD : va_D A w) (hS : va_S A s.heap H locs) (hc : cells ≤ mc) (hs : slots ≤ ms) (hdg : decode cc pc = .ok (.return_, 1)) :
    W p l e R s m args below meth c H locs cells slots (xQ D cl tys below s A (.inl none) w mc ms) (F0 m pc ls []) :=
  W.widen hc hs (x_mono (fun _ => x_ofMQ) (W.vret (Qc := fun _ st oc t => xPost D cl tys (.inl none) w A st oc t) (free := A) hx hb hr (fun t ht hW => ⟨rfl, by rw [ht]; exact hP, va_K.moved hW.alike hK, hD, hS.F ht⟩) hS.2.2 hdg hlocks))
theorem x_nostat {s : State} {w : va_W} {D : va_G} {cl : List vw_C} (hP : va_P D cl w s.heap) : ∀ q, va_A w s.heap.size q → ∀ cell, s.heap[q]? = some cell → cell.vm.isStatics = false := by
  intro q hq cell hcell
  rcases hq with ⟨k, en, hk⟩ | hq
  · have h1 := hP k (q, en) hk
    rcases en with ⟨ca, a⟩ | ⟨ci, fs⟩
    · have h2 : s.heap[q]? = some (vp_cell ca a) := h1
      cases hcell.symm.trans h2
      obtain ⟨nn, a⟩ := a
      rcases a with a | a | a | a | a <;> rfl
    · obtain ⟨q', h2, cell', g1, g2, g3, -⟩ := h1
      cases hcell.symm.trans g1
      rw [g3]; rfl
  · have := (Array.getElem?_eq_some_iff.mp hcell).1
    omega
/-! what a method's own rows know from its entry on -/
def xC (p : Program) (s : State) (m : MethodId) (args : Array Value) (meth : Method) (c : Code) (cc : ByteArray) (nL : Nat) (own : String) (Ts : List Cond) (ret : Option FieldType) (nm : String) : Prop :=
  p.tables.exec = Jvm.exec ∧ c.code = cc ∧ c.maxLocals = nL ∧ s.vm.findClass own = some m.cls ∧ (∀ w ∈ Ts, w.before args s = true) ∧ meth.sig.returnType = ret ∧ meth.locks = false ∧ meth.name = nm ∧ c.exceptionTable.isEmpty = true
theorem Cx.ofW (hy : plainName y.cls = true) (hw : ws = Cond.code y cc maxL ret :: ws')
    (body : ∀ (p : Program) (e : Env) (s : State) (m : MethodId) (below : List Frame) (meth : Method) (c : Code) (A : Nat → Prop), xC p s m av.toArray meth c cc maxL y.cls ws ret y.name →
      va_P D cl w s.heap → va_K D cl tys s → va_D A w → (∀ q, s.heap.size ≤ q → A q) → (∀ q, A q → ∀ cell, s.heap[q]? = some cell → cell.vm.isStatics = false) → xZ A s s.heap →
      W p l e rm s m av.toArray below meth c s.heap [] 0 0 (xQ D cl tys below s A o w' rm.cells rm.slots) (entryFrame m av.toArray maxL)) :
    Cx l y ws rm D cl tys av w o w' := by
  intro sz
  refine MetFree.of_bodyS (code := cc) (maxLocals := maxL) (ret := ret) hy ?_ ?_
  · intro args s m h hn
    obtain ⟨meth, c, h1, h2, h3, h4, h5, h6, -, -⟩ := Cond.code_spec hn (atoms_spec (ws := ws) h _ (by rw [hw]; exact List.mem_cons_self))
    exact ⟨meth, c, h1, h2, h3, h4, h5, h6⟩
  · intro p e s m args below meth c s₁ B hml hP _
    obtain ⟨rfl, hsz, hP, hK, hD0, hZ⟩ := hP
    subst hsz
    have hh0 : s₁.heap = s.heap := by rw [B.state]; rfl
    have hts := atoms_spec (ws := ws) B.pre
    have hD := hD0.self (sz := s.heap.size)
    have hns := x_nostat hP
    obtain ⟨t, a1, o, b1, b2, b3, b4⟩ := body p e s m below meth c (va_A w s.heap.size) ⟨B.exec, B.bytes, hml, findClass_of_methodNamed B.named, hts, B.returns, B.notSynchronized, (name_of_methodNamed B.named B.method).1, B.noHandlers (hts _ (by rw [hw]; exact List.mem_cons_self))⟩ hP hK hD (fun q h => Or.inr h) hns hZ s₁ hh0 (Stand.of_body B)
    exact ⟨t, o, a1, b1, b2, b3, b4⟩
/-! calls that return -/
theorem x_go {v : Option Value} (hr : va_Run p l e R s m args below meth c H locs cells slots mc ms (F0 m pc ls st0) rest (fun st oc t => xPost D cl tys (.inl v) wc' (va_A wc H.size) st oc t) (va_A wc H.size))
    (hP : va_P D cl w H) (hD : va_D A w) (hS : va_S A s.heap H locs) (hA : ∀ q, s.heap.size ≤ q → A q) (isC isR is2 : List Nat) (hC : isC.map (fun i => w[i]?) = wc.map some) (hR : isR.map (fun i => w[i]?) = wr.map some) (hn : va_nd isR = true) (hdis : ∀ i ∈ isR, i ∉ isC)
    (h2n : va_nd is2 = true) (h2 : is2.map (fun i => (wr ++ wc')[i]?) = w2.map some)
    (kk : ∀ (H1 : Heap) (locs1 : List Loc), va_P D cl w2 H1 → va_D A w2 → va_S A s.heap H1 locs1 → W p l e R s m args below meth c H1 locs1 (cells + mc) (slots + ms) Q (F0 m (pc + 3) ls (v.toList ++ rest))) :
    W p l e R s m args below meth c H locs cells slots Q (F0 m pc ls st0) := by
  have hF : ∀ q, va_A wc H.size q → A q := va_free hD hS hA isC hC
  intro T hT X
  obtain ⟨v', st₀, t, T', L, h0, X', hL, e1, e2, ⟨hv, hP1, hK1, hD1, hz, hk⟩, st⟩ := hr T hT X
  cases hv
  rw [h0, ← e1] at hz
  rw [h0, ← e1] at hk
  rw [← e1] at hP1
  obtain ⟨hP2, hD2⟩ := va_join hP hD isC isR hC hR hn hdis hk hF hP1 hD1
  obtain ⟨t2, a1, b1⟩ := kk T'.heap (locs ++ L) (hP2.sub is2 (x_fm h2)) (hD2.sub is2 h2n h2)
    ⟨Nat.le_trans hS.1 hz, fun q h1 h2 => by
      rw [hk q (Nat.lt_of_lt_of_le h1 hS.1) (fun z => h2 (hF q z))]
      exact hS.2.1 q h1 h2, fun q hq => by
      rcases List.mem_append.mp hq with h | h
      · exact hS.2.2 q h
      · exact hF _ (hL q h)⟩ T' rfl X'
  exact ⟨t2, st t2 a1, b1⟩
theorem x_pre (hP : va_P D cl wc H) (hD : va_D A wc) (hK : va_K D cl tys s) (hZ : xZ (va_A wc H.size) s H) : ∀ U : State, U.heap = H → s.WarmedH U.vm → va_Pc av (xPre D cl tys wc H.size) av.toArray U :=
  fun U hU hW => ⟨rfl, by rw [hU], by rw [hU]; exact hP, va_K.moved hW.alike hK, hD.weaken (fun _ _ _ _ => trivial), by rw [hU]; exact hZ.moved hW.alike⟩
/-- what the caller hands to a callee: its cells, cut out of the caller's world -/
theorem x_cut (hP : va_P D cl w H) (hD : va_D A w) (hK : va_K D cl tys s) (hS : va_S A s.heap H locs) (hA : ∀ q, s.heap.size ≤ q → A q) (hZ : xZ A s s.heap) (isC : List Nat) (hnd : va_nd isC = true) (hC : isC.map (fun i => w[i]?) = wc.map some) :
    va_P D cl wc H ∧ ∀ (av : List Value) (U : State), U.heap = H → s.WarmedH U.vm → va_Pc av (xPre D cl tys wc H.size) av.toArray U := by
  have hPc : va_P D cl wc H := hP.sub isC (x_fm hC)
  refine ⟨hPc, fun av => x_pre hPc (hD.sub isC hnd hC) hK ?_⟩
  exact (hZ.kept (fun a h1 h2 => hS.2.1 a h1 h2)).narrow (va_free hD hS hA isC hC)
theorem x_callV {T : u_T} {N ci : Nat} {fs : List Value} {v : Option Value} (S0 : CallFix p m c cc nL s args Ts own) (hM : Cx l y ws rm D cl tys (.ref b :: As) wc (.inl v) wc') (cw : CallW R s args own C index y bytes maxL ret ws rm rm.cells rm.slots n)
    (hK : va_K D cl tys s) (hP : va_P D cl w H) (hD : va_D A w) (hS : va_S A s.heap H locs) (hA : ∀ q, s.heap.size ≤ q → A q) (hZ : xZ A s s.heap) (isC isR is2 : List Nat) (hnd : va_nd isC = true) (hC : isC.map (fun i => w[i]?) = wc.map some) (hR : isR.map (fun i => w[i]?) = (isR.filterMap (fun i => w[i]?)).map some) (hn : va_nd isR = true) (hdis : ∀ i ∈ isR, i ∉ isC)
    (h2n : va_nd is2 = true) (h2 : is2.map (fun i => ((isR.filterMap (fun i => w[i]?)) ++ wc')[i]?) = w2.map some) (hc0 : wc[0]? = some (b, .inr (ci, fs))) (hcl : cl[ci]? = some (C, T, N)) (hlen : As.length = n) (hls : ls.size = nL) (hst : st0 = As.reverse ++ .ref b :: rest) (hW : (rest.map fun v => v.category).sum ≤ 8)
    (hdg : decode cc pc = .ok (.invokevirtual index, 3)) (hf : cells + rm.cells ≤ R.cells ∧ slots + rm.slots ≤ R.slots)
    (kk : ∀ (H1 : Heap) (locs1 : List Loc), va_P D cl w2 H1 → va_D A w2 → va_S A s.heap H1 locs1 → W p l e R s m args below meth c H1 locs1 (cells + rm.cells) (slots + rm.slots) Q (F0 m (pc + 3) ls (v.toList ++ rest))) :
    W p l e R s m args below meth c H locs cells slots Q (F0 m pc ls st0) := by
  obtain ⟨hPc, hpre⟩ := x_cut hP hD hK hS hA hZ isC hnd hC
  exact x_go (va_runV (As := As) (rest := rest) S0 (hM.met H.size) cw ⟨x_blind, va_recv hK hPc hcl hc0, hpre _⟩ rfl hlen hls hst (lv_room hW) hdg hf) hP hD hS hA isC isR is2 hC hR hn hdis h2n h2 kk
theorem x_callS {v : Option Value} (S0 : CallFix p m c cc nL s args Ts own) (hM : Cx l y ws rm D cl tys As wc (.inl v) wc') (cw : CallB R s args own index y bytes maxL ret ws rm rm.cells rm.slots n ∧ (Cond.static y).before args s = true)
    (hK : va_K D cl tys s) (hP : va_P D cl w H) (hD : va_D A w) (hS : va_S A s.heap H locs) (hA : ∀ q, s.heap.size ≤ q → A q) (hZ : xZ A s s.heap) (isC isR is2 : List Nat) (hnd : va_nd isC = true) (hC : isC.map (fun i => w[i]?) = wc.map some) (hR : isR.map (fun i => w[i]?) = (isR.filterMap (fun i => w[i]?)).map some) (hn : va_nd isR = true) (hdis : ∀ i ∈ isR, i ∉ isC)
    (h2n : va_nd is2 = true) (h2 : is2.map (fun i => ((isR.filterMap (fun i => w[i]?)) ++ wc')[i]?) = w2.map some) (hlen : As.length = n) (hls : ls.size = nL) (hst : st0 = As.reverse ++ rest) (hW : (rest.map fun v => v.category).sum ≤ 8)
    (hdg : decode cc pc = .ok (.invokestatic index, 3)) (hf : cells + rm.cells ≤ R.cells ∧ slots + rm.slots ≤ R.slots)
    (kk : ∀ (H1 : Heap) (locs1 : List Loc), va_P D cl w2 H1 → va_D A w2 → va_S A s.heap H1 locs1 → W p l e R s m args below meth c H1 locs1 (cells + rm.cells) (slots + rm.slots) Q (F0 m (pc + 3) ls (v.toList ++ rest))) :
    W p l e R s m args below meth c H locs cells slots Q (F0 m pc ls st0) := by
  obtain ⟨hPc, hpre⟩ := x_cut hP hD hK hS hA hZ isC hnd hC
  exact x_go (va_runS (As := As) (rest := rest) S0 (hM.met H.size) cw ⟨x_blind, hpre _⟩ rfl hlen hls hst (lv_room hW) hdg hf) hP hD hS hA isC isR is2 hC hR hn hdis h2n h2 kk
theorem x_callVN {T : u_T} {N ci : Nat} {fs : List Value} {v : Option Value} {host : String} (S0 : CallFix p m c cc nL s args Ts own) (hM : Cx l y ws rm D cl tys (.ref b :: As) wc (.inl v) wc') (cw : va_CN R s args own index y host bytes maxL ret ws rm rm.cells rm.slots n ∧ (Cond.instanceMethod y).before args s = true ∧ (Cond.selects C y y).before args s = true)
    (hK : va_K D cl tys s) (hP : va_P D cl w H) (hD : va_D A w) (hS : va_S A s.heap H locs) (hA : ∀ q, s.heap.size ≤ q → A q) (hZ : xZ A s s.heap) (isC isR is2 : List Nat) (hnd : va_nd isC = true) (hC : isC.map (fun i => w[i]?) = wc.map some) (hR : isR.map (fun i => w[i]?) = (isR.filterMap (fun i => w[i]?)).map some) (hn : va_nd isR = true) (hdis : ∀ i ∈ isR, i ∉ isC)
    (h2n : va_nd is2 = true) (h2 : is2.map (fun i => ((isR.filterMap (fun i => w[i]?)) ++ wc')[i]?) = w2.map some) (hc0 : wc[0]? = some (b, .inr (ci, fs))) (hcl : cl[ci]? = some (C, T, N)) (hlen : As.length = n) (hls : ls.size = nL) (hst : st0 = As.reverse ++ .ref b :: rest) (hW : (rest.map fun v => v.category).sum ≤ 8)
    (hdg : decode cc pc = .ok (.invokevirtual index, 3)) (hf : cells + rm.cells ≤ R.cells ∧ slots + rm.slots ≤ R.slots)
    (kk : ∀ (H1 : Heap) (locs1 : List Loc), va_P D cl w2 H1 → va_D A w2 → va_S A s.heap H1 locs1 → W p l e R s m args below meth c H1 locs1 (cells + rm.cells) (slots + rm.slots) Q (F0 m (pc + 3) ls (v.toList ++ rest))) :
    W p l e R s m args below meth c H locs cells slots Q (F0 m pc ls st0) := by
  obtain ⟨hPc, hpre⟩ := x_cut hP hD hK hS hA hZ isC hnd hC
  exact x_go (va_runVN (As := As) (rest := rest) S0 (hM.met H.size) cw ⟨x_blind, va_recv hK hPc hcl hc0, hpre _⟩ rfl hlen hls hst (lv_room hW) hdg hf) hP hD hS hA isC isR is2 hC hR hn hdis h2n h2 kk
theorem x_callSN {v : Option Value} {host : String} (S0 : CallFix p m c cc nL s args Ts own) (hM : Cx l y ws rm D cl tys As wc (.inl v) wc') (cw : va_CN R s args own index y host bytes maxL ret ws rm rm.cells rm.slots n ∧ (Cond.static y).before args s = true ∧ True)
    (hK : va_K D cl tys s) (hP : va_P D cl w H) (hD : va_D A w) (hS : va_S A s.heap H locs) (hA : ∀ q, s.heap.size ≤ q → A q) (hZ : xZ A s s.heap) (isC isR is2 : List Nat) (hnd : va_nd isC = true) (hC : isC.map (fun i => w[i]?) = wc.map some) (hR : isR.map (fun i => w[i]?) = (isR.filterMap (fun i => w[i]?)).map some) (hn : va_nd isR = true) (hdis : ∀ i ∈ isR, i ∉ isC)
    (h2n : va_nd is2 = true) (h2 : is2.map (fun i => ((isR.filterMap (fun i => w[i]?)) ++ wc')[i]?) = w2.map some) (hlen : As.length = n) (hls : ls.size = nL) (hst : st0 = As.reverse ++ rest) (hW : (rest.map fun v => v.category).sum ≤ 8)
    (hdg : decode cc pc = .ok (.invokestatic index, 3)) (hf : cells + rm.cells ≤ R.cells ∧ slots + rm.slots ≤ R.slots)
    (kk : ∀ (H1 : Heap) (locs1 : List Loc), va_P D cl w2 H1 → va_D A w2 → va_S A s.heap H1 locs1 → W p l e R s m args below meth c H1 locs1 (cells + rm.cells) (slots + rm.slots) Q (F0 m (pc + 3) ls (v.toList ++ rest))) :
    W p l e R s m args below meth c H locs cells slots Q (F0 m pc ls st0) := by
  obtain ⟨hPc, hpre⟩ := x_cut hP hD hK hS hA hZ isC hnd hC
  exact x_go (va_runSN (As := As) (rest := rest) S0 (hM.met H.size) cw ⟨x_blind, hpre _⟩ rfl hlen hls hst (lv_room hW) hdg hf) hP hD hS hA isC isR is2 hC hR hn hdis h2n h2 kk
theorem x_callI {v : Option Value} (S0 : CallFix p m c cc nL s args Ts own) (hM : Cx l y ws rm D cl tys (.ref b :: As) wc (.inl v) wc') (cw : CallB R s args own index y bytes maxL none ws rm rm.cells rm.slots n ∧ y.name = "<init>" ∧ (Cond.instanceMethod y).before args s = true)
    (hK : va_K D cl tys s) (hP : va_P D cl w H) (hD : va_D A w) (hS : va_S A s.heap H locs) (hA : ∀ q, s.heap.size ≤ q → A q) (hZ : xZ A s s.heap) (isC isR is2 : List Nat) (hnd : va_nd isC = true) (hC : isC.map (fun i => w[i]?) = wc.map some) (hR : isR.map (fun i => w[i]?) = (isR.filterMap (fun i => w[i]?)).map some) (hn : va_nd isR = true) (hdis : ∀ i ∈ isR, i ∉ isC)
    (h2n : va_nd is2 = true) (h2 : is2.map (fun i => ((isR.filterMap (fun i => w[i]?)) ++ wc')[i]?) = w2.map some) (hlen : As.length = n) (hls : ls.size = nL) (hst : st0 = As.reverse ++ .ref b :: rest) (hW : (rest.map fun v => v.category).sum ≤ 8)
    (hdg : decode cc pc = .ok (.invokespecial index, 3)) (hf : cells + rm.cells ≤ R.cells ∧ slots + rm.slots ≤ R.slots)
    (kk : ∀ (H1 : Heap) (locs1 : List Loc), va_P D cl w2 H1 → va_D A w2 → va_S A s.heap H1 locs1 → W p l e R s m args below meth c H1 locs1 (cells + rm.cells) (slots + rm.slots) Q (F0 m (pc + 3) ls (v.toList ++ rest))) :
    W p l e R s m args below meth c H locs cells slots Q (F0 m pc ls st0) := by
  obtain ⟨hPc, hpre⟩ := x_cut hP hD hK hS hA hZ isC hnd hC
  exact x_go (va_runI (As := As) (rest := rest) S0 (hM.met H.size) cw ⟨x_blind, hpre _⟩ rfl hlen hls hst (lv_room hW) hdg hf) hP hD hS hA isC isR is2 hC hR hn hdis h2n h2 kk
/-! small rows of the functions' side -/
theorem x_ifp {α : Type} {q : Prop} [Decidable q] {a b r : α} (h : q) (f : (if q then a else b) = r) : a = r := by rw [if_pos h] at f; exact f
theorem x_ifn {α : Type} {q : Prop} [Decidable q] {a b r : α} (h : ¬ q) (f : (if q then a else b) = r) : b = r := by rw [if_neg h] at f; exact f
theorem x_if {α : Type} {q : Prop} [Decidable q] {a : Option α} {r : α} (f : (if q then a else none) = some r) : q ∧ a = some r := by
  by_cases h : q
  · rw [if_pos h] at f; exact ⟨h, f⟩
  · rw [if_neg h] at f; cases f
theorem x_bind {α β : Type} {x : Option α} {k : α → Option β} {r : β} (f : x.bind k = some r) : ∃ z, x = some z ∧ k z = some r := by
  cases x with
  | none => cases f
  | some z => exact ⟨z, rfl, f⟩
/-- the index i is in an array of n -/
def xi (i : Int32) (n : Nat) : Bool := !(decide (i < 0) || decide (n ≤ i.toNatClampNeg))
theorem xi_in {i : Int32} {n : Nat} (h : xi i n = true) : vp_in i n := by
  unfold xi at h
  intro hq
  rcases hq with hq | hq <;> simp [hq] at h
/-- a value gets a name -/
def xlet {α β : Type} (e : α) (k : α → β) : β := k e
theorem x_let {α β : Type} {e z : α} {k : α → β} {r : β} (h : z = e) (f : xlet e k = r) : k z = r := by subst h; exact f
theorem x_nb {v : Int32} (h : v = 0 ∨ v = 1) : narrow .boolean (.int v) = .int v := by rcases h with rfl | rfl <;> rfl
abbrev oV (_ : Unit) : xO := .inl none
abbrev oI (v : Int32) : xO := .inl (some (.int v))
abbrev oL (v : Int64) : xO := .inl (some (.long v))
abbrev tV (r : Unit ⊕ String) : xO := match r with
  | .inl _ => .inl none
  | .inr E => .inr E
abbrev tI (r : Int32 ⊕ String) : xO := match r with
  | .inl v => .inl (some (.int v))
  | .inr E => .inr E
abbrev tyL (cI cJ cZ : ClassId) : List (ClassId × FieldType) := [(cI, .int), (cJ, .long), (cZ, .boolean)]
theorem x_toInt_ne {x k : Int32} (h : ¬ x = k) : x.toInt ≠ k.toInt := fun e => h (Int32.toInt_inj.mp e)
theorem x_sw5 {x : Int32} (h0 : ¬ x = (0 : Int32)) (h1 : ¬ x = (1 : Int32)) (h2 : ¬ x = (2 : Int32)) (h3 : ¬ x = (3 : Int32)) (h4 : ¬ x = (4 : Int32)) : x.toInt < 0 ∨ 4 < x.toInt := by
  have e0 : x.toInt ≠ 0 := x_toInt_ne h0
  have e1 : x.toInt ≠ 1 := x_toInt_ne h1
  have e2 : x.toInt ≠ 2 := x_toInt_ne h2
  have e3 : x.toInt ≠ 3 := x_toInt_ne h3
  have e4 : x.toInt ≠ 4 := x_toInt_ne h4
  omega
end XR
/-! words by their places in the table -/
section XW
/-- the words that a callee may ask of its caller: what stays true while the tables warm -/
def x_tr : Cond → Bool
  | .arrayClass _ => true
  | .methodLinkNest .. => true
  | w => w.onTables && w.keepsFace
theorem x_warm {args a' : Array Value} {s U : State} {w : Cond} (hw : x_tr w = true) (hW : s.WarmedH U.vm) (h : w.before args s = true) : w.before a' U = true := by
  have gen : (w.onTables && w.keepsFace) = true → w.before a' U = true := by
    intro hh
    simp only [Bool.and_eq_true] at hh
    exact va_tabs hh.1 (rfl : (s.setVm U.vm).vm = U.vm) (Cond.before_shiftedFace (State.Shifted.of_warmed hW) _ hh.2 h)
  cases w <;> first | exact gen hw | exact word_at hW (Or.inr ⟨_, rfl⟩) h | exact va_Nw.use rfl (va_Nw.warmM hW (va_Nw.of rfl h))
def tb : List Cond := lw_tbl.filter x_tr
theorem x_in {w : Cond} {i : Nat} (h : lw_tbl[i]? = some w) (h2 : x_tr w = true) : w ∈ tb := List.mem_filter.mpr ⟨List.mem_of_getElem? h, h2⟩
theorem x_pl {ws : List Cond} (ps : List Nat) (h : ps.filterMap (fun i => lw_tbl[i]?) = ws ∧ ws.all x_tr = true) : ∀ w ∈ ws, w ∈ tb := by
  intro w hw
  refine List.mem_filter.mpr ⟨?_, List.all_eq_true.mp h.2 w hw⟩
  rw [← h.1] at hw
  obtain ⟨i, -, hi⟩ := List.mem_filterMap.mp hw
  exact List.mem_of_getElem? hi
variable {R : Room} {s : State} {args : Array Value} {own C host : String} {index n maxL : Nat} {y : MethodName} {bytes : ByteArray} {ret : Option FieldType} {ws : List Cond} {rm : Room}
theorem x_ws (hts : ∀ w ∈ tb, w.before args s = true) (hw : ws = Cond.code y bytes maxL ret :: tb) (k5 : Cond.code y bytes maxL ret ∈ tb) : ∀ w ∈ ws, ∀ (a' : Array Value) (U : State), s.WarmedH U.vm → w.before a' U = true := by
  intro w h a' U hW
  have hm : w ∈ tb := by
    rw [hw] at h
    rcases List.mem_cons.mp h with rfl | h
    · exact k5
    · exact h
  exact x_warm (List.mem_filter.mp hm).2 hW (hts w hm)
theorem x_len (hd : y.cls ≠ "java/lang/invoke/MethodHandle" ∧ y.cls ≠ "java/lang/invoke/VarHandle" ∧ (parseMethodDescriptor y.desc).map (fun d => d.parameters.length) = some n) : ∀ sig, parseMethodDescriptor y.desc = some sig → n = sig.parameters.length := by
  intro sig h
  have h2 := hd.2.2
  rw [h] at h2
  exact (Option.some.inj h2).symm
theorem x_cwB (n : Nat) (hts : ∀ w ∈ tb, w.before args s = true) (hw : ws = Cond.code y bytes maxL ret :: tb) (k1 : Cond.methodLink own index y ∈ tb) (k4 : Cond.initialized y.cls ∈ tb) (k5 : Cond.code y bytes maxL ret ∈ tb)
    (hd : y.cls ≠ "java/lang/invoke/MethodHandle" ∧ y.cls ≠ "java/lang/invoke/VarHandle" ∧ (parseMethodDescriptor y.desc).map (fun d => d.parameters.length) = some n) (hR : rm.frames + 1 ≤ R.frames ∧ 8 + (maxL + 11) + rm.locals ≤ R.locals) :
    CallB R s args own index y bytes maxL ret ws rm rm.cells rm.slots n :=
  ⟨rfl, rfl, hR.1, hR.2, x_ws hts hw k5, by rw [hw]; exact List.mem_cons_self, hts _ k5, hts _ k4, ⟨hd.1, hd.2.1⟩, x_len hd, hts _ k1⟩
theorem x_cwV (n : Nat) (hts : ∀ w ∈ tb, w.before args s = true) (hw : ws = Cond.code y bytes maxL ret :: tb) (k1 : Cond.methodLink own index y ∈ tb) (k2 : Cond.instanceMethod y ∈ tb) (k3 : Cond.selects C y y ∈ tb) (k4 : Cond.initialized y.cls ∈ tb) (k5 : Cond.code y bytes maxL ret ∈ tb)
    (hd : y.cls ≠ "java/lang/invoke/MethodHandle" ∧ y.cls ≠ "java/lang/invoke/VarHandle" ∧ (parseMethodDescriptor y.desc).map (fun d => d.parameters.length) = some n) (hR : rm.frames + 1 ≤ R.frames ∧ 8 + (maxL + 11) + rm.locals ≤ R.locals) :
    CallW R s args own C index y bytes maxL ret ws rm rm.cells rm.slots n := ⟨x_cwB n hts hw k1 k4 k5 hd hR, hts _ k2, hts _ k3⟩
theorem x_cwS (n : Nat) (hts : ∀ w ∈ tb, w.before args s = true) (hw : ws = Cond.code y bytes maxL ret :: tb) (k1 : Cond.methodLink own index y ∈ tb) (k2 : Cond.static y ∈ tb) (k4 : Cond.initialized y.cls ∈ tb) (k5 : Cond.code y bytes maxL ret ∈ tb)
    (hd : y.cls ≠ "java/lang/invoke/MethodHandle" ∧ y.cls ≠ "java/lang/invoke/VarHandle" ∧ (parseMethodDescriptor y.desc).map (fun d => d.parameters.length) = some n) (hR : rm.frames + 1 ≤ R.frames ∧ 8 + (maxL + 11) + rm.locals ≤ R.locals) :
    CallB R s args own index y bytes maxL ret ws rm rm.cells rm.slots n ∧ (Cond.static y).before args s = true := ⟨x_cwB n hts hw k1 k4 k5 hd hR, hts _ k2⟩
theorem x_cwI (n : Nat) (hts : ∀ w ∈ tb, w.before args s = true) (hw : ws = Cond.code y bytes maxL none :: tb) (k1 : Cond.methodLink own index y ∈ tb) (k2 : Cond.instanceMethod y ∈ tb) (k4 : Cond.initialized y.cls ∈ tb) (k5 : Cond.code y bytes maxL none ∈ tb) (hy1 : y.name = "<init>")
    (hd : y.cls ≠ "java/lang/invoke/MethodHandle" ∧ y.cls ≠ "java/lang/invoke/VarHandle" ∧ (parseMethodDescriptor y.desc).map (fun d => d.parameters.length) = some n) (hR : rm.frames + 1 ≤ R.frames ∧ 8 + (maxL + 11) + rm.locals ≤ R.locals) :
    CallB R s args own index y bytes maxL none ws rm rm.cells rm.slots n ∧ y.name = "<init>" ∧ (Cond.instanceMethod y).before args s = true := ⟨x_cwB n hts hw k1 k4 k5 hd hR, hy1, hts _ k2⟩
theorem x_cwN (n : Nat) (hts : ∀ w ∈ tb, w.before args s = true) (hw : ws = Cond.code y bytes maxL ret :: tb) (k1 : Cond.methodLinkNest own index y host ∈ tb) (k4 : Cond.initialized y.cls ∈ tb) (k5 : Cond.code y bytes maxL ret ∈ tb)
    (hd : y.cls ≠ "java/lang/invoke/MethodHandle" ∧ y.cls ≠ "java/lang/invoke/VarHandle" ∧ (parseMethodDescriptor y.desc).map (fun d => d.parameters.length) = some n) (hR : rm.frames + 1 ≤ R.frames ∧ 8 + (maxL + 11) + rm.locals ≤ R.locals) :
    va_CN R s args own index y host bytes maxL ret ws rm rm.cells rm.slots n :=
  ⟨⟨rfl, rfl, hR.1, hR.2, x_ws hts hw k5, by rw [hw]; exact List.mem_cons_self⟩, hts _ k5, hts _ k4, ⟨hd.1, hd.2.1⟩, x_len hd, va_Nw.of rfl (hts _ k1)⟩
theorem x_cwVN (n : Nat) (hts : ∀ w ∈ tb, w.before args s = true) (hw : ws = Cond.code y bytes maxL ret :: tb) (k1 : Cond.methodLinkNest own index y host ∈ tb) (k2 : Cond.instanceMethod y ∈ tb) (k3 : Cond.selects C y y ∈ tb) (k4 : Cond.initialized y.cls ∈ tb) (k5 : Cond.code y bytes maxL ret ∈ tb)
    (hd : y.cls ≠ "java/lang/invoke/MethodHandle" ∧ y.cls ≠ "java/lang/invoke/VarHandle" ∧ (parseMethodDescriptor y.desc).map (fun d => d.parameters.length) = some n) (hR : rm.frames + 1 ≤ R.frames ∧ 8 + (maxL + 11) + rm.locals ≤ R.locals) :
    va_CN R s args own index y host bytes maxL ret ws rm rm.cells rm.slots n ∧ (Cond.instanceMethod y).before args s = true ∧ (Cond.selects C y y).before args s = true := ⟨x_cwN n hts hw k1 k4 k5 hd hR, hts _ k2, hts _ k3⟩
theorem x_cwSN (n : Nat) (hts : ∀ w ∈ tb, w.before args s = true) (hw : ws = Cond.code y bytes maxL ret :: tb) (k1 : Cond.methodLinkNest own index y host ∈ tb) (k2 : Cond.static y ∈ tb) (k4 : Cond.initialized y.cls ∈ tb) (k5 : Cond.code y bytes maxL ret ∈ tb)
    (hd : y.cls ≠ "java/lang/invoke/MethodHandle" ∧ y.cls ≠ "java/lang/invoke/VarHandle" ∧ (parseMethodDescriptor y.desc).map (fun d => d.parameters.length) = some n) (hR : rm.frames + 1 ≤ R.frames ∧ 8 + (maxL + 11) + rm.locals ≤ R.locals) :
    va_CN R s args own index y host bytes maxL ret ws rm rm.cells rm.slots n ∧ (Cond.static y).before args s = true ∧ True := ⟨x_cwN n hts hw k1 k4 k5 hd hR, hts _ k2, trivial⟩
/-- what 'throw new E()' asks: words of the table, and the two statics -/
theorem x_atoms {A : Nat → Prop} {cls : String} {names : List String} {ic : Nat} (hts : ∀ w ∈ tb, w.before args s = true) (hZ : xZ A s s.heap)
    (h : ∀ w ∈ Bundle.ownAtoms0 own ic cls names, w ∈ tb ∨ w ∈ ([.isRef (.static Bundle.tN "UNASSIGNED_STACK" Bundle.steD), .isRef (.static Bundle.tN "SUPPRESSED_SENTINEL" Bundle.listD), .laysStatic Bundle.tN "UNASSIGNED_STACK" Bundle.steD, .laysStatic Bundle.tN "SUPPRESSED_SENTINEL" Bundle.listD] : List Cond)) :
    ∀ a ∈ Bundle.ownAtoms0 own ic cls names, a.before args s = true := by
  intro a ha
  rcases h a ha with h | h
  · exact hts a h
  · simp only [List.mem_cons, List.not_mem_nil, or_false] at h
    rcases h with rfl | rfl | rfl | rfl
    · exact xZq_word hZ.1.1
    · exact xZq_word hZ.1.2
    · exact hZ.2.1.1.word
    · exact hZ.2.1.2.word
end XW
