section
-- ===== PART A: goes FIRST, ahead of the names: the tables' words, and 'selects' of the private methods out of them =====
/-- a private method of a class that the tables say can be made, by its rows of tables_1 -/
def lw_okq (q : MethodName × Nat) : Prop := (q.1.cls ≠ "java/lang/invoke/MethodHandle" ∧ q.1.cls ≠ "java/lang/invoke/VarHandle") ∧ Cond.instantiable q.1.cls q.2 ∈ tables_1 ∧ Cond.privateMethod q.1 ∈ tables_1 ∧ Cond.instanceMethod q.1 ∈ tables_1
theorem lw_p0 : lw_okq (⟨"RecordVersions", "sweepRecord", "(I)I"⟩, 5) := ⟨⟨by decide +kernel, by decide +kernel⟩, List.mem_of_getElem? (i := 17) (by decide +kernel), List.mem_of_getElem? (i := 106) (by decide +kernel), List.mem_of_getElem? (i := 107) (by decide +kernel)⟩
theorem lw_p1 : lw_okq (⟨"RecordVersions", "clean", "(I)Z"⟩, 5) := ⟨⟨by decide +kernel, by decide +kernel⟩, List.mem_of_getElem? (i := 17) (by decide +kernel), List.mem_of_getElem? (i := 110) (by decide +kernel), List.mem_of_getElem? (i := 111) (by decide +kernel)⟩
theorem lw_p2 : lw_okq (⟨"RecordVersions$Store", "mustPrecede", "(II)Z"⟩, 7) := ⟨⟨by decide +kernel, by decide +kernel⟩, List.mem_of_getElem? (i := 25) (by decide +kernel), List.mem_of_getElem? (i := 133) (by decide +kernel), List.mem_of_getElem? (i := 134) (by decide +kernel)⟩
theorem lw_p3 : lw_okq (⟨"RecordVersions$Store", "put", "(II)Z"⟩, 7) := ⟨⟨by decide +kernel, by decide +kernel⟩, List.mem_of_getElem? (i := 25) (by decide +kernel), List.mem_of_getElem? (i := 140) (by decide +kernel), List.mem_of_getElem? (i := 141) (by decide +kernel)⟩
theorem lw_p4 : lw_okq (⟨"RecordVersions$Store", "failsNow", "()Z"⟩, 7) := ⟨⟨by decide +kernel, by decide +kernel⟩, List.mem_of_getElem? (i := 25) (by decide +kernel), List.mem_of_getElem? (i := 144) (by decide +kernel), List.mem_of_getElem? (i := 145) (by decide +kernel)⟩
theorem lw_p5 : lw_okq (⟨"RecordVersions$Store", "settle", "(I)V"⟩, 7) := ⟨⟨by decide +kernel, by decide +kernel⟩, List.mem_of_getElem? (i := 25) (by decide +kernel), List.mem_of_getElem? (i := 163) (by decide +kernel), List.mem_of_getElem? (i := 164) (by decide +kernel)⟩
theorem lw_p6 : lw_okq (⟨"RecordVersions", "committedForAll", "()J"⟩, 5) := ⟨⟨by decide +kernel, by decide +kernel⟩, List.mem_of_getElem? (i := 17) (by decide +kernel), List.mem_of_getElem? (i := 172) (by decide +kernel), List.mem_of_getElem? (i := 173) (by decide +kernel)⟩
theorem lw_p7 : lw_okq (⟨"RecordVersions$Content", "setIn", "(I)J"⟩, 4) := ⟨⟨by decide +kernel, by decide +kernel⟩, List.mem_of_getElem? (i := 31) (by decide +kernel), List.mem_of_getElem? (i := 180) (by decide +kernel), List.mem_of_getElem? (i := 181) (by decide +kernel)⟩
theorem lw_p8 : lw_okq (⟨"RecordVersions", "cutBehind", "(II)I"⟩, 5) := ⟨⟨by decide +kernel, by decide +kernel⟩, List.mem_of_getElem? (i := 17) (by decide +kernel), List.mem_of_getElem? (i := 197) (by decide +kernel), List.mem_of_getElem? (i := 198) (by decide +kernel)⟩
theorem lw_p9 : lw_okq (⟨"java/lang/Throwable", "fillInStackTrace", "(I)Ljava/lang/Throwable;"⟩, 6) := ⟨⟨by decide +kernel, by decide +kernel⟩, List.mem_of_getElem? (i := 280) (by decide +kernel), List.mem_of_getElem? (i := 278) (by decide +kernel), List.mem_of_getElem? (i := 279) (by decide +kernel)⟩
theorem lw_p10 : lw_okq (⟨"RecordVersions", "demandActive", "(I)V"⟩, 5) := ⟨⟨by decide +kernel, by decide +kernel⟩, List.mem_of_getElem? (i := 17) (by decide +kernel), List.mem_of_getElem? (i := 333) (by decide +kernel), List.mem_of_getElem? (i := 334) (by decide +kernel)⟩
theorem lw_p11 : lw_okq (⟨"RecordVersions", "placeSeen", "(II)I"⟩, 5) := ⟨⟨by decide +kernel, by decide +kernel⟩, List.mem_of_getElem? (i := 17) (by decide +kernel), List.mem_of_getElem? (i := 337) (by decide +kernel), List.mem_of_getElem? (i := 338) (by decide +kernel)⟩
theorem lw_p12 : lw_okq (⟨"RecordVersions", "seenBy", "(I)J"⟩, 5) := ⟨⟨by decide +kernel, by decide +kernel⟩, List.mem_of_getElem? (i := 17) (by decide +kernel), List.mem_of_getElem? (i := 341) (by decide +kernel), List.mem_of_getElem? (i := 342) (by decide +kernel)⟩
theorem lw_p13 : lw_okq (⟨"RecordVersions", "change", "(III)I"⟩, 5) := ⟨⟨by decide +kernel, by decide +kernel⟩, List.mem_of_getElem? (i := 17) (by decide +kernel), List.mem_of_getElem? (i := 373) (by decide +kernel), List.mem_of_getElem? (i := 374) (by decide +kernel)⟩
theorem lw_p14 : lw_okq (⟨"RecordVersions", "changedBy", "(II)V"⟩, 5) := ⟨⟨by decide +kernel, by decide +kernel⟩, List.mem_of_getElem? (i := 17) (by decide +kernel), List.mem_of_getElem? (i := 413) (by decide +kernel), List.mem_of_getElem? (i := 414) (by decide +kernel)⟩
theorem lw_p15 : lw_okq (⟨"RecordVersionsModel", "begun", "()V"⟩, 19) := ⟨⟨by decide +kernel, by decide +kernel⟩, List.mem_of_getElem? (i := 491) (by decide +kernel), List.mem_of_getElem? (i := 564) (by decide +kernel), List.mem_of_getElem? (i := 565) (by decide +kernel)⟩
def lw_privs_1 : List (MethodName × Nat) := [(⟨"RecordVersions", "sweepRecord", "(I)I"⟩, 5), (⟨"RecordVersions", "clean", "(I)Z"⟩, 5), (⟨"RecordVersions$Store", "mustPrecede", "(II)Z"⟩, 7), (⟨"RecordVersions$Store", "put", "(II)Z"⟩, 7), (⟨"RecordVersions$Store", "failsNow", "()Z"⟩, 7), (⟨"RecordVersions$Store", "settle", "(I)V"⟩, 7), (⟨"RecordVersions", "committedForAll", "()J"⟩, 5), (⟨"RecordVersions$Content", "setIn", "(I)J"⟩, 4), (⟨"RecordVersions", "cutBehind", "(II)I"⟩, 5), (⟨"java/lang/Throwable", "fillInStackTrace", "(I)Ljava/lang/Throwable;"⟩, 6), (⟨"RecordVersions", "demandActive", "(I)V"⟩, 5), (⟨"RecordVersions", "placeSeen", "(II)I"⟩, 5), (⟨"RecordVersions", "seenBy", "(I)J"⟩, 5), (⟨"RecordVersions", "change", "(III)I"⟩, 5), (⟨"RecordVersions", "changedBy", "(II)V"⟩, 5), (⟨"RecordVersionsModel", "begun", "()V"⟩, 19)]
theorem lw_r1 : ∀ q ∈ lw_privs_1, lw_okq q := List.forall_mem_cons.mpr ⟨lw_p0, List.forall_mem_cons.mpr ⟨lw_p1, List.forall_mem_cons.mpr ⟨lw_p2, List.forall_mem_cons.mpr ⟨lw_p3, List.forall_mem_cons.mpr ⟨lw_p4, List.forall_mem_cons.mpr ⟨lw_p5, List.forall_mem_cons.mpr ⟨lw_p6, List.forall_mem_cons.mpr ⟨lw_p7, List.forall_mem_cons.mpr ⟨lw_p8, List.forall_mem_cons.mpr ⟨lw_p9, List.forall_mem_cons.mpr ⟨lw_p10, List.forall_mem_cons.mpr ⟨lw_p11, List.forall_mem_cons.mpr ⟨lw_p12, List.forall_mem_cons.mpr ⟨lw_p13, List.forall_mem_cons.mpr ⟨lw_p14, List.forall_mem_cons.mpr ⟨lw_p15, fun _ h => absurd h List.not_mem_nil⟩⟩⟩⟩⟩⟩⟩⟩⟩⟩⟩⟩⟩⟩⟩⟩
theorem lw_p16 : lw_okq (⟨"RecordVersionsModel", "actives", "()I"⟩, 19) := ⟨⟨by decide +kernel, by decide +kernel⟩, List.mem_of_getElem? (i := 491) (by decide +kernel), List.mem_of_getElem? (i := 568) (by decide +kernel), List.mem_of_getElem? (i := 569) (by decide +kernel)⟩
theorem lw_p17 : lw_okq (⟨"RecordVersionsModel", "raise", "(I)I"⟩, 19) := ⟨⟨by decide +kernel, by decide +kernel⟩, List.mem_of_getElem? (i := 491) (by decide +kernel), List.mem_of_getElem? (i := 572) (by decide +kernel), List.mem_of_getElem? (i := 573) (by decide +kernel)⟩
theorem lw_p18 : lw_okq (⟨"RecordVersionsModel", "store", "(I)V"⟩, 19) := ⟨⟨by decide +kernel, by decide +kernel⟩, List.mem_of_getElem? (i := 491) (by decide +kernel), List.mem_of_getElem? (i := 576) (by decide +kernel), List.mem_of_getElem? (i := 577) (by decide +kernel)⟩
theorem lw_p19 : lw_okq (⟨"RecordVersionsModel", "waitsFor", "(I)I"⟩, 19) := ⟨⟨by decide +kernel, by decide +kernel⟩, List.mem_of_getElem? (i := 491) (by decide +kernel), List.mem_of_getElem? (i := 580) (by decide +kernel), List.mem_of_getElem? (i := 581) (by decide +kernel)⟩
theorem lw_p20 : lw_okq (⟨"RecordVersionsModel", "put", "(I)V"⟩, 19) := ⟨⟨by decide +kernel, by decide +kernel⟩, List.mem_of_getElem? (i := 491) (by decide +kernel), List.mem_of_getElem? (i := 584) (by decide +kernel), List.mem_of_getElem? (i := 585) (by decide +kernel)⟩
theorem lw_p21 : lw_okq (⟨"RecordVersionsModel", "fall", "()V"⟩, 19) := ⟨⟨by decide +kernel, by decide +kernel⟩, List.mem_of_getElem? (i := 491) (by decide +kernel), List.mem_of_getElem? (i := 588) (by decide +kernel), List.mem_of_getElem? (i := 589) (by decide +kernel)⟩
theorem lw_p22 : lw_okq (⟨"RecordVersionsModel", "done", "(I)I"⟩, 19) := ⟨⟨by decide +kernel, by decide +kernel⟩, List.mem_of_getElem? (i := 491) (by decide +kernel), List.mem_of_getElem? (i := 595) (by decide +kernel), List.mem_of_getElem? (i := 596) (by decide +kernel)⟩
theorem lw_p23 : lw_okq (⟨"RecordVersionsModel", "idle", "(I)Z"⟩, 19) := ⟨⟨by decide +kernel, by decide +kernel⟩, List.mem_of_getElem? (i := 491) (by decide +kernel), List.mem_of_getElem? (i := 606) (by decide +kernel), List.mem_of_getElem? (i := 607) (by decide +kernel)⟩
theorem lw_p24 : lw_okq (⟨"RecordVersionsModel", "reads", "(II)I"⟩, 19) := ⟨⟨by decide +kernel, by decide +kernel⟩, List.mem_of_getElem? (i := 491) (by decide +kernel), List.mem_of_getElem? (i := 610) (by decide +kernel), List.mem_of_getElem? (i := 611) (by decide +kernel)⟩
theorem lw_p25 : lw_okq (⟨"RecordVersionsModel", "seen", "(II)Z"⟩, 19) := ⟨⟨by decide +kernel, by decide +kernel⟩, List.mem_of_getElem? (i := 491) (by decide +kernel), List.mem_of_getElem? (i := 614) (by decide +kernel), List.mem_of_getElem? (i := 615) (by decide +kernel)⟩
theorem lw_p26 : lw_okq (⟨"RecordVersionsModel", "behind", "(I)I"⟩, 19) := ⟨⟨by decide +kernel, by decide +kernel⟩, List.mem_of_getElem? (i := 491) (by decide +kernel), List.mem_of_getElem? (i := 618) (by decide +kernel), List.mem_of_getElem? (i := 619) (by decide +kernel)⟩
theorem lw_p27 : lw_okq (⟨"RecordVersionsModel", "change", "(III)V"⟩, 19) := ⟨⟨by decide +kernel, by decide +kernel⟩, List.mem_of_getElem? (i := 491) (by decide +kernel), List.mem_of_getElem? (i := 627) (by decide +kernel), List.mem_of_getElem? (i := 628) (by decide +kernel)⟩
theorem lw_p28 : lw_okq (⟨"RecordVersionsModel", "clean", "(I)V"⟩, 19) := ⟨⟨by decide +kernel, by decide +kernel⟩, List.mem_of_getElem? (i := 491) (by decide +kernel), List.mem_of_getElem? (i := 631) (by decide +kernel), List.mem_of_getElem? (i := 632) (by decide +kernel)⟩
theorem lw_p29 : lw_okq (⟨"RecordVersionsModel", "free", "(I)V"⟩, 19) := ⟨⟨by decide +kernel, by decide +kernel⟩, List.mem_of_getElem? (i := 491) (by decide +kernel), List.mem_of_getElem? (i := 635) (by decide +kernel), List.mem_of_getElem? (i := 636) (by decide +kernel)⟩
theorem lw_p30 : lw_okq (⟨"RecordVersionsModel", "note", "(II)V"⟩, 19) := ⟨⟨by decide +kernel, by decide +kernel⟩, List.mem_of_getElem? (i := 491) (by decide +kernel), List.mem_of_getElem? (i := 639) (by decide +kernel), List.mem_of_getElem? (i := 640) (by decide +kernel)⟩
theorem lw_p31 : lw_okq (⟨"RecordVersionsModel", "before", "(I)I"⟩, 19) := ⟨⟨by decide +kernel, by decide +kernel⟩, List.mem_of_getElem? (i := 491) (by decide +kernel), List.mem_of_getElem? (i := 643) (by decide +kernel), List.mem_of_getElem? (i := 644) (by decide +kernel)⟩
def lw_privs_2 : List (MethodName × Nat) := [(⟨"RecordVersionsModel", "actives", "()I"⟩, 19), (⟨"RecordVersionsModel", "raise", "(I)I"⟩, 19), (⟨"RecordVersionsModel", "store", "(I)V"⟩, 19), (⟨"RecordVersionsModel", "waitsFor", "(I)I"⟩, 19), (⟨"RecordVersionsModel", "put", "(I)V"⟩, 19), (⟨"RecordVersionsModel", "fall", "()V"⟩, 19), (⟨"RecordVersionsModel", "done", "(I)I"⟩, 19), (⟨"RecordVersionsModel", "idle", "(I)Z"⟩, 19), (⟨"RecordVersionsModel", "reads", "(II)I"⟩, 19), (⟨"RecordVersionsModel", "seen", "(II)Z"⟩, 19), (⟨"RecordVersionsModel", "behind", "(I)I"⟩, 19), (⟨"RecordVersionsModel", "change", "(III)V"⟩, 19), (⟨"RecordVersionsModel", "clean", "(I)V"⟩, 19), (⟨"RecordVersionsModel", "free", "(I)V"⟩, 19), (⟨"RecordVersionsModel", "note", "(II)V"⟩, 19), (⟨"RecordVersionsModel", "before", "(I)I"⟩, 19)]
theorem lw_r2 : ∀ q ∈ lw_privs_2, lw_okq q := List.forall_mem_cons.mpr ⟨lw_p16, List.forall_mem_cons.mpr ⟨lw_p17, List.forall_mem_cons.mpr ⟨lw_p18, List.forall_mem_cons.mpr ⟨lw_p19, List.forall_mem_cons.mpr ⟨lw_p20, List.forall_mem_cons.mpr ⟨lw_p21, List.forall_mem_cons.mpr ⟨lw_p22, List.forall_mem_cons.mpr ⟨lw_p23, List.forall_mem_cons.mpr ⟨lw_p24, List.forall_mem_cons.mpr ⟨lw_p25, List.forall_mem_cons.mpr ⟨lw_p26, List.forall_mem_cons.mpr ⟨lw_p27, List.forall_mem_cons.mpr ⟨lw_p28, List.forall_mem_cons.mpr ⟨lw_p29, List.forall_mem_cons.mpr ⟨lw_p30, List.forall_mem_cons.mpr ⟨lw_p31, fun _ h => absurd h List.not_mem_nil⟩⟩⟩⟩⟩⟩⟩⟩⟩⟩⟩⟩⟩⟩⟩⟩
theorem lw_p32 : lw_okq (⟨"RecordVersionsModel", "move", "(II)V"⟩, 19) := ⟨⟨by decide +kernel, by decide +kernel⟩, List.mem_of_getElem? (i := 491) (by decide +kernel), List.mem_of_getElem? (i := 647) (by decide +kernel), List.mem_of_getElem? (i := 648) (by decide +kernel)⟩
theorem lw_p33 : lw_okq (⟨"RecordVersionsModel", "sweepOne", "(I)I"⟩, 19) := ⟨⟨by decide +kernel, by decide +kernel⟩, List.mem_of_getElem? (i := 491) (by decide +kernel), List.mem_of_getElem? (i := 667) (by decide +kernel), List.mem_of_getElem? (i := 668) (by decide +kernel)⟩
theorem lw_p34 : lw_okq (⟨"RecordVersionsModel", "settled", "(I)Z"⟩, 19) := ⟨⟨by decide +kernel, by decide +kernel⟩, List.mem_of_getElem? (i := 491) (by decide +kernel), List.mem_of_getElem? (i := 671) (by decide +kernel), List.mem_of_getElem? (i := 672) (by decide +kernel)⟩
def lw_privs_3 : List (MethodName × Nat) := [(⟨"RecordVersionsModel", "move", "(II)V"⟩, 19), (⟨"RecordVersionsModel", "sweepOne", "(I)I"⟩, 19), (⟨"RecordVersionsModel", "settled", "(I)Z"⟩, 19)]
theorem lw_r3 : ∀ q ∈ lw_privs_3, lw_okq q := List.forall_mem_cons.mpr ⟨lw_p32, List.forall_mem_cons.mpr ⟨lw_p33, List.forall_mem_cons.mpr ⟨lw_p34, fun _ h => absurd h List.not_mem_nil⟩⟩⟩
def lw_privs : List (MethodName × Nat) := lw_privs_1 ++ (lw_privs_2 ++ (lw_privs_3))
def lw_tbl : List Cond := k2_sels lw_privs ++ tables_1
theorem lw_privs_ok : ∀ q ∈ lw_privs, lw_okq q := by
  show ∀ q ∈ lw_privs_1 ++ (lw_privs_2 ++ (lw_privs_3)), lw_okq q
  exact List.forall_mem_append.mpr ⟨lw_r1, List.forall_mem_append.mpr ⟨lw_r2, lw_r3⟩⟩
end
section
/-! OWN ROWS: deterministic contracts of methods that return or throw -/
section XR
abbrev xO : Type := Option Value ⊕ String
/-- what a method has moved at its end, returned or thrown -/
def xEnd (st : State) (o : Outcome) (t : State) (L : List Loc) (k n : Nat) : Prop :=
  ((∃ v, o = .returned v) ∨ ∃ x, o = .threw x) ∧ st.WarmedH t.vm ∧ st.sameButNew ({ t with vm := st.vm } : State) L k n
/-- how it ended: with a value, or with a new object of the class E -/
def xOut (o : xO) (st : State) (oc : Outcome) (t : State) : Prop := match o with
  | .inl v => oc = .returned v
  | .inr E => ∃ (x : Addr) (cell : Cell), oc = .threw x ∧ st.heap.size ≤ x ∧ t.heap[x]? = some cell ∧ cell.vm = .none ∧ st.vm.findClass E = some cell.cls
/-- a static field is laid, in a cell that is none of A's -/
def xLs (C n d : String) (A : Nat → Prop) (U : State) (H : Heap) : Prop := ∃ (c : ClassId) (k : Class) (i : Nat) (f : Field) (a : Nat) (cell : Cell), U.vm.findClass C = some c ∧ U.fieldFound? C n d = some (c, k, i, f) ∧ f.isStatic = true ∧ k.statics = some a ∧ H[a]? = some cell ∧ cell.vm.isStatics = true ∧ cell.cls = c ∧ f.slot < cell.slots.size ∧ k.staticTypes[f.slot]? = some f.type ∧ ¬ A a
theorem xLs.moved {C n d : String} {A : Nat → Prop} {u U : State} {H : Heap} (hvm : u.vm.Alike U.vm) (h : xLs C n d A u H) : xLs C n d A U H := by
  obtain ⟨c, k, i, f, a, cell, h0, h1, h2, h3, h4, h5, h6, h7, h8, h9⟩ := h
  obtain ⟨k', hi', he⟩ := State.fieldFound?_setVm hvm h1
  exact ⟨c, k', i, f, a, cell, by rw [hvm.findClass]; exact h0, hi', h2, by rw [he]; exact h3, h4, h5, h6, h7, by rw [he]; exact h8, h9⟩
theorem xLs.kept {C n d : String} {A : Nat → Prop} {U : State} {H H1 : Heap} (h : xLs C n d A U H) (hq : ∀ a : Nat, a < H.size → ¬ A a → H1[a]? = H[a]?) : xLs C n d A U H1 := by
  obtain ⟨c, k, i, f, a, cell, h0, h1, h2, h3, h4, h5, h6, h7, h8, h9⟩ := h
  exact ⟨c, k, i, f, a, cell, h0, h1, h2, h3, by rw [hq a (Array.getElem?_eq_some_iff.mp h4).1 h9]; exact h4, h5, h6, h7, h8, h9⟩
theorem xLs.narrow {C n d : String} {A B : Nat → Prop} {U : State} {H : Heap} (h : xLs C n d A U H) (hAB : ∀ q, B q → A q) : xLs C n d B U H := by
  obtain ⟨c, k, i, f, a, cell, h0, h1, h2, h3, h4, h5, h6, h7, h8, h9⟩ := h
  exact ⟨c, k, i, f, a, cell, h0, h1, h2, h3, h4, h5, h6, h7, h8, fun z => h9 (hAB a z)⟩
theorem xLs.word {C n d : String} {A : Nat → Prop} {s : State} {args : Array Value} (h : xLs C n d A s s.heap) : (Cond.laysStatic C n d).before args s = true := by
  obtain ⟨c, k, i, f, a, cell, h0, h1, h2, h3, h4, h5, h6, h7, h8, -⟩ := h
  simp [Cond.before, Cond.holds, Cond.value, h0, h1, h2, h3, h4, h5, h6, h7, h8]
theorem xLs.of {args : Array Value} {s : State} {C n d : String} {A : Nat → Prop} (h : (Cond.laysStatic C n d).before args s = true) (hA : ∀ a : Nat, a < s.heap.size → ¬ A a) : xLs C n d A s s.heap := by
  obtain ⟨c, k, i, f, a, cell, h0, h1, h2, h3, h4, h5, h6, h7, h8⟩ := Cond.laysStatic_spec h
  exact ⟨c, k, i, f, a, cell, h0, h1, h2, h3, h4, h5, h6, h7, h8, hA a (Array.getElem?_eq_some_iff.mp h4).1⟩
theorem xZq_word {C n d : String} {A : Nat → Prop} {s : State} {args : Array Value} (h : va_Zq C n d A s s.heap) : (Cond.isRef (.static C n d)).before args s = true := by
  have key : ∀ v : Value, va_Z C n d v A s s.heap → v.isRef = true → (Cond.isRef (.static C n d)).before args s = true := by
    intro v h hv
    obtain ⟨cf, kf, fi, f, a, cell, h1, h2, h3, h4, h5, h6, h7, -⟩ := h
    have he : (Term.static C n d).eval args s none [] s = some v := by simp [Term.eval, State.fieldNamed?, h1, h2, h4, h5, h6, h7]
    cases v <;> simp [Value.isRef] at hv <;> simp [Cond.before, Cond.holds, Cond.value, he]
  rcases h with h | ⟨t, h⟩
  · exact key _ h rfl
  · exact key _ h rfl
/-- the two statics of Throwable that every making of an exception reads -/
def xZ (A : Nat → Prop) (U : State) (H : Heap) : Prop :=
  (va_Zq "java/lang/Throwable" "UNASSIGNED_STACK" "[Ljava/lang/StackTraceElement;" A U H ∧ va_Zq "java/lang/Throwable" "SUPPRESSED_SENTINEL" "Ljava/util/List;" A U H) ∧
  xLs "java/lang/Throwable" "UNASSIGNED_STACK" "[Ljava/lang/StackTraceElement;" A U H ∧ xLs "java/lang/Throwable" "SUPPRESSED_SENTINEL" "Ljava/util/List;" A U H
theorem xZ.moved {A : Nat → Prop} {u U : State} {H : Heap} (hvm : u.vm.Alike U.vm) (h : xZ A u H) : xZ A U H := ⟨⟨h.1.1.moved hvm, h.1.2.moved hvm⟩, h.2.1.moved hvm, h.2.2.moved hvm⟩
theorem xZ.kept {A : Nat → Prop} {U : State} {H H1 : Heap} (h : xZ A U H) (hq : ∀ a : Nat, a < H.size → ¬ A a → H1[a]? = H[a]?) : xZ A U H1 := ⟨⟨h.1.1.kept hq, h.1.2.kept hq⟩, h.2.1.kept hq, h.2.2.kept hq⟩
theorem xZ.narrow {A B : Nat → Prop} {U : State} {H : Heap} (h : xZ A U H) (hAB : ∀ q, B q → A q) : xZ B U H := ⟨⟨h.1.1.narrow hAB, h.1.2.narrow hAB⟩, h.2.1.narrow hAB, h.2.2.narrow hAB⟩
def xPre (D : va_G) (cl : List vw_C) (tys : List (ClassId × FieldType)) (w : va_W) (sz : Nat) (U : State) : Prop :=
  U.heap.size = sz ∧ va_P D cl w U.heap ∧ va_K D cl tys U ∧ va_D (fun _ => True) w ∧ xZ (va_A w sz) U U.heap
def xPost (D : va_G) (cl : List vw_C) (tys : List (ClassId × FieldType)) (o : xO) (w' : va_W) (A : Nat → Prop) (st : State) (oc : Outcome) (t : State) : Prop :=
  xOut o st oc t ∧ va_P D cl w' t.heap ∧ va_K D cl tys t ∧ va_D A w' ∧ va_F A st t
/-- THE CONTRACT: over any heap that holds the world w the method ends with o, the heap holding w' -/
def Cx (l : Launch) (y : MethodName) (ws : List Cond) (rm : Room) (D : va_G) (cl : List vw_C) (tys : List (ClassId × FieldType)) (av : List Value) (w : va_W) (o : xO) (w' : va_W) : Prop :=
  ∀ sz : Nat, MetFree l y (headSpec ws rm) (va_Pc av (xPre D cl tys w sz)) (fun _ _ _ _ _ => True) (fun _ st oc t => xPost D cl tys o w' (va_A w sz) st oc t ∧ ∃ L, xEnd st oc t L rm.cells rm.slots ∧ ∀ q ∈ L, va_A w sz q.base)
def xQ (D : va_G) (cl : List vw_C) (tys : List (ClassId × FieldType)) (below : List Frame) (s : State) (A : Nat → Prop) (o : xO) (w' : va_W) (mc ms : Nat) : State → Prop := fun t =>
  ∃ oc, t.status = .running ∧ Ended t below oc ∧ xPost D cl tys o w' A s oc t ∧ ∃ L, xEnd s oc t L mc ms ∧ ∀ q ∈ L, A q.base
variable {p : Program} {l : Launch} {e : Env} {R : Room} {s : State} {m : MethodId} {args : Array Value} {below : List Frame} {meth : Method} {c : Code} {H : Heap} {locs : List Loc} {cells slots : Nat} {Q : State → Prop}
variable {D : va_G} {cl : List vw_C} {tys : List (ClassId × FieldType)} {A : Nat → Prop} {w w' wc wc' wr w2 : va_W} {o : xO} {sz mc ms : Nat} {av As rest st0 : List Value} {y : MethodName} {ws ws' Ts : List Cond} {rm : Room}
variable {cc bytes : ByteArray} {pc nL maxL n index : Nat} {ls : Array Slot} {own C E : String} {ret : Option FieldType} {b : Addr}
theorem x_blind : FrameBlind (va_Pc av (xPre D cl tys w sz)) := by
  intro a U g mk q
  obtain ⟨q0, q1, qP, qK, qD, qZ⟩ := q
  exact ⟨q0, q1, qP, va_K.moved (u := U) (U := U.calling g mk a) (Vm.Alike.refl U.vm) qK, qD, xZ.moved (u := U) (U := U.calling g mk a) (Vm.Alike.refl U.vm) qZ⟩
theorem Cx.met {v : Option Value} (h : Cx l y ws rm D cl tys av w (.inl v) w') (sz : Nat) :
    Met l y ws rm (va_Pc av (xPre D cl tys w sz)) (fun _ st oc t => xPost D cl tys (.inl v) w' (va_A w sz) st oc t) rm.cells rm.slots (va_A w sz) := by
  intro p e ha hc hk s m args below hf happ hP hK
  obtain ⟨n, o, h1, h2, h3, hq, L, ⟨_, hW, hs⟩, hL⟩ := h sz p e ha hc hk s m args below hf happ hP hK
  exact ⟨n, o, h1, h2, h3, hq, L, ⟨⟨v, hq.1⟩, hW, hs⟩, hL⟩
theorem x_fm {α β : Type} {f : α → Option β} : ∀ {is : List α} {ws : List β}, is.map f = ws.map some → is.filterMap f = ws
  | [], [], _ => rfl
  | [], _ :: _, h => by simp at h
  | _ :: _, [], h => by simp at h
  | i :: is, w :: ws, h => by
    simp only [List.map_cons, List.cons.injEq] at h
    rw [List.filterMap_cons, h.1]
    simp only [x_fm h.2]
theorem x_mono {Q' : State → Prop} {g : JFrame} (h : ∀ t, Q t → Q' t) (k : W p l e R s m args below meth c H locs cells slots Q g) : W p l e R s m args below meth c H locs cells slots Q' g := by
  intro T hT X
  obtain ⟨t, a1, b1⟩ := k T hT X
  exact ⟨t, a1, h t b1⟩
theorem x_ofMQ {t : State} (h : MQ below (fun _ st oc t => xPost D cl tys o w A st oc t) args s mc ms A t) : xQ D cl tys below s A o w mc ms t := by
  obtain ⟨oc, h1, h2, h3, L, ⟨h4, h5, h6⟩, h7⟩ := h
  exact ⟨oc, h1, h2, h3, L, ⟨Or.inl h4, h5, h6⟩, h7⟩
/-! returns -/
theorem x_iret {v : Int32} (hx : p.tables.exec = Jvm.exec) (hb : c.code = cc) (hr : meth.sig.returnType = some .int) (hlocks : meth.locks = false) (hK : va_K D cl tys s) (hP : va_P D cl w H) (hD : va_D A w) (hS : va_S A s.heap H locs) (hc : cells ≤ mc) (hs : slots ≤ ms) (hdg : decode cc pc = .ok (.ireturn, 1)) :
    W p l e R s m args below meth c H locs cells slots (xQ D cl tys below s A (.inl (some (.int v))) w mc ms) (F0 m pc ls [.int v]) :=
  W.widen hc hs (x_mono (fun _ => x_ofMQ) (W.iret (Qc := fun _ st oc t => xPost D cl tys (.inl (some (.int v))) w A st oc t) (free := A) hx hb hr (fun t ht hW => ⟨rfl, by rw [ht]; exact hP, va_K.moved hW.alike hK, hD, hS.F ht⟩) hS.2.2 hdg hlocks))
theorem x_zret {v : Int32} {ty : FieldType} (hx : p.tables.exec = Jvm.exec) (hb : c.code = cc) (hr : meth.sig.returnType = some ty) (hlocks : meth.locks = false) (hn : narrow ty (.int v) = .int v) (hK : va_K D cl tys s) (hP : va_P D cl w H) (hD : va_D A w) (hS : va_S A s.heap H locs) (hc : cells ≤ mc) (hs : slots ≤ ms) (hdg : decode cc pc = .ok (.ireturn, 1)) :
    W p l e R s m args below meth c H locs cells slots (xQ D cl tys below s A (.inl (some (.int v))) w mc ms) (F0 m pc ls [.int v]) :=
  W.widen hc hs (x_mono (fun _ => x_ofMQ) (W.zret (Qc := fun _ st oc t => xPost D cl tys (.inl (some (.int v))) w A st oc t) (free := A) hx hb hr hn (fun t ht hW => ⟨rfl, by rw [ht]; exact hP, va_K.moved hW.alike hK, hD, hS.F ht⟩) hS.2.2 hdg hlocks))
theorem x_lret {v : Int64} (hx : p.tables.exec = Jvm.exec) (hb : c.code = cc) (hr : meth.sig.returnType = some .long) (hlocks : meth.locks = false) (hK : va_K D cl tys s) (hP : va_P D cl w H) (hD : va_D A w) (hS : va_S A s.heap H locs) (hc : cells ≤ mc) (hs : slots ≤ ms) (hdg : decode cc pc = .ok (.lreturn, 1)) :
    W p l e R s m args below meth c H locs cells slots (xQ D cl tys below s A (.inl (some (.long v))) w mc ms) (F0 m pc ls [.long v]) :=
  W.widen hc hs (x_mono (fun _ => x_ofMQ) (W.lret (Qc := fun _ st oc t => xPost D cl tys (.inl (some (.long v))) w A st oc t) (free := A) hx hb hr (fun t ht hW => ⟨rfl, by rw [ht]; exact hP, va_K.moved hW.alike hK, hD, hS.F ht⟩) hS.2.2 hdg hlocks))
theorem x_vret (hx : p.tables.exec = Jvm.exec) (hb : c.code = cc) (hr : meth.sig.returnType = none) (hlocks : meth.locks = false) (hK : va_K D cl tys s) (hP : va_P D cl w H) (hD : va_D A w) (hS : va_S A s.heap H locs) (hc : cells ≤ mc) (hs : slots ≤ ms) (hdg : decode cc pc = .ok (.return_, 1)) :
    W p l e R s m args below meth c H locs cells slots (xQ D cl tys below s A (.inl none) w mc ms) (F0 m pc ls []) :=
  W.widen hc hs (x_mono (fun _ => x_ofMQ) (W.vret (Qc := fun _ st oc t => xPost D cl tys (.inl none) w A st oc t) (free := A) hx hb hr (fun t ht hW => ⟨rfl, by rw [ht]; exact hP, va_K.moved hW.alike hK, hD, hS.F ht⟩) hS.2.2 hdg hlocks))
theorem x_nostat {s : State} {w : va_W} {D : va_G} {cl : List vw_C} (hP : va_P D cl w s.heap) : ∀ q, va_A w s.heap.size q → ∀ cell, s.heap[q]? = some cell → cell.vm.isStatics = false := by
  intro q hq cell hcell
  rcases hq with ⟨k, en, hk⟩ | hq
  · have h1 := hP k (q, en) hk
    rcases en with ⟨ca, a⟩ | ⟨ci, fs⟩
    · have h2 : s.heap[q]? = some (vp_cell ca a) := h1
      cases hcell.symm.trans h2
      obtain ⟨nn, a⟩ := a
      rcases a with a | a | a | a | a <;> rfl
    · obtain ⟨q', h2, cell', g1, g2, g3, -⟩ := h1
      cases hcell.symm.trans g1
      rw [g3]; rfl
  · have := (Array.getElem?_eq_some_iff.mp hcell).1
    omega
/-! what a method's own rows know from its entry on -/
def xC (p : Program) (s : State) (m : MethodId) (args : Array Value) (meth : Method) (c : Code) (cc : ByteArray) (nL : Nat) (own : String) (Ts : List Cond) (ret : Option FieldType) (nm : String) : Prop :=
  p.tables.exec = Jvm.exec ∧ c.code = cc ∧ c.maxLocals = nL ∧ s.vm.findClass own = some m.cls ∧ (∀ w ∈ Ts, w.before args s = true) ∧ meth.sig.returnType = ret ∧ meth.locks = false ∧ meth.name = nm ∧ c.exceptionTable.isEmpty = true
theorem Cx.ofW (hy : plainName y.cls = true) (hw : ws = Cond.code y cc maxL ret :: ws')
    (body : ∀ (p : Program) (e : Env) (s : State) (m : MethodId) (below : List Frame) (meth : Method) (c : Code) (A : Nat → Prop), xC p s m av.toArray meth c cc maxL y.cls ws ret y.name →
      va_P D cl w s.heap → va_K D cl tys s → va_D A w → (∀ q, s.heap.size ≤ q → A q) → (∀ q, A q → ∀ cell, s.heap[q]? = some cell → cell.vm.isStatics = false) → xZ A s s.heap →
      W p l e rm s m av.toArray below meth c s.heap [] 0 0 (xQ D cl tys below s A o w' rm.cells rm.slots) (entryFrame m av.toArray maxL)) :
    Cx l y ws rm D cl tys av w o w' := by
  intro sz
  refine MetFree.of_bodyS (code := cc) (maxLocals := maxL) (ret := ret) hy ?_ ?_
  · intro args s m h hn
    obtain ⟨meth, c, h1, h2, h3, h4, h5, h6, -, -⟩ := Cond.code_spec hn (atoms_spec (ws := ws) h _ (by rw [hw]; exact List.mem_cons_self))
    exact ⟨meth, c, h1, h2, h3, h4, h5, h6⟩
  · intro p e s m args below meth c s₁ B hml hP _
    obtain ⟨rfl, hsz, hP, hK, hD0, hZ⟩ := hP
    subst hsz
    have hh0 : s₁.heap = s.heap := by rw [B.state]; rfl
    have hts := atoms_spec (ws := ws) B.pre
    have hD := hD0.self (sz := s.heap.size)
    have hns := x_nostat hP
    obtain ⟨t, a1, o, b1, b2, b3, b4⟩ := body p e s m below meth c (va_A w s.heap.size) ⟨B.exec, B.bytes, hml, findClass_of_methodNamed B.named, hts, B.returns, B.notSynchronized, (name_of_methodNamed B.named B.method).1, B.noHandlers (hts _ (by rw [hw]; exact List.mem_cons_self))⟩ hP hK hD (fun q h => Or.inr h) hns hZ s₁ hh0 (Stand.of_body B)
    exact ⟨t, o, a1, b1, b2, b3, b4⟩
/-! calls that return -/
theorem x_go {v : Option Value} (hr : va_Run p l e R s m args below meth c H locs cells slots mc ms (F0 m pc ls st0) rest (fun st oc t => xPost D cl tys (.inl v) wc' (va_A wc H.size) st oc t) (va_A wc H.size))
    (hP : va_P D cl w H) (hD : va_D A w) (hS : va_S A s.heap H locs) (hA : ∀ q, s.heap.size ≤ q → A q) (isC isR is2 : List Nat) (hC : isC.map (fun i => w[i]?) = wc.map some) (hR : isR.map (fun i => w[i]?) = wr.map some) (hn : va_nd isR = true) (hdis : ∀ i ∈ isR, i ∉ isC)
    (h2n : va_nd is2 = true) (h2 : is2.map (fun i => (wr ++ wc')[i]?) = w2.map some)
    (kk : ∀ (H1 : Heap) (locs1 : List Loc), va_P D cl w2 H1 → va_D A w2 → va_S A s.heap H1 locs1 → W p l e R s m args below meth c H1 locs1 (cells + mc) (slots + ms) Q (F0 m (pc + 3) ls (v.toList ++ rest))) :
    W p l e R s m args below meth c H locs cells slots Q (F0 m pc ls st0) := by
  have hF : ∀ q, va_A wc H.size q → A q := va_free hD hS hA isC hC
  intro T hT X
  obtain ⟨v', st₀, t, T', L, h0, X', hL, e1, e2, ⟨hv, hP1, hK1, hD1, hz, hk⟩, st⟩ := hr T hT X
  cases hv
  rw [h0, ← e1] at hz
  rw [h0, ← e1] at hk
  rw [← e1] at hP1
  obtain ⟨hP2, hD2⟩ := va_join hP hD isC isR hC hR hn hdis hk hF hP1 hD1
  obtain ⟨t2, a1, b1⟩ := kk T'.heap (locs ++ L) (hP2.sub is2 (x_fm h2)) (hD2.sub is2 h2n h2)
    ⟨Nat.le_trans hS.1 hz, fun q h1 h2 => by
      rw [hk q (Nat.lt_of_lt_of_le h1 hS.1) (fun z => h2 (hF q z))]
      exact hS.2.1 q h1 h2, fun q hq => by
      rcases List.mem_append.mp hq with h | h
      · exact hS.2.2 q h
      · exact hF _ (hL q h)⟩ T' rfl X'
  exact ⟨t2, st t2 a1, b1⟩
theorem x_pre (hP : va_P D cl wc H) (hD : va_D A wc) (hK : va_K D cl tys s) (hZ : xZ (va_A wc H.size) s H) : ∀ U : State, U.heap = H → s.WarmedH U.vm → va_Pc av (xPre D cl tys wc H.size) av.toArray U :=
  fun U hU hW => ⟨rfl, by rw [hU], by rw [hU]; exact hP, va_K.moved hW.alike hK, hD.weaken (fun _ _ _ _ => trivial), by rw [hU]; exact hZ.moved hW.alike⟩
/-- what the caller hands to a callee: its cells, cut out of the caller's world -/
theorem x_cut (hP : va_P D cl w H) (hD : va_D A w) (hK : va_K D cl tys s) (hS : va_S A s.heap H locs) (hA : ∀ q, s.heap.size ≤ q → A q) (hZ : xZ A s s.heap) (isC : List Nat) (hnd : va_nd isC = true) (hC : isC.map (fun i => w[i]?) = wc.map some) :
    va_P D cl wc H ∧ ∀ (av : List Value) (U : State), U.heap = H → s.WarmedH U.vm → va_Pc av (xPre D cl tys wc H.size) av.toArray U := by
  have hPc : va_P D cl wc H := hP.sub isC (x_fm hC)
  refine ⟨hPc, fun av => x_pre hPc (hD.sub isC hnd hC) hK ?_⟩
  exact (hZ.kept (fun a h1 h2 => hS.2.1 a h1 h2)).narrow (va_free hD hS hA isC hC)
theorem x_callV {T : u_T} {N ci : Nat} {fs : List Value} {v : Option Value} (S0 : CallFix p m c cc nL s args Ts own) (hM : Cx l y ws rm D cl tys (.ref b :: As) wc (.inl v) wc') (cw : CallW R s args own C index y bytes maxL ret ws rm rm.cells rm.slots n)
    (hK : va_K D cl tys s) (hP : va_P D cl w H) (hD : va_D A w) (hS : va_S A s.heap H locs) (hA : ∀ q, s.heap.size ≤ q → A q) (hZ : xZ A s s.heap) (isC isR is2 : List Nat) (hnd : va_nd isC = true) (hC : isC.map (fun i => w[i]?) = wc.map some) (hR : isR.map (fun i => w[i]?) = (isR.filterMap (fun i => w[i]?)).map some) (hn : va_nd isR = true) (hdis : ∀ i ∈ isR, i ∉ isC)
    (h2n : va_nd is2 = true) (h2 : is2.map (fun i => ((isR.filterMap (fun i => w[i]?)) ++ wc')[i]?) = w2.map some) (hc0 : wc[0]? = some (b, .inr (ci, fs))) (hcl : cl[ci]? = some (C, T, N)) (hlen : As.length = n) (hls : ls.size = nL) (hst : st0 = As.reverse ++ .ref b :: rest) (hW : (rest.map fun v => v.category).sum ≤ 8)
    (hdg : decode cc pc = .ok (.invokevirtual index, 3)) (hf : cells + rm.cells ≤ R.cells ∧ slots + rm.slots ≤ R.slots)
    (kk : ∀ (H1 : Heap) (locs1 : List Loc), va_P D cl w2 H1 → va_D A w2 → va_S A s.heap H1 locs1 → W p l e R s m args below meth c H1 locs1 (cells + rm.cells) (slots + rm.slots) Q (F0 m (pc + 3) ls (v.toList ++ rest))) :
    W p l e R s m args below meth c H locs cells slots Q (F0 m pc ls st0) := by
  obtain ⟨hPc, hpre⟩ := x_cut hP hD hK hS hA hZ isC hnd hC
  exact x_go (va_runV (As := As) (rest := rest) S0 (hM.met H.size) cw ⟨x_blind, va_recv hK hPc hcl hc0, hpre _⟩ rfl hlen hls hst (lv_room hW) hdg hf) hP hD hS hA isC isR is2 hC hR hn hdis h2n h2 kk
theorem x_callS {v : Option Value} (S0 : CallFix p m c cc nL s args Ts own) (hM : Cx l y ws rm D cl tys As wc (.inl v) wc') (cw : CallB R s args own index y bytes maxL ret ws rm rm.cells rm.slots n ∧ (Cond.static y).before args s = true)
    (hK : va_K D cl tys s) (hP : va_P D cl w H) (hD : va_D A w) (hS : va_S A s.heap H locs) (hA : ∀ q, s.heap.size ≤ q → A q) (hZ : xZ A s s.heap) (isC isR is2 : List Nat) (hnd : va_nd isC = true) (hC : isC.map (fun i => w[i]?) = wc.map some) (hR : isR.map (fun i => w[i]?) = (isR.filterMap (fun i => w[i]?)).map some) (hn : va_nd isR = true) (hdis : ∀ i ∈ isR, i ∉ isC)
    (h2n : va_nd is2 = true) (h2 : is2.map (fun i => ((isR.filterMap (fun i => w[i]?)) ++ wc')[i]?) = w2.map some) (hlen : As.length = n) (hls : ls.size = nL) (hst : st0 = As.reverse ++ rest) (hW : (rest.map fun v => v.category).sum ≤ 8)
    (hdg : decode cc pc = .ok (.invokestatic index, 3)) (hf : cells + rm.cells ≤ R.cells ∧ slots + rm.slots ≤ R.slots)
    (kk : ∀ (H1 : Heap) (locs1 : List Loc), va_P D cl w2 H1 → va_D A w2 → va_S A s.heap H1 locs1 → W p l e R s m args below meth c H1 locs1 (cells + rm.cells) (slots + rm.slots) Q (F0 m (pc + 3) ls (v.toList ++ rest))) :
    W p l e R s m args below meth c H locs cells slots Q (F0 m pc ls st0) := by
  obtain ⟨hPc, hpre⟩ := x_cut hP hD hK hS hA hZ isC hnd hC
  exact x_go (va_runS (As := As) (rest := rest) S0 (hM.met H.size) cw ⟨x_blind, hpre _⟩ rfl hlen hls hst (lv_room hW) hdg hf) hP hD hS hA isC isR is2 hC hR hn hdis h2n h2 kk
theorem x_callVN {T : u_T} {N ci : Nat} {fs : List Value} {v : Option Value} {host : String} (S0 : CallFix p m c cc nL s args Ts own) (hM : Cx l y ws rm D cl tys (.ref b :: As) wc (.inl v) wc') (cw : va_CN R s args own index y host bytes maxL ret ws rm rm.cells rm.slots n ∧ (Cond.instanceMethod y).before args s = true ∧ (Cond.selects C y y).before args s = true)
    (hK : va_K D cl tys s) (hP : va_P D cl w H) (hD : va_D A w) (hS : va_S A s.heap H locs) (hA : ∀ q, s.heap.size ≤ q → A q) (hZ : xZ A s s.heap) (isC isR is2 : List Nat) (hnd : va_nd isC = true) (hC : isC.map (fun i => w[i]?) = wc.map some) (hR : isR.map (fun i => w[i]?) = (isR.filterMap (fun i => w[i]?)).map some) (hn : va_nd isR = true) (hdis : ∀ i ∈ isR, i ∉ isC)
    (h2n : va_nd is2 = true) (h2 : is2.map (fun i => ((isR.filterMap (fun i => w[i]?)) ++ wc')[i]?) = w2.map some) (hc0 : wc[0]? = some (b, .inr (ci, fs))) (hcl : cl[ci]? = some (C, T, N)) (hlen : As.length = n) (hls : ls.size = nL) (hst : st0 = As.reverse ++ .ref b :: rest) (hW : (rest.map fun v => v.category).sum ≤ 8)
    (hdg : decode cc pc = .ok (.invokevirtual index, 3)) (hf : cells + rm.cells ≤ R.cells ∧ slots + rm.slots ≤ R.slots)
    (kk : ∀ (H1 : Heap) (locs1 : List Loc), va_P D cl w2 H1 → va_D A w2 → va_S A s.heap H1 locs1 → W p l e R s m args below meth c H1 locs1 (cells + rm.cells) (slots + rm.slots) Q (F0 m (pc + 3) ls (v.toList ++ rest))) :
    W p l e R s m args below meth c H locs cells slots Q (F0 m pc ls st0) := by
  obtain ⟨hPc, hpre⟩ := x_cut hP hD hK hS hA hZ isC hnd hC
  exact x_go (va_runVN (As := As) (rest := rest) S0 (hM.met H.size) cw ⟨x_blind, va_recv hK hPc hcl hc0, hpre _⟩ rfl hlen hls hst (lv_room hW) hdg hf) hP hD hS hA isC isR is2 hC hR hn hdis h2n h2 kk
theorem x_callSN {v : Option Value} {host : String} (S0 : CallFix p m c cc nL s args Ts own) (hM : Cx l y ws rm D cl tys As wc (.inl v) wc') (cw : va_CN R s args own index y host bytes maxL ret ws rm rm.cells rm.slots n ∧ (Cond.static y).before args s = true ∧ True)
    (hK : va_K D cl tys s) (hP : va_P D cl w H) (hD : va_D A w) (hS : va_S A s.heap H locs) (hA : ∀ q, s.heap.size ≤ q → A q) (hZ : xZ A s s.heap) (isC isR is2 : List Nat) (hnd : va_nd isC = true) (hC : isC.map (fun i => w[i]?) = wc.map some) (hR : isR.map (fun i => w[i]?) = (isR.filterMap (fun i => w[i]?)).map some) (hn : va_nd isR = true) (hdis : ∀ i ∈ isR, i ∉ isC)
    (h2n : va_nd is2 = true) (h2 : is2.map (fun i => ((isR.filterMap (fun i => w[i]?)) ++ wc')[i]?) = w2.map some) (hlen : As.length = n) (hls : ls.size = nL) (hst : st0 = As.reverse ++ rest) (hW : (rest.map fun v => v.category).sum ≤ 8)
    (hdg : decode cc pc = .ok (.invokestatic index, 3)) (hf : cells + rm.cells ≤ R.cells ∧ slots + rm.slots ≤ R.slots)
    (kk : ∀ (H1 : Heap) (locs1 : List Loc), va_P D cl w2 H1 → va_D A w2 → va_S A s.heap H1 locs1 → W p l e R s m args below meth c H1 locs1 (cells + rm.cells) (slots + rm.slots) Q (F0 m (pc + 3) ls (v.toList ++ rest))) :
    W p l e R s m args below meth c H locs cells slots Q (F0 m pc ls st0) := by
  obtain ⟨hPc, hpre⟩ := x_cut hP hD hK hS hA hZ isC hnd hC
  exact x_go (va_runSN (As := As) (rest := rest) S0 (hM.met H.size) cw ⟨x_blind, hpre _⟩ rfl hlen hls hst (lv_room hW) hdg hf) hP hD hS hA isC isR is2 hC hR hn hdis h2n h2 kk
theorem x_callI {v : Option Value} (S0 : CallFix p m c cc nL s args Ts own) (hM : Cx l y ws rm D cl tys (.ref b :: As) wc (.inl v) wc') (cw : CallB R s args own index y bytes maxL none ws rm rm.cells rm.slots n ∧ y.name = "<init>" ∧ (Cond.instanceMethod y).before args s = true)
    (hK : va_K D cl tys s) (hP : va_P D cl w H) (hD : va_D A w) (hS : va_S A s.heap H locs) (hA : ∀ q, s.heap.size ≤ q → A q) (hZ : xZ A s s.heap) (isC isR is2 : List Nat) (hnd : va_nd isC = true) (hC : isC.map (fun i => w[i]?) = wc.map some) (hR : isR.map (fun i => w[i]?) = (isR.filterMap (fun i => w[i]?)).map some) (hn : va_nd isR = true) (hdis : ∀ i ∈ isR, i ∉ isC)
    (h2n : va_nd is2 = true) (h2 : is2.map (fun i => ((isR.filterMap (fun i => w[i]?)) ++ wc')[i]?) = w2.map some) (hlen : As.length = n) (hls : ls.size = nL) (hst : st0 = As.reverse ++ .ref b :: rest) (hW : (rest.map fun v => v.category).sum ≤ 8)
    (hdg : decode cc pc = .ok (.invokespecial index, 3)) (hf : cells + rm.cells ≤ R.cells ∧ slots + rm.slots ≤ R.slots)
    (kk : ∀ (H1 : Heap) (locs1 : List Loc), va_P D cl w2 H1 → va_D A w2 → va_S A s.heap H1 locs1 → W p l e R s m args below meth c H1 locs1 (cells + rm.cells) (slots + rm.slots) Q (F0 m (pc + 3) ls (v.toList ++ rest))) :
    W p l e R s m args below meth c H locs cells slots Q (F0 m pc ls st0) := by
  obtain ⟨hPc, hpre⟩ := x_cut hP hD hK hS hA hZ isC hnd hC
  exact x_go (va_runI (As := As) (rest := rest) S0 (hM.met H.size) cw ⟨x_blind, hpre _⟩ rfl hlen hls hst (lv_room hW) hdg hf) hP hD hS hA isC isR is2 hC hR hn hdis h2n h2 kk
/-! small rows of the functions' side -/
theorem x_ifp {α : Type} {q : Prop} [Decidable q] {a b r : α} (h : q) (f : (if q then a else b) = r) : a = r := by rw [if_pos h] at f; exact f
theorem x_ifn {α : Type} {q : Prop} [Decidable q] {a b r : α} (h : ¬ q) (f : (if q then a else b) = r) : b = r := by rw [if_neg h] at f; exact f
theorem x_if {α : Type} {q : Prop} [Decidable q] {a : Option α} {r : α} (f : (if q then a else none) = some r) : q ∧ a = some r := by
  by_cases h : q
  · rw [if_pos h] at f; exact ⟨h, f⟩
  · rw [if_neg h] at f; cases f
theorem x_bind {α β : Type} {x : Option α} {k : α → Option β} {r : β} (f : x.bind k = some r) : ∃ z, x = some z ∧ k z = some r := by
  cases x with
  | none => cases f
  | some z => exact ⟨z, rfl, f⟩
/-- the index i is in an array of n -/
def xi (i : Int32) (n : Nat) : Bool := !(decide (i < 0) || decide (n ≤ i.toNatClampNeg))
theorem xi_in {i : Int32} {n : Nat} (h : xi i n = true) : vp_in i n := by
  unfold xi at h
  intro hq
  rcases hq with hq | hq <;> simp [hq] at h
/-- a value gets a name -/
def xlet {α β : Type} (e : α) (k : α → β) : β := k e
theorem x_let {α β : Type} {e z : α} {k : α → β} {r : β} (h : z = e) (f : xlet e k = r) : k z = r := by subst h; exact f
theorem x_nb {v : Int32} (h : v = 0 ∨ v = 1) : narrow .boolean (.int v) = .int v := by rcases h with rfl | rfl <;> rfl
abbrev oV (_ : Unit) : xO := .inl none
abbrev oI (v : Int32) : xO := .inl (some (.int v))
abbrev oL (v : Int64) : xO := .inl (some (.long v))
abbrev tV (r : Unit ⊕ String) : xO := match r with
  | .inl _ => .inl none
  | .inr E => .inr E
abbrev tI (r : Int32 ⊕ String) : xO := match r with
  | .inl v => .inl (some (.int v))
  | .inr E => .inr E
abbrev tyL (cI cJ cZ : ClassId) : List (ClassId × FieldType) := [(cI, .int), (cJ, .long), (cZ, .boolean)]
theorem x_toInt_ne {x k : Int32} (h : ¬ x = k) : x.toInt ≠ k.toInt := fun e => h (Int32.toInt_inj.mp e)
theorem x_sw5 {x : Int32} (h0 : ¬ x = (0 : Int32)) (h1 : ¬ x = (1 : Int32)) (h2 : ¬ x = (2 : Int32)) (h3 : ¬ x = (3 : Int32)) (h4 : ¬ x = (4 : Int32)) : x.toInt < 0 ∨ 4 < x.toInt := by
  have e0 : x.toInt ≠ 0 := x_toInt_ne h0
  have e1 : x.toInt ≠ 1 := x_toInt_ne h1
  have e2 : x.toInt ≠ 2 := x_toInt_ne h2
  have e3 : x.toInt ≠ 3 := x_toInt_ne h3
  have e4 : x.toInt ≠ 4 := x_toInt_ne h4
  omega
end XR
/-! words by their places in the table -/
section XW
/-- the words that a callee may ask of its caller: what stays true while the tables warm -/
def x_tr : Cond → Bool
  | .arrayClass _ => true
  | .methodLinkNest .. => true
  | w => w.onTables && w.keepsFace
theorem x_warm {args a' : Array Value} {s U : State} {w : Cond} (hw : x_tr w = true) (hW : s.WarmedH U.vm) (h : w.before args s = true) : w.before a' U = true := by
  have gen : (w.onTables && w.keepsFace) = true → w.before a' U = true := by
    intro hh
    simp only [Bool.and_eq_true] at hh
    exact va_tabs hh.1 (rfl : (s.setVm U.vm).vm = U.vm) (Cond.before_shiftedFace (State.Shifted.of_warmed hW) _ hh.2 h)
  cases w <;> first | exact gen hw | exact word_at hW (Or.inr ⟨_, rfl⟩) h | exact va_Nw.use rfl (va_Nw.warmM hW (va_Nw.of rfl h))
def tb : List Cond := lw_tbl.filter x_tr
theorem x_in {w : Cond} {i : Nat} (h : lw_tbl[i]? = some w) (h2 : x_tr w = true) : w ∈ tb := List.mem_filter.mpr ⟨List.mem_of_getElem? h, h2⟩
theorem x_pl {ws : List Cond} (ps : List Nat) (h : ps.filterMap (fun i => lw_tbl[i]?) = ws ∧ ws.all x_tr = true) : ∀ w ∈ ws, w ∈ tb := by
  intro w hw
  refine List.mem_filter.mpr ⟨?_, List.all_eq_true.mp h.2 w hw⟩
  rw [← h.1] at hw
  obtain ⟨i, -, hi⟩ := List.mem_filterMap.mp hw
  exact List.mem_of_getElem? hi
variable {R : Room} {s : State} {args : Array Value} {own C host : String} {index n maxL : Nat} {y : MethodName} {bytes : ByteArray} {ret : Option FieldType} {ws : List Cond} {rm : Room}
theorem x_ws (hts : ∀ w ∈ tb, w.before args s = true) (hw : ws = Cond.code y bytes maxL ret :: tb) (k5 : Cond.code y bytes maxL ret ∈ tb) : ∀ w ∈ ws, ∀ (a' : Array Value) (U : State), s.WarmedH U.vm → w.before a' U = true := by
  intro w h a' U hW
  have hm : w ∈ tb := by
    rw [hw] at h
    rcases List.mem_cons.mp h with rfl | h
    · exact k5
    · exact h
  exact x_warm (List.mem_filter.mp hm).2 hW (hts w hm)
theorem x_len (hd : y.cls ≠ "java/lang/invoke/MethodHandle" ∧ y.cls ≠ "java/lang/invoke/VarHandle" ∧ (parseMethodDescriptor y.desc).map (fun d => d.parameters.length) = some n) : ∀ sig, parseMethodDescriptor y.desc = some sig → n = sig.parameters.length := by
  intro sig h
  have h2 := hd.2.2
  rw [h] at h2
  exact (Option.some.inj h2).symm
theorem x_cwB (n : Nat) (hts : ∀ w ∈ tb, w.before args s = true) (hw : ws = Cond.code y bytes maxL ret :: tb) (k1 : Cond.methodLink own index y ∈ tb) (k4 : Cond.initialized y.cls ∈ tb) (k5 : Cond.code y bytes maxL ret ∈ tb)
    (hd : y.cls ≠ "java/lang/invoke/MethodHandle" ∧ y.cls ≠ "java/lang/invoke/VarHandle" ∧ (parseMethodDescriptor y.desc).map (fun d => d.parameters.length) = some n) (hR : rm.frames + 1 ≤ R.frames ∧ 8 + (maxL + 11) + rm.locals ≤ R.locals) :
    CallB R s args own index y bytes maxL ret ws rm rm.cells rm.slots n :=
  ⟨rfl, rfl, hR.1, hR.2, x_ws hts hw k5, by rw [hw]; exact List.mem_cons_self, hts _ k5, hts _ k4, ⟨hd.1, hd.2.1⟩, x_len hd, hts _ k1⟩
theorem x_cwV (n : Nat) (hts : ∀ w ∈ tb, w.before args s = true) (hw : ws = Cond.code y bytes maxL ret :: tb) (k1 : Cond.methodLink own index y ∈ tb) (k2 : Cond.instanceMethod y ∈ tb) (k3 : Cond.selects C y y ∈ tb) (k4 : Cond.initialized y.cls ∈ tb) (k5 : Cond.code y bytes maxL ret ∈ tb)
    (hd : y.cls ≠ "java/lang/invoke/MethodHandle" ∧ y.cls ≠ "java/lang/invoke/VarHandle" ∧ (parseMethodDescriptor y.desc).map (fun d => d.parameters.length) = some n) (hR : rm.frames + 1 ≤ R.frames ∧ 8 + (maxL + 11) + rm.locals ≤ R.locals) :
    CallW R s args own C index y bytes maxL ret ws rm rm.cells rm.slots n := ⟨x_cwB n hts hw k1 k4 k5 hd hR, hts _ k2, hts _ k3⟩
theorem x_cwS (n : Nat) (hts : ∀ w ∈ tb, w.before args s = true) (hw : ws = Cond.code y bytes maxL ret :: tb) (k1 : Cond.methodLink own index y ∈ tb) (k2 : Cond.static y ∈ tb) (k4 : Cond.initialized y.cls ∈ tb) (k5 : Cond.code y bytes maxL ret ∈ tb)
    (hd : y.cls ≠ "java/lang/invoke/MethodHandle" ∧ y.cls ≠ "java/lang/invoke/VarHandle" ∧ (parseMethodDescriptor y.desc).map (fun d => d.parameters.length) = some n) (hR : rm.frames + 1 ≤ R.frames ∧ 8 + (maxL + 11) + rm.locals ≤ R.locals) :
    CallB R s args own index y bytes maxL ret ws rm rm.cells rm.slots n ∧ (Cond.static y).before args s = true := ⟨x_cwB n hts hw k1 k4 k5 hd hR, hts _ k2⟩
theorem x_cwI (n : Nat) (hts : ∀ w ∈ tb, w.before args s = true) (hw : ws = Cond.code y bytes maxL none :: tb) (k1 : Cond.methodLink own index y ∈ tb) (k2 : Cond.instanceMethod y ∈ tb) (k4 : Cond.initialized y.cls ∈ tb) (k5 : Cond.code y bytes maxL none ∈ tb) (hy1 : y.name = "<init>")
    (hd : y.cls ≠ "java/lang/invoke/MethodHandle" ∧ y.cls ≠ "java/lang/invoke/VarHandle" ∧ (parseMethodDescriptor y.desc).map (fun d => d.parameters.length) = some n) (hR : rm.frames + 1 ≤ R.frames ∧ 8 + (maxL + 11) + rm.locals ≤ R.locals) :
    CallB R s args own index y bytes maxL none ws rm rm.cells rm.slots n ∧ y.name = "<init>" ∧ (Cond.instanceMethod y).before args s = true := ⟨x_cwB n hts hw k1 k4 k5 hd hR, hy1, hts _ k2⟩
theorem x_cwN (n : Nat) (hts : ∀ w ∈ tb, w.before args s = true) (hw : ws = Cond.code y bytes maxL ret :: tb) (k1 : Cond.methodLinkNest own index y host ∈ tb) (k4 : Cond.initialized y.cls ∈ tb) (k5 : Cond.code y bytes maxL ret ∈ tb)
    (hd : y.cls ≠ "java/lang/invoke/MethodHandle" ∧ y.cls ≠ "java/lang/invoke/VarHandle" ∧ (parseMethodDescriptor y.desc).map (fun d => d.parameters.length) = some n) (hR : rm.frames + 1 ≤ R.frames ∧ 8 + (maxL + 11) + rm.locals ≤ R.locals) :
    va_CN R s args own index y host bytes maxL ret ws rm rm.cells rm.slots n :=
  ⟨⟨rfl, rfl, hR.1, hR.2, x_ws hts hw k5, by rw [hw]; exact List.mem_cons_self⟩, hts _ k5, hts _ k4, ⟨hd.1, hd.2.1⟩, x_len hd, va_Nw.of rfl (hts _ k1)⟩
theorem x_cwVN (n : Nat) (hts : ∀ w ∈ tb, w.before args s = true) (hw : ws = Cond.code y bytes maxL ret :: tb) (k1 : Cond.methodLinkNest own index y host ∈ tb) (k2 : Cond.instanceMethod y ∈ tb) (k3 : Cond.selects C y y ∈ tb) (k4 : Cond.initialized y.cls ∈ tb) (k5 : Cond.code y bytes maxL ret ∈ tb)
    (hd : y.cls ≠ "java/lang/invoke/MethodHandle" ∧ y.cls ≠ "java/lang/invoke/VarHandle" ∧ (parseMethodDescriptor y.desc).map (fun d => d.parameters.length) = some n) (hR : rm.frames + 1 ≤ R.frames ∧ 8 + (maxL + 11) + rm.locals ≤ R.locals) :
    va_CN R s args own index y host bytes maxL ret ws rm rm.cells rm.slots n ∧ (Cond.instanceMethod y).before args s = true ∧ (Cond.selects C y y).before args s = true := ⟨x_cwN n hts hw k1 k4 k5 hd hR, hts _ k2, hts _ k3⟩
theorem x_cwSN (n : Nat) (hts : ∀ w ∈ tb, w.before args s = true) (hw : ws = Cond.code y bytes maxL ret :: tb) (k1 : Cond.methodLinkNest own index y host ∈ tb) (k2 : Cond.static y ∈ tb) (k4 : Cond.initialized y.cls ∈ tb) (k5 : Cond.code y bytes maxL ret ∈ tb)
    (hd : y.cls ≠ "java/lang/invoke/MethodHandle" ∧ y.cls ≠ "java/lang/invoke/VarHandle" ∧ (parseMethodDescriptor y.desc).map (fun d => d.parameters.length) = some n) (hR : rm.frames + 1 ≤ R.frames ∧ 8 + (maxL + 11) + rm.locals ≤ R.locals) :
    va_CN R s args own index y host bytes maxL ret ws rm rm.cells rm.slots n ∧ (Cond.static y).before args s = true ∧ True := ⟨x_cwN n hts hw k1 k4 k5 hd hR, hts _ k2, trivial⟩
/-- what 'throw new E()' asks: words of the table, and the two statics -/
theorem x_atoms {A : Nat → Prop} {cls : String} {names : List String} {ic : Nat} (hts : ∀ w ∈ tb, w.before args s = true) (hZ : xZ A s s.heap)
    (h : ∀ w ∈ Bundle.ownAtoms0 own ic cls names, w ∈ tb ∨ w ∈ ([.isRef (.static Bundle.tN "UNASSIGNED_STACK" Bundle.steD), .isRef (.static Bundle.tN "SUPPRESSED_SENTINEL" Bundle.listD), .laysStatic Bundle.tN "UNASSIGNED_STACK" Bundle.steD, .laysStatic Bundle.tN "SUPPRESSED_SENTINEL" Bundle.listD] : List Cond)) :
    ∀ a ∈ Bundle.ownAtoms0 own ic cls names, a.before args s = true := by
  intro a ha
  rcases h a ha with h | h
  · exact hts a h
  · simp only [List.mem_cons, List.not_mem_nil, or_false] at h
    rcases h with rfl | rfl | rfl | rfl
    · exact xZq_word hZ.1.1
    · exact xZq_word hZ.1.2
    · exact hZ.2.1.word
    · exact hZ.2.2.word
end XW
end
section
/-! OWN ROWS: 'throw new E()', a callee's throw that leaves the caller, a callee's throw that the caller catches -/
section XT
variable {p : Program} {l : Launch} {e : Env} {R : Room} {s : State} {m : MethodId} {args : Array Value} {below : List Frame} {meth : Method} {c : Code} {H : Heap} {locs : List Loc} {cells slots : Nat} {Q : State → Prop}
variable {D : va_G} {cl : List vw_C} {tys : List (ClassId × FieldType)} {A : Nat → Prop} {w w' wc wc' wr w2 : va_W} {o : xO} {sz mc ms : Nat} {av As rest st0 : List Value} {y : MethodName} {ws ws' Ts : List Cond} {rm : Room}
variable {cc bytes : ByteArray} {pc nL maxL n index : Nat} {ls : Array Slot} {own C E : String} {ret : Option FieldType} {b : Addr}
/-- the launch takes no stack traces -/
def xL (l : Launch) : Prop := ∀ e : Env, l.admits e → e.platform.stackTraces = false
set_option maxHeartbeats 2000000 in
/-- the constructor of a fresh exception E(): one cell changes, nothing else -/
theorem x_ctor {T : State} (X : Stand p l e R s m args below meth c T locs cells slots) (hexec : p.tables.exec = Jvm.exec) (htr : e.platform.stackTraces = false) {cls : String} {names : List String} {ic : Nat}
    (hown : s.vm.findClass own = some m.cls) (hcls : Bundle.fit cls = true) (hnames : ∀ n ∈ names, Bundle.fit n = true) (h : ∀ a ∈ Bundle.ownAtoms0 own ic cls names, a.before args s = true)
    (hlocs : ∀ x ∈ locs, ∀ cell, s.heap[x.base]? = some cell → cell.vm.isStatics = false)
    {a : Addr} {cX : ClassId} {kX : Class} (hfoundX : s.vm.findClass cls = some cX) (hkX : s.vm.classes[cX]? = some kX) (hcell : T.heap[a]? = some (freshCell cX kX)) (hnew : s.heap.size ≤ a)
    {g : JFrame} (hg : g.method = m) (hsize : g.locals.size = c.maxLocals) {rest : List Value} (hstack : g.stack = .ref a :: .ref a :: rest) (hd : decode c.code g.pc = .ok (.invokespecial ic, 3))
    (hRframes : names.length + 3 < R.frames) (hRlocals : 2 * g.monitorRoom + ((Value.ref a :: rest).map fun v => v.category).sum + (13 * (names.length + 1) + 41) ≤ R.locals) :
    ∃ (vm' : Vm) (ce : Cell), Stand p l e R s m args below meth c ((T.setVm vm').setCell a ce) locs cells slots ∧ ce.vm = .none ∧ ce.cls = cX ∧
      ∀ target, Steps p.tables e below (((T.setVm vm').setCell a ce).setTop { g with pc := g.pc + 3, stack := .ref a :: rest }) target → Steps p.tables e below (T.setTop g) target := by
  have howns : e.platform.frameOwnsMonitors = true := by rw [X.admits.platform]
  have hfin : e.platform.finalization = false := by rw [X.admits.platform]
  have hpl : e.platform.magicAccessors = ({} : Platform).magicAccessors := by rw [X.admits.platform]
  have hat : ∀ x, x ∈ Bundle.ownAtoms0 own ic cls names → x.holds args s none s [] = true := fun x hx => h x hx
  obtain ⟨Th, Z, L, LZ, Y⟩ := ThrowableC.of_atoms (args := args) howns hfin hpl (fun x hx => h x (by simp [Bundle.ownAtoms0, hx]))
  obtain ⟨P1, Ps, hlen, L1, hL, hP1m, hlink1, hlink⟩ := Bundle.chain0 (args := args) hpl Y.init0 names cls hcls hnames (fun x hx => h x (by simp [Bundle.ownAtoms0, hx]))
  have hfound : s.vm.findClass cls = some P1.m.cls := findClass_of_methodNamed hP1m
  cases Option.some.inj (hfoundX.symm.trans hfound)
  obtain ⟨c1, kX', hc1, hk, hord, -, -, -⟩ := Cond.instantiable_spec (hat (.instantiable cls 6) (by simp [Bundle.ownAtoms0]))
  cases Option.some.inj (hc1.symm.trans hfound)
  cases Option.some.inj (hkX.symm.trans hk)
  have sel : ∀ (t : MethodName) (r : MethodId), s.methodNamed? t = some r → (t.cls ≠ "java/lang/invoke/MethodHandle" ∧ t.cls ≠ "java/lang/invoke/VarHandle") → Cond.selects cls t t ∈ Bundle.ownAtoms0 own ic cls names → selectMethod e.platform s.vm P1.m.cls r = .method r := by
    intro t r hr hn hin
    obtain ⟨c2, r2, m2, q1, q2, q3, q4, -⟩ := Cond.selects_spec (hat _ hin)
    cases Option.some.inj (q1.symm.trans hfound)
    cases Option.some.inj (q2.symm.trans (State.methodFound?_of_named hr hn))
    cases Option.some.inj (q3.symm.trans hr)
    rw [Launch.admits_selectMethod X.admits]; exact q4
  have hsel0 := sel Bundle.tFill0 Th.fill0 Y.fill0 (by decide) (by simp [Bundle.ownAtoms0])
  have hselF := sel Bundle.tFill Th.fill Y.fill (by decide) (by simp [Bundle.ownAtoms0])
  obtain ⟨cellS0, hcS0, hiss⟩ := Y.statics
  obtain ⟨u0, hu0⟩ := Cond.staticRefV Y.unassigned L.unassignedStatic L.statics hcS0 hiss (hat (.isRef (.static Bundle.tN "UNASSIGNED_STACK" Bundle.steD)) (by simp [Bundle.ownAtoms0]))
  obtain ⟨sen, hsen⟩ := Cond.staticRefV Y.sentinel L.sentinelStatic L.statics hcS0 hiss (hat (.isRef (.static Bundle.tN "SUPPRESSED_SENTINEL" Bundle.listD)) (by simp [Bundle.ownAtoms0]))
  obtain ⟨ci198, i198, fB, hk198, hg198, ha198, hsB, -, hnB, htB, hffB⟩ := Cond.ownField (t := .object "java/lang/Object") Y.found L.cls (by decide +kernel) (hat (.fieldLink Bundle.tN 198 Bundle.tN "backtrace" "Ljava/lang/Object;") (by simp [Bundle.ownAtoms0])) (hat (.lays Bundle.tN Bundle.tN "backtrace" "Ljava/lang/Object;") (by simp [Bundle.ownAtoms0])) e.platform hpl
  obtain ⟨cellS, hcS', heS, -, hkeep⟩ := X.same.2.2.2.2.2 Th.aS cellS0 hcS0
  have hcellS : T.heap[Th.aS]? = some cellS := hcS'
  have hnot : ∀ i, (⟨Th.aS, i⟩ : Loc) ∉ locs := fun i hmem => by
    have := hlocs _ hmem cellS0 hcS0
    rw [hiss] at this; cases this
  have hknownS : cellS.vm ≠ .unknown := by
    rw [heS]; intro hu
    rw [show cellS0.vm = .unknown from hu] at hiss
    cases hiss
  have hneS : Th.aS ≠ a := Nat.ne_of_lt (Nat.lt_of_lt_of_le (Array.getElem?_eq_some_iff.mp hcS0).1 hnew)
  obtain ⟨tyC, dC, hdC, hdnC⟩ := Cond.laysAt hfound hk Y.cause (hat (.lays cls Bundle.tN "cause" "Ljava/lang/Throwable;") (by simp [Bundle.ownAtoms0]))
  obtain ⟨tyS, dS, hdS, hdnS⟩ := Cond.laysAt hfound hk Y.stack (hat (.lays cls Bundle.tN "stackTrace" Bundle.steD) (by simp [Bundle.ownAtoms0]))
  obtain ⟨tyP, dP, hdP, hdnP⟩ := Cond.laysAt hfound hk Y.supp (hat (.lays cls Bundle.tN "suppressedExceptions" Bundle.listD) (by simp [Bundle.ownAtoms0]))
  obtain ⟨tyB, dB, hdB, hdnB⟩ := Cond.laysAt hfound hk hffB (hat (.lays cls Bundle.tN "backtrace" "Ljava/lang/Object;") (by simp [Bundle.ownAtoms0]))
  have bC := Cond.laysApart hdB hdC hdnB hdnC (by rw [hnB, Y.causeName]; decide)
  have bS := Cond.laysApart hdB hdS hdnB hdnS (by rw [hnB, Y.stackName]; decide)
  have bP := Cond.laysApart hdB hdP hdnB hdnP (by rw [hnB, Y.suppName]; decide)
  have hskip : SkipFacts Th e.platform s (fun u => u) u0 ((preparedCellV Th.toThrowableT (freshCell P1.m.cls kX) a u0 sen).withEntry T.cur) :=
    ⟨{ ci198 := ci198, i198 := i198, fBack := fB }, ⟨hk198, hg198, ha198, hsB⟩, by
      have := fresh_default (c := P1.m.cls) tyB
      rw [htB] at this
      simpa [preparedCellV, Cell.setSlot, Cell.withEntry, Array.getElem?_setIfInBounds, bC, bS, bP, bC.symm, bS.symm, bP.symm, defaultValue] using this, fun _ _ => rfl⟩
  obtain ⟨tm, methC, cdC, kC, vm₁, hnC, -, -, -, -, -, -, -, hW₁, st1⟩ := Steps.initCold (tb := p.tables) (e := e) (below := below) (s := s) (U := T) X.here hexec X.warmed hpl hown (t := Bundle.init0 cls) rfl rfl (Bundle.fit_spec hcls).2
    (hat (.methodLink own ic (Bundle.init0 cls)) (by simp [Bundle.ownAtoms0])) (h (.instanceMethod (Bundle.init0 cls)) (by cases names <;> simp [Bundle.ownAtoms0, Bundle.chain0Atoms, Bundle.passAtoms])) (bytes := Bundle.five) (maxL := 1) (h (.code (Bundle.init0 cls) Bundle.five 1 none) (by cases names <;> simp [Bundle.ownAtoms0, Bundle.chain0Atoms, Bundle.passAtoms]))
    (f := g) hg (a := a) (rest := .ref a :: rest) hstack hd
  cases Option.some.inj (hnC.symm.trans hP1m)
  obtain ⟨vm₂, X₂, st2⟩ := (X.noted hW₁).ctorPlainOffV hexec (g := { g with stack := .ref a :: rest }) hg hsize Th L Z LZ (P1 :: Ps)
    (fun P hP => by rcases List.mem_cons.mp hP with rfl | hP; exact L1; exact hL P hP) ⟨hlink1, hlink⟩ (u0 := u0) (sen := sen) (self := a) (cell := freshCell P1.m.cls kX) (cellS := cellS)
    hcell (fun _ => by simp) (by simp) rfl rfl hsel0 hselF hcellS hneS hknownS (by rw [hkeep _ (hnot _)]; exact hu0) (by rw [hkeep _ (hnot _)]; exact hsen)
    (Takes.of_laid hk hord tyC (by rw [Y.causeType]; rfl)) (Takes.of_laid hk hord tyS (by rw [Y.stackType]; exact fits_refV_array _ u0)) (Takes.of_laid hk hord tyP (by rw [Y.suppType]; exact fits_refV_object _ sen)) Y.objLocals hskip htr [] hd
    (by simp only [List.length_cons, hlen]; omega) (by simp only [List.length_cons, hlen]; exact hRlocals)
  refine ⟨vm₂, _, Stand.forget (T' := ((T.setVm vm₁).setVm vm₂).setCell a _) X₂ (fun q hq => ?_), rfl, rfl, fun target hrest => st1 _ (fun acts => ?_)⟩
  · have hb : q.base = a := by
      simp only [List.mem_cons, List.not_mem_nil, or_false] at hq
      rcases hq with rfl | rfl | rfl | rfl <;> rfl
    rw [hb]; exact hnew
  · rw [doInvoke_state]
    exact st2 _ hrest
theorem x_mem_locs (hns : ∀ q, A q → ∀ cell, s.heap[q]? = some cell → cell.vm.isStatics = false) (hS : va_S A s.heap H locs) : ∀ x ∈ locs, ∀ cell, s.heap[x.base]? = some cell → cell.vm.isStatics = false := fun x hx => hns _ (hS.2.2 x hx)
set_option maxHeartbeats 1000000 in
/-- throw new E() -/
theorem x_throw {cls : String} {names : List String} {ik ic : Nat} (hl : xL l) (hx : p.tables.exec = Jvm.exec) (hb : c.code = cc) (hml : c.maxLocals = nL) (hown : s.vm.findClass own = some m.cls) (hlocks : meth.locks = false) (hno : c.exceptionTable.isEmpty = true)
    (hcls : Bundle.fit cls = true) (hnames : ∀ n ∈ names, Bundle.fit n = true) (hat : ∀ a ∈ Bundle.ownAtoms0 own ic cls names, a.before args s = true) (hlink : (Cond.classLink own ik cls).before args s = true) (hini : (Cond.initialized cls).before args s = true)
    (hK : va_K D cl tys s) (hP : va_P D cl w H) (hD : va_D A w) (hS : va_S A s.heap H locs) (hns : ∀ q, A q → ∀ cell, s.heap[q]? = some cell → cell.vm.isStatics = false) (hls : ls.size = nL)
    (hc : cells + 1 ≤ mc) (hs : slots + 6 ≤ ms) (hRc : cells + 1 ≤ R.cells) (hRs : slots + 6 ≤ R.slots) (hRf : names.length + 3 < R.frames) (hRl : (rest.map fun v => v.category).sum + (13 * names.length + 60) ≤ R.locals)
    (d0 : decode cc pc = .ok (.new ik, 3)) (d3 : decode cc (pc + 3) = .ok (.dup, 1)) (d4 : decode cc (pc + 4) = .ok (.invokespecial ic, 3)) (d7 : decode cc (pc + 7) = .ok (.athrow, 1)) :
    W p l e R s m args below meth c H locs cells slots (xQ D cl tys below s A (.inr cls) w mc ms) (F0 m pc ls rest) := by
  refine W.newc hx hb hown hlink (hat (.instantiable cls 6) (by simp [Bundle.ownAtoms0])) hini (g := F0 m pc ls rest) rfl d0 hRc hRs (fun cC kC hfc hkC hkind hnum => ?_)
  refine W.eq (g2 := F0 m (pc + 3) ls (.ref H.size :: rest)) rfl ?_
  refine lv_dup hx hb d3 rfl ?_
  intro T hT X
  have hTa : T.heap[H.size]? = some (freshCell cC kC) := by rw [hT]; simp [freshCell]
  have hsz : s.heap.size ≤ H.size := hS.1
  obtain ⟨vm', ce, X', hv, hce, st⟩ := x_ctor X hx (hl e X.admits) hown hcls hnames hat (x_mem_locs hns hS) hfc hkC hTa hsz (g := F0 m (pc + 4) ls (.ref H.size :: .ref H.size :: rest)) rfl (hls.trans hml.symm) rfl (by rw [hb]; exact d4) hRf
    (by show 2 * 0 + ((Value.ref H.size).category + (rest.map fun v => v.category).sum) + _ ≤ _; rw [show (Value.ref H.size).category = 1 from rfl]; omega)
  have hout : ∀ x ∈ c.exceptionTable.toList, covers x (pc + 7) = false := by
    intro x hx
    have : c.exceptionTable.toList = [] := by simpa using hno
    rw [this] at hx; cases hx
  obtain ⟨hwalk, hrun, hend, hW, hsame⟩ := X'.athrowLeaves hx (g := F0 m (pc + 7) ls (.ref H.size :: rest)) rfl rfl rfl hout (a := H.size) (rest := rest) rfl (by rw [hb]; exact d7) hlocks
  have hheap : ((((T.setVm vm').setCell H.size ce)).setFrames (.throwing H.size :: below)).heap = (H.push (freshCell cC kC)).setIfInBounds H.size ce := by
    show (T.heap).setIfInBounds H.size ce = _
    rw [hT]
  have hold : ∀ q : Nat, q < H.size → ((H.push (freshCell cC kC)).setIfInBounds H.size ce)[q]? = H[q]? := by
    intro q hq
    rw [Array.getElem?_setIfInBounds_ne (by omega), Array.getElem?_push_lt hq]
    exact (Array.getElem?_eq_getElem hq).symm
  refine ⟨_, st _ hwalk, .threw H.size, hrun, hend, ⟨⟨H.size, ce, rfl, hsz, ?_, hv, by rw [hce]; exact hfc⟩, ?_, va_K.moved hW.alike hK, hD, ?_, ?_⟩, locs, ⟨Or.inr ⟨_, rfl⟩, hW, hsame.mono hc hs⟩, hS.2.2⟩
  · rw [hheap]; simp
  · rw [hheap]; exact hP.kept (fun k q hk => hold q.1 ((hP k q hk).lt))
  · rw [hheap]; simp; omega
  · intro q h1 h2
    rw [hheap, hold q (Nat.lt_of_lt_of_le h1 hsz)]
    exact hS.2.1 q h1 h2
/-- a callee that throws by its contract, from behind the invoking instruction's own step -/
theorem x_thr {T : State} (X : Stand p l e R s m args below meth c T locs cells slots) (hM : Cx l y ws rm D cl tys av wc (.inr E) wc') {g : JFrame} (hg : g.method = m) (hsize : g.locals.size = c.maxLocals) {ig : Instr} {len : Nat} (hdg : decode c.code g.pc = .ok (ig, len))
    (hW : 2 * g.monitorRoom + (g.stack.map fun v => v.category).sum ≤ 8) {mk : MethodId} (hnm : T.methodNamed? y = some mk) (hfr : rm.frames + 1 ≤ R.frames) (hlo : 8 + (maxL + 11) + rm.locals ≤ R.locals)
    (hws : ∀ w ∈ ws, ∀ (a' : Array Value) (U : State), s.WarmedH U.vm → w.before a' U = true) (hcw : Cond.code y bytes maxL ret ∈ ws) (hini : (Cond.initialized y.cls).before args s = true) (hf : cells + rm.cells ≤ R.cells ∧ slots + rm.slots ≤ R.slots)
    (hpre : va_Pc av (xPre D cl tys wc T.heap.size) av.toArray T) :
    ∃ (x : Addr) (cell : Cell) (T' : State) (L : List Loc), Stand p l e R s m args below meth c T' (locs ++ L) (cells + rm.cells) (slots + rm.slots) ∧ (∀ q ∈ L, va_A wc T.heap.size q.base) ∧ T.heap.size ≤ x ∧ T'.heap[x]? = some cell ∧ cell.vm = .none ∧ s.vm.findClass E = some cell.cls ∧
      va_P D cl wc' T'.heap ∧ va_D (va_A wc T.heap.size) wc' ∧ T.heap.size ≤ T'.heap.size ∧ (∀ q : Nat, q < T.heap.size → ¬ va_A wc T.heap.size q → T'.heap[q]? = T.heap[q]?) ∧
      ∀ acts, Steps p.tables e below (doInvoke e (T.setTop g) acts mk av.toArray).1 ((T'.setTop g).pushFrame (.throwing x)) := by
  have hcodeT : (Cond.code y bytes maxL ret).before av.toArray T = true := hws _ hcw _ _ X.warmed
  obtain ⟨methY, cY, hmY, hcY, -, hlY, -, -, -, -⟩ := Cond.code_spec hnm hcodeT
  obtain ⟨kY, hkY, -⟩ := className_of_methodNamed hnm
  have hiniT : (Cond.initialized y.cls).before av.toArray T = true := word_at X.warmed (Or.inl (by first | rfl | simp [Cond.onTables, Cond.keeps, Cond.steady])) hini
  have hinitY : kY.init = .initialized := Cond.initialized_spec (findClass_of_methodNamed hnm) hkY hiniT
  have h : At T g.method c below := by rw [hg]; exact X.here
  have happ : (headSpec ws rm).appliesLoose y e.platform (T.calling g mk av.toArray) = true :=
    Spec.appliesLoose_calling (g := g) h hdg hnm hkY hinitY (X.room_calling (g := g) (R' := rm) hsize hmY hcY hfr (by rw [hlY]; omega) hf.1 hf.2) (atoms_intro fun w hw => hws w hw _ _ X.warmed)
  obtain ⟨mid, hmid⟩ := h.above
  have hfrm : (T.setTop g).frames = (.java g :: mid) ++ below := by rw [State.frames_setTop' g h.top, hmid]; rfl
  obtain ⟨oc, s₂, hsteps, -, hend, hq⟩ := Steps.callFree (hM T.heap.size) p X.admits X.cas X.clock (acts := []) hfrm happ (x_blind _ T g mk hpre) trivial
  obtain ⟨⟨hout, hP1, hK1, hD1, hz, hk⟩, L, ⟨_, hW₂, hsame⟩, hL⟩ := hq
  obtain ⟨x, cell, rfl, hxl, hxc, hxv, hxf⟩ := hout
  rw [State.frames_setTop' g h.top, X.tail] at hend
  obtain ⟨T', X', hWT, hsT, rfl⟩ := X.outOfThrown hg (mk := mk) (a := av.toArray) hend hW₂ hsame
  refine ⟨x, cell, T', L, X', hL, hxl, hxc, hxv, ?_, hP1, hD1, hz, hk, fun acts => ?_⟩
  · have := X.warmed.alike.findClass (name := E)
    rw [← this]; exact hxf
  · rw [doInvoke_state] at hsteps ⊢
    exact hsteps
def xNote (p : Program) (l : Launch) (e : Env) (R : Room) (s : State) (m : MethodId) (args : Array Value) (below : List Frame) (meth : Method) (c : Code) (H : Heap) (locs : List Loc) (cells slots : Nat) (rm : Room) (D : va_G) (cl : List vw_C) (E : String) (wc wc' : va_W) (pc : Nat) (ls : Array Slot) (st0 rest : List Value) : Prop :=
  ∀ T : State, T.heap = H → Stand p l e R s m args below meth c T locs cells slots → ∃ (x : Addr) (cell : Cell) (T' : State) (L : List Loc), Stand p l e R s m args below meth c T' (locs ++ L) (cells + rm.cells) (slots + rm.slots) ∧ (∀ q ∈ L, va_A wc H.size q.base) ∧ H.size ≤ x ∧ T'.heap[x]? = some cell ∧ cell.vm = .none ∧ s.vm.findClass E = some cell.cls ∧
      va_P D cl wc' T'.heap ∧ va_D (va_A wc H.size) wc' ∧ H.size ≤ T'.heap.size ∧ (∀ q : Nat, q < H.size → ¬ va_A wc H.size q → T'.heap[q]? = H[q]?) ∧
      ∀ target, Steps p.tables e below ((T'.setTop (F0 m pc ls rest)).pushFrame (.throwing x)) target → Steps p.tables e below (T.setTop (F0 m pc ls st0)) target
theorem x_noteV {Tt : u_T} {N ci : Nat} {fs : List Value} (S0 : CallFix p m c cc nL s args Ts own) (hM : Cx l y ws rm D cl tys (.ref b :: As) wc (.inr E) wc') (cw : CallW R s args own C index y bytes maxL ret ws rm rm.cells rm.slots n)
    (hK : va_K D cl tys s) (hPc : va_P D cl wc H) (hpre : ∀ (av : List Value) (U : State), U.heap = H → s.WarmedH U.vm → va_Pc av (xPre D cl tys wc H.size) av.toArray U) (hc0 : wc[0]? = some (b, .inr (ci, fs))) (hcl : cl[ci]? = some (C, Tt, N)) (hlen : As.length = n) (hls : ls.size = nL) (hst : st0 = As.reverse ++ .ref b :: rest) (hW : (rest.map fun v => v.category).sum ≤ 8)
    (hdg : decode cc pc = .ok (.invokevirtual index, 3)) (hf : cells + rm.cells ≤ R.cells ∧ slots + rm.slots ≤ R.slots) : xNote p l e R s m args below meth c H locs cells slots rm D cl E wc wc' pc ls st0 rest := by
  obtain ⟨⟨-, -, hfr, hlo, hws, hcw, hcode, hini, hy, hlen', hl⟩, hin, hse⟩ := cw
  obtain ⟨hx, hb, hml, ho, -⟩ := S0
  obtain ⟨cellB, hcB, hoB, hclB⟩ := va_recv hK hPc hcl hc0
  intro T hT X
  obtain ⟨mk, methM, hnamed, hmethM, hstM, habM⟩ := Cond.instanceMethod_spec hin
  obtain ⟨methM', cM, hmethM', -, -, -, -, -, -, hsigM⟩ := Cond.code_spec hnamed hcode
  cases hmethM.symm.trans hmethM'
  obtain ⟨c2, r2, m2, q1, q2, q3, q4, kP, hkP, hkPi⟩ := Cond.selects_spec hse
  cases hclB.symm.trans q1
  cases (State.methodFound?_of_named hnamed hy).symm.trans q2
  cases hnamed.symm.trans q3
  have hselP : selectMethod e.platform s.vm cellB.cls mk = .method mk := by rw [Launch.admits_selectMethod X.admits]; exact q4
  obtain ⟨vm₁, X₁, hstep₁⟩ := X.invokevirtual hx ho hl hnamed hmethM hstM hkP hkPi hy (a := b) (cell := cellB) (by rw [hT]; exact hcB)
    (fun z h => by rw [h] at hoB; cases hoB) hselP hmethM habM hkP hkPi (g := F0 m pc ls st0) rfl (argsL := As) (rest := rest) (hlen.trans (hlen' _ hsigM)) hst (by rw [hb]; exact hdg)
  have hsz : (T.setVm vm₁).heap = H := hT
  obtain ⟨x, cell, T', L, X', hL, h1, h2, h3, h4, h5, h6, h7, h8, st⟩ := x_thr (bytes := bytes) (maxL := maxL) (ret := ret) X₁ hM (g := F0 m pc ls rest) rfl (hls.trans hml.symm) (by rw [hb]; exact hdg) (lv_room hW) (X₁.named hnamed) hfr hlo hws hcw hini hf
    (by rw [hsz]; exact hpre _ _ hT X₁.warmed)
  rw [hsz] at hL h1 h6 h7 h8
  exact ⟨x, cell, T', L, X', hL, h1, h2, h3, h4, h5, h6, h7, h8, fun target h => hstep₁ _ fun acts => (st acts).trans h⟩
theorem x_noteS (S0 : CallFix p m c cc nL s args Ts own) (hM : Cx l y ws rm D cl tys As wc (.inr E) wc') (cw : CallB R s args own index y bytes maxL ret ws rm rm.cells rm.slots n ∧ (Cond.static y).before args s = true)
    (hpre : ∀ (av : List Value) (U : State), U.heap = H → s.WarmedH U.vm → va_Pc av (xPre D cl tys wc H.size) av.toArray U) (hlen : As.length = n) (hls : ls.size = nL) (hst : st0 = As.reverse ++ rest) (hW : (rest.map fun v => v.category).sum ≤ 8)
    (hdg : decode cc pc = .ok (.invokestatic index, 3)) (hf : cells + rm.cells ≤ R.cells ∧ slots + rm.slots ≤ R.slots) : xNote p l e R s m args below meth c H locs cells slots rm D cl E wc wc' pc ls st0 rest := by
  obtain ⟨⟨-, -, hfr, hlo, hws, hcw, hcode, hini, hy, hlen', hl⟩, hstt⟩ := cw
  obtain ⟨hx, hb, hml, ho, -⟩ := S0
  intro T hT X
  obtain ⟨mk, hnamed⟩ := Cond.code_named hcode
  obtain ⟨methM, cM, hmethM, -, -, -, -, -, -, hsigM⟩ := Cond.code_spec hnamed hcode
  have hstatic : methM.isStatic = true := Cond.static_spec hnamed hmethM hstt
  obtain ⟨kP, hkP, -⟩ := className_of_methodNamed hnamed
  have hinitP : kP.init = .initialized := Cond.initialized_spec (findClass_of_methodNamed hnamed) hkP hini
  obtain ⟨vm₁, X₁, hstep₁⟩ := X.invokestatic hx ho hl hnamed hmethM hstatic hkP hinitP hy (g := F0 m pc ls st0) rfl (argsL := As) (rest := rest) (hlen.trans (hlen' _ hsigM)) hst (by rw [hb]; exact hdg)
  have hsz : (T.setVm vm₁).heap = H := hT
  obtain ⟨x, cell, T', L, X', hL, h1, h2, h3, h4, h5, h6, h7, h8, st⟩ := x_thr (bytes := bytes) (maxL := maxL) (ret := ret) X₁ hM (g := F0 m pc ls rest) rfl (hls.trans hml.symm) (by rw [hb]; exact hdg) (lv_room hW) (X₁.named hnamed) hfr hlo hws hcw hini hf
    (by rw [hsz]; exact hpre _ _ hT X₁.warmed)
  rw [hsz] at hL h1 h6 h7 h8
  exact ⟨x, cell, T', L, X', hL, h1, h2, h3, h4, h5, h6, h7, h8, fun target h => hstep₁ _ fun acts => (st acts).trans h⟩
/-- the callee's exception leaves the caller too -/
theorem x_out (hn : xNote p l e R s m args below meth c H locs cells slots rm D cl E wc wc' pc ls st0 rest) (hlocks : meth.locks = false) (hno : c.exceptionTable.isEmpty = true) (hK : va_K D cl tys s)
    (hP : va_P D cl w H) (hD : va_D A w) (hS : va_S A s.heap H locs) (hA : ∀ q, s.heap.size ≤ q → A q) (isC isR is2 : List Nat) (hC : isC.map (fun i => w[i]?) = wc.map some) (hR : isR.map (fun i => w[i]?) = (isR.filterMap (fun i => w[i]?)).map some) (hnd : va_nd isR = true) (hdis : ∀ i ∈ isR, i ∉ isC)
    (h2n : va_nd is2 = true) (h2 : is2.map (fun i => ((isR.filterMap (fun i => w[i]?)) ++ wc')[i]?) = w2.map some) (hc : cells + rm.cells ≤ mc) (hs : slots + rm.slots ≤ ms) :
    W p l e R s m args below meth c H locs cells slots (xQ D cl tys below s A (.inr E) w2 mc ms) (F0 m pc ls st0) := by
  have hF : ∀ q, va_A wc H.size q → A q := va_free hD hS hA isC hC
  intro T hT X
  obtain ⟨x, cell, T', L, X', hL, h1, h2', h3, h4, hP1, hD1, hz, hk, st⟩ := hn T hT X
  have hout : ∀ z ∈ c.exceptionTable.toList, covers z pc = false := by
    intro z hz
    have : c.exceptionTable.toList = [] := by simpa using hno
    rw [this] at hz; cases hz
  obtain ⟨hwalk, hrun, hend, hW, hsame⟩ := X'.leaveThrown x (g := F0 m pc ls rest) rfl rfl rfl hout hlocks
  obtain ⟨hP2, hD2⟩ := va_join hP hD isC isR hC hR hnd hdis hk hF hP1 hD1
  refine ⟨_, st _ hwalk, .threw x, hrun, hend, ⟨⟨x, cell, rfl, Nat.le_trans hS.1 h1, h2', h3, h4⟩, hP2.sub is2 (x_fm h2), va_K.moved hW.alike hK, hD2.sub is2 h2n h2, Nat.le_trans hS.1 hz, fun q g1 g2 => ?_⟩, locs ++ L, ⟨Or.inr ⟨_, rfl⟩, hW, hsame.mono hc hs⟩, fun q hq => ?_⟩
  · show T'.heap[q]? = _
    rw [hk q (Nat.lt_of_lt_of_le g1 hS.1) (fun z => g2 (hF q z))]
    exact hS.2.1 q g1 g2
  · rcases List.mem_append.mp hq with h | h
    · exact hS.2.2 q h
    · exact hF _ (hL q h)
end XT
end
section
/-! OWN ROWS: constructors, whose world has cells at addresses that nobody names -/
section XM
variable {p : Program} {l : Launch} {e : Env} {R : Room} {s : State} {m : MethodId} {args : Array Value} {below : List Frame} {meth : Method} {c : Code} {H : Heap} {locs : List Loc} {cells slots : Nat} {Q : State → Prop}
variable {D : va_G} {cl : List vw_C} {tys : List (ClassId × FieldType)} {A : Nat → Prop} {w wc w2 : va_W} {sz mc ms : Nat} {av As rest st0 : List Value} {y : MethodName} {ws ws' Ts : List Cond} {rm : Room}
variable {cc bytes : ByteArray} {pc nL maxL n index : Nat} {ls : Array Slot} {own C : String} {ret : Option FieldType} {b : Addr} {S : Type} {wE : S → va_W}
def xPostE (D : va_G) (cl : List vw_C) (tys : List (ClassId × FieldType)) (wE : S → va_W) (A : Nat → Prop) (st : State) (oc : Outcome) (t : State) : Prop :=
  oc = .returned none ∧ (∃ u : S, va_P D cl (wE u) t.heap ∧ va_D A (wE u)) ∧ va_K D cl tys t ∧ va_F A st t
def Cxe (l : Launch) (y : MethodName) (ws : List Cond) (rm : Room) (D : va_G) (cl : List vw_C) (tys : List (ClassId × FieldType)) (av : List Value) (w : va_W) (wE : S → va_W) : Prop :=
  ∀ sz : Nat, Met l y ws rm (va_Pc av (xPre D cl tys w sz)) (fun _ st oc t => xPostE D cl tys wE (va_A w sz) st oc t) rm.cells rm.slots (va_A w sz)
def xQe (D : va_G) (cl : List vw_C) (tys : List (ClassId × FieldType)) (below : List Frame) (s : State) (A : Nat → Prop) (wE : S → va_W) (mc ms : Nat) : State → Prop := fun t =>
  ∃ oc, t.status = .running ∧ Ended t below oc ∧ xPostE D cl tys wE A s oc t ∧ ∃ L, FrameEnd s oc t L mc ms ∧ ∀ q ∈ L, A q.base
theorem x_vretE (u : S) (hx : p.tables.exec = Jvm.exec) (hb : c.code = cc) (hr : meth.sig.returnType = none) (hlocks : meth.locks = false) (hK : va_K D cl tys s) (hP : va_P D cl (wE u) H) (hD : va_D A (wE u)) (hS : va_S A s.heap H locs) (hc : cells ≤ mc) (hs : slots ≤ ms) (hdg : decode cc pc = .ok (.return_, 1)) :
    W p l e R s m args below meth c H locs cells slots (xQe D cl tys below s A wE mc ms) (F0 m pc ls []) :=
  W.widen hc hs (x_mono (fun _ h => h) (W.vret (Qc := fun _ st oc t => xPostE D cl tys wE A st oc t) (free := A) hx hb hr (fun t ht hW => ⟨rfl, ⟨u, by rw [ht]; exact hP, hD⟩, va_K.moved hW.alike hK, hS.F ht⟩) hS.2.2 hdg hlocks))
theorem Cxe.ofW (hy : plainName y.cls = true) (hw : ws = Cond.code y cc maxL ret :: ws')
    (body : ∀ (p : Program) (e : Env) (s : State) (m : MethodId) (below : List Frame) (meth : Method) (c : Code) (A : Nat → Prop), xC p s m av.toArray meth c cc maxL y.cls ws ret y.name →
      va_P D cl w s.heap → va_K D cl tys s → va_D A w → (∀ q, s.heap.size ≤ q → A q) → (∀ q, A q → ∀ cell, s.heap[q]? = some cell → cell.vm.isStatics = false) → xZ A s s.heap →
      W p l e rm s m av.toArray below meth c s.heap [] 0 0 (xQe D cl tys below s A wE rm.cells rm.slots) (entryFrame m av.toArray maxL)) :
    Cxe l y ws rm D cl tys av w wE := by
  intro sz
  refine MetFree.of_bodyS (code := cc) (maxLocals := maxL) (ret := ret) hy ?_ ?_
  · intro args s m h hn
    obtain ⟨meth, c, h1, h2, h3, h4, h5, h6, -, -⟩ := Cond.code_spec hn (atoms_spec (ws := ws) h _ (by rw [hw]; exact List.mem_cons_self))
    exact ⟨meth, c, h1, h2, h3, h4, h5, h6⟩
  · intro p e s m args below meth c s₁ B hml hP _
    obtain ⟨rfl, hsz, hP, hK, hD0, hZ⟩ := hP
    subst hsz
    have hh0 : s₁.heap = s.heap := by rw [B.state]; rfl
    have hts := atoms_spec (ws := ws) B.pre
    obtain ⟨t, a1, o, b1, b2, b3, b4⟩ := body p e s m below meth c (va_A w s.heap.size) ⟨B.exec, B.bytes, hml, findClass_of_methodNamed B.named, hts, B.returns, B.notSynchronized, (name_of_methodNamed B.named B.method).1, B.noHandlers (hts _ (by rw [hw]; exact List.mem_cons_self))⟩ hP hK (hD0.self (sz := s.heap.size)) (fun q h => Or.inr h) (x_nostat hP) hZ s₁ hh0 (Stand.of_body B)
    exact ⟨t, o, a1, b1, b2, b3, b4⟩
theorem x_goE (hr : va_Run p l e R s m args below meth c H locs cells slots mc ms (F0 m pc ls st0) rest (fun st oc t => xPostE D cl tys wE (va_A wc H.size) st oc t) (va_A wc H.size))
    (hP : va_P D cl w H) (hD : va_D A w) (hS : va_S A s.heap H locs) (hA : ∀ q, s.heap.size ≤ q → A q) (isC isR : List Nat) (hC : isC.map (fun i => w[i]?) = wc.map some) (hR : isR.map (fun i => w[i]?) = (isR.filterMap (fun i => w[i]?)).map some) (hn : va_nd isR = true) (hdis : ∀ i ∈ isR, i ∉ isC)
    (kk : ∀ (u : S) (H1 : Heap) (locs1 : List Loc), va_P D cl ((isR.filterMap (fun i => w[i]?)) ++ wE u) H1 → va_D A ((isR.filterMap (fun i => w[i]?)) ++ wE u) → va_S A s.heap H1 locs1 → W p l e R s m args below meth c H1 locs1 (cells + mc) (slots + ms) Q (F0 m (pc + 3) ls rest)) :
    W p l e R s m args below meth c H locs cells slots Q (F0 m pc ls st0) := by
  have hF : ∀ q, va_A wc H.size q → A q := va_free hD hS hA isC hC
  intro T hT X
  obtain ⟨v', st₀, t, T', L, h0, X', hL, e1, e2, ⟨hv, ⟨u, hP1, hD1⟩, hK1, hz, hk⟩, st⟩ := hr T hT X
  cases hv
  rw [h0, ← e1] at hz
  rw [h0, ← e1] at hk
  rw [← e1] at hP1
  obtain ⟨hP2, hD2⟩ := va_join hP hD isC isR hC hR hn hdis hk hF hP1 hD1
  obtain ⟨t2, a1, b1⟩ := kk u T'.heap (locs ++ L) hP2 hD2
    ⟨Nat.le_trans hS.1 hz, fun q h1 h2 => by
      rw [hk q (Nat.lt_of_lt_of_le h1 hS.1) (fun z => h2 (hF q z))]
      exact hS.2.1 q h1 h2, fun q hq => by
      rcases List.mem_append.mp hq with h | h
      · exact hS.2.2 q h
      · exact hF _ (hL q h)⟩ T' rfl X'
  exact ⟨t2, st t2 a1, b1⟩
theorem x_callE (S0 : CallFix p m c cc nL s args Ts own) (hM : Cxe l y ws rm D cl tys (.ref b :: As) wc wE) (cw : CallB R s args own index y bytes maxL none ws rm rm.cells rm.slots n ∧ y.name = "<init>" ∧ (Cond.instanceMethod y).before args s = true)
    (hK : va_K D cl tys s) (hP : va_P D cl w H) (hD : va_D A w) (hS : va_S A s.heap H locs) (hA : ∀ q, s.heap.size ≤ q → A q) (hZ : xZ A s s.heap) (isC isR : List Nat) (hnd : va_nd isC = true) (hC : isC.map (fun i => w[i]?) = wc.map some) (hR : isR.map (fun i => w[i]?) = (isR.filterMap (fun i => w[i]?)).map some) (hn : va_nd isR = true) (hdis : ∀ i ∈ isR, i ∉ isC)
    (hlen : As.length = n) (hls : ls.size = nL) (hst : st0 = As.reverse ++ .ref b :: rest) (hW : (rest.map fun v => v.category).sum ≤ 8)
    (hdg : decode cc pc = .ok (.invokespecial index, 3)) (hf : cells + rm.cells ≤ R.cells ∧ slots + rm.slots ≤ R.slots)
    (kk : ∀ (u : S) (H1 : Heap) (locs1 : List Loc), va_P D cl ((isR.filterMap (fun i => w[i]?)) ++ wE u) H1 → va_D A ((isR.filterMap (fun i => w[i]?)) ++ wE u) → va_S A s.heap H1 locs1 → W p l e R s m args below meth c H1 locs1 (cells + rm.cells) (slots + rm.slots) Q (F0 m (pc + 3) ls rest)) :
    W p l e R s m args below meth c H locs cells slots Q (F0 m pc ls st0) := by
  obtain ⟨hPc, hpre⟩ := x_cut hP hD hK hS hA hZ isC hnd hC
  exact x_goE (va_runI (As := As) (rest := rest) S0 (hM H.size) cw ⟨x_blind, hpre _⟩ rfl hlen hls hst (lv_room hW) hdg hf) hP hD hS hA isC isR hC hR hn hdis kk
theorem x_newI {cI cJ cZ : ClassId} {v : Int32} {N : Nat} (hx : p.tables.exec = Jvm.exec) (hb : c.code = cc) (harr : (Cond.arrayClass .int).before args s = true) (hK : va_K D cl (tyL cI cJ cZ) s) (hP : va_P D cl w H) (hD : va_D A w) (hS : va_S A s.heap H locs) (hA : ∀ q, s.heap.size ≤ q → A q)
    (hn : ¬ v < 0) (hN : v.toNatClampNeg = N) (hbytes : N * componentBytes .int ≤ 536870912) (hcells : cells + 1 ≤ R.cells) (hslots : slots + N ≤ R.slots) (hdg : decode cc pc = .ok (.newarray .int, 2))
    (kk : ∀ (q : Nat) (H1 : Heap), va_P D cl (w ++ [(q, .inl (cI, N, .inl (fun _ => 0)))]) H1 → va_D A (w ++ [(q, .inl (cI, N, .inl (fun _ => 0)))]) → va_S A s.heap H1 locs → W p l e R s m args below meth c H1 locs (cells + 1) (slots + N) Q (F0 m (pc + 2) ls (.ref q :: rest))) :
    W p l e R s m args below meth c H locs cells slots Q (F0 m pc ls (.int v :: rest)) := by
  refine va_newa (atype := .int) (ty := .int) (a0 := (N, .inl (fun _ => 0))) hx hb harr rfl hK hP hD hS hA (fun _ => rfl) hn hN hbytes hcells hslots hdg (fun q cA H1 hK' hP' hD' hS' => ?_)
  have h1 : s.vm.findClass ("[" ++ (FieldType.int).toString) = some cA := (hK'.2 3 (cA, .int) rfl).2
  have h2 : s.vm.findClass ("[" ++ (FieldType.int).toString) = some cI := (hK.2 0 (cI, .int) rfl).2
  cases Option.some.inj (h1.symm.trans h2)
  exact kk q H1 hP' hD' hS'
theorem x_newL {cI cJ cZ : ClassId} {v : Int32} {N : Nat} (hx : p.tables.exec = Jvm.exec) (hb : c.code = cc) (harr : (Cond.arrayClass .long).before args s = true) (hK : va_K D cl (tyL cI cJ cZ) s) (hP : va_P D cl w H) (hD : va_D A w) (hS : va_S A s.heap H locs) (hA : ∀ q, s.heap.size ≤ q → A q)
    (hn : ¬ v < 0) (hN : v.toNatClampNeg = N) (hbytes : N * componentBytes .long ≤ 536870912) (hcells : cells + 1 ≤ R.cells) (hslots : slots + N ≤ R.slots) (hdg : decode cc pc = .ok (.newarray .long, 2))
    (kk : ∀ (q : Nat) (H1 : Heap), va_P D cl (w ++ [(q, .inl (cJ, N, .inr (.inl (fun _ => 0))))]) H1 → va_D A (w ++ [(q, .inl (cJ, N, .inr (.inl (fun _ => 0))))]) → va_S A s.heap H1 locs → W p l e R s m args below meth c H1 locs (cells + 1) (slots + N) Q (F0 m (pc + 2) ls (.ref q :: rest))) :
    W p l e R s m args below meth c H locs cells slots Q (F0 m pc ls (.int v :: rest)) := by
  refine va_newa (atype := .long) (ty := .long) (a0 := (N, .inr (.inl (fun _ => 0)))) hx hb harr rfl hK hP hD hS hA (fun _ => rfl) hn hN hbytes hcells hslots hdg (fun q cA H1 hK' hP' hD' hS' => ?_)
  have h1 : s.vm.findClass ("[" ++ (FieldType.long).toString) = some cA := (hK'.2 3 (cA, .long) rfl).2
  have h2 : s.vm.findClass ("[" ++ (FieldType.long).toString) = some cJ := (hK.2 1 (cJ, .long) rfl).2
  cases Option.some.inj (h1.symm.trans h2)
  exact kk q H1 hP' hD' hS'
theorem x_newZ {cI cJ cZ : ClassId} {v : Int32} {N : Nat} (hx : p.tables.exec = Jvm.exec) (hb : c.code = cc) (harr : (Cond.arrayClass .boolean).before args s = true) (hK : va_K D cl (tyL cI cJ cZ) s) (hP : va_P D cl w H) (hD : va_D A w) (hS : va_S A s.heap H locs) (hA : ∀ q, s.heap.size ≤ q → A q)
    (hn : ¬ v < 0) (hN : v.toNatClampNeg = N) (hbytes : N * componentBytes .boolean ≤ 536870912) (hcells : cells + 1 ≤ R.cells) (hslots : slots + N ≤ R.slots) (hdg : decode cc pc = .ok (.newarray .boolean, 2))
    (kk : ∀ (q : Nat) (H1 : Heap), va_P D cl (w ++ [(q, .inl (cZ, N, .inl (fun _ => 0)))]) H1 → va_D A (w ++ [(q, .inl (cZ, N, .inl (fun _ => 0)))]) → va_S A s.heap H1 locs → W p l e R s m args below meth c H1 locs (cells + 1) (slots + N) Q (F0 m (pc + 2) ls (.ref q :: rest))) :
    W p l e R s m args below meth c H locs cells slots Q (F0 m pc ls (.int v :: rest)) := by
  refine va_newa (atype := .boolean) (ty := .boolean) (a0 := (N, .inl (fun _ => 0))) hx hb harr rfl hK hP hD hS hA (fun _ => rfl) hn hN hbytes hcells hslots hdg (fun q cA H1 hK' hP' hD' hS' => ?_)
  have h1 : s.vm.findClass ("[" ++ (FieldType.boolean).toString) = some cA := (hK'.2 3 (cA, .boolean) rfl).2
  have h2 : s.vm.findClass ("[" ++ (FieldType.boolean).toString) = some cZ := (hK.2 2 (cZ, .boolean) rfl).2
  cases Option.some.inj (h1.symm.trans h2)
  exact kk q H1 hP' hD' hS'
end XM
end
section
abbrev K_Co : Type := (Nat → Int32) × (Nat → Int32) × (Nat → Int32) × (Nat → Int32)
abbrev K_St : Type := K_Co × K_Co × (Nat → Int32) × Int32 × Int32 × Int32 × Int32
abbrev K_Rv : Type := K_St × (Nat → Int64) × (Nat → Int32) × (Nat → Int32)
abbrev K_CC : Type := K_Co × K_Co
abbrev K_CR : Type := K_Co × (Nat → Int32)
abbrev K_Mo : Type := K_Co × K_Co × (Nat → Int32) × (Nat → Int32) × (Nat → Int32) × (Nat → Int64) × (Nat → Int32) × Int32 × Int32 × Int32 × Int32 × Int32 × Int32
def R_Co : String := "RecordVersions$Content"
def F_Co : u_T := fun k => match k with
  | 0 => ("RecordVersions$Content", "owners", "[I", true)
  | 1 => ("RecordVersions$Content", "values", "[I", true)
  | 2 => ("RecordVersions$Content", "links", "[I", true)
  | _ => ("RecordVersions$Content", "states", "[I", true)
def t_Co : Nat → FieldType := fun k => match k with
  | 0 => .array .int
  | 1 => .array .int
  | 2 => .array .int
  | _ => .array .int
def R_St : String := "RecordVersions$Store"
def F_St : u_T := fun k => match k with
  | 0 => ("RecordVersions$Store", "memory", "LRecordVersions$Content;", true)
  | 1 => ("RecordVersions$Store", "disk", "LRecordVersions$Content;", true)
  | 2 => ("RecordVersions$Store", "earlier", "[I", true)
  | 3 => ("RecordVersions$Store", "dirty", "I", false)
  | 4 => ("RecordVersions$Store", "written", "I", false)
  | 5 => ("RecordVersions$Store", "crashes", "I", false)
  | _ => ("RecordVersions$Store", "failure", "I", false)
def t_St : Nat → FieldType := fun k => match k with
  | 0 => .object "RecordVersions$Content"
  | 1 => .object "RecordVersions$Content"
  | 2 => .array .int
  | 3 => .int
  | 4 => .int
  | 5 => .int
  | _ => .int
def R_Rv : String := "RecordVersions"
def F_Rv : u_T := fun k => match k with
  | 0 => ("RecordVersions", "store", "LRecordVersions$Store;", true)
  | 1 => ("RecordVersions", "memory", "LRecordVersions$Content;", true)
  | 2 => ("RecordVersions", "committedBefore", "[J", true)
  | 3 => ("RecordVersions", "changedPages", "[I", true)
  | _ => ("RecordVersions", "behind", "[I", true)
def t_Rv : Nat → FieldType := fun k => match k with
  | 0 => .object "RecordVersions$Store"
  | 1 => .object "RecordVersions$Content"
  | 2 => .array .long
  | 3 => .array .int
  | _ => .array .int
def R_Mo : String := "RecordVersionsModel"
def F_Mo : u_T := fun k => match k with
  | 0 => ("RecordVersionsModel", "thrown", "I", false)
  | 1 => ("RecordVersionsModel", "by", "[I", true)
  | 2 => ("RecordVersionsModel", "value", "[I", true)
  | 3 => ("RecordVersionsModel", "link", "[I", true)
  | 4 => ("RecordVersionsModel", "diskBy", "[I", true)
  | 5 => ("RecordVersionsModel", "diskValue", "[I", true)
  | 6 => ("RecordVersionsModel", "diskLink", "[I", true)
  | 7 => ("RecordVersionsModel", "states", "[I", true)
  | 8 => ("RecordVersionsModel", "diskStates", "[I", true)
  | 9 => ("RecordVersionsModel", "dirty", "[Z", true)
  | 10 => ("RecordVersionsModel", "first", "[I", true)
  | 11 => ("RecordVersionsModel", "touched", "[I", true)
  | 12 => ("RecordVersionsModel", "sees", "[J", true)
  | 13 => ("RecordVersionsModel", "pile", "[I", true)
  | 14 => ("RecordVersionsModel", "written", "I", false)
  | 15 => ("RecordVersionsModel", "crashes", "I", false)
  | 16 => ("RecordVersionsModel", "left", "I", false)
  | 17 => ("RecordVersionsModel", "crashed", "Z", false)
  | _ => ("RecordVersionsModel", "refusal", "I", false)
def t_Mo : Nat → FieldType := fun k => match k with
  | 0 => .int
  | 1 => .array .int
  | 2 => .array .int
  | 3 => .array .int
  | 4 => .array .int
  | 5 => .array .int
  | 6 => .array .int
  | 7 => .array .int
  | 8 => .array .int
  | 9 => .array .boolean
  | 10 => .array .int
  | 11 => .array .int
  | 12 => .array .long
  | 13 => .array .int
  | 14 => .int
  | 15 => .int
  | 16 => .int
  | 17 => .boolean
  | _ => .int
def R_JL : String := "java/lang/Long"
def R_JI : String := "java/lang/Integer"
abbrev vwCl : List vw_C := [(R_Co, F_Co, 4), (R_St, F_St, 7), (R_Rv, F_Rv, 5), (R_Mo, F_Mo, 19)]
abbrev w_Co (cI cJ cZ : ClassId) (mh m0 m1 m2 m3 : Nat) (U : K_Co) : va_W := [(mh, .inr (0, [.ref m0, .ref m1, .ref m2, .ref m3])), (m0, .inl (cI, 15, .inl U.1)), (m1, .inl (cI, 15, .inl U.2.1)), (m2, .inl (cI, 15, .inl U.2.2.1)), (m3, .inl (cI, 41, .inl U.2.2.2))]
abbrev w_CC (cI cJ cZ : ClassId) (mh m0 m1 m2 m3 dh d0 d1 d2 d3 : Nat) (U : K_CC) : va_W := [(mh, .inr (0, [.ref m0, .ref m1, .ref m2, .ref m3])), (m0, .inl (cI, 15, .inl U.1.1)), (m1, .inl (cI, 15, .inl U.1.2.1)), (m2, .inl (cI, 15, .inl U.1.2.2.1)), (m3, .inl (cI, 41, .inl U.1.2.2.2)), (dh, .inr (0, [.ref d0, .ref d1, .ref d2, .ref d3])), (d0, .inl (cI, 15, .inl U.2.1)), (d1, .inl (cI, 15, .inl U.2.2.1)), (d2, .inl (cI, 15, .inl U.2.2.2.1)), (d3, .inl (cI, 41, .inl U.2.2.2.2))]
abbrev w_CR (cI cJ cZ : ClassId) (mh m0 m1 m2 m3 be : Nat) (U : K_CR) : va_W := [(mh, .inr (0, [.ref m0, .ref m1, .ref m2, .ref m3])), (m0, .inl (cI, 15, .inl U.1.1)), (m1, .inl (cI, 15, .inl U.1.2.1)), (m2, .inl (cI, 15, .inl U.1.2.2.1)), (m3, .inl (cI, 41, .inl U.1.2.2.2)), (be, .inl (cI, 9, .inl U.2))]
abbrev w_St (cI cJ cZ : ClassId) (sh mh m0 m1 m2 m3 dh d0 d1 d2 d3 ea : Nat) (U : K_St) : va_W := [(sh, .inr (1, [.ref mh, .ref dh, .ref ea, .int U.2.2.2.1, .int U.2.2.2.2.1, .int U.2.2.2.2.2.1, .int U.2.2.2.2.2.2])), (mh, .inr (0, [.ref m0, .ref m1, .ref m2, .ref m3])), (m0, .inl (cI, 15, .inl U.1.1)), (m1, .inl (cI, 15, .inl U.1.2.1)), (m2, .inl (cI, 15, .inl U.1.2.2.1)), (m3, .inl (cI, 41, .inl U.1.2.2.2)), (dh, .inr (0, [.ref d0, .ref d1, .ref d2, .ref d3])), (d0, .inl (cI, 15, .inl U.2.1.1)), (d1, .inl (cI, 15, .inl U.2.1.2.1)), (d2, .inl (cI, 15, .inl U.2.1.2.2.1)), (d3, .inl (cI, 41, .inl U.2.1.2.2.2)), (ea, .inl (cI, 7, .inl U.2.2.1))]
abbrev w_Rv (cI cJ cZ : ClassId) (rh sh mh m0 m1 m2 m3 dh d0 d1 d2 d3 ea cb ch be : Nat) (U : K_Rv) : va_W := [(rh, .inr (2, [.ref sh, .ref mh, .ref cb, .ref ch, .ref be])), (sh, .inr (1, [.ref mh, .ref dh, .ref ea, .int U.1.2.2.2.1, .int U.1.2.2.2.2.1, .int U.1.2.2.2.2.2.1, .int U.1.2.2.2.2.2.2])), (mh, .inr (0, [.ref m0, .ref m1, .ref m2, .ref m3])), (m0, .inl (cI, 15, .inl U.1.1.1)), (m1, .inl (cI, 15, .inl U.1.1.2.1)), (m2, .inl (cI, 15, .inl U.1.1.2.2.1)), (m3, .inl (cI, 41, .inl U.1.1.2.2.2)), (dh, .inr (0, [.ref d0, .ref d1, .ref d2, .ref d3])), (d0, .inl (cI, 15, .inl U.1.2.1.1)), (d1, .inl (cI, 15, .inl U.1.2.1.2.1)), (d2, .inl (cI, 15, .inl U.1.2.1.2.2.1)), (d3, .inl (cI, 41, .inl U.1.2.1.2.2.2)), (ea, .inl (cI, 7, .inl U.1.2.2.1)), (cb, .inl (cJ, 41, .inr (.inl U.2.1))), (ch, .inl (cI, 41, .inl U.2.2.1)), (be, .inl (cI, 9, .inl U.2.2.2))]
abbrev w_Mo (cI cJ cZ : ClassId) (oh o0 o1 o2 o3 o4 o5 o6 o7 o8 o9 o10 o11 o12 : Nat) (U : K_Mo) : va_W := [(oh, .inr (3, [.int U.2.2.2.2.2.2.2.1, .ref o0, .ref o1, .ref o2, .ref o3, .ref o4, .ref o5, .ref o6, .ref o7, .ref o8, .ref o9, .ref o10, .ref o11, .ref o12, .int U.2.2.2.2.2.2.2.2.1, .int U.2.2.2.2.2.2.2.2.2.1, .int U.2.2.2.2.2.2.2.2.2.2.1, .int U.2.2.2.2.2.2.2.2.2.2.2.1, .int U.2.2.2.2.2.2.2.2.2.2.2.2])), (o0, .inl (cI, 15, .inl U.1.1)), (o1, .inl (cI, 15, .inl U.1.2.1)), (o2, .inl (cI, 15, .inl U.1.2.2.1)), (o3, .inl (cI, 15, .inl U.2.1.1)), (o4, .inl (cI, 15, .inl U.2.1.2.1)), (o5, .inl (cI, 15, .inl U.2.1.2.2.1)), (o6, .inl (cI, 41, .inl U.1.2.2.2)), (o7, .inl (cI, 41, .inl U.2.1.2.2.2)), (o8, .inl (cZ, 7, .inl U.2.2.1)), (o9, .inl (cI, 7, .inl U.2.2.2.1)), (o10, .inl (cI, 41, .inl U.2.2.2.2.1)), (o11, .inl (cJ, 41, .inr (.inl U.2.2.2.2.2.1))), (o12, .inl (cI, 8, .inl U.2.2.2.2.2.2.1))]
theorem n_Co : ∀ a, a < 4 → ∀ b, b < 4 → a ≠ b → (F_Co a).2.1 ≠ (F_Co b).2.1 := by decide +kernel
theorem t_Co_ok : ∀ k, k < 4 → parseFieldDescriptor (F_Co k).2.2.1 = some (t_Co k) := by decide +kernel
theorem i_Co : ∀ w ∈ u_ws R_Co F_Co 4, w ∈ tb := x_pl [80, 82, 84, 86] (by decide +kernel)
theorem x_fs_Co : ∀ j, j < 4 → defaultValue (t_Co j) = vp_V [.null, .null, .null, .null] j := by decide +kernel
theorem n_St : ∀ a, a < 7 → ∀ b, b < 7 → a ≠ b → (F_St a).2.1 ≠ (F_St b).2.1 := by decide +kernel
theorem t_St_ok : ∀ k, k < 7 → parseFieldDescriptor (F_St k).2.2.1 = some (t_St k) := by decide +kernel
theorem i_St : ∀ w ∈ u_ws R_St F_St 7, w ∈ tb := x_pl [104, 106, 108, 110, 112, 114, 116] (by decide +kernel)
theorem x_fs_St : ∀ j, j < 7 → defaultValue (t_St j) = vp_V [.null, .null, .null, .int 0, .int 0, .int 0, .int 0] j := by decide +kernel
theorem n_Rv : ∀ a, a < 5 → ∀ b, b < 5 → a ≠ b → (F_Rv a).2.1 ≠ (F_Rv b).2.1 := by decide +kernel
theorem t_Rv_ok : ∀ k, k < 5 → parseFieldDescriptor (F_Rv k).2.2.1 = some (t_Rv k) := by decide +kernel
theorem i_Rv : ∀ w ∈ u_ws R_Rv F_Rv 5, w ∈ tb := x_pl [124, 126, 128, 130, 132] (by decide +kernel)
theorem x_fs_Rv : ∀ j, j < 5 → defaultValue (t_Rv j) = vp_V [.null, .null, .null, .null, .null] j := by decide +kernel
theorem n_Mo : ∀ a, a < 19 → ∀ b, b < 19 → a ≠ b → (F_Mo a).2.1 ≠ (F_Mo b).2.1 := by decide +kernel
theorem t_Mo_ok : ∀ k, k < 19 → parseFieldDescriptor (F_Mo k).2.2.1 = some (t_Mo k) := by decide +kernel
theorem i_Mo : ∀ w ∈ u_ws R_Mo F_Mo 19, w ∈ tb := x_pl [550, 552, 554, 556, 558, 560, 562, 564, 566, 568, 570, 572, 574, 576, 578, 580, 582, 584, 586] (by decide +kernel)
theorem x_fs_Mo : ∀ j, j < 19 → defaultValue (t_Mo j) = vp_V [.int 0, .null, .null, .null, .null, .null, .null, .null, .null, .null, .null, .null, .null, .null, .int 0, .int 0, .int 0, .int 0, .int 0] j := by decide +kernel
abbrev b_Co_init : ByteArray := prog_2_method_1_code
def y_Co_init : MethodName := ⟨"RecordVersions$Content", "<init>", "()V"⟩
def ws_Co_init : List Cond := .code y_Co_init b_Co_init 2 none :: tb
abbrev b_Co_fill : ByteArray := prog_2_method_3_code
def y_Co_fill : MethodName := ⟨"RecordVersions$Content", "fill", "(IIII)V"⟩
def ws_Co_fill : List Cond := .code y_Co_fill b_Co_fill 5 none :: tb
abbrev b_Co_empty : ByteArray := prog_2_method_2_code
def y_Co_empty : MethodName := ⟨"RecordVersions$Content", "empty", "(I)V"⟩
def ws_Co_empty : List Cond := .code y_Co_empty b_Co_empty 2 none :: tb
abbrev b_Co_move : ByteArray := prog_2_method_4_code
def y_Co_move : MethodName := ⟨"RecordVersions$Content", "move", "(II)V"⟩
def ws_Co_move : List Cond := .code y_Co_move b_Co_move 3 none :: tb
abbrev b_Co_takePage : ByteArray := prog_2_method_5_code
def y_Co_takePage : MethodName := ⟨"RecordVersions$Content", "takePage", "(LRecordVersions$Content;I)V"⟩
def ws_Co_takePage : List Cond := .code y_Co_takePage b_Co_takePage 5 none :: tb
abbrev b_Co_isRolled : ByteArray := prog_2_method_6_code
def y_Co_isRolled : MethodName := ⟨"RecordVersions$Content", "isRolled", "(I)Z"⟩
def ws_Co_isRolled : List Cond := .code y_Co_isRolled b_Co_isRolled 2 (some .boolean) :: tb
abbrev b_Co_next : ByteArray := prog_2_method_7_code
def y_Co_next : MethodName := ⟨"RecordVersions$Content", "next", "(I)I"⟩
def ws_Co_next : List Cond := .code y_Co_next b_Co_next 3 (some .int) :: tb
abbrev b_Co_placeAt : ByteArray := prog_2_method_8_code
def y_Co_placeAt : MethodName := ⟨"RecordVersions$Content", "placeAt", "(II)I"⟩
def ws_Co_placeAt : List Cond := .code y_Co_placeAt b_Co_placeAt 5 (some .int) :: tb
abbrev b_Rv_has : ByteArray := prog_1_method_29_code
def y_Rv_has : MethodName := ⟨"RecordVersions", "has", "(JI)Z"⟩
def ws_Rv_has : List Cond := .code y_Rv_has b_Rv_has 3 (some .boolean) :: tb
abbrev b_Co_firstOf : ByteArray := prog_2_method_9_code
def y_Co_firstOf : MethodName := ⟨"RecordVersions$Content", "firstOf", "(JI)I"⟩
def ws_Co_firstOf : List Cond := .code y_Co_firstOf b_Co_firstOf 6 (some .int) :: tb
abbrev b_Co_chainBehind : ByteArray := prog_2_method_10_code
def y_Co_chainBehind : MethodName := ⟨"RecordVersions$Content", "chainBehind", "(I[I)I"⟩
def ws_Co_chainBehind : List Cond := .code y_Co_chainBehind b_Co_chainBehind 5 (some .int) :: tb
abbrev b_Co_leastFree : ByteArray := prog_2_method_11_code
def y_Co_leastFree : MethodName := ⟨"RecordVersions$Content", "leastFree", "()I"⟩
def ws_Co_leastFree : List Cond := .code y_Co_leastFree b_Co_leastFree 2 (some .int) :: tb
abbrev b_Co_freeSlots : ByteArray := prog_2_method_12_code
def y_Co_freeSlots : MethodName := ⟨"RecordVersions$Content", "freeSlots", "()I"⟩
def ws_Co_freeSlots : List Cond := .code y_Co_freeSlots b_Co_freeSlots 3 (some .int) :: tb
abbrev b_Co_leastUnused : ByteArray := prog_2_method_13_code
def y_Co_leastUnused : MethodName := ⟨"RecordVersions$Content", "leastUnused", "()I"⟩
def ws_Co_leastUnused : List Cond := .code y_Co_leastUnused b_Co_leastUnused 2 (some .int) :: tb
abbrev b_Co_setIn : ByteArray := prog_2_method_16_code
def y_Co_setIn : MethodName := ⟨"RecordVersions$Content", "setIn", "(I)J"⟩
def ws_Co_setIn : List Cond := .code y_Co_setIn b_Co_setIn 5 (some .long) :: tb
abbrev b_JL_bitCount : ByteArray := prog_11_method_50_code
def y_JL_bitCount : MethodName := ⟨"java/lang/Long", "bitCount", "(J)I"⟩
def ws_JL_bitCount : List Cond := .code y_JL_bitCount b_JL_bitCount 2 (some .int) :: tb
abbrev b_Co_active : ByteArray := prog_2_method_14_code
def y_Co_active : MethodName := ⟨"RecordVersions$Content", "active", "()I"⟩
def ws_Co_active : List Cond := .code y_Co_active b_Co_active 1 (some .int) :: tb
abbrev b_Co_committed : ByteArray := prog_2_method_15_code
def y_Co_committed : MethodName := ⟨"RecordVersions$Content", "committed", "()J"⟩
def ws_Co_committed : List Cond := .code y_Co_committed b_Co_committed 1 (some .long) :: tb
abbrev b_St_init : ByteArray := prog_3_method_1_code
def y_St_init : MethodName := ⟨"RecordVersions$Store", "<init>", "()V"⟩
def ws_St_init : List Cond := .code y_St_init b_St_init 1 none :: tb
abbrev b_St_changed : ByteArray := prog_3_method_2_code
def y_St_changed : MethodName := ⟨"RecordVersions$Store", "changed", "(I)V"⟩
def ws_St_changed : List Cond := .code y_St_changed b_St_changed 2 none :: tb
abbrev b_St_failsNow : ByteArray := prog_3_method_5_code
def y_St_failsNow : MethodName := ⟨"RecordVersions$Store", "failsNow", "()Z"⟩
def ws_St_failsNow : List Cond := .code y_St_failsNow b_St_failsNow 1 (some .boolean) :: tb
abbrev b_St_settle : ByteArray := prog_3_method_6_code
def y_St_settle : MethodName := ⟨"RecordVersions$Store", "settle", "(I)V"⟩
def ws_St_settle : List Cond := .code y_St_settle b_St_settle 3 none :: tb
abbrev b_St_fall : ByteArray := prog_3_method_9_code
def y_St_fall : MethodName := ⟨"RecordVersions$Store", "fall", "()V"⟩
def ws_St_fall : List Cond := .code y_St_fall b_St_fall 2 none :: tb
abbrev b_St_put : ByteArray := prog_3_method_4_code
def y_St_put : MethodName := ⟨"RecordVersions$Store", "put", "(II)Z"⟩
def ws_St_put : List Cond := .code y_St_put b_St_put 4 (some .boolean) :: tb
abbrev b_St_putDirty : ByteArray := prog_3_method_3_code
def y_St_putDirty : MethodName := ⟨"RecordVersions$Store", "putDirty", "(I)Z"⟩
def ws_St_putDirty : List Cond := .code y_St_putDirty b_St_putDirty 3 (some .boolean) :: tb
abbrev b_St_mustPrecede : ByteArray := prog_3_method_8_code
def y_St_mustPrecede : MethodName := ⟨"RecordVersions$Store", "mustPrecede", "(II)Z"⟩
def ws_St_mustPrecede : List Cond := .code y_St_mustPrecede b_St_mustPrecede 6 (some .boolean) :: tb
abbrev b_St_note : ByteArray := prog_3_method_7_code
def y_St_note : MethodName := ⟨"RecordVersions$Store", "note", "(II)Z"⟩
def ws_St_note : List Cond := .code y_St_note b_St_note 3 (some .boolean) :: tb
abbrev b_Rv_init : ByteArray := prog_1_method_1_code
def y_Rv_init : MethodName := ⟨"RecordVersions", "<init>", "()V"⟩
def ws_Rv_init : List Cond := .code y_Rv_init b_Rv_init 1 none :: tb
abbrev b_Rv_begin : ByteArray := prog_1_method_2_code
def y_Rv_begin : MethodName := ⟨"RecordVersions", "begin", "()I"⟩
def ws_Rv_begin : List Cond := .code y_Rv_begin b_Rv_begin 2 (some .int) :: tb
abbrev b_Rv_demandRecord : ByteArray := prog_1_method_17_code
def y_Rv_demandRecord : MethodName := ⟨"RecordVersions", "demandRecord", "(I)V"⟩
def ws_Rv_demandRecord : List Cond := .code y_Rv_demandRecord b_Rv_demandRecord 1 none :: tb
abbrev b_Rv_demandActive : ByteArray := prog_1_method_18_code
def y_Rv_demandActive : MethodName := ⟨"RecordVersions", "demandActive", "(I)V"⟩
def ws_Rv_demandActive : List Cond := .code y_Rv_demandActive b_Rv_demandActive 2 none :: tb
abbrev b_Rv_seenBy : ByteArray := prog_1_method_21_code
def y_Rv_seenBy : MethodName := ⟨"RecordVersions", "seenBy", "(I)J"⟩
def ws_Rv_seenBy : List Cond := .code y_Rv_seenBy b_Rv_seenBy 2 (some .long) :: tb
abbrev b_Rv_placeSeen : ByteArray := prog_1_method_20_code
def y_Rv_placeSeen : MethodName := ⟨"RecordVersions", "placeSeen", "(II)I"⟩
def ws_Rv_placeSeen : List Cond := .code y_Rv_placeSeen b_Rv_placeSeen 3 (some .int) :: tb
abbrev b_Rv_demandValue : ByteArray := prog_1_method_19_code
def y_Rv_demandValue : MethodName := ⟨"RecordVersions", "demandValue", "(LRecordVersions$Content;I)I"⟩
def ws_Rv_demandValue : List Cond := .code y_Rv_demandValue b_Rv_demandValue 2 (some .int) :: tb
abbrev b_Rv_read : ByteArray := prog_1_method_3_code
def y_Rv_read : MethodName := ⟨"RecordVersions", "read", "(II)I"⟩
def ws_Rv_read : List Cond := .code y_Rv_read b_Rv_read 3 (some .int) :: tb
abbrev b_Rv_pageOf : ByteArray := prog_1_method_28_code
def y_Rv_pageOf : MethodName := ⟨"RecordVersions", "pageOf", "(I)I"⟩
def ws_Rv_pageOf : List Cond := .code y_Rv_pageOf b_Rv_pageOf 1 (some .int) :: tb
abbrev b_Rv_clean : ByteArray := prog_1_method_24_code
def y_Rv_clean : MethodName := ⟨"RecordVersions", "clean", "(I)Z"⟩
def ws_Rv_clean : List Cond := .code y_Rv_clean b_Rv_clean 4 (some .boolean) :: tb
abbrev b_Rv_changedBy : ByteArray := prog_1_method_23_code
def y_Rv_changedBy : MethodName := ⟨"RecordVersions", "changedBy", "(II)V"⟩
def ws_Rv_changedBy : List Cond := .code y_Rv_changedBy b_Rv_changedBy 3 none :: tb
abbrev b_Rv_change : ByteArray := prog_1_method_22_code
def y_Rv_change : MethodName := ⟨"RecordVersions", "change", "(III)I"⟩
def ws_Rv_change : List Cond := .code y_Rv_change b_Rv_change 6 (some .int) :: tb
abbrev b_Rv_write : ByteArray := prog_1_method_4_code
def y_Rv_write : MethodName := ⟨"RecordVersions", "write", "(III)I"⟩
def ws_Rv_write : List Cond := .code y_Rv_write b_Rv_write 4 (some .int) :: tb
abbrev b_Rv_erase : ByteArray := prog_1_method_5_code
def y_Rv_erase : MethodName := ⟨"RecordVersions", "erase", "(II)I"⟩
def ws_Rv_erase : List Cond := .code y_Rv_erase b_Rv_erase 3 (some .int) :: tb
abbrev b_Rv_commit : ByteArray := prog_1_method_6_code
def y_Rv_commit : MethodName := ⟨"RecordVersions", "commit", "(I)I"⟩
def ws_Rv_commit : List Cond := .code y_Rv_commit b_Rv_commit 3 (some .int) :: tb
abbrev b_Rv_rollback : ByteArray := prog_1_method_7_code
def y_Rv_rollback : MethodName := ⟨"RecordVersions", "rollback", "(I)I"⟩
def ws_Rv_rollback : List Cond := .code y_Rv_rollback b_Rv_rollback 2 (some .int) :: tb
abbrev b_Rv_committedForAll : ByteArray := prog_1_method_26_code
def y_Rv_committedForAll : MethodName := ⟨"RecordVersions", "committedForAll", "()J"⟩
def ws_Rv_committedForAll : List Cond := .code y_Rv_committedForAll b_Rv_committedForAll 4 (some .long) :: tb
abbrev b_Rv_cutBehind : ByteArray := prog_1_method_27_code
def y_Rv_cutBehind : MethodName := ⟨"RecordVersions", "cutBehind", "(II)I"⟩
def ws_Rv_cutBehind : List Cond := .code y_Rv_cutBehind b_Rv_cutBehind 6 (some .int) :: tb
abbrev b_Rv_sweepRecord : ByteArray := prog_1_method_25_code
def y_Rv_sweepRecord : MethodName := ⟨"RecordVersions", "sweepRecord", "(I)I"⟩
def ws_Rv_sweepRecord : List Cond := .code y_Rv_sweepRecord b_Rv_sweepRecord 4 (some .int) :: tb
abbrev b_Rv_sweep : ByteArray := prog_1_method_8_code
def y_Rv_sweep : MethodName := ⟨"RecordVersions", "sweep", "()I"⟩
def ws_Rv_sweep : List Cond := .code y_Rv_sweep b_Rv_sweep 4 (some .int) :: tb
abbrev b_Rv_flush : ByteArray := prog_1_method_9_code
def y_Rv_flush : MethodName := ⟨"RecordVersions", "flush", "()I"⟩
def ws_Rv_flush : List Cond := .code y_Rv_flush b_Rv_flush 2 (some .int) :: tb
abbrev b_Rv_fail : ByteArray := prog_1_method_10_code
def y_Rv_fail : MethodName := ⟨"RecordVersions", "fail", "(I)I"⟩
def ws_Rv_fail : List Cond := .code y_Rv_fail b_Rv_fail 3 (some .int) :: tb
abbrev b_Rv_crash : ByteArray := prog_1_method_11_code
def y_Rv_crash : MethodName := ⟨"RecordVersions", "crash", "()I"⟩
def ws_Rv_crash : List Cond := .code y_Rv_crash b_Rv_crash 2 (some .int) :: tb
abbrev b_Rv_image : ByteArray := prog_1_method_12_code
def y_Rv_image : MethodName := ⟨"RecordVersions", "image", "(I)I"⟩
def ws_Rv_image : List Cond := .code y_Rv_image b_Rv_image 2 (some .int) :: tb
abbrev b_Rv_state : ByteArray := prog_1_method_13_code
def y_Rv_state : MethodName := ⟨"RecordVersions", "state", "(I)I"⟩
def ws_Rv_state : List Cond := .code y_Rv_state b_Rv_state 2 (some .int) :: tb
abbrev b_Rv_version : ByteArray := prog_1_method_14_code
def y_Rv_version : MethodName := ⟨"RecordVersions", "version", "(III)I"⟩
def ws_Rv_version : List Cond := .code y_Rv_version b_Rv_version 5 (some .int) :: tb
abbrev b_Rv_page : ByteArray := prog_1_method_15_code
def y_Rv_page : MethodName := ⟨"RecordVersions", "page", "(I)I"⟩
def ws_Rv_page : List Cond := .code y_Rv_page b_Rv_page 2 (some .int) :: tb
abbrev b_JI_bitCount : ByteArray := prog_10_method_49_code
def y_JI_bitCount : MethodName := ⟨"java/lang/Integer", "bitCount", "(I)I"⟩
def ws_JI_bitCount : List Cond := .code y_JI_bitCount b_JI_bitCount 1 (some .int) :: tb
abbrev b_Rv_count : ByteArray := prog_1_method_16_code
def y_Rv_count : MethodName := ⟨"RecordVersions", "count", "(I)I"⟩
def ws_Rv_count : List Cond := .code y_Rv_count b_Rv_count 2 (some .int) :: tb
abbrev b_Mo_init : ByteArray := prog_5_method_1_code
def y_Mo_init : MethodName := ⟨"RecordVersionsModel", "<init>", "()V"⟩
def ws_Mo_init : List Cond := .code y_Mo_init b_Mo_init 2 none :: tb
abbrev b_Mo_thrown : ByteArray := prog_5_method_2_code
def y_Mo_thrown : MethodName := ⟨"RecordVersionsModel", "thrown", "()I"⟩
def ws_Mo_thrown : List Cond := .code y_Mo_thrown b_Mo_thrown 1 (some .int) :: tb
abbrev b_Mo_raise : ByteArray := prog_5_method_3_code
def y_Mo_raise : MethodName := ⟨"RecordVersionsModel", "raise", "(I)I"⟩
def ws_Mo_raise : List Cond := .code y_Mo_raise b_Mo_raise 2 (some .int) :: tb
abbrev b_Mo_in : ByteArray := prog_5_method_4_code
def y_Mo_in : MethodName := ⟨"RecordVersionsModel", "in", "(III)Z"⟩
def ws_Mo_in : List Cond := .code y_Mo_in b_Mo_in 3 (some .boolean) :: tb
abbrev b_Mo_pageOf : ByteArray := prog_5_method_5_code
def y_Mo_pageOf : MethodName := ⟨"RecordVersionsModel", "pageOf", "(I)I"⟩
def ws_Mo_pageOf : List Cond := .code y_Mo_pageOf b_Mo_pageOf 1 (some .int) :: tb
abbrev b_Mo_fall : ByteArray := prog_5_method_6_code
def y_Mo_fall : MethodName := ⟨"RecordVersionsModel", "fall", "()V"⟩
def ws_Mo_fall : List Cond := .code y_Mo_fall b_Mo_fall 2 none :: tb
abbrev b_Mo_put : ByteArray := prog_5_method_7_code
def y_Mo_put : MethodName := ⟨"RecordVersionsModel", "put", "(I)V"⟩
def ws_Mo_put : List Cond := .code y_Mo_put b_Mo_put 3 none :: tb
abbrev b_Mo_waitsFor : ByteArray := prog_5_method_8_code
def y_Mo_waitsFor : MethodName := ⟨"RecordVersionsModel", "waitsFor", "(I)I"⟩
def ws_Mo_waitsFor : List Cond := .code y_Mo_waitsFor b_Mo_waitsFor 3 (some .int) :: tb
abbrev b_Mo_store : ByteArray := prog_5_method_9_code
def y_Mo_store : MethodName := ⟨"RecordVersionsModel", "store", "(I)V"⟩
def ws_Mo_store : List Cond := .code y_Mo_store b_Mo_store 4 none :: tb
abbrev b_Mo_before : ByteArray := prog_5_method_10_code
def y_Mo_before : MethodName := ⟨"RecordVersionsModel", "before", "(I)I"⟩
def ws_Mo_before : List Cond := .code y_Mo_before b_Mo_before 5 (some .int) :: tb
abbrev b_Mo_note : ByteArray := prog_5_method_11_code
def y_Mo_note : MethodName := ⟨"RecordVersionsModel", "note", "(II)V"⟩
def ws_Mo_note : List Cond := .code y_Mo_note b_Mo_note 3 none :: tb
abbrev b_Mo_done : ByteArray := prog_5_method_12_code
def y_Mo_done : MethodName := ⟨"RecordVersionsModel", "done", "(I)I"⟩
def ws_Mo_done : List Cond := .code y_Mo_done b_Mo_done 2 (some .int) :: tb
abbrev b_Mo_begun : ByteArray := prog_5_method_13_code
def y_Mo_begun : MethodName := ⟨"RecordVersionsModel", "begun", "()V"⟩
def ws_Mo_begun : List Cond := .code y_Mo_begun b_Mo_begun 1 none :: tb
abbrev b_Mo_actives : ByteArray := prog_5_method_14_code
def y_Mo_actives : MethodName := ⟨"RecordVersionsModel", "actives", "()I"⟩
def ws_Mo_actives : List Cond := .code y_Mo_actives b_Mo_actives 3 (some .int) :: tb
abbrev b_Mo_idle : ByteArray := prog_5_method_15_code
def y_Mo_idle : MethodName := ⟨"RecordVersionsModel", "idle", "(I)Z"⟩
def ws_Mo_idle : List Cond := .code y_Mo_idle b_Mo_idle 2 (some .boolean) :: tb
abbrev b_Mo_begin : ByteArray := prog_5_method_16_code
def y_Mo_begin : MethodName := ⟨"RecordVersionsModel", "begin", "()I"⟩
def ws_Mo_begin : List Cond := .code y_Mo_begin b_Mo_begin 3 (some .int) :: tb
abbrev b_Mo_seen : ByteArray := prog_5_method_17_code
def y_Mo_seen : MethodName := ⟨"RecordVersionsModel", "seen", "(II)Z"⟩
def ws_Mo_seen : List Cond := .code y_Mo_seen b_Mo_seen 3 (some .boolean) :: tb
abbrev b_Mo_behind : ByteArray := prog_5_method_18_code
def y_Mo_behind : MethodName := ⟨"RecordVersionsModel", "behind", "(I)I"⟩
def ws_Mo_behind : List Cond := .code y_Mo_behind b_Mo_behind 2 (some .int) :: tb
abbrev b_Mo_reads : ByteArray := prog_5_method_19_code
def y_Mo_reads : MethodName := ⟨"RecordVersionsModel", "reads", "(II)I"⟩
def ws_Mo_reads : List Cond := .code y_Mo_reads b_Mo_reads 4 (some .int) :: tb
abbrev b_Mo_read : ByteArray := prog_5_method_20_code
def y_Mo_read : MethodName := ⟨"RecordVersionsModel", "read", "(II)I"⟩
def ws_Mo_read : List Cond := .code y_Mo_read b_Mo_read 4 (some .int) :: tb
abbrev b_Mo_free : ByteArray := prog_5_method_21_code
def y_Mo_free : MethodName := ⟨"RecordVersionsModel", "free", "(I)V"⟩
def ws_Mo_free : List Cond := .code y_Mo_free b_Mo_free 2 none :: tb
abbrev b_Mo_move : ByteArray := prog_5_method_22_code
def y_Mo_move : MethodName := ⟨"RecordVersionsModel", "move", "(II)V"⟩
def ws_Mo_move : List Cond := .code y_Mo_move b_Mo_move 3 none :: tb
abbrev b_Mo_clean : ByteArray := prog_5_method_23_code
def y_Mo_clean : MethodName := ⟨"RecordVersionsModel", "clean", "(I)V"⟩
def ws_Mo_clean : List Cond := .code y_Mo_clean b_Mo_clean 3 none :: tb
abbrev b_Mo_change : ByteArray := prog_5_method_24_code
def y_Mo_change : MethodName := ⟨"RecordVersionsModel", "change", "(III)V"⟩
def ws_Mo_change : List Cond := .code y_Mo_change b_Mo_change 6 none :: tb
abbrev b_Mo_write : ByteArray := prog_5_method_25_code
def y_Mo_write : MethodName := ⟨"RecordVersionsModel", "write", "(III)I"⟩
def ws_Mo_write : List Cond := .code y_Mo_write b_Mo_write 4 (some .int) :: tb
abbrev b_Mo_erase : ByteArray := prog_5_method_26_code
def y_Mo_erase : MethodName := ⟨"RecordVersionsModel", "erase", "(II)I"⟩
def ws_Mo_erase : List Cond := .code y_Mo_erase b_Mo_erase 3 (some .int) :: tb
abbrev b_Mo_commit : ByteArray := prog_5_method_27_code
def y_Mo_commit : MethodName := ⟨"RecordVersionsModel", "commit", "(I)I"⟩
def ws_Mo_commit : List Cond := .code y_Mo_commit b_Mo_commit 4 (some .int) :: tb
abbrev b_Mo_rollback : ByteArray := prog_5_method_28_code
def y_Mo_rollback : MethodName := ⟨"RecordVersionsModel", "rollback", "(I)I"⟩
def ws_Mo_rollback : List Cond := .code y_Mo_rollback b_Mo_rollback 2 (some .int) :: tb
abbrev b_Mo_settled : ByteArray := prog_5_method_29_code
def y_Mo_settled : MethodName := ⟨"RecordVersionsModel", "settled", "(I)Z"⟩
def ws_Mo_settled : List Cond := .code y_Mo_settled b_Mo_settled 3 (some .boolean) :: tb
abbrev b_Mo_sweepOne : ByteArray := prog_5_method_30_code
def y_Mo_sweepOne : MethodName := ⟨"RecordVersionsModel", "sweepOne", "(I)I"⟩
def ws_Mo_sweepOne : List Cond := .code y_Mo_sweepOne b_Mo_sweepOne 6 (some .int) :: tb
abbrev b_Mo_sweep : ByteArray := prog_5_method_31_code
def y_Mo_sweep : MethodName := ⟨"RecordVersionsModel", "sweep", "()I"⟩
def ws_Mo_sweep : List Cond := .code y_Mo_sweep b_Mo_sweep 3 (some .int) :: tb
abbrev b_Mo_flush : ByteArray := prog_5_method_32_code
def y_Mo_flush : MethodName := ⟨"RecordVersionsModel", "flush", "()I"⟩
def ws_Mo_flush : List Cond := .code y_Mo_flush b_Mo_flush 3 (some .int) :: tb
abbrev b_Mo_fail : ByteArray := prog_5_method_33_code
def y_Mo_fail : MethodName := ⟨"RecordVersionsModel", "fail", "(I)I"⟩
def ws_Mo_fail : List Cond := .code y_Mo_fail b_Mo_fail 3 (some .int) :: tb
abbrev b_Mo_crash : ByteArray := prog_5_method_34_code
def y_Mo_crash : MethodName := ⟨"RecordVersionsModel", "crash", "()I"⟩
def ws_Mo_crash : List Cond := .code y_Mo_crash b_Mo_crash 2 (some .int) :: tb
abbrev b_Mo_image : ByteArray := prog_5_method_35_code
def y_Mo_image : MethodName := ⟨"RecordVersionsModel", "image", "(I)I"⟩
def ws_Mo_image : List Cond := .code y_Mo_image b_Mo_image 4 (some .int) :: tb
abbrev b_Mo_state : ByteArray := prog_5_method_36_code
def y_Mo_state : MethodName := ⟨"RecordVersionsModel", "state", "(I)I"⟩
def ws_Mo_state : List Cond := .code y_Mo_state b_Mo_state 2 (some .int) :: tb
abbrev b_Mo_version : ByteArray := prog_5_method_37_code
def y_Mo_version : MethodName := ⟨"RecordVersionsModel", "version", "(III)I"⟩
def ws_Mo_version : List Cond := .code y_Mo_version b_Mo_version 6 (some .int) :: tb
abbrev b_Mo_page : ByteArray := prog_5_method_38_code
def y_Mo_page : MethodName := ⟨"RecordVersionsModel", "page", "(I)I"⟩
def ws_Mo_page : List Cond := .code y_Mo_page b_Mo_page 2 (some .int) :: tb
abbrev b_Mo_count : ByteArray := prog_5_method_39_code
def y_Mo_count : MethodName := ⟨"RecordVersionsModel", "count", "(I)I"⟩
def ws_Mo_count : List Cond := .code y_Mo_count b_Mo_count 4 (some .int) :: tb
theorem k_0 : Cond.methodLink "RecordVersions$Content" 3 objectInit ∈ tb := x_in (i := 70) (by decide +kernel) rfl
theorem k_1 : Cond.instanceMethod objectInit ∈ tb := x_in (i := 57) (by decide +kernel) rfl
theorem k_2 : Cond.code objectInit ⟨#[0xb1]⟩ 1 none ∈ tb := x_in (i := 58) (by decide +kernel) rfl
theorem k_3 : Cond.arrayClass .int ∈ tb := x_in (i := 89) (by decide +kernel) rfl
theorem k_4 : Cond.fieldLink "RecordVersions$Content" 9 "RecordVersions$Content" "owners" "[I" ∈ tb := x_in (i := 71) (by decide +kernel) rfl
theorem k_5 : Cond.fieldLink "RecordVersions$Content" 15 "RecordVersions$Content" "values" "[I" ∈ tb := x_in (i := 73) (by decide +kernel) rfl
theorem k_6 : Cond.fieldLink "RecordVersions$Content" 18 "RecordVersions$Content" "links" "[I" ∈ tb := x_in (i := 75) (by decide +kernel) rfl
theorem k_7 : Cond.fieldLink "RecordVersions$Content" 21 "RecordVersions$Content" "states" "[I" ∈ tb := x_in (i := 77) (by decide +kernel) rfl
theorem k_8 : Cond.methodLink "RecordVersions$Content" 24 y_Co_fill ∈ tb := x_in (i := 156) (by decide +kernel) rfl
theorem k_9 : Cond.instanceMethod y_Co_fill ∈ tb := x_in (i := 157) (by decide +kernel) rfl
theorem k_10 : Cond.selects "RecordVersions$Content" y_Co_fill y_Co_fill ∈ tb := x_in (i := 158) (by decide +kernel) rfl
theorem k_11 : Cond.initialized "RecordVersions$Content" ∈ tb := x_in (i := 38) (by decide +kernel) rfl
theorem k_12 : Cond.code y_Co_fill b_Co_fill 5 none ∈ tb := x_in (i := 159) (by decide +kernel) rfl
theorem k_13 : Cond.methodLink "RecordVersions$Content" 28 arraycopyName ∈ tb := x_in (i := 190) (by decide +kernel) rfl
theorem k_14 : Cond.native arraycopyName ∈ tb := x_in (i := 192) (by decide +kernel) rfl
theorem k_15 : Cond.static arraycopyName ∈ tb := x_in (i := 191) (by decide +kernel) rfl
theorem k_16 : Cond.initialized "java/lang/System" ∈ tb := x_in (i := 45) (by decide +kernel) rfl
theorem k_17 : Cond.methodLink "RecordVersions$Content" 34 y_Co_next ∈ tb := x_in (i := 226) (by decide +kernel) rfl
theorem k_18 : Cond.instanceMethod y_Co_next ∈ tb := x_in (i := 227) (by decide +kernel) rfl
theorem k_19 : Cond.selects "RecordVersions$Content" y_Co_next y_Co_next ∈ tb := x_in (i := 228) (by decide +kernel) rfl
theorem k_20 : Cond.code y_Co_next b_Co_next 3 (some .int) ∈ tb := x_in (i := 229) (by decide +kernel) rfl
theorem k_21 : Cond.methodLinkNest "RecordVersions$Content" 42 y_Rv_has "RecordVersions" ∈ tb := x_in (i := 230) (by decide +kernel) rfl
theorem k_22 : Cond.static y_Rv_has ∈ tb := x_in (i := 172) (by decide +kernel) rfl
theorem k_23 : Cond.initialized "RecordVersions" ∈ tb := x_in (i := 36) (by decide +kernel) rfl
theorem k_24 : Cond.code y_Rv_has b_Rv_has 3 (some .boolean) ∈ tb := x_in (i := 173) (by decide +kernel) rfl
theorem k_25 : Cond.methodLink "RecordVersions$Content" 38 y_Co_placeAt ∈ tb := x_in (i := 222) (by decide +kernel) rfl
theorem k_26 : Cond.instanceMethod y_Co_placeAt ∈ tb := x_in (i := 223) (by decide +kernel) rfl
theorem k_27 : Cond.selects "RecordVersions$Content" y_Co_placeAt y_Co_placeAt ∈ tb := x_in (i := 224) (by decide +kernel) rfl
theorem k_28 : Cond.code y_Co_placeAt b_Co_placeAt 5 (some .int) ∈ tb := x_in (i := 225) (by decide +kernel) rfl
theorem k_29 : Cond.constantLong "java/lang/Long" 314 (6148914691236517205 : Int64) ∈ tb := x_in (i := 258) (by decide +kernel) rfl
theorem k_30 : Cond.constantLong "java/lang/Long" 316 (3689348814741910323 : Int64) ∈ tb := x_in (i := 259) (by decide +kernel) rfl
theorem k_31 : Cond.constantLong "java/lang/Long" 318 (1085102592571150095 : Int64) ∈ tb := x_in (i := 260) (by decide +kernel) rfl
theorem k_32 : Cond.methodLink "RecordVersions$Content" 50 y_JL_bitCount ∈ tb := x_in (i := 255) (by decide +kernel) rfl
theorem k_33 : Cond.static y_JL_bitCount ∈ tb := x_in (i := 256) (by decide +kernel) rfl
theorem k_34 : Cond.initialized "java/lang/Long" ∈ tb := x_in (i := 40) (by decide +kernel) rfl
theorem k_35 : Cond.code y_JL_bitCount b_JL_bitCount 2 (some .int) ∈ tb := x_in (i := 257) (by decide +kernel) rfl
theorem k_36 : Cond.methodLink "RecordVersions$Content" 46 y_Co_setIn ∈ tb := x_in (i := 214) (by decide +kernel) rfl
theorem k_37 : Cond.instanceMethod y_Co_setIn ∈ tb := x_in (i := 216) (by decide +kernel) rfl
theorem k_38 : Cond.selects "RecordVersions$Content" y_Co_setIn y_Co_setIn ∈ tb := x_in (i := 7) (by decide +kernel) rfl
theorem k_39 : Cond.code y_Co_setIn b_Co_setIn 5 (some .long) ∈ tb := x_in (i := 217) (by decide +kernel) rfl
theorem k_40 : Cond.methodLink "RecordVersions$Store" 3 objectInit ∈ tb := x_in (i := 64) (by decide +kernel) rfl
theorem k_41 : Cond.classLink "RecordVersions$Store" 9 "RecordVersions$Content" ∈ tb := x_in (i := 65) (by decide +kernel) rfl
theorem k_42 : Cond.instantiable "RecordVersions$Content" 4 ∈ tb := x_in (i := 66) (by decide +kernel) rfl
theorem k_43 : Cond.methodLink "RecordVersions$Store" 11 y_Co_init ∈ tb := x_in (i := 67) (by decide +kernel) rfl
theorem k_44 : Cond.instanceMethod y_Co_init ∈ tb := x_in (i := 68) (by decide +kernel) rfl
theorem k_45 : Cond.code y_Co_init b_Co_init 2 none ∈ tb := x_in (i := 69) (by decide +kernel) rfl
theorem k_46 : Cond.fieldLink "RecordVersions$Store" 12 "RecordVersions$Store" "memory" "LRecordVersions$Content;" ∈ tb := x_in (i := 90) (by decide +kernel) rfl
theorem k_47 : Cond.fieldLink "RecordVersions$Store" 18 "RecordVersions$Store" "disk" "LRecordVersions$Content;" ∈ tb := x_in (i := 92) (by decide +kernel) rfl
theorem k_48 : Cond.fieldLink "RecordVersions$Store" 21 "RecordVersions$Store" "earlier" "[I" ∈ tb := x_in (i := 94) (by decide +kernel) rfl
theorem k_49 : Cond.fieldLink "RecordVersions$Store" 25 "RecordVersions$Store" "dirty" "I" ∈ tb := x_in (i := 96) (by decide +kernel) rfl
theorem k_50 : Cond.fieldLink "RecordVersions$Store" 52 "RecordVersions$Store" "failure" "I" ∈ tb := x_in (i := 102) (by decide +kernel) rfl
theorem k_51 : Cond.fieldLink "RecordVersions$Store" 55 "RecordVersions$Store" "written" "I" ∈ tb := x_in (i := 99) (by decide +kernel) rfl
theorem k_52 : Cond.methodLink "RecordVersions$Store" 48 y_St_settle ∈ tb := x_in (i := 197) (by decide +kernel) rfl
theorem k_53 : Cond.instanceMethod y_St_settle ∈ tb := x_in (i := 199) (by decide +kernel) rfl
theorem k_54 : Cond.selects "RecordVersions$Store" y_St_settle y_St_settle ∈ tb := x_in (i := 5) (by decide +kernel) rfl
theorem k_55 : Cond.initialized "RecordVersions$Store" ∈ tb := x_in (i := 37) (by decide +kernel) rfl
theorem k_56 : Cond.code y_St_settle b_St_settle 3 none ∈ tb := x_in (i := 200) (by decide +kernel) rfl
theorem k_57 : Cond.methodLink "RecordVersions$Store" 44 y_Co_takePage ∈ tb := x_in (i := 186) (by decide +kernel) rfl
theorem k_58 : Cond.instanceMethod y_Co_takePage ∈ tb := x_in (i := 187) (by decide +kernel) rfl
theorem k_59 : Cond.selects "RecordVersions$Content" y_Co_takePage y_Co_takePage ∈ tb := x_in (i := 188) (by decide +kernel) rfl
theorem k_60 : Cond.code y_Co_takePage b_Co_takePage 5 none ∈ tb := x_in (i := 189) (by decide +kernel) rfl
theorem k_61 : Cond.fieldLink "RecordVersions$Store" 61 "RecordVersions$Store" "crashes" "I" ∈ tb := x_in (i := 100) (by decide +kernel) rfl
theorem k_62 : Cond.fieldLink "RecordVersions$Store" 64 "RecordVersions$Content" "states" "[I" ∈ tb := x_in (i := 79) (by decide +kernel) rfl
theorem k_63 : Cond.methodLink "RecordVersions$Store" 67 y_St_changed ∈ tb := x_in (i := 193) (by decide +kernel) rfl
theorem k_64 : Cond.instanceMethod y_St_changed ∈ tb := x_in (i := 194) (by decide +kernel) rfl
theorem k_65 : Cond.selects "RecordVersions$Store" y_St_changed y_St_changed ∈ tb := x_in (i := 195) (by decide +kernel) rfl
theorem k_66 : Cond.code y_St_changed b_St_changed 2 none ∈ tb := x_in (i := 196) (by decide +kernel) rfl
theorem k_67 : Cond.methodLink "RecordVersions$Store" 41 y_St_fall ∈ tb := x_in (i := 182) (by decide +kernel) rfl
theorem k_68 : Cond.instanceMethod y_St_fall ∈ tb := x_in (i := 183) (by decide +kernel) rfl
theorem k_69 : Cond.selects "RecordVersions$Store" y_St_fall y_St_fall ∈ tb := x_in (i := 184) (by decide +kernel) rfl
theorem k_70 : Cond.code y_St_fall b_St_fall 2 none ∈ tb := x_in (i := 185) (by decide +kernel) rfl
theorem k_71 : Cond.methodLink "RecordVersions$Store" 37 y_St_failsNow ∈ tb := x_in (i := 178) (by decide +kernel) rfl
theorem k_72 : Cond.instanceMethod y_St_failsNow ∈ tb := x_in (i := 180) (by decide +kernel) rfl
theorem k_73 : Cond.selects "RecordVersions$Store" y_St_failsNow y_St_failsNow ∈ tb := x_in (i := 4) (by decide +kernel) rfl
theorem k_74 : Cond.code y_St_failsNow b_St_failsNow 1 (some .boolean) ∈ tb := x_in (i := 181) (by decide +kernel) rfl
theorem k_75 : Cond.methodLink "RecordVersions$Store" 33 y_St_put ∈ tb := x_in (i := 174) (by decide +kernel) rfl
theorem k_76 : Cond.instanceMethod y_St_put ∈ tb := x_in (i := 176) (by decide +kernel) rfl
theorem k_77 : Cond.selects "RecordVersions$Store" y_St_put y_St_put ∈ tb := x_in (i := 3) (by decide +kernel) rfl
theorem k_78 : Cond.code y_St_put b_St_put 4 (some .boolean) ∈ tb := x_in (i := 177) (by decide +kernel) rfl
theorem k_79 : Cond.methodLinkNest "RecordVersions$Store" 29 y_Rv_has "RecordVersions" ∈ tb := x_in (i := 171) (by decide +kernel) rfl
theorem k_80 : Cond.methodLink "RecordVersions$Store" 58 y_St_mustPrecede ∈ tb := x_in (i := 167) (by decide +kernel) rfl
theorem k_81 : Cond.instanceMethod y_St_mustPrecede ∈ tb := x_in (i := 169) (by decide +kernel) rfl
theorem k_82 : Cond.selects "RecordVersions$Store" y_St_mustPrecede y_St_mustPrecede ∈ tb := x_in (i := 2) (by decide +kernel) rfl
theorem k_83 : Cond.code y_St_mustPrecede b_St_mustPrecede 6 (some .boolean) ∈ tb := x_in (i := 170) (by decide +kernel) rfl
theorem k_84 : Cond.methodLink "RecordVersions" 3 objectInit ∈ tb := x_in (i := 56) (by decide +kernel) rfl
theorem k_85 : Cond.classLink "RecordVersions" 9 "RecordVersions$Store" ∈ tb := x_in (i := 59) (by decide +kernel) rfl
theorem k_86 : Cond.instantiable "RecordVersions$Store" 7 ∈ tb := x_in (i := 60) (by decide +kernel) rfl
theorem k_87 : Cond.methodLink "RecordVersions" 11 y_St_init ∈ tb := x_in (i := 61) (by decide +kernel) rfl
theorem k_88 : Cond.instanceMethod y_St_init ∈ tb := x_in (i := 62) (by decide +kernel) rfl
theorem k_89 : Cond.code y_St_init b_St_init 1 none ∈ tb := x_in (i := 63) (by decide +kernel) rfl
theorem k_90 : Cond.fieldLink "RecordVersions" 12 "RecordVersions" "store" "LRecordVersions$Store;" ∈ tb := x_in (i := 119) (by decide +kernel) rfl
theorem k_91 : Cond.fieldLink "RecordVersions" 16 "RecordVersions$Store" "memory" "LRecordVersions$Content;" ∈ tb := x_in (i := 91) (by decide +kernel) rfl
theorem k_92 : Cond.fieldLink "RecordVersions" 20 "RecordVersions" "memory" "LRecordVersions$Content;" ∈ tb := x_in (i := 120) (by decide +kernel) rfl
theorem k_93 : Cond.arrayClass .long ∈ tb := x_in (i := 135) (by decide +kernel) rfl
theorem k_94 : Cond.fieldLink "RecordVersions" 21 "RecordVersions" "committedBefore" "[J" ∈ tb := x_in (i := 121) (by decide +kernel) rfl
theorem k_95 : Cond.fieldLink "RecordVersions" 25 "RecordVersions" "changedPages" "[I" ∈ tb := x_in (i := 122) (by decide +kernel) rfl
theorem k_96 : Cond.fieldLink "RecordVersions" 29 "RecordVersions" "behind" "[I" ∈ tb := x_in (i := 123) (by decide +kernel) rfl
theorem k_97 : Cond.classLink "RecordVersions" 41 "java/lang/IllegalStateException" ∈ tb := x_in (i := 274) (by decide +kernel) rfl
theorem k_98 : Cond.initialized "java/lang/IllegalStateException" ∈ tb := x_in (i := 44) (by decide +kernel) rfl
theorem k_99 : Cond.fieldLink "RecordVersions" 48 "RecordVersions$Content" "states" "[I" ∈ tb := x_in (i := 78) (by decide +kernel) rfl
theorem k_100 : Cond.methodLinkNest "RecordVersions" 55 y_St_put "RecordVersions" ∈ tb := x_in (i := 339) (by decide +kernel) rfl
theorem k_101 : Cond.methodLink "RecordVersions" 51 y_St_changed ∈ tb := x_in (i := 205) (by decide +kernel) rfl
theorem k_102 : Cond.methodLink "RecordVersions" 44 y_Co_committed ∈ tb := x_in (i := 210) (by decide +kernel) rfl
theorem k_103 : Cond.instanceMethod y_Co_committed ∈ tb := x_in (i := 211) (by decide +kernel) rfl
theorem k_104 : Cond.selects "RecordVersions$Content" y_Co_committed y_Co_committed ∈ tb := x_in (i := 212) (by decide +kernel) rfl
theorem k_105 : Cond.code y_Co_committed b_Co_committed 1 (some .long) ∈ tb := x_in (i := 213) (by decide +kernel) rfl
theorem k_106 : Cond.methodLink "RecordVersions" 38 y_Co_active ∈ tb := x_in (i := 251) (by decide +kernel) rfl
theorem k_107 : Cond.instanceMethod y_Co_active ∈ tb := x_in (i := 252) (by decide +kernel) rfl
theorem k_108 : Cond.selects "RecordVersions$Content" y_Co_active y_Co_active ∈ tb := x_in (i := 253) (by decide +kernel) rfl
theorem k_109 : Cond.code y_Co_active b_Co_active 1 (some .int) ∈ tb := x_in (i := 254) (by decide +kernel) rfl
theorem k_110 : Cond.methodLink "RecordVersions" 32 y_Co_leastUnused ∈ tb := x_in (i := 270) (by decide +kernel) rfl
theorem k_111 : Cond.instanceMethod y_Co_leastUnused ∈ tb := x_in (i := 271) (by decide +kernel) rfl
theorem k_112 : Cond.selects "RecordVersions$Content" y_Co_leastUnused y_Co_leastUnused ∈ tb := x_in (i := 272) (by decide +kernel) rfl
theorem k_113 : Cond.code y_Co_leastUnused b_Co_leastUnused 2 (some .int) ∈ tb := x_in (i := 273) (by decide +kernel) rfl
theorem k_114 : Cond.classLink "RecordVersions" 74 "java/lang/IllegalArgumentException" ∈ tb := x_in (i := 352) (by decide +kernel) rfl
theorem k_115 : Cond.initialized "java/lang/IllegalArgumentException" ∈ tb := x_in (i := 46) (by decide +kernel) rfl
theorem k_116 : Cond.methodLink "RecordVersions" 105 y_Co_firstOf ∈ tb := x_in (i := 218) (by decide +kernel) rfl
theorem k_117 : Cond.instanceMethod y_Co_firstOf ∈ tb := x_in (i := 219) (by decide +kernel) rfl
theorem k_118 : Cond.selects "RecordVersions$Content" y_Co_firstOf y_Co_firstOf ∈ tb := x_in (i := 220) (by decide +kernel) rfl
theorem k_119 : Cond.code y_Co_firstOf b_Co_firstOf 6 (some .int) ∈ tb := x_in (i := 221) (by decide +kernel) rfl
theorem k_120 : Cond.methodLink "RecordVersions" 139 y_Rv_seenBy ∈ tb := x_in (i := 375) (by decide +kernel) rfl
theorem k_121 : Cond.instanceMethod y_Rv_seenBy ∈ tb := x_in (i := 377) (by decide +kernel) rfl
theorem k_122 : Cond.selects "RecordVersions" y_Rv_seenBy y_Rv_seenBy ∈ tb := x_in (i := 12) (by decide +kernel) rfl
theorem k_123 : Cond.code y_Rv_seenBy b_Rv_seenBy 2 (some .long) ∈ tb := x_in (i := 378) (by decide +kernel) rfl
theorem k_124 : Cond.classLink "RecordVersions" 112 "java/util/NoSuchElementException" ∈ tb := x_in (i := 382) (by decide +kernel) rfl
theorem k_125 : Cond.initialized "java/util/NoSuchElementException" ∈ tb := x_in (i := 47) (by decide +kernel) rfl
theorem k_126 : Cond.fieldLink "RecordVersions" 118 "RecordVersions$Content" "values" "[I" ∈ tb := x_in (i := 74) (by decide +kernel) rfl
theorem k_127 : Cond.methodLink "RecordVersions" 69 y_Rv_demandValue ∈ tb := x_in (i := 379) (by decide +kernel) rfl
theorem k_128 : Cond.static y_Rv_demandValue ∈ tb := x_in (i := 380) (by decide +kernel) rfl
theorem k_129 : Cond.code y_Rv_demandValue b_Rv_demandValue 2 (some .int) ∈ tb := x_in (i := 381) (by decide +kernel) rfl
theorem k_130 : Cond.methodLink "RecordVersions" 65 y_Rv_placeSeen ∈ tb := x_in (i := 371) (by decide +kernel) rfl
theorem k_131 : Cond.instanceMethod y_Rv_placeSeen ∈ tb := x_in (i := 373) (by decide +kernel) rfl
theorem k_132 : Cond.selects "RecordVersions" y_Rv_placeSeen y_Rv_placeSeen ∈ tb := x_in (i := 11) (by decide +kernel) rfl
theorem k_133 : Cond.code y_Rv_placeSeen b_Rv_placeSeen 3 (some .int) ∈ tb := x_in (i := 374) (by decide +kernel) rfl
theorem k_134 : Cond.methodLink "RecordVersions" 62 y_Rv_demandActive ∈ tb := x_in (i := 367) (by decide +kernel) rfl
theorem k_135 : Cond.instanceMethod y_Rv_demandActive ∈ tb := x_in (i := 369) (by decide +kernel) rfl
theorem k_136 : Cond.selects "RecordVersions" y_Rv_demandActive y_Rv_demandActive ∈ tb := x_in (i := 10) (by decide +kernel) rfl
theorem k_137 : Cond.code y_Rv_demandActive b_Rv_demandActive 2 none ∈ tb := x_in (i := 370) (by decide +kernel) rfl
theorem k_138 : Cond.methodLink "RecordVersions" 59 y_Rv_demandRecord ∈ tb := x_in (i := 349) (by decide +kernel) rfl
theorem k_139 : Cond.static y_Rv_demandRecord ∈ tb := x_in (i := 350) (by decide +kernel) rfl
theorem k_140 : Cond.code y_Rv_demandRecord b_Rv_demandRecord 1 none ∈ tb := x_in (i := 351) (by decide +kernel) rfl
theorem k_141 : Cond.constant "RecordVersions" 73 (1000000 : Int32) ∈ tb := x_in (i := 406) (by decide +kernel) rfl
theorem k_142 : Cond.fieldLink "RecordVersions" 175 "RecordVersions$Content" "links" "[I" ∈ tb := x_in (i := 76) (by decide +kernel) rfl
theorem k_143 : Cond.methodLink "RecordVersions" 159 y_Rv_pageOf ∈ tb := x_in (i := 160) (by decide +kernel) rfl
theorem k_144 : Cond.static y_Rv_pageOf ∈ tb := x_in (i := 161) (by decide +kernel) rfl
theorem k_145 : Cond.code y_Rv_pageOf b_Rv_pageOf 1 (some .int) ∈ tb := x_in (i := 162) (by decide +kernel) rfl
theorem k_146 : Cond.methodLink "RecordVersions" 178 y_Co_empty ∈ tb := x_in (i := 152) (by decide +kernel) rfl
theorem k_147 : Cond.instanceMethod y_Co_empty ∈ tb := x_in (i := 153) (by decide +kernel) rfl
theorem k_148 : Cond.selects "RecordVersions$Content" y_Co_empty y_Co_empty ∈ tb := x_in (i := 154) (by decide +kernel) rfl
theorem k_149 : Cond.code y_Co_empty b_Co_empty 2 none ∈ tb := x_in (i := 155) (by decide +kernel) rfl
theorem k_150 : Cond.methodLink "RecordVersions" 165 y_Co_move ∈ tb := x_in (i := 201) (by decide +kernel) rfl
theorem k_151 : Cond.instanceMethod y_Co_move ∈ tb := x_in (i := 202) (by decide +kernel) rfl
theorem k_152 : Cond.selects "RecordVersions$Content" y_Co_move y_Co_move ∈ tb := x_in (i := 203) (by decide +kernel) rfl
theorem k_153 : Cond.code y_Co_move b_Co_move 3 none ∈ tb := x_in (i := 204) (by decide +kernel) rfl
theorem k_154 : Cond.methodLink "RecordVersions" 162 y_St_note ∈ tb := x_in (i := 163) (by decide +kernel) rfl
theorem k_155 : Cond.instanceMethod y_St_note ∈ tb := x_in (i := 164) (by decide +kernel) rfl
theorem k_156 : Cond.selects "RecordVersions$Store" y_St_note y_St_note ∈ tb := x_in (i := 165) (by decide +kernel) rfl
theorem k_157 : Cond.code y_St_note b_St_note 3 (some .boolean) ∈ tb := x_in (i := 166) (by decide +kernel) rfl
theorem k_158 : Cond.methodLink "RecordVersions" 172 y_Co_isRolled ∈ tb := x_in (i := 148) (by decide +kernel) rfl
theorem k_159 : Cond.instanceMethod y_Co_isRolled ∈ tb := x_in (i := 149) (by decide +kernel) rfl
theorem k_160 : Cond.selects "RecordVersions$Content" y_Co_isRolled y_Co_isRolled ∈ tb := x_in (i := 150) (by decide +kernel) rfl
theorem k_161 : Cond.code y_Co_isRolled b_Co_isRolled 2 (some .boolean) ∈ tb := x_in (i := 151) (by decide +kernel) rfl
theorem k_162 : Cond.fieldLink "RecordVersions" 115 "RecordVersions$Content" "owners" "[I" ∈ tb := x_in (i := 72) (by decide +kernel) rfl
theorem k_163 : Cond.methodLink "RecordVersions" 169 y_Rv_changedBy ∈ tb := x_in (i := 447) (by decide +kernel) rfl
theorem k_164 : Cond.instanceMethod y_Rv_changedBy ∈ tb := x_in (i := 449) (by decide +kernel) rfl
theorem k_165 : Cond.selects "RecordVersions" y_Rv_changedBy y_Rv_changedBy ∈ tb := x_in (i := 14) (by decide +kernel) rfl
theorem k_166 : Cond.code y_Rv_changedBy b_Rv_changedBy 3 none ∈ tb := x_in (i := 450) (by decide +kernel) rfl
theorem k_167 : Cond.methodLink "RecordVersions" 149 y_Co_fill ∈ tb := x_in (i := 427) (by decide +kernel) rfl
theorem k_168 : Cond.classLink "RecordVersions" 156 "java/lang/IndexOutOfBoundsException" ∈ tb := x_in (i := 432) (by decide +kernel) rfl
theorem k_169 : Cond.initialized "java/lang/IndexOutOfBoundsException" ∈ tb := x_in (i := 49) (by decide +kernel) rfl
theorem k_170 : Cond.methodLink "RecordVersions" 153 y_Co_leastFree ∈ tb := x_in (i := 428) (by decide +kernel) rfl
theorem k_171 : Cond.instanceMethod y_Co_leastFree ∈ tb := x_in (i := 429) (by decide +kernel) rfl
theorem k_172 : Cond.selects "RecordVersions$Content" y_Co_leastFree y_Co_leastFree ∈ tb := x_in (i := 430) (by decide +kernel) rfl
theorem k_173 : Cond.code y_Co_leastFree b_Co_leastFree 2 (some .int) ∈ tb := x_in (i := 431) (by decide +kernel) rfl
theorem k_174 : Cond.classLink "RecordVersions" 146 "java/lang/UnsupportedOperationException" ∈ tb := x_in (i := 412) (by decide +kernel) rfl
theorem k_175 : Cond.initialized "java/lang/UnsupportedOperationException" ∈ tb := x_in (i := 48) (by decide +kernel) rfl
theorem k_176 : Cond.methodLink "RecordVersions" 124 y_Rv_has ∈ tb := x_in (i := 411) (by decide +kernel) rfl
theorem k_177 : Cond.methodLink "RecordVersions" 143 y_Rv_clean ∈ tb := x_in (i := 144) (by decide +kernel) rfl
theorem k_178 : Cond.instanceMethod y_Rv_clean ∈ tb := x_in (i := 146) (by decide +kernel) rfl
theorem k_179 : Cond.selects "RecordVersions" y_Rv_clean y_Rv_clean ∈ tb := x_in (i := 1) (by decide +kernel) rfl
theorem k_180 : Cond.code y_Rv_clean b_Rv_clean 4 (some .boolean) ∈ tb := x_in (i := 147) (by decide +kernel) rfl
theorem k_181 : Cond.methodLink "RecordVersions" 77 y_Rv_change ∈ tb := x_in (i := 407) (by decide +kernel) rfl
theorem k_182 : Cond.instanceMethod y_Rv_change ∈ tb := x_in (i := 409) (by decide +kernel) rfl
theorem k_183 : Cond.selects "RecordVersions" y_Rv_change y_Rv_change ∈ tb := x_in (i := 13) (by decide +kernel) rfl
theorem k_184 : Cond.code y_Rv_change b_Rv_change 6 (some .int) ∈ tb := x_in (i := 410) (by decide +kernel) rfl
theorem k_185 : Cond.fieldLink "RecordVersions" 81 "RecordVersions$Store" "written" "I" ∈ tb := x_in (i := 98) (by decide +kernel) rfl
theorem k_186 : Cond.methodLink "RecordVersions" 85 y_St_putDirty ∈ tb := x_in (i := 243) (by decide +kernel) rfl
theorem k_187 : Cond.instanceMethod y_St_putDirty ∈ tb := x_in (i := 244) (by decide +kernel) rfl
theorem k_188 : Cond.selects "RecordVersions$Store" y_St_putDirty y_St_putDirty ∈ tb := x_in (i := 245) (by decide +kernel) rfl
theorem k_189 : Cond.code y_St_putDirty b_St_putDirty 3 (some .boolean) ∈ tb := x_in (i := 246) (by decide +kernel) rfl
theorem k_190 : Cond.methodLink "RecordVersions" 187 y_Co_chainBehind ∈ tb := x_in (i := 235) (by decide +kernel) rfl
theorem k_191 : Cond.instanceMethod y_Co_chainBehind ∈ tb := x_in (i := 236) (by decide +kernel) rfl
theorem k_192 : Cond.selects "RecordVersions$Content" y_Co_chainBehind y_Co_chainBehind ∈ tb := x_in (i := 237) (by decide +kernel) rfl
theorem k_193 : Cond.code y_Co_chainBehind b_Co_chainBehind 5 (some .int) ∈ tb := x_in (i := 238) (by decide +kernel) rfl
theorem k_194 : Cond.methodLink "RecordVersions" 184 y_Rv_cutBehind ∈ tb := x_in (i := 231) (by decide +kernel) rfl
theorem k_195 : Cond.instanceMethod y_Rv_cutBehind ∈ tb := x_in (i := 233) (by decide +kernel) rfl
theorem k_196 : Cond.selects "RecordVersions" y_Rv_cutBehind y_Rv_cutBehind ∈ tb := x_in (i := 8) (by decide +kernel) rfl
theorem k_197 : Cond.code y_Rv_cutBehind b_Rv_cutBehind 6 (some .int) ∈ tb := x_in (i := 234) (by decide +kernel) rfl
theorem k_198 : Cond.methodLink "RecordVersions" 181 y_Rv_committedForAll ∈ tb := x_in (i := 206) (by decide +kernel) rfl
theorem k_199 : Cond.instanceMethod y_Rv_committedForAll ∈ tb := x_in (i := 208) (by decide +kernel) rfl
theorem k_200 : Cond.selects "RecordVersions" y_Rv_committedForAll y_Rv_committedForAll ∈ tb := x_in (i := 6) (by decide +kernel) rfl
theorem k_201 : Cond.code y_Rv_committedForAll b_Rv_committedForAll 4 (some .long) ∈ tb := x_in (i := 209) (by decide +kernel) rfl
theorem k_202 : Cond.methodLink "RecordVersions" 89 y_Rv_sweepRecord ∈ tb := x_in (i := 140) (by decide +kernel) rfl
theorem k_203 : Cond.instanceMethod y_Rv_sweepRecord ∈ tb := x_in (i := 142) (by decide +kernel) rfl
theorem k_204 : Cond.selects "RecordVersions" y_Rv_sweepRecord y_Rv_sweepRecord ∈ tb := x_in (i := 0) (by decide +kernel) rfl
theorem k_205 : Cond.code y_Rv_sweepRecord b_Rv_sweepRecord 4 (some .int) ∈ tb := x_in (i := 143) (by decide +kernel) rfl
theorem k_206 : Cond.fieldLink "RecordVersions" 93 "RecordVersions$Store" "dirty" "I" ∈ tb := x_in (i := 97) (by decide +kernel) rfl
theorem k_207 : Cond.fieldLink "RecordVersions" 96 "RecordVersions$Store" "failure" "I" ∈ tb := x_in (i := 103) (by decide +kernel) rfl
theorem k_208 : Cond.methodLink "RecordVersions" 99 y_St_fall ∈ tb := x_in (i := 261) (by decide +kernel) rfl
theorem k_209 : Cond.fieldLink "RecordVersions" 102 "RecordVersions$Store" "disk" "LRecordVersions$Content;" ∈ tb := x_in (i := 93) (by decide +kernel) rfl
theorem k_210 : Cond.methodLink "RecordVersions" 109 y_Co_placeAt ∈ tb := x_in (i := 500) (by decide +kernel) rfl
theorem k_211 : Cond.fieldLink "RecordVersions" 121 "RecordVersions$Store" "earlier" "[I" ∈ tb := x_in (i := 95) (by decide +kernel) rfl
theorem k_212 : Cond.methodLink "RecordVersions" 128 y_Co_freeSlots ∈ tb := x_in (i := 515) (by decide +kernel) rfl
theorem k_213 : Cond.instanceMethod y_Co_freeSlots ∈ tb := x_in (i := 516) (by decide +kernel) rfl
theorem k_214 : Cond.selects "RecordVersions$Content" y_Co_freeSlots y_Co_freeSlots ∈ tb := x_in (i := 517) (by decide +kernel) rfl
theorem k_215 : Cond.code y_Co_freeSlots b_Co_freeSlots 3 (some .int) ∈ tb := x_in (i := 518) (by decide +kernel) rfl
theorem k_216 : Cond.fieldLink "RecordVersions" 131 "RecordVersions$Store" "crashes" "I" ∈ tb := x_in (i := 101) (by decide +kernel) rfl
theorem k_217 : Cond.constant "java/lang/Integer" 265 (1431655765 : Int32) ∈ tb := x_in (i := 522) (by decide +kernel) rfl
theorem k_218 : Cond.constant "java/lang/Integer" 266 (858993459 : Int32) ∈ tb := x_in (i := 523) (by decide +kernel) rfl
theorem k_219 : Cond.constant "java/lang/Integer" 267 (252645135 : Int32) ∈ tb := x_in (i := 524) (by decide +kernel) rfl
theorem k_220 : Cond.methodLink "RecordVersions" 134 y_JI_bitCount ∈ tb := x_in (i := 519) (by decide +kernel) rfl
theorem k_221 : Cond.static y_JI_bitCount ∈ tb := x_in (i := 520) (by decide +kernel) rfl
theorem k_222 : Cond.initialized "java/lang/Integer" ∈ tb := x_in (i := 50) (by decide +kernel) rfl
theorem k_223 : Cond.code y_JI_bitCount b_JI_bitCount 1 (some .int) ∈ tb := x_in (i := 521) (by decide +kernel) rfl
theorem k_224 : Cond.methodLink "RecordVersionsModel" 1 objectInit ∈ tb := x_in (i := 530) (by decide +kernel) rfl
theorem k_225 : Cond.fieldLink "RecordVersionsModel" 7 "RecordVersionsModel" "by" "[I" ∈ tb := x_in (i := 532) (by decide +kernel) rfl
theorem k_226 : Cond.fieldLink "RecordVersionsModel" 13 "RecordVersionsModel" "value" "[I" ∈ tb := x_in (i := 533) (by decide +kernel) rfl
theorem k_227 : Cond.fieldLink "RecordVersionsModel" 16 "RecordVersionsModel" "link" "[I" ∈ tb := x_in (i := 534) (by decide +kernel) rfl
theorem k_228 : Cond.fieldLink "RecordVersionsModel" 19 "RecordVersionsModel" "diskBy" "[I" ∈ tb := x_in (i := 535) (by decide +kernel) rfl
theorem k_229 : Cond.fieldLink "RecordVersionsModel" 22 "RecordVersionsModel" "diskValue" "[I" ∈ tb := x_in (i := 536) (by decide +kernel) rfl
theorem k_230 : Cond.fieldLink "RecordVersionsModel" 25 "RecordVersionsModel" "diskLink" "[I" ∈ tb := x_in (i := 537) (by decide +kernel) rfl
theorem k_231 : Cond.fieldLink "RecordVersionsModel" 28 "RecordVersionsModel" "states" "[I" ∈ tb := x_in (i := 538) (by decide +kernel) rfl
theorem k_232 : Cond.fieldLink "RecordVersionsModel" 31 "RecordVersionsModel" "diskStates" "[I" ∈ tb := x_in (i := 539) (by decide +kernel) rfl
theorem k_233 : Cond.arrayClass .boolean ∈ tb := x_in (i := 589) (by decide +kernel) rfl
theorem k_234 : Cond.fieldLink "RecordVersionsModel" 34 "RecordVersionsModel" "dirty" "[Z" ∈ tb := x_in (i := 540) (by decide +kernel) rfl
theorem k_235 : Cond.fieldLink "RecordVersionsModel" 38 "RecordVersionsModel" "first" "[I" ∈ tb := x_in (i := 541) (by decide +kernel) rfl
theorem k_236 : Cond.fieldLink "RecordVersionsModel" 41 "RecordVersionsModel" "touched" "[I" ∈ tb := x_in (i := 542) (by decide +kernel) rfl
theorem k_237 : Cond.fieldLink "RecordVersionsModel" 44 "RecordVersionsModel" "sees" "[J" ∈ tb := x_in (i := 543) (by decide +kernel) rfl
theorem k_238 : Cond.fieldLink "RecordVersionsModel" 48 "RecordVersionsModel" "pile" "[I" ∈ tb := x_in (i := 544) (by decide +kernel) rfl
theorem k_239 : Cond.fieldLink "RecordVersionsModel" 51 "RecordVersionsModel" "thrown" "I" ∈ tb := x_in (i := 531) (by decide +kernel) rfl
theorem k_240 : Cond.fieldLink "RecordVersionsModel" 55 "RecordVersionsModel" "crashes" "I" ∈ tb := x_in (i := 546) (by decide +kernel) rfl
theorem k_241 : Cond.fieldLink "RecordVersionsModel" 58 "RecordVersionsModel" "crashed" "Z" ∈ tb := x_in (i := 548) (by decide +kernel) rfl
theorem k_242 : Cond.fieldLink "RecordVersionsModel" 62 "RecordVersionsModel" "left" "I" ∈ tb := x_in (i := 547) (by decide +kernel) rfl
theorem k_243 : Cond.fieldLink "RecordVersionsModel" 72 "RecordVersionsModel" "written" "I" ∈ tb := x_in (i := 545) (by decide +kernel) rfl
theorem k_244 : Cond.methodLink "RecordVersionsModel" 68 y_Mo_pageOf ∈ tb := x_in (i := 626) (by decide +kernel) rfl
theorem k_245 : Cond.static y_Mo_pageOf ∈ tb := x_in (i := 627) (by decide +kernel) rfl
theorem k_246 : Cond.initialized "RecordVersionsModel" ∈ tb := x_in (i := 39) (by decide +kernel) rfl
theorem k_247 : Cond.code y_Mo_pageOf b_Mo_pageOf 1 (some .int) ∈ tb := x_in (i := 628) (by decide +kernel) rfl
theorem k_248 : Cond.methodLink "RecordVersionsModel" 65 y_Mo_fall ∈ tb := x_in (i := 622) (by decide +kernel) rfl
theorem k_249 : Cond.instanceMethod y_Mo_fall ∈ tb := x_in (i := 624) (by decide +kernel) rfl
theorem k_250 : Cond.selects "RecordVersionsModel" y_Mo_fall y_Mo_fall ∈ tb := x_in (i := 21) (by decide +kernel) rfl
theorem k_251 : Cond.code y_Mo_fall b_Mo_fall 2 none ∈ tb := x_in (i := 625) (by decide +kernel) rfl
theorem k_252 : Cond.methodLink "RecordVersionsModel" 78 y_Mo_put ∈ tb := x_in (i := 618) (by decide +kernel) rfl
theorem k_253 : Cond.instanceMethod y_Mo_put ∈ tb := x_in (i := 620) (by decide +kernel) rfl
theorem k_254 : Cond.selects "RecordVersionsModel" y_Mo_put y_Mo_put ∈ tb := x_in (i := 20) (by decide +kernel) rfl
theorem k_255 : Cond.code y_Mo_put b_Mo_put 3 none ∈ tb := x_in (i := 621) (by decide +kernel) rfl
theorem k_256 : Cond.methodLink "RecordVersionsModel" 75 y_Mo_waitsFor ∈ tb := x_in (i := 614) (by decide +kernel) rfl
theorem k_257 : Cond.instanceMethod y_Mo_waitsFor ∈ tb := x_in (i := 616) (by decide +kernel) rfl
theorem k_258 : Cond.selects "RecordVersionsModel" y_Mo_waitsFor y_Mo_waitsFor ∈ tb := x_in (i := 19) (by decide +kernel) rfl
theorem k_259 : Cond.code y_Mo_waitsFor b_Mo_waitsFor 3 (some .int) ∈ tb := x_in (i := 617) (by decide +kernel) rfl
theorem k_260 : Cond.methodLink "RecordVersionsModel" 85 y_Mo_store ∈ tb := x_in (i := 610) (by decide +kernel) rfl
theorem k_261 : Cond.instanceMethod y_Mo_store ∈ tb := x_in (i := 612) (by decide +kernel) rfl
theorem k_262 : Cond.selects "RecordVersionsModel" y_Mo_store y_Mo_store ∈ tb := x_in (i := 18) (by decide +kernel) rfl
theorem k_263 : Cond.code y_Mo_store b_Mo_store 4 none ∈ tb := x_in (i := 613) (by decide +kernel) rfl
theorem k_264 : Cond.methodLink "RecordVersionsModel" 82 y_Mo_before ∈ tb := x_in (i := 677) (by decide +kernel) rfl
theorem k_265 : Cond.instanceMethod y_Mo_before ∈ tb := x_in (i := 679) (by decide +kernel) rfl
theorem k_266 : Cond.selects "RecordVersionsModel" y_Mo_before y_Mo_before ∈ tb := x_in (i := 31) (by decide +kernel) rfl
theorem k_267 : Cond.code y_Mo_before b_Mo_before 5 (some .int) ∈ tb := x_in (i := 680) (by decide +kernel) rfl
theorem k_268 : Cond.fieldLink "RecordVersionsModel" 88 "RecordVersionsModel" "refusal" "I" ∈ tb := x_in (i := 549) (by decide +kernel) rfl
theorem k_269 : Cond.methodLink "RecordVersionsModel" 91 y_Mo_in ∈ tb := x_in (i := 637) (by decide +kernel) rfl
theorem k_270 : Cond.static y_Mo_in ∈ tb := x_in (i := 638) (by decide +kernel) rfl
theorem k_271 : Cond.code y_Mo_in b_Mo_in 3 (some .boolean) ∈ tb := x_in (i := 639) (by decide +kernel) rfl
theorem k_272 : Cond.methodLink "RecordVersionsModel" 102 y_Mo_raise ∈ tb := x_in (i := 606) (by decide +kernel) rfl
theorem k_273 : Cond.instanceMethod y_Mo_raise ∈ tb := x_in (i := 608) (by decide +kernel) rfl
theorem k_274 : Cond.selects "RecordVersionsModel" y_Mo_raise y_Mo_raise ∈ tb := x_in (i := 17) (by decide +kernel) rfl
theorem k_275 : Cond.code y_Mo_raise b_Mo_raise 2 (some .int) ∈ tb := x_in (i := 609) (by decide +kernel) rfl
theorem k_276 : Cond.methodLink "RecordVersionsModel" 105 y_Mo_done ∈ tb := x_in (i := 629) (by decide +kernel) rfl
theorem k_277 : Cond.instanceMethod y_Mo_done ∈ tb := x_in (i := 631) (by decide +kernel) rfl
theorem k_278 : Cond.selects "RecordVersionsModel" y_Mo_done y_Mo_done ∈ tb := x_in (i := 22) (by decide +kernel) rfl
theorem k_279 : Cond.code y_Mo_done b_Mo_done 2 (some .int) ∈ tb := x_in (i := 632) (by decide +kernel) rfl
theorem k_280 : Cond.methodLink "RecordVersionsModel" 98 y_Mo_actives ∈ tb := x_in (i := 602) (by decide +kernel) rfl
theorem k_281 : Cond.instanceMethod y_Mo_actives ∈ tb := x_in (i := 604) (by decide +kernel) rfl
theorem k_282 : Cond.selects "RecordVersionsModel" y_Mo_actives y_Mo_actives ∈ tb := x_in (i := 16) (by decide +kernel) rfl
theorem k_283 : Cond.code y_Mo_actives b_Mo_actives 3 (some .int) ∈ tb := x_in (i := 605) (by decide +kernel) rfl
theorem k_284 : Cond.methodLink "RecordVersionsModel" 95 y_Mo_begun ∈ tb := x_in (i := 598) (by decide +kernel) rfl
theorem k_285 : Cond.instanceMethod y_Mo_begun ∈ tb := x_in (i := 600) (by decide +kernel) rfl
theorem k_286 : Cond.selects "RecordVersionsModel" y_Mo_begun y_Mo_begun ∈ tb := x_in (i := 15) (by decide +kernel) rfl
theorem k_287 : Cond.code y_Mo_begun b_Mo_begun 1 none ∈ tb := x_in (i := 601) (by decide +kernel) rfl
theorem k_288 : Cond.methodLink "RecordVersionsModel" 112 y_Mo_behind ∈ tb := x_in (i := 652) (by decide +kernel) rfl
theorem k_289 : Cond.instanceMethod y_Mo_behind ∈ tb := x_in (i := 654) (by decide +kernel) rfl
theorem k_290 : Cond.selects "RecordVersionsModel" y_Mo_behind y_Mo_behind ∈ tb := x_in (i := 26) (by decide +kernel) rfl
theorem k_291 : Cond.code y_Mo_behind b_Mo_behind 2 (some .int) ∈ tb := x_in (i := 655) (by decide +kernel) rfl
theorem k_292 : Cond.methodLink "RecordVersionsModel" 108 y_Mo_seen ∈ tb := x_in (i := 648) (by decide +kernel) rfl
theorem k_293 : Cond.instanceMethod y_Mo_seen ∈ tb := x_in (i := 650) (by decide +kernel) rfl
theorem k_294 : Cond.selects "RecordVersionsModel" y_Mo_seen y_Mo_seen ∈ tb := x_in (i := 25) (by decide +kernel) rfl
theorem k_295 : Cond.code y_Mo_seen b_Mo_seen 3 (some .boolean) ∈ tb := x_in (i := 651) (by decide +kernel) rfl
theorem k_296 : Cond.methodLink "RecordVersionsModel" 119 y_Mo_reads ∈ tb := x_in (i := 644) (by decide +kernel) rfl
theorem k_297 : Cond.instanceMethod y_Mo_reads ∈ tb := x_in (i := 646) (by decide +kernel) rfl
theorem k_298 : Cond.selects "RecordVersionsModel" y_Mo_reads y_Mo_reads ∈ tb := x_in (i := 24) (by decide +kernel) rfl
theorem k_299 : Cond.code y_Mo_reads b_Mo_reads 4 (some .int) ∈ tb := x_in (i := 647) (by decide +kernel) rfl
theorem k_300 : Cond.methodLink "RecordVersionsModel" 115 y_Mo_idle ∈ tb := x_in (i := 640) (by decide +kernel) rfl
theorem k_301 : Cond.instanceMethod y_Mo_idle ∈ tb := x_in (i := 642) (by decide +kernel) rfl
theorem k_302 : Cond.selects "RecordVersionsModel" y_Mo_idle y_Mo_idle ∈ tb := x_in (i := 23) (by decide +kernel) rfl
theorem k_303 : Cond.code y_Mo_idle b_Mo_idle 2 (some .boolean) ∈ tb := x_in (i := 643) (by decide +kernel) rfl
theorem k_304 : Cond.methodLink "RecordVersionsModel" 123 y_Mo_free ∈ tb := x_in (i := 669) (by decide +kernel) rfl
theorem k_305 : Cond.instanceMethod y_Mo_free ∈ tb := x_in (i := 671) (by decide +kernel) rfl
theorem k_306 : Cond.selects "RecordVersionsModel" y_Mo_free y_Mo_free ∈ tb := x_in (i := 29) (by decide +kernel) rfl
theorem k_307 : Cond.code y_Mo_free b_Mo_free 2 none ∈ tb := x_in (i := 672) (by decide +kernel) rfl
theorem k_308 : Cond.methodLink "RecordVersionsModel" 130 y_Mo_move ∈ tb := x_in (i := 681) (by decide +kernel) rfl
theorem k_309 : Cond.instanceMethod y_Mo_move ∈ tb := x_in (i := 683) (by decide +kernel) rfl
theorem k_310 : Cond.selects "RecordVersionsModel" y_Mo_move y_Mo_move ∈ tb := x_in (i := 32) (by decide +kernel) rfl
theorem k_311 : Cond.code y_Mo_move b_Mo_move 3 none ∈ tb := x_in (i := 684) (by decide +kernel) rfl
theorem k_312 : Cond.methodLink "RecordVersionsModel" 126 y_Mo_note ∈ tb := x_in (i := 673) (by decide +kernel) rfl
theorem k_313 : Cond.instanceMethod y_Mo_note ∈ tb := x_in (i := 675) (by decide +kernel) rfl
theorem k_314 : Cond.selects "RecordVersionsModel" y_Mo_note y_Mo_note ∈ tb := x_in (i := 30) (by decide +kernel) rfl
theorem k_315 : Cond.code y_Mo_note b_Mo_note 3 none ∈ tb := x_in (i := 676) (by decide +kernel) rfl
theorem k_316 : Cond.methodLink "RecordVersionsModel" 133 y_Mo_clean ∈ tb := x_in (i := 665) (by decide +kernel) rfl
theorem k_317 : Cond.instanceMethod y_Mo_clean ∈ tb := x_in (i := 667) (by decide +kernel) rfl
theorem k_318 : Cond.selects "RecordVersionsModel" y_Mo_clean y_Mo_clean ∈ tb := x_in (i := 28) (by decide +kernel) rfl
theorem k_319 : Cond.code y_Mo_clean b_Mo_clean 3 none ∈ tb := x_in (i := 668) (by decide +kernel) rfl
theorem k_320 : Cond.constant "RecordVersionsModel" 136 (1000000 : Int32) ∈ tb := x_in (i := 660) (by decide +kernel) rfl
theorem k_321 : Cond.methodLink "RecordVersionsModel" 137 y_Mo_change ∈ tb := x_in (i := 661) (by decide +kernel) rfl
theorem k_322 : Cond.instanceMethod y_Mo_change ∈ tb := x_in (i := 663) (by decide +kernel) rfl
theorem k_323 : Cond.selects "RecordVersionsModel" y_Mo_change y_Mo_change ∈ tb := x_in (i := 27) (by decide +kernel) rfl
theorem k_324 : Cond.code y_Mo_change b_Mo_change 6 none ∈ tb := x_in (i := 664) (by decide +kernel) rfl
theorem k_325 : Cond.methodLink "RecordVersionsModel" 141 y_Mo_settled ∈ tb := x_in (i := 705) (by decide +kernel) rfl
theorem k_326 : Cond.instanceMethod y_Mo_settled ∈ tb := x_in (i := 707) (by decide +kernel) rfl
theorem k_327 : Cond.selects "RecordVersionsModel" y_Mo_settled y_Mo_settled ∈ tb := x_in (i := 34) (by decide +kernel) rfl
theorem k_328 : Cond.code y_Mo_settled b_Mo_settled 3 (some .boolean) ∈ tb := x_in (i := 708) (by decide +kernel) rfl
theorem k_329 : Cond.methodLink "RecordVersionsModel" 144 y_Mo_sweepOne ∈ tb := x_in (i := 701) (by decide +kernel) rfl
theorem k_330 : Cond.instanceMethod y_Mo_sweepOne ∈ tb := x_in (i := 703) (by decide +kernel) rfl
theorem k_331 : Cond.selects "RecordVersionsModel" y_Mo_sweepOne y_Mo_sweepOne ∈ tb := x_in (i := 33) (by decide +kernel) rfl
theorem k_332 : Cond.code y_Mo_sweepOne b_Mo_sweepOne 6 (some .int) ∈ tb := x_in (i := 704) (by decide +kernel) rfl
theorem k_333 : Cond.code y_Rv_init b_Rv_init 1 none ∈ tb := x_in (i := 55) (by decide +kernel) rfl
theorem k_334 : Cond.code y_Rv_begin b_Rv_begin 2 (some .int) ∈ tb := x_in (i := 269) (by decide +kernel) rfl
theorem k_335 : Cond.code y_Rv_read b_Rv_read 3 (some .int) ∈ tb := x_in (i := 348) (by decide +kernel) rfl
theorem k_336 : Cond.code y_Rv_write b_Rv_write 4 (some .int) ∈ tb := x_in (i := 405) (by decide +kernel) rfl
theorem k_337 : Cond.code y_Rv_erase b_Rv_erase 3 (some .int) ∈ tb := x_in (i := 457) (by decide +kernel) rfl
theorem k_338 : Cond.code y_Rv_commit b_Rv_commit 3 (some .int) ∈ tb := x_in (i := 464) (by decide +kernel) rfl
theorem k_339 : Cond.code y_Rv_rollback b_Rv_rollback 2 (some .int) ∈ tb := x_in (i := 471) (by decide +kernel) rfl
theorem k_340 : Cond.code y_Rv_sweep b_Rv_sweep 4 (some .int) ∈ tb := x_in (i := 139) (by decide +kernel) rfl
theorem k_341 : Cond.code y_Rv_flush b_Rv_flush 2 (some .int) ∈ tb := x_in (i := 242) (by decide +kernel) rfl
theorem k_342 : Cond.code y_Rv_fail b_Rv_fail 3 (some .int) ∈ tb := x_in (i := 478) (by decide +kernel) rfl
theorem k_343 : Cond.code y_Rv_crash b_Rv_crash 2 (some .int) ∈ tb := x_in (i := 250) (by decide +kernel) rfl
theorem k_344 : Cond.code y_Rv_image b_Rv_image 2 (some .int) ∈ tb := x_in (i := 485) (by decide +kernel) rfl
theorem k_345 : Cond.code y_Rv_state b_Rv_state 2 (some .int) ∈ tb := x_in (i := 492) (by decide +kernel) rfl
theorem k_346 : Cond.code y_Rv_version b_Rv_version 5 (some .int) ∈ tb := x_in (i := 499) (by decide +kernel) rfl
theorem k_347 : Cond.code y_Rv_page b_Rv_page 2 (some .int) ∈ tb := x_in (i := 507) (by decide +kernel) rfl
theorem k_348 : Cond.code y_Rv_count b_Rv_count 2 (some .int) ∈ tb := x_in (i := 514) (by decide +kernel) rfl
theorem k_349 : Cond.code y_Mo_init b_Mo_init 2 none ∈ tb := x_in (i := 529) (by decide +kernel) rfl
theorem k_350 : Cond.code y_Mo_thrown b_Mo_thrown 1 (some .int) ∈ tb := x_in (i := 593) (by decide +kernel) rfl
theorem k_351 : Cond.code y_Mo_begin b_Mo_begin 3 (some .int) ∈ tb := x_in (i := 597) (by decide +kernel) rfl
theorem k_352 : Cond.code y_Mo_read b_Mo_read 4 (some .int) ∈ tb := x_in (i := 636) (by decide +kernel) rfl
theorem k_353 : Cond.code y_Mo_write b_Mo_write 4 (some .int) ∈ tb := x_in (i := 659) (by decide +kernel) rfl
theorem k_354 : Cond.code y_Mo_erase b_Mo_erase 3 (some .int) ∈ tb := x_in (i := 688) (by decide +kernel) rfl
theorem k_355 : Cond.code y_Mo_commit b_Mo_commit 4 (some .int) ∈ tb := x_in (i := 692) (by decide +kernel) rfl
theorem k_356 : Cond.code y_Mo_rollback b_Mo_rollback 2 (some .int) ∈ tb := x_in (i := 696) (by decide +kernel) rfl
theorem k_357 : Cond.code y_Mo_sweep b_Mo_sweep 3 (some .int) ∈ tb := x_in (i := 700) (by decide +kernel) rfl
theorem k_358 : Cond.code y_Mo_flush b_Mo_flush 3 (some .int) ∈ tb := x_in (i := 712) (by decide +kernel) rfl
theorem k_359 : Cond.code y_Mo_fail b_Mo_fail 3 (some .int) ∈ tb := x_in (i := 716) (by decide +kernel) rfl
theorem k_360 : Cond.code y_Mo_crash b_Mo_crash 2 (some .int) ∈ tb := x_in (i := 720) (by decide +kernel) rfl
theorem k_361 : Cond.code y_Mo_image b_Mo_image 4 (some .int) ∈ tb := x_in (i := 724) (by decide +kernel) rfl
theorem k_362 : Cond.code y_Mo_state b_Mo_state 2 (some .int) ∈ tb := x_in (i := 728) (by decide +kernel) rfl
theorem k_363 : Cond.code y_Mo_version b_Mo_version 6 (some .int) ∈ tb := x_in (i := 732) (by decide +kernel) rfl
theorem k_364 : Cond.code y_Mo_page b_Mo_page 2 (some .int) ∈ tb := x_in (i := 736) (by decide +kernel) rfl
theorem k_365 : Cond.code y_Mo_count b_Mo_count 4 (some .int) ∈ tb := x_in (i := 740) (by decide +kernel) rfl
theorem at_Rv_43 {A : Nat → Prop} {args : Array Value} {s : State} (hts : ∀ w ∈ tb, w.before args s = true) (hZ : xZ A s s.heap) : ∀ a ∈ Bundle.ownAtoms0 "RecordVersions" 43 "java/lang/IllegalStateException" ["java/lang/RuntimeException", "java/lang/Exception"], a.before args s = true := x_atoms hts hZ (by decide +kernel)
theorem at_Rv_76 {A : Nat → Prop} {args : Array Value} {s : State} (hts : ∀ w ∈ tb, w.before args s = true) (hZ : xZ A s s.heap) : ∀ a ∈ Bundle.ownAtoms0 "RecordVersions" 76 "java/lang/IllegalArgumentException" ["java/lang/RuntimeException", "java/lang/Exception"], a.before args s = true := x_atoms hts hZ (by decide +kernel)
theorem at_Rv_114 {A : Nat → Prop} {args : Array Value} {s : State} (hts : ∀ w ∈ tb, w.before args s = true) (hZ : xZ A s s.heap) : ∀ a ∈ Bundle.ownAtoms0 "RecordVersions" 114 "java/util/NoSuchElementException" ["java/lang/RuntimeException", "java/lang/Exception"], a.before args s = true := x_atoms hts hZ (by decide +kernel)
theorem at_Rv_158 {A : Nat → Prop} {args : Array Value} {s : State} (hts : ∀ w ∈ tb, w.before args s = true) (hZ : xZ A s s.heap) : ∀ a ∈ Bundle.ownAtoms0 "RecordVersions" 158 "java/lang/IndexOutOfBoundsException" ["java/lang/RuntimeException", "java/lang/Exception"], a.before args s = true := x_atoms hts hZ (by decide +kernel)
theorem at_Rv_148 {A : Nat → Prop} {args : Array Value} {s : State} (hts : ∀ w ∈ tb, w.before args s = true) (hZ : xZ A s s.heap) : ∀ a ∈ Bundle.ownAtoms0 "RecordVersions" 148 "java/lang/UnsupportedOperationException" ["java/lang/RuntimeException", "java/lang/Exception"], a.before args s = true := x_atoms hts hZ (by decide +kernel)
end
section
theorem d_Co_init_0 : decode b_Co_init 0 = .ok (.aload_n 0, 1) := by decide +kernel
theorem d_Co_init_1 : decode b_Co_init 1 = .ok (.invokespecial 3, 3) := by decide +kernel
theorem d_Co_init_4 : decode b_Co_init 4 = .ok (.aload_n 0, 1) := by decide +kernel
theorem d_Co_init_5 : decode b_Co_init 5 = .ok (.bipush 15, 2) := by decide +kernel
theorem d_Co_init_7 : decode b_Co_init 7 = .ok (.newarray .int, 2) := by decide +kernel
theorem d_Co_init_9 : decode b_Co_init 9 = .ok (.putfield 9, 3) := by decide +kernel
theorem d_Co_init_12 : decode b_Co_init 12 = .ok (.aload_n 0, 1) := by decide +kernel
theorem d_Co_init_13 : decode b_Co_init 13 = .ok (.bipush 15, 2) := by decide +kernel
theorem d_Co_init_15 : decode b_Co_init 15 = .ok (.newarray .int, 2) := by decide +kernel
theorem d_Co_init_17 : decode b_Co_init 17 = .ok (.putfield 15, 3) := by decide +kernel
theorem d_Co_init_20 : decode b_Co_init 20 = .ok (.aload_n 0, 1) := by decide +kernel
theorem d_Co_init_21 : decode b_Co_init 21 = .ok (.bipush 15, 2) := by decide +kernel
theorem d_Co_init_23 : decode b_Co_init 23 = .ok (.newarray .int, 2) := by decide +kernel
theorem d_Co_init_25 : decode b_Co_init 25 = .ok (.putfield 18, 3) := by decide +kernel
theorem d_Co_init_28 : decode b_Co_init 28 = .ok (.aload_n 0, 1) := by decide +kernel
theorem d_Co_init_29 : decode b_Co_init 29 = .ok (.bipush 41, 2) := by decide +kernel
theorem d_Co_init_31 : decode b_Co_init 31 = .ok (.newarray .int, 2) := by decide +kernel
theorem d_Co_init_33 : decode b_Co_init 33 = .ok (.putfield 21, 3) := by decide +kernel
theorem d_Co_init_36 : decode b_Co_init 36 = .ok (.iconst 0, 1) := by decide +kernel
theorem d_Co_init_37 : decode b_Co_init 37 = .ok (.istore_n 1, 1) := by decide +kernel
theorem d_Co_init_38 : decode b_Co_init 38 = .ok (.iload_n 1, 1) := by decide +kernel
theorem d_Co_init_39 : decode b_Co_init 39 = .ok (.bipush 15, 2) := by decide +kernel
theorem d_Co_init_41 : decode b_Co_init 41 = .ok (.if_icmp .ge 16, 3) := by decide +kernel
theorem d_Co_init_44 : decode b_Co_init 44 = .ok (.aload_n 0, 1) := by decide +kernel
theorem d_Co_init_45 : decode b_Co_init 45 = .ok (.getfield 18, 3) := by decide +kernel
theorem d_Co_init_48 : decode b_Co_init 48 = .ok (.iload_n 1, 1) := by decide +kernel
theorem d_Co_init_49 : decode b_Co_init 49 = .ok (.iconst (-1), 1) := by decide +kernel
theorem d_Co_init_50 : decode b_Co_init 50 = .ok (.iastore, 1) := by decide +kernel
theorem d_Co_init_51 : decode b_Co_init 51 = .ok (.iinc 1 1, 3) := by decide +kernel
theorem d_Co_init_54 : decode b_Co_init 54 = .ok (.goto (-16), 3) := by decide +kernel
theorem d_Co_init_57 : decode b_Co_init 57 = .ok (.return_, 1) := by decide +kernel
theorem d_Co_fill_0 : decode b_Co_fill 0 = .ok (.aload_n 0, 1) := by decide +kernel
theorem d_Co_fill_1 : decode b_Co_fill 1 = .ok (.getfield 9, 3) := by decide +kernel
theorem d_Co_fill_4 : decode b_Co_fill 4 = .ok (.iload_n 1, 1) := by decide +kernel
theorem d_Co_fill_5 : decode b_Co_fill 5 = .ok (.iload_n 2, 1) := by decide +kernel
theorem d_Co_fill_6 : decode b_Co_fill 6 = .ok (.iastore, 1) := by decide +kernel
theorem d_Co_fill_7 : decode b_Co_fill 7 = .ok (.aload_n 0, 1) := by decide +kernel
theorem d_Co_fill_8 : decode b_Co_fill 8 = .ok (.getfield 15, 3) := by decide +kernel
theorem d_Co_fill_11 : decode b_Co_fill 11 = .ok (.iload_n 1, 1) := by decide +kernel
theorem d_Co_fill_12 : decode b_Co_fill 12 = .ok (.iload_n 3, 1) := by decide +kernel
theorem d_Co_fill_13 : decode b_Co_fill 13 = .ok (.iastore, 1) := by decide +kernel
theorem d_Co_fill_14 : decode b_Co_fill 14 = .ok (.aload_n 0, 1) := by decide +kernel
theorem d_Co_fill_15 : decode b_Co_fill 15 = .ok (.getfield 18, 3) := by decide +kernel
theorem d_Co_fill_18 : decode b_Co_fill 18 = .ok (.iload_n 1, 1) := by decide +kernel
theorem d_Co_fill_19 : decode b_Co_fill 19 = .ok (.iload 4, 2) := by decide +kernel
theorem d_Co_fill_21 : decode b_Co_fill 21 = .ok (.iastore, 1) := by decide +kernel
theorem d_Co_fill_22 : decode b_Co_fill 22 = .ok (.return_, 1) := by decide +kernel
theorem d_Co_empty_0 : decode b_Co_empty 0 = .ok (.aload_n 0, 1) := by decide +kernel
theorem d_Co_empty_1 : decode b_Co_empty 1 = .ok (.iload_n 1, 1) := by decide +kernel
theorem d_Co_empty_2 : decode b_Co_empty 2 = .ok (.iconst 0, 1) := by decide +kernel
theorem d_Co_empty_3 : decode b_Co_empty 3 = .ok (.iconst 0, 1) := by decide +kernel
theorem d_Co_empty_4 : decode b_Co_empty 4 = .ok (.iconst (-1), 1) := by decide +kernel
theorem d_Co_empty_5 : decode b_Co_empty 5 = .ok (.invokevirtual 24, 3) := by decide +kernel
theorem d_Co_empty_8 : decode b_Co_empty 8 = .ok (.return_, 1) := by decide +kernel
theorem d_Co_move_0 : decode b_Co_move 0 = .ok (.aload_n 0, 1) := by decide +kernel
theorem d_Co_move_1 : decode b_Co_move 1 = .ok (.iload_n 2, 1) := by decide +kernel
theorem d_Co_move_2 : decode b_Co_move 2 = .ok (.aload_n 0, 1) := by decide +kernel
theorem d_Co_move_3 : decode b_Co_move 3 = .ok (.getfield 9, 3) := by decide +kernel
theorem d_Co_move_6 : decode b_Co_move 6 = .ok (.iload_n 1, 1) := by decide +kernel
theorem d_Co_move_7 : decode b_Co_move 7 = .ok (.iaload, 1) := by decide +kernel
theorem d_Co_move_8 : decode b_Co_move 8 = .ok (.aload_n 0, 1) := by decide +kernel
theorem d_Co_move_9 : decode b_Co_move 9 = .ok (.getfield 15, 3) := by decide +kernel
theorem d_Co_move_12 : decode b_Co_move 12 = .ok (.iload_n 1, 1) := by decide +kernel
theorem d_Co_move_13 : decode b_Co_move 13 = .ok (.iaload, 1) := by decide +kernel
theorem d_Co_move_14 : decode b_Co_move 14 = .ok (.aload_n 0, 1) := by decide +kernel
theorem d_Co_move_15 : decode b_Co_move 15 = .ok (.getfield 18, 3) := by decide +kernel
theorem d_Co_move_18 : decode b_Co_move 18 = .ok (.iload_n 1, 1) := by decide +kernel
theorem d_Co_move_19 : decode b_Co_move 19 = .ok (.iaload, 1) := by decide +kernel
theorem d_Co_move_20 : decode b_Co_move 20 = .ok (.invokevirtual 24, 3) := by decide +kernel
theorem d_Co_move_23 : decode b_Co_move 23 = .ok (.return_, 1) := by decide +kernel
theorem d_Co_takePage_0 : decode b_Co_takePage 0 = .ok (.iload_n 2, 1) := by decide +kernel
theorem d_Co_takePage_1 : decode b_Co_takePage 1 = .ok (.bipush 6, 2) := by decide +kernel
theorem d_Co_takePage_3 : decode b_Co_takePage 3 = .ok (.if_icmp .ne 19, 3) := by decide +kernel
theorem d_Co_takePage_6 : decode b_Co_takePage 6 = .ok (.aload_n 1, 1) := by decide +kernel
theorem d_Co_takePage_7 : decode b_Co_takePage 7 = .ok (.getfield 21, 3) := by decide +kernel
theorem d_Co_takePage_10 : decode b_Co_takePage 10 = .ok (.iconst 0, 1) := by decide +kernel
theorem d_Co_takePage_11 : decode b_Co_takePage 11 = .ok (.aload_n 0, 1) := by decide +kernel
theorem d_Co_takePage_12 : decode b_Co_takePage 12 = .ok (.getfield 21, 3) := by decide +kernel
theorem d_Co_takePage_15 : decode b_Co_takePage 15 = .ok (.iconst 0, 1) := by decide +kernel
theorem d_Co_takePage_16 : decode b_Co_takePage 16 = .ok (.bipush 41, 2) := by decide +kernel
theorem d_Co_takePage_18 : decode b_Co_takePage 18 = .ok (.invokestatic 28, 3) := by decide +kernel
theorem d_Co_takePage_21 : decode b_Co_takePage 21 = .ok (.return_, 1) := by decide +kernel
theorem d_Co_takePage_22 : decode b_Co_takePage 22 = .ok (.iload_n 2, 1) := by decide +kernel
theorem d_Co_takePage_23 : decode b_Co_takePage 23 = .ok (.iconst 3, 1) := by decide +kernel
theorem d_Co_takePage_24 : decode b_Co_takePage 24 = .ok (.if_icmp .ge 9, 3) := by decide +kernel
theorem d_Co_takePage_27 : decode b_Co_takePage 27 = .ok (.iload_n 2, 1) := by decide +kernel
theorem d_Co_takePage_28 : decode b_Co_takePage 28 = .ok (.iconst 2, 1) := by decide +kernel
theorem d_Co_takePage_29 : decode b_Co_takePage 29 = .ok (.imul, 1) := by decide +kernel
theorem d_Co_takePage_30 : decode b_Co_takePage 30 = .ok (.goto 11, 3) := by decide +kernel
theorem d_Co_takePage_33 : decode b_Co_takePage 33 = .ok (.bipush 6, 2) := by decide +kernel
theorem d_Co_takePage_35 : decode b_Co_takePage 35 = .ok (.iload_n 2, 1) := by decide +kernel
theorem d_Co_takePage_36 : decode b_Co_takePage 36 = .ok (.iconst 3, 1) := by decide +kernel
theorem d_Co_takePage_37 : decode b_Co_takePage 37 = .ok (.isub, 1) := by decide +kernel
theorem d_Co_takePage_38 : decode b_Co_takePage 38 = .ok (.iconst 3, 1) := by decide +kernel
theorem d_Co_takePage_39 : decode b_Co_takePage 39 = .ok (.imul, 1) := by decide +kernel
theorem d_Co_takePage_40 : decode b_Co_takePage 40 = .ok (.iadd, 1) := by decide +kernel
theorem d_Co_takePage_41 : decode b_Co_takePage 41 = .ok (.istore_n 3, 1) := by decide +kernel
theorem d_Co_takePage_42 : decode b_Co_takePage 42 = .ok (.iload_n 2, 1) := by decide +kernel
theorem d_Co_takePage_43 : decode b_Co_takePage 43 = .ok (.iconst 3, 1) := by decide +kernel
theorem d_Co_takePage_44 : decode b_Co_takePage 44 = .ok (.if_icmp .ge 7, 3) := by decide +kernel
theorem d_Co_takePage_47 : decode b_Co_takePage 47 = .ok (.iconst 2, 1) := by decide +kernel
theorem d_Co_takePage_48 : decode b_Co_takePage 48 = .ok (.goto 4, 3) := by decide +kernel
theorem d_Co_takePage_51 : decode b_Co_takePage 51 = .ok (.iconst 3, 1) := by decide +kernel
theorem d_Co_takePage_52 : decode b_Co_takePage 52 = .ok (.istore 4, 2) := by decide +kernel
theorem d_Co_takePage_54 : decode b_Co_takePage 54 = .ok (.aload_n 1, 1) := by decide +kernel
theorem d_Co_takePage_55 : decode b_Co_takePage 55 = .ok (.getfield 9, 3) := by decide +kernel
theorem d_Co_takePage_58 : decode b_Co_takePage 58 = .ok (.iload_n 3, 1) := by decide +kernel
theorem d_Co_takePage_59 : decode b_Co_takePage 59 = .ok (.aload_n 0, 1) := by decide +kernel
theorem d_Co_takePage_60 : decode b_Co_takePage 60 = .ok (.getfield 9, 3) := by decide +kernel
theorem d_Co_takePage_63 : decode b_Co_takePage 63 = .ok (.iload_n 3, 1) := by decide +kernel
theorem d_Co_takePage_64 : decode b_Co_takePage 64 = .ok (.iload 4, 2) := by decide +kernel
theorem d_Co_takePage_66 : decode b_Co_takePage 66 = .ok (.invokestatic 28, 3) := by decide +kernel
theorem d_Co_takePage_69 : decode b_Co_takePage 69 = .ok (.aload_n 1, 1) := by decide +kernel
theorem d_Co_takePage_70 : decode b_Co_takePage 70 = .ok (.getfield 15, 3) := by decide +kernel
theorem d_Co_takePage_73 : decode b_Co_takePage 73 = .ok (.iload_n 3, 1) := by decide +kernel
theorem d_Co_takePage_74 : decode b_Co_takePage 74 = .ok (.aload_n 0, 1) := by decide +kernel
theorem d_Co_takePage_75 : decode b_Co_takePage 75 = .ok (.getfield 15, 3) := by decide +kernel
theorem d_Co_takePage_78 : decode b_Co_takePage 78 = .ok (.iload_n 3, 1) := by decide +kernel
theorem d_Co_takePage_79 : decode b_Co_takePage 79 = .ok (.iload 4, 2) := by decide +kernel
theorem d_Co_takePage_81 : decode b_Co_takePage 81 = .ok (.invokestatic 28, 3) := by decide +kernel
theorem d_Co_takePage_84 : decode b_Co_takePage 84 = .ok (.aload_n 1, 1) := by decide +kernel
theorem d_Co_takePage_85 : decode b_Co_takePage 85 = .ok (.getfield 18, 3) := by decide +kernel
theorem d_Co_takePage_88 : decode b_Co_takePage 88 = .ok (.iload_n 3, 1) := by decide +kernel
theorem d_Co_takePage_89 : decode b_Co_takePage 89 = .ok (.aload_n 0, 1) := by decide +kernel
theorem d_Co_takePage_90 : decode b_Co_takePage 90 = .ok (.getfield 18, 3) := by decide +kernel
theorem d_Co_takePage_93 : decode b_Co_takePage 93 = .ok (.iload_n 3, 1) := by decide +kernel
theorem d_Co_takePage_94 : decode b_Co_takePage 94 = .ok (.iload 4, 2) := by decide +kernel
theorem d_Co_takePage_96 : decode b_Co_takePage 96 = .ok (.invokestatic 28, 3) := by decide +kernel
theorem d_Co_takePage_99 : decode b_Co_takePage 99 = .ok (.return_, 1) := by decide +kernel
theorem d_Co_isRolled_0 : decode b_Co_isRolled 0 = .ok (.aload_n 0, 1) := by decide +kernel
theorem d_Co_isRolled_1 : decode b_Co_isRolled 1 = .ok (.getfield 9, 3) := by decide +kernel
theorem d_Co_isRolled_4 : decode b_Co_isRolled 4 = .ok (.iload_n 1, 1) := by decide +kernel
theorem d_Co_isRolled_5 : decode b_Co_isRolled 5 = .ok (.iaload, 1) := by decide +kernel
theorem d_Co_isRolled_6 : decode b_Co_isRolled 6 = .ok (.ifCond .eq 22, 3) := by decide +kernel
theorem d_Co_isRolled_9 : decode b_Co_isRolled 9 = .ok (.aload_n 0, 1) := by decide +kernel
theorem d_Co_isRolled_10 : decode b_Co_isRolled 10 = .ok (.getfield 21, 3) := by decide +kernel
theorem d_Co_isRolled_13 : decode b_Co_isRolled 13 = .ok (.aload_n 0, 1) := by decide +kernel
theorem d_Co_isRolled_14 : decode b_Co_isRolled 14 = .ok (.getfield 9, 3) := by decide +kernel
theorem d_Co_isRolled_17 : decode b_Co_isRolled 17 = .ok (.iload_n 1, 1) := by decide +kernel
theorem d_Co_isRolled_18 : decode b_Co_isRolled 18 = .ok (.iaload, 1) := by decide +kernel
theorem d_Co_isRolled_19 : decode b_Co_isRolled 19 = .ok (.iaload, 1) := by decide +kernel
theorem d_Co_isRolled_20 : decode b_Co_isRolled 20 = .ok (.iconst 3, 1) := by decide +kernel
theorem d_Co_isRolled_21 : decode b_Co_isRolled 21 = .ok (.if_icmp .ne 7, 3) := by decide +kernel
theorem d_Co_isRolled_24 : decode b_Co_isRolled 24 = .ok (.iconst 1, 1) := by decide +kernel
theorem d_Co_isRolled_25 : decode b_Co_isRolled 25 = .ok (.goto 4, 3) := by decide +kernel
theorem d_Co_isRolled_28 : decode b_Co_isRolled 28 = .ok (.iconst 0, 1) := by decide +kernel
theorem d_Co_isRolled_29 : decode b_Co_isRolled 29 = .ok (.ireturn, 1) := by decide +kernel
theorem d_Co_next_0 : decode b_Co_next 0 = .ok (.aload_n 0, 1) := by decide +kernel
theorem d_Co_next_1 : decode b_Co_next 1 = .ok (.getfield 18, 3) := by decide +kernel
theorem d_Co_next_4 : decode b_Co_next 4 = .ok (.iload_n 1, 1) := by decide +kernel
theorem d_Co_next_5 : decode b_Co_next 5 = .ok (.iaload, 1) := by decide +kernel
theorem d_Co_next_6 : decode b_Co_next 6 = .ok (.istore_n 2, 1) := by decide +kernel
theorem d_Co_next_7 : decode b_Co_next 7 = .ok (.iload_n 2, 1) := by decide +kernel
theorem d_Co_next_8 : decode b_Co_next 8 = .ok (.iconst (-1), 1) := by decide +kernel
theorem d_Co_next_9 : decode b_Co_next 9 = .ok (.if_icmp .eq 12, 3) := by decide +kernel
theorem d_Co_next_12 : decode b_Co_next 12 = .ok (.aload_n 0, 1) := by decide +kernel
theorem d_Co_next_13 : decode b_Co_next 13 = .ok (.getfield 9, 3) := by decide +kernel
theorem d_Co_next_16 : decode b_Co_next 16 = .ok (.iload_n 2, 1) := by decide +kernel
theorem d_Co_next_17 : decode b_Co_next 17 = .ok (.iaload, 1) := by decide +kernel
theorem d_Co_next_18 : decode b_Co_next 18 = .ok (.ifCond .ne 7, 3) := by decide +kernel
theorem d_Co_next_21 : decode b_Co_next 21 = .ok (.iconst (-1), 1) := by decide +kernel
theorem d_Co_next_22 : decode b_Co_next 22 = .ok (.goto 4, 3) := by decide +kernel
theorem d_Co_next_25 : decode b_Co_next 25 = .ok (.iload_n 2, 1) := by decide +kernel
theorem d_Co_next_26 : decode b_Co_next 26 = .ok (.ireturn, 1) := by decide +kernel
theorem d_Co_placeAt_0 : decode b_Co_placeAt 0 = .ok (.iload_n 2, 1) := by decide +kernel
theorem d_Co_placeAt_1 : decode b_Co_placeAt 1 = .ok (.ifCond .lt 18, 3) := by decide +kernel
theorem d_Co_placeAt_4 : decode b_Co_placeAt 4 = .ok (.iload_n 2, 1) := by decide +kernel
theorem d_Co_placeAt_5 : decode b_Co_placeAt 5 = .ok (.bipush 15, 2) := by decide +kernel
theorem d_Co_placeAt_7 : decode b_Co_placeAt 7 = .ok (.if_icmp .ge 12, 3) := by decide +kernel
theorem d_Co_placeAt_10 : decode b_Co_placeAt 10 = .ok (.aload_n 0, 1) := by decide +kernel
theorem d_Co_placeAt_11 : decode b_Co_placeAt 11 = .ok (.getfield 9, 3) := by decide +kernel
theorem d_Co_placeAt_14 : decode b_Co_placeAt 14 = .ok (.iload_n 1, 1) := by decide +kernel
theorem d_Co_placeAt_15 : decode b_Co_placeAt 15 = .ok (.iaload, 1) := by decide +kernel
theorem d_Co_placeAt_16 : decode b_Co_placeAt 16 = .ok (.ifCond .ne 5, 3) := by decide +kernel
theorem d_Co_placeAt_19 : decode b_Co_placeAt 19 = .ok (.iconst (-1), 1) := by decide +kernel
theorem d_Co_placeAt_20 : decode b_Co_placeAt 20 = .ok (.ireturn, 1) := by decide +kernel
theorem d_Co_placeAt_21 : decode b_Co_placeAt 21 = .ok (.iload_n 1, 1) := by decide +kernel
theorem d_Co_placeAt_22 : decode b_Co_placeAt 22 = .ok (.istore_n 3, 1) := by decide +kernel
theorem d_Co_placeAt_23 : decode b_Co_placeAt 23 = .ok (.iconst 0, 1) := by decide +kernel
theorem d_Co_placeAt_24 : decode b_Co_placeAt 24 = .ok (.istore 4, 2) := by decide +kernel
theorem d_Co_placeAt_26 : decode b_Co_placeAt 26 = .ok (.iload 4, 2) := by decide +kernel
theorem d_Co_placeAt_28 : decode b_Co_placeAt 28 = .ok (.iload_n 2, 1) := by decide +kernel
theorem d_Co_placeAt_29 : decode b_Co_placeAt 29 = .ok (.if_icmp .ge 20, 3) := by decide +kernel
theorem d_Co_placeAt_32 : decode b_Co_placeAt 32 = .ok (.iload_n 3, 1) := by decide +kernel
theorem d_Co_placeAt_33 : decode b_Co_placeAt 33 = .ok (.iconst (-1), 1) := by decide +kernel
theorem d_Co_placeAt_34 : decode b_Co_placeAt 34 = .ok (.if_icmp .eq 15, 3) := by decide +kernel
theorem d_Co_placeAt_37 : decode b_Co_placeAt 37 = .ok (.aload_n 0, 1) := by decide +kernel
theorem d_Co_placeAt_38 : decode b_Co_placeAt 38 = .ok (.iload_n 3, 1) := by decide +kernel
theorem d_Co_placeAt_39 : decode b_Co_placeAt 39 = .ok (.invokevirtual 34, 3) := by decide +kernel
theorem d_Co_placeAt_42 : decode b_Co_placeAt 42 = .ok (.istore_n 3, 1) := by decide +kernel
theorem d_Co_placeAt_43 : decode b_Co_placeAt 43 = .ok (.iinc 4 1, 3) := by decide +kernel
theorem d_Co_placeAt_46 : decode b_Co_placeAt 46 = .ok (.goto (-20), 3) := by decide +kernel
theorem d_Co_placeAt_49 : decode b_Co_placeAt 49 = .ok (.iload_n 3, 1) := by decide +kernel
theorem d_Co_placeAt_50 : decode b_Co_placeAt 50 = .ok (.ireturn, 1) := by decide +kernel
theorem d_Co_firstOf_0 : decode b_Co_firstOf 0 = .ok (.aload_n 0, 1) := by decide +kernel
theorem d_Co_firstOf_1 : decode b_Co_firstOf 1 = .ok (.iload_n 3, 1) := by decide +kernel
theorem d_Co_firstOf_2 : decode b_Co_firstOf 2 = .ok (.iconst 0, 1) := by decide +kernel
theorem d_Co_firstOf_3 : decode b_Co_firstOf 3 = .ok (.invokevirtual 38, 3) := by decide +kernel
theorem d_Co_firstOf_6 : decode b_Co_firstOf 6 = .ok (.istore 4, 2) := by decide +kernel
theorem d_Co_firstOf_8 : decode b_Co_firstOf 8 = .ok (.iconst 0, 1) := by decide +kernel
theorem d_Co_firstOf_9 : decode b_Co_firstOf 9 = .ok (.istore 5, 2) := by decide +kernel
theorem d_Co_firstOf_11 : decode b_Co_firstOf 11 = .ok (.iload 5, 2) := by decide +kernel
theorem d_Co_firstOf_13 : decode b_Co_firstOf 13 = .ok (.bipush 15, 2) := by decide +kernel
theorem d_Co_firstOf_15 : decode b_Co_firstOf 15 = .ok (.if_icmp .ge 40, 3) := by decide +kernel
theorem d_Co_firstOf_18 : decode b_Co_firstOf 18 = .ok (.iload 4, 2) := by decide +kernel
theorem d_Co_firstOf_20 : decode b_Co_firstOf 20 = .ok (.iconst (-1), 1) := by decide +kernel
theorem d_Co_firstOf_21 : decode b_Co_firstOf 21 = .ok (.if_icmp .eq 34, 3) := by decide +kernel
theorem d_Co_firstOf_24 : decode b_Co_firstOf 24 = .ok (.lload_n 1, 1) := by decide +kernel
theorem d_Co_firstOf_25 : decode b_Co_firstOf 25 = .ok (.aload_n 0, 1) := by decide +kernel
theorem d_Co_firstOf_26 : decode b_Co_firstOf 26 = .ok (.getfield 9, 3) := by decide +kernel
theorem d_Co_firstOf_29 : decode b_Co_firstOf 29 = .ok (.iload 4, 2) := by decide +kernel
theorem d_Co_firstOf_31 : decode b_Co_firstOf 31 = .ok (.iaload, 1) := by decide +kernel
theorem d_Co_firstOf_32 : decode b_Co_firstOf 32 = .ok (.invokestatic 42, 3) := by decide +kernel
theorem d_Co_firstOf_35 : decode b_Co_firstOf 35 = .ok (.ifCond .eq 6, 3) := by decide +kernel
theorem d_Co_firstOf_38 : decode b_Co_firstOf 38 = .ok (.iload 4, 2) := by decide +kernel
theorem d_Co_firstOf_40 : decode b_Co_firstOf 40 = .ok (.ireturn, 1) := by decide +kernel
theorem d_Co_firstOf_41 : decode b_Co_firstOf 41 = .ok (.aload_n 0, 1) := by decide +kernel
theorem d_Co_firstOf_42 : decode b_Co_firstOf 42 = .ok (.iload 4, 2) := by decide +kernel
theorem d_Co_firstOf_44 : decode b_Co_firstOf 44 = .ok (.invokevirtual 34, 3) := by decide +kernel
theorem d_Co_firstOf_47 : decode b_Co_firstOf 47 = .ok (.istore 4, 2) := by decide +kernel
theorem d_Co_firstOf_49 : decode b_Co_firstOf 49 = .ok (.iinc 5 1, 3) := by decide +kernel
theorem d_Co_firstOf_52 : decode b_Co_firstOf 52 = .ok (.goto (-41), 3) := by decide +kernel
theorem d_Co_firstOf_55 : decode b_Co_firstOf 55 = .ok (.iconst (-1), 1) := by decide +kernel
theorem d_Co_firstOf_56 : decode b_Co_firstOf 56 = .ok (.ireturn, 1) := by decide +kernel
theorem d_Co_chainBehind_0 : decode b_Co_chainBehind 0 = .ok (.iconst 0, 1) := by decide +kernel
theorem d_Co_chainBehind_1 : decode b_Co_chainBehind 1 = .ok (.istore_n 3, 1) := by decide +kernel
theorem d_Co_chainBehind_2 : decode b_Co_chainBehind 2 = .ok (.aload_n 0, 1) := by decide +kernel
theorem d_Co_chainBehind_3 : decode b_Co_chainBehind 3 = .ok (.iload_n 1, 1) := by decide +kernel
theorem d_Co_chainBehind_4 : decode b_Co_chainBehind 4 = .ok (.invokevirtual 34, 3) := by decide +kernel
theorem d_Co_chainBehind_7 : decode b_Co_chainBehind 7 = .ok (.istore 4, 2) := by decide +kernel
theorem d_Co_chainBehind_9 : decode b_Co_chainBehind 9 = .ok (.iload 4, 2) := by decide +kernel
theorem d_Co_chainBehind_11 : decode b_Co_chainBehind 11 = .ok (.iconst (-1), 1) := by decide +kernel
theorem d_Co_chainBehind_12 : decode b_Co_chainBehind 12 = .ok (.if_icmp .eq 28, 3) := by decide +kernel
theorem d_Co_chainBehind_15 : decode b_Co_chainBehind 15 = .ok (.iload_n 3, 1) := by decide +kernel
theorem d_Co_chainBehind_16 : decode b_Co_chainBehind 16 = .ok (.aload_n 2, 1) := by decide +kernel
theorem d_Co_chainBehind_17 : decode b_Co_chainBehind 17 = .ok (.arraylength, 1) := by decide +kernel
theorem d_Co_chainBehind_18 : decode b_Co_chainBehind 18 = .ok (.if_icmp .ge 22, 3) := by decide +kernel
theorem d_Co_chainBehind_21 : decode b_Co_chainBehind 21 = .ok (.aload_n 2, 1) := by decide +kernel
theorem d_Co_chainBehind_22 : decode b_Co_chainBehind 22 = .ok (.iload_n 3, 1) := by decide +kernel
theorem d_Co_chainBehind_23 : decode b_Co_chainBehind 23 = .ok (.iload 4, 2) := by decide +kernel
theorem d_Co_chainBehind_25 : decode b_Co_chainBehind 25 = .ok (.iastore, 1) := by decide +kernel
theorem d_Co_chainBehind_26 : decode b_Co_chainBehind 26 = .ok (.iinc 3 1, 3) := by decide +kernel
theorem d_Co_chainBehind_29 : decode b_Co_chainBehind 29 = .ok (.aload_n 0, 1) := by decide +kernel
theorem d_Co_chainBehind_30 : decode b_Co_chainBehind 30 = .ok (.iload 4, 2) := by decide +kernel
theorem d_Co_chainBehind_32 : decode b_Co_chainBehind 32 = .ok (.invokevirtual 34, 3) := by decide +kernel
theorem d_Co_chainBehind_35 : decode b_Co_chainBehind 35 = .ok (.istore 4, 2) := by decide +kernel
theorem d_Co_chainBehind_37 : decode b_Co_chainBehind 37 = .ok (.goto (-28), 3) := by decide +kernel
theorem d_Co_chainBehind_40 : decode b_Co_chainBehind 40 = .ok (.iload_n 3, 1) := by decide +kernel
theorem d_Co_chainBehind_41 : decode b_Co_chainBehind 41 = .ok (.ireturn, 1) := by decide +kernel
theorem d_Co_leastFree_0 : decode b_Co_leastFree 0 = .ok (.bipush 6, 2) := by decide +kernel
theorem d_Co_leastFree_2 : decode b_Co_leastFree 2 = .ok (.istore_n 1, 1) := by decide +kernel
theorem d_Co_leastFree_3 : decode b_Co_leastFree 3 = .ok (.iload_n 1, 1) := by decide +kernel
theorem d_Co_leastFree_4 : decode b_Co_leastFree 4 = .ok (.bipush 15, 2) := by decide +kernel
theorem d_Co_leastFree_6 : decode b_Co_leastFree 6 = .ok (.if_icmp .ge 20, 3) := by decide +kernel
theorem d_Co_leastFree_9 : decode b_Co_leastFree 9 = .ok (.aload_n 0, 1) := by decide +kernel
theorem d_Co_leastFree_10 : decode b_Co_leastFree 10 = .ok (.getfield 9, 3) := by decide +kernel
theorem d_Co_leastFree_13 : decode b_Co_leastFree 13 = .ok (.iload_n 1, 1) := by decide +kernel
theorem d_Co_leastFree_14 : decode b_Co_leastFree 14 = .ok (.iaload, 1) := by decide +kernel
theorem d_Co_leastFree_15 : decode b_Co_leastFree 15 = .ok (.ifCond .ne 5, 3) := by decide +kernel
theorem d_Co_leastFree_18 : decode b_Co_leastFree 18 = .ok (.iload_n 1, 1) := by decide +kernel
theorem d_Co_leastFree_19 : decode b_Co_leastFree 19 = .ok (.ireturn, 1) := by decide +kernel
theorem d_Co_leastFree_20 : decode b_Co_leastFree 20 = .ok (.iinc 1 1, 3) := by decide +kernel
theorem d_Co_leastFree_23 : decode b_Co_leastFree 23 = .ok (.goto (-20), 3) := by decide +kernel
theorem d_Co_leastFree_26 : decode b_Co_leastFree 26 = .ok (.iconst (-1), 1) := by decide +kernel
theorem d_Co_leastFree_27 : decode b_Co_leastFree 27 = .ok (.ireturn, 1) := by decide +kernel
theorem d_Co_freeSlots_0 : decode b_Co_freeSlots 0 = .ok (.iconst 0, 1) := by decide +kernel
theorem d_Co_freeSlots_1 : decode b_Co_freeSlots 1 = .ok (.istore_n 1, 1) := by decide +kernel
theorem d_Co_freeSlots_2 : decode b_Co_freeSlots 2 = .ok (.bipush 6, 2) := by decide +kernel
theorem d_Co_freeSlots_4 : decode b_Co_freeSlots 4 = .ok (.istore_n 2, 1) := by decide +kernel
theorem d_Co_freeSlots_5 : decode b_Co_freeSlots 5 = .ok (.iload_n 2, 1) := by decide +kernel
theorem d_Co_freeSlots_6 : decode b_Co_freeSlots 6 = .ok (.bipush 15, 2) := by decide +kernel
theorem d_Co_freeSlots_8 : decode b_Co_freeSlots 8 = .ok (.if_icmp .ge 26, 3) := by decide +kernel
theorem d_Co_freeSlots_11 : decode b_Co_freeSlots 11 = .ok (.iload_n 1, 1) := by decide +kernel
theorem d_Co_freeSlots_12 : decode b_Co_freeSlots 12 = .ok (.aload_n 0, 1) := by decide +kernel
theorem d_Co_freeSlots_13 : decode b_Co_freeSlots 13 = .ok (.getfield 9, 3) := by decide +kernel
theorem d_Co_freeSlots_16 : decode b_Co_freeSlots 16 = .ok (.iload_n 2, 1) := by decide +kernel
theorem d_Co_freeSlots_17 : decode b_Co_freeSlots 17 = .ok (.iaload, 1) := by decide +kernel
theorem d_Co_freeSlots_18 : decode b_Co_freeSlots 18 = .ok (.ifCond .ne 7, 3) := by decide +kernel
theorem d_Co_freeSlots_21 : decode b_Co_freeSlots 21 = .ok (.iconst 1, 1) := by decide +kernel
theorem d_Co_freeSlots_22 : decode b_Co_freeSlots 22 = .ok (.goto 4, 3) := by decide +kernel
theorem d_Co_freeSlots_25 : decode b_Co_freeSlots 25 = .ok (.iconst 0, 1) := by decide +kernel
theorem d_Co_freeSlots_26 : decode b_Co_freeSlots 26 = .ok (.iadd, 1) := by decide +kernel
theorem d_Co_freeSlots_27 : decode b_Co_freeSlots 27 = .ok (.istore_n 1, 1) := by decide +kernel
theorem d_Co_freeSlots_28 : decode b_Co_freeSlots 28 = .ok (.iinc 2 1, 3) := by decide +kernel
theorem d_Co_freeSlots_31 : decode b_Co_freeSlots 31 = .ok (.goto (-26), 3) := by decide +kernel
theorem d_Co_freeSlots_34 : decode b_Co_freeSlots 34 = .ok (.iload_n 1, 1) := by decide +kernel
theorem d_Co_freeSlots_35 : decode b_Co_freeSlots 35 = .ok (.ireturn, 1) := by decide +kernel
theorem d_Co_leastUnused_0 : decode b_Co_leastUnused 0 = .ok (.iconst 1, 1) := by decide +kernel
theorem d_Co_leastUnused_1 : decode b_Co_leastUnused 1 = .ok (.istore_n 1, 1) := by decide +kernel
theorem d_Co_leastUnused_2 : decode b_Co_leastUnused 2 = .ok (.iload_n 1, 1) := by decide +kernel
theorem d_Co_leastUnused_3 : decode b_Co_leastUnused 3 = .ok (.bipush 40, 2) := by decide +kernel
theorem d_Co_leastUnused_5 : decode b_Co_leastUnused 5 = .ok (.if_icmp .gt 20, 3) := by decide +kernel
theorem d_Co_leastUnused_8 : decode b_Co_leastUnused 8 = .ok (.aload_n 0, 1) := by decide +kernel
theorem d_Co_leastUnused_9 : decode b_Co_leastUnused 9 = .ok (.getfield 21, 3) := by decide +kernel
theorem d_Co_leastUnused_12 : decode b_Co_leastUnused 12 = .ok (.iload_n 1, 1) := by decide +kernel
theorem d_Co_leastUnused_13 : decode b_Co_leastUnused 13 = .ok (.iaload, 1) := by decide +kernel
theorem d_Co_leastUnused_14 : decode b_Co_leastUnused 14 = .ok (.ifCond .ne 5, 3) := by decide +kernel
theorem d_Co_leastUnused_17 : decode b_Co_leastUnused 17 = .ok (.iload_n 1, 1) := by decide +kernel
theorem d_Co_leastUnused_18 : decode b_Co_leastUnused 18 = .ok (.ireturn, 1) := by decide +kernel
theorem d_Co_leastUnused_19 : decode b_Co_leastUnused 19 = .ok (.iinc 1 1, 3) := by decide +kernel
theorem d_Co_leastUnused_22 : decode b_Co_leastUnused 22 = .ok (.goto (-20), 3) := by decide +kernel
theorem d_Co_leastUnused_25 : decode b_Co_leastUnused 25 = .ok (.iconst 0, 1) := by decide +kernel
theorem d_Co_leastUnused_26 : decode b_Co_leastUnused 26 = .ok (.ireturn, 1) := by decide +kernel
theorem d_Co_setIn_0 : decode b_Co_setIn 0 = .ok (.lconst 0, 1) := by decide +kernel
theorem d_Co_setIn_1 : decode b_Co_setIn 1 = .ok (.lstore_n 2, 1) := by decide +kernel
theorem d_Co_setIn_2 : decode b_Co_setIn 2 = .ok (.iconst 1, 1) := by decide +kernel
theorem d_Co_setIn_3 : decode b_Co_setIn 3 = .ok (.istore 4, 2) := by decide +kernel
theorem d_Co_setIn_5 : decode b_Co_setIn 5 = .ok (.iload 4, 2) := by decide +kernel
theorem d_Co_setIn_7 : decode b_Co_setIn 7 = .ok (.bipush 40, 2) := by decide +kernel
theorem d_Co_setIn_9 : decode b_Co_setIn 9 = .ok (.if_icmp .gt 27, 3) := by decide +kernel
theorem d_Co_setIn_12 : decode b_Co_setIn 12 = .ok (.aload_n 0, 1) := by decide +kernel
theorem d_Co_setIn_13 : decode b_Co_setIn 13 = .ok (.getfield 21, 3) := by decide +kernel
theorem d_Co_setIn_16 : decode b_Co_setIn 16 = .ok (.iload 4, 2) := by decide +kernel
theorem d_Co_setIn_18 : decode b_Co_setIn 18 = .ok (.iaload, 1) := by decide +kernel
theorem d_Co_setIn_19 : decode b_Co_setIn 19 = .ok (.iload_n 1, 1) := by decide +kernel
theorem d_Co_setIn_20 : decode b_Co_setIn 20 = .ok (.if_icmp .ne 10, 3) := by decide +kernel
theorem d_Co_setIn_23 : decode b_Co_setIn 23 = .ok (.lload_n 2, 1) := by decide +kernel
theorem d_Co_setIn_24 : decode b_Co_setIn 24 = .ok (.lconst 1, 1) := by decide +kernel
theorem d_Co_setIn_25 : decode b_Co_setIn 25 = .ok (.iload 4, 2) := by decide +kernel
theorem d_Co_setIn_27 : decode b_Co_setIn 27 = .ok (.lshl, 1) := by decide +kernel
theorem d_Co_setIn_28 : decode b_Co_setIn 28 = .ok (.lor, 1) := by decide +kernel
theorem d_Co_setIn_29 : decode b_Co_setIn 29 = .ok (.lstore_n 2, 1) := by decide +kernel
theorem d_Co_setIn_30 : decode b_Co_setIn 30 = .ok (.iinc 4 1, 3) := by decide +kernel
theorem d_Co_setIn_33 : decode b_Co_setIn 33 = .ok (.goto (-28), 3) := by decide +kernel
theorem d_Co_setIn_36 : decode b_Co_setIn 36 = .ok (.lload_n 2, 1) := by decide +kernel
theorem d_Co_setIn_37 : decode b_Co_setIn 37 = .ok (.lreturn, 1) := by decide +kernel
theorem d_JL_bitCount_0 : decode b_JL_bitCount 0 = .ok (.lload_n 0, 1) := by decide +kernel
theorem d_JL_bitCount_1 : decode b_JL_bitCount 1 = .ok (.lload_n 0, 1) := by decide +kernel
theorem d_JL_bitCount_2 : decode b_JL_bitCount 2 = .ok (.iconst 1, 1) := by decide +kernel
theorem d_JL_bitCount_3 : decode b_JL_bitCount 3 = .ok (.lushr, 1) := by decide +kernel
theorem d_JL_bitCount_4 : decode b_JL_bitCount 4 = .ok (.ldc2_w 314, 3) := by decide +kernel
theorem d_JL_bitCount_7 : decode b_JL_bitCount 7 = .ok (.land, 1) := by decide +kernel
theorem d_JL_bitCount_8 : decode b_JL_bitCount 8 = .ok (.lsub, 1) := by decide +kernel
theorem d_JL_bitCount_9 : decode b_JL_bitCount 9 = .ok (.lstore_n 0, 1) := by decide +kernel
theorem d_JL_bitCount_10 : decode b_JL_bitCount 10 = .ok (.lload_n 0, 1) := by decide +kernel
theorem d_JL_bitCount_11 : decode b_JL_bitCount 11 = .ok (.ldc2_w 316, 3) := by decide +kernel
theorem d_JL_bitCount_14 : decode b_JL_bitCount 14 = .ok (.land, 1) := by decide +kernel
theorem d_JL_bitCount_15 : decode b_JL_bitCount 15 = .ok (.lload_n 0, 1) := by decide +kernel
theorem d_JL_bitCount_16 : decode b_JL_bitCount 16 = .ok (.iconst 2, 1) := by decide +kernel
theorem d_JL_bitCount_17 : decode b_JL_bitCount 17 = .ok (.lushr, 1) := by decide +kernel
theorem d_JL_bitCount_18 : decode b_JL_bitCount 18 = .ok (.ldc2_w 316, 3) := by decide +kernel
theorem d_JL_bitCount_21 : decode b_JL_bitCount 21 = .ok (.land, 1) := by decide +kernel
theorem d_JL_bitCount_22 : decode b_JL_bitCount 22 = .ok (.ladd, 1) := by decide +kernel
theorem d_JL_bitCount_23 : decode b_JL_bitCount 23 = .ok (.lstore_n 0, 1) := by decide +kernel
theorem d_JL_bitCount_24 : decode b_JL_bitCount 24 = .ok (.lload_n 0, 1) := by decide +kernel
theorem d_JL_bitCount_25 : decode b_JL_bitCount 25 = .ok (.lload_n 0, 1) := by decide +kernel
theorem d_JL_bitCount_26 : decode b_JL_bitCount 26 = .ok (.iconst 4, 1) := by decide +kernel
theorem d_JL_bitCount_27 : decode b_JL_bitCount 27 = .ok (.lushr, 1) := by decide +kernel
theorem d_JL_bitCount_28 : decode b_JL_bitCount 28 = .ok (.ladd, 1) := by decide +kernel
theorem d_JL_bitCount_29 : decode b_JL_bitCount 29 = .ok (.ldc2_w 318, 3) := by decide +kernel
theorem d_JL_bitCount_32 : decode b_JL_bitCount 32 = .ok (.land, 1) := by decide +kernel
theorem d_JL_bitCount_33 : decode b_JL_bitCount 33 = .ok (.lstore_n 0, 1) := by decide +kernel
theorem d_JL_bitCount_34 : decode b_JL_bitCount 34 = .ok (.lload_n 0, 1) := by decide +kernel
theorem d_JL_bitCount_35 : decode b_JL_bitCount 35 = .ok (.lload_n 0, 1) := by decide +kernel
theorem d_JL_bitCount_36 : decode b_JL_bitCount 36 = .ok (.bipush 8, 2) := by decide +kernel
theorem d_JL_bitCount_38 : decode b_JL_bitCount 38 = .ok (.lushr, 1) := by decide +kernel
theorem d_JL_bitCount_39 : decode b_JL_bitCount 39 = .ok (.ladd, 1) := by decide +kernel
theorem d_JL_bitCount_40 : decode b_JL_bitCount 40 = .ok (.lstore_n 0, 1) := by decide +kernel
theorem d_JL_bitCount_41 : decode b_JL_bitCount 41 = .ok (.lload_n 0, 1) := by decide +kernel
theorem d_JL_bitCount_42 : decode b_JL_bitCount 42 = .ok (.lload_n 0, 1) := by decide +kernel
theorem d_JL_bitCount_43 : decode b_JL_bitCount 43 = .ok (.bipush 16, 2) := by decide +kernel
theorem d_JL_bitCount_45 : decode b_JL_bitCount 45 = .ok (.lushr, 1) := by decide +kernel
theorem d_JL_bitCount_46 : decode b_JL_bitCount 46 = .ok (.ladd, 1) := by decide +kernel
theorem d_JL_bitCount_47 : decode b_JL_bitCount 47 = .ok (.lstore_n 0, 1) := by decide +kernel
theorem d_JL_bitCount_48 : decode b_JL_bitCount 48 = .ok (.lload_n 0, 1) := by decide +kernel
theorem d_JL_bitCount_49 : decode b_JL_bitCount 49 = .ok (.lload_n 0, 1) := by decide +kernel
theorem d_JL_bitCount_50 : decode b_JL_bitCount 50 = .ok (.bipush 32, 2) := by decide +kernel
theorem d_JL_bitCount_52 : decode b_JL_bitCount 52 = .ok (.lushr, 1) := by decide +kernel
theorem d_JL_bitCount_53 : decode b_JL_bitCount 53 = .ok (.ladd, 1) := by decide +kernel
theorem d_JL_bitCount_54 : decode b_JL_bitCount 54 = .ok (.lstore_n 0, 1) := by decide +kernel
theorem d_JL_bitCount_55 : decode b_JL_bitCount 55 = .ok (.lload_n 0, 1) := by decide +kernel
theorem d_JL_bitCount_56 : decode b_JL_bitCount 56 = .ok (.l2i, 1) := by decide +kernel
theorem d_JL_bitCount_57 : decode b_JL_bitCount 57 = .ok (.bipush 127, 2) := by decide +kernel
theorem d_JL_bitCount_59 : decode b_JL_bitCount 59 = .ok (.iand, 1) := by decide +kernel
theorem d_JL_bitCount_60 : decode b_JL_bitCount 60 = .ok (.ireturn, 1) := by decide +kernel
theorem d_Co_active_0 : decode b_Co_active 0 = .ok (.aload_n 0, 1) := by decide +kernel
theorem d_Co_active_1 : decode b_Co_active 1 = .ok (.iconst 1, 1) := by decide +kernel
theorem d_Co_active_2 : decode b_Co_active 2 = .ok (.invokevirtual 46, 3) := by decide +kernel
theorem d_Co_active_5 : decode b_Co_active 5 = .ok (.invokestatic 50, 3) := by decide +kernel
theorem d_Co_active_8 : decode b_Co_active 8 = .ok (.ireturn, 1) := by decide +kernel
theorem d_Co_committed_0 : decode b_Co_committed 0 = .ok (.aload_n 0, 1) := by decide +kernel
theorem d_Co_committed_1 : decode b_Co_committed 1 = .ok (.iconst 2, 1) := by decide +kernel
theorem d_Co_committed_2 : decode b_Co_committed 2 = .ok (.invokevirtual 46, 3) := by decide +kernel
theorem d_Co_committed_5 : decode b_Co_committed 5 = .ok (.lreturn, 1) := by decide +kernel
theorem d_JI_bitCount_0 : decode b_JI_bitCount 0 = .ok (.iload_n 0, 1) := by decide +kernel
theorem d_JI_bitCount_1 : decode b_JI_bitCount 1 = .ok (.iload_n 0, 1) := by decide +kernel
theorem d_JI_bitCount_2 : decode b_JI_bitCount 2 = .ok (.iconst 1, 1) := by decide +kernel
theorem d_JI_bitCount_3 : decode b_JI_bitCount 3 = .ok (.iushr, 1) := by decide +kernel
theorem d_JI_bitCount_4 : decode b_JI_bitCount 4 = .ok (.ldc_w 265, 3) := by decide +kernel
theorem d_JI_bitCount_7 : decode b_JI_bitCount 7 = .ok (.iand, 1) := by decide +kernel
theorem d_JI_bitCount_8 : decode b_JI_bitCount 8 = .ok (.isub, 1) := by decide +kernel
theorem d_JI_bitCount_9 : decode b_JI_bitCount 9 = .ok (.istore_n 0, 1) := by decide +kernel
theorem d_JI_bitCount_10 : decode b_JI_bitCount 10 = .ok (.iload_n 0, 1) := by decide +kernel
theorem d_JI_bitCount_11 : decode b_JI_bitCount 11 = .ok (.ldc_w 266, 3) := by decide +kernel
theorem d_JI_bitCount_14 : decode b_JI_bitCount 14 = .ok (.iand, 1) := by decide +kernel
theorem d_JI_bitCount_15 : decode b_JI_bitCount 15 = .ok (.iload_n 0, 1) := by decide +kernel
theorem d_JI_bitCount_16 : decode b_JI_bitCount 16 = .ok (.iconst 2, 1) := by decide +kernel
theorem d_JI_bitCount_17 : decode b_JI_bitCount 17 = .ok (.iushr, 1) := by decide +kernel
theorem d_JI_bitCount_18 : decode b_JI_bitCount 18 = .ok (.ldc_w 266, 3) := by decide +kernel
theorem d_JI_bitCount_21 : decode b_JI_bitCount 21 = .ok (.iand, 1) := by decide +kernel
theorem d_JI_bitCount_22 : decode b_JI_bitCount 22 = .ok (.iadd, 1) := by decide +kernel
theorem d_JI_bitCount_23 : decode b_JI_bitCount 23 = .ok (.istore_n 0, 1) := by decide +kernel
theorem d_JI_bitCount_24 : decode b_JI_bitCount 24 = .ok (.iload_n 0, 1) := by decide +kernel
theorem d_JI_bitCount_25 : decode b_JI_bitCount 25 = .ok (.iload_n 0, 1) := by decide +kernel
theorem d_JI_bitCount_26 : decode b_JI_bitCount 26 = .ok (.iconst 4, 1) := by decide +kernel
theorem d_JI_bitCount_27 : decode b_JI_bitCount 27 = .ok (.iushr, 1) := by decide +kernel
theorem d_JI_bitCount_28 : decode b_JI_bitCount 28 = .ok (.iadd, 1) := by decide +kernel
theorem d_JI_bitCount_29 : decode b_JI_bitCount 29 = .ok (.ldc_w 267, 3) := by decide +kernel
theorem d_JI_bitCount_32 : decode b_JI_bitCount 32 = .ok (.iand, 1) := by decide +kernel
theorem d_JI_bitCount_33 : decode b_JI_bitCount 33 = .ok (.istore_n 0, 1) := by decide +kernel
theorem d_JI_bitCount_34 : decode b_JI_bitCount 34 = .ok (.iload_n 0, 1) := by decide +kernel
theorem d_JI_bitCount_35 : decode b_JI_bitCount 35 = .ok (.iload_n 0, 1) := by decide +kernel
theorem d_JI_bitCount_36 : decode b_JI_bitCount 36 = .ok (.bipush 8, 2) := by decide +kernel
theorem d_JI_bitCount_38 : decode b_JI_bitCount 38 = .ok (.iushr, 1) := by decide +kernel
theorem d_JI_bitCount_39 : decode b_JI_bitCount 39 = .ok (.iadd, 1) := by decide +kernel
theorem d_JI_bitCount_40 : decode b_JI_bitCount 40 = .ok (.istore_n 0, 1) := by decide +kernel
theorem d_JI_bitCount_41 : decode b_JI_bitCount 41 = .ok (.iload_n 0, 1) := by decide +kernel
theorem d_JI_bitCount_42 : decode b_JI_bitCount 42 = .ok (.iload_n 0, 1) := by decide +kernel
theorem d_JI_bitCount_43 : decode b_JI_bitCount 43 = .ok (.bipush 16, 2) := by decide +kernel
theorem d_JI_bitCount_45 : decode b_JI_bitCount 45 = .ok (.iushr, 1) := by decide +kernel
theorem d_JI_bitCount_46 : decode b_JI_bitCount 46 = .ok (.iadd, 1) := by decide +kernel
theorem d_JI_bitCount_47 : decode b_JI_bitCount 47 = .ok (.istore_n 0, 1) := by decide +kernel
theorem d_JI_bitCount_48 : decode b_JI_bitCount 48 = .ok (.iload_n 0, 1) := by decide +kernel
theorem d_JI_bitCount_49 : decode b_JI_bitCount 49 = .ok (.bipush 63, 2) := by decide +kernel
theorem d_JI_bitCount_51 : decode b_JI_bitCount 51 = .ok (.iand, 1) := by decide +kernel
theorem d_JI_bitCount_52 : decode b_JI_bitCount 52 = .ok (.ireturn, 1) := by decide +kernel
end
section
theorem d_Mo_init_0 : decode b_Mo_init 0 = .ok (.aload_n 0, 1) := by decide +kernel
theorem d_Mo_init_1 : decode b_Mo_init 1 = .ok (.invokespecial 1, 3) := by decide +kernel
theorem d_Mo_init_4 : decode b_Mo_init 4 = .ok (.aload_n 0, 1) := by decide +kernel
theorem d_Mo_init_5 : decode b_Mo_init 5 = .ok (.bipush 15, 2) := by decide +kernel
theorem d_Mo_init_7 : decode b_Mo_init 7 = .ok (.newarray .int, 2) := by decide +kernel
theorem d_Mo_init_9 : decode b_Mo_init 9 = .ok (.putfield 7, 3) := by decide +kernel
theorem d_Mo_init_12 : decode b_Mo_init 12 = .ok (.aload_n 0, 1) := by decide +kernel
theorem d_Mo_init_13 : decode b_Mo_init 13 = .ok (.bipush 15, 2) := by decide +kernel
theorem d_Mo_init_15 : decode b_Mo_init 15 = .ok (.newarray .int, 2) := by decide +kernel
theorem d_Mo_init_17 : decode b_Mo_init 17 = .ok (.putfield 13, 3) := by decide +kernel
theorem d_Mo_init_20 : decode b_Mo_init 20 = .ok (.aload_n 0, 1) := by decide +kernel
theorem d_Mo_init_21 : decode b_Mo_init 21 = .ok (.bipush 15, 2) := by decide +kernel
theorem d_Mo_init_23 : decode b_Mo_init 23 = .ok (.newarray .int, 2) := by decide +kernel
theorem d_Mo_init_25 : decode b_Mo_init 25 = .ok (.putfield 16, 3) := by decide +kernel
theorem d_Mo_init_28 : decode b_Mo_init 28 = .ok (.aload_n 0, 1) := by decide +kernel
theorem d_Mo_init_29 : decode b_Mo_init 29 = .ok (.bipush 15, 2) := by decide +kernel
theorem d_Mo_init_31 : decode b_Mo_init 31 = .ok (.newarray .int, 2) := by decide +kernel
theorem d_Mo_init_33 : decode b_Mo_init 33 = .ok (.putfield 19, 3) := by decide +kernel
theorem d_Mo_init_36 : decode b_Mo_init 36 = .ok (.aload_n 0, 1) := by decide +kernel
theorem d_Mo_init_37 : decode b_Mo_init 37 = .ok (.bipush 15, 2) := by decide +kernel
theorem d_Mo_init_39 : decode b_Mo_init 39 = .ok (.newarray .int, 2) := by decide +kernel
theorem d_Mo_init_41 : decode b_Mo_init 41 = .ok (.putfield 22, 3) := by decide +kernel
theorem d_Mo_init_44 : decode b_Mo_init 44 = .ok (.aload_n 0, 1) := by decide +kernel
theorem d_Mo_init_45 : decode b_Mo_init 45 = .ok (.bipush 15, 2) := by decide +kernel
theorem d_Mo_init_47 : decode b_Mo_init 47 = .ok (.newarray .int, 2) := by decide +kernel
theorem d_Mo_init_49 : decode b_Mo_init 49 = .ok (.putfield 25, 3) := by decide +kernel
theorem d_Mo_init_52 : decode b_Mo_init 52 = .ok (.aload_n 0, 1) := by decide +kernel
theorem d_Mo_init_53 : decode b_Mo_init 53 = .ok (.bipush 41, 2) := by decide +kernel
theorem d_Mo_init_55 : decode b_Mo_init 55 = .ok (.newarray .int, 2) := by decide +kernel
theorem d_Mo_init_57 : decode b_Mo_init 57 = .ok (.putfield 28, 3) := by decide +kernel
theorem d_Mo_init_60 : decode b_Mo_init 60 = .ok (.aload_n 0, 1) := by decide +kernel
theorem d_Mo_init_61 : decode b_Mo_init 61 = .ok (.bipush 41, 2) := by decide +kernel
theorem d_Mo_init_63 : decode b_Mo_init 63 = .ok (.newarray .int, 2) := by decide +kernel
theorem d_Mo_init_65 : decode b_Mo_init 65 = .ok (.putfield 31, 3) := by decide +kernel
theorem d_Mo_init_68 : decode b_Mo_init 68 = .ok (.aload_n 0, 1) := by decide +kernel
theorem d_Mo_init_69 : decode b_Mo_init 69 = .ok (.bipush 7, 2) := by decide +kernel
theorem d_Mo_init_71 : decode b_Mo_init 71 = .ok (.newarray .boolean, 2) := by decide +kernel
theorem d_Mo_init_73 : decode b_Mo_init 73 = .ok (.putfield 34, 3) := by decide +kernel
theorem d_Mo_init_76 : decode b_Mo_init 76 = .ok (.aload_n 0, 1) := by decide +kernel
theorem d_Mo_init_77 : decode b_Mo_init 77 = .ok (.bipush 7, 2) := by decide +kernel
theorem d_Mo_init_79 : decode b_Mo_init 79 = .ok (.newarray .int, 2) := by decide +kernel
theorem d_Mo_init_81 : decode b_Mo_init 81 = .ok (.putfield 38, 3) := by decide +kernel
theorem d_Mo_init_84 : decode b_Mo_init 84 = .ok (.aload_n 0, 1) := by decide +kernel
theorem d_Mo_init_85 : decode b_Mo_init 85 = .ok (.bipush 41, 2) := by decide +kernel
theorem d_Mo_init_87 : decode b_Mo_init 87 = .ok (.newarray .int, 2) := by decide +kernel
theorem d_Mo_init_89 : decode b_Mo_init 89 = .ok (.putfield 41, 3) := by decide +kernel
theorem d_Mo_init_92 : decode b_Mo_init 92 = .ok (.aload_n 0, 1) := by decide +kernel
theorem d_Mo_init_93 : decode b_Mo_init 93 = .ok (.bipush 41, 2) := by decide +kernel
theorem d_Mo_init_95 : decode b_Mo_init 95 = .ok (.newarray .long, 2) := by decide +kernel
theorem d_Mo_init_97 : decode b_Mo_init 97 = .ok (.putfield 44, 3) := by decide +kernel
theorem d_Mo_init_100 : decode b_Mo_init 100 = .ok (.aload_n 0, 1) := by decide +kernel
theorem d_Mo_init_101 : decode b_Mo_init 101 = .ok (.bipush 8, 2) := by decide +kernel
theorem d_Mo_init_103 : decode b_Mo_init 103 = .ok (.newarray .int, 2) := by decide +kernel
theorem d_Mo_init_105 : decode b_Mo_init 105 = .ok (.putfield 48, 3) := by decide +kernel
theorem d_Mo_init_108 : decode b_Mo_init 108 = .ok (.iconst 0, 1) := by decide +kernel
theorem d_Mo_init_109 : decode b_Mo_init 109 = .ok (.istore_n 1, 1) := by decide +kernel
theorem d_Mo_init_110 : decode b_Mo_init 110 = .ok (.iload_n 1, 1) := by decide +kernel
theorem d_Mo_init_111 : decode b_Mo_init 111 = .ok (.bipush 15, 2) := by decide +kernel
theorem d_Mo_init_113 : decode b_Mo_init 113 = .ok (.if_icmp .ge 23, 3) := by decide +kernel
theorem d_Mo_init_116 : decode b_Mo_init 116 = .ok (.aload_n 0, 1) := by decide +kernel
theorem d_Mo_init_117 : decode b_Mo_init 117 = .ok (.getfield 16, 3) := by decide +kernel
theorem d_Mo_init_120 : decode b_Mo_init 120 = .ok (.iload_n 1, 1) := by decide +kernel
theorem d_Mo_init_121 : decode b_Mo_init 121 = .ok (.iconst (-1), 1) := by decide +kernel
theorem d_Mo_init_122 : decode b_Mo_init 122 = .ok (.iastore, 1) := by decide +kernel
theorem d_Mo_init_123 : decode b_Mo_init 123 = .ok (.aload_n 0, 1) := by decide +kernel
theorem d_Mo_init_124 : decode b_Mo_init 124 = .ok (.getfield 25, 3) := by decide +kernel
theorem d_Mo_init_127 : decode b_Mo_init 127 = .ok (.iload_n 1, 1) := by decide +kernel
theorem d_Mo_init_128 : decode b_Mo_init 128 = .ok (.iconst (-1), 1) := by decide +kernel
theorem d_Mo_init_129 : decode b_Mo_init 129 = .ok (.iastore, 1) := by decide +kernel
theorem d_Mo_init_130 : decode b_Mo_init 130 = .ok (.iinc 1 1, 3) := by decide +kernel
theorem d_Mo_init_133 : decode b_Mo_init 133 = .ok (.goto (-23), 3) := by decide +kernel
theorem d_Mo_init_136 : decode b_Mo_init 136 = .ok (.return_, 1) := by decide +kernel
theorem d_Mo_thrown_0 : decode b_Mo_thrown 0 = .ok (.aload_n 0, 1) := by decide +kernel
theorem d_Mo_thrown_1 : decode b_Mo_thrown 1 = .ok (.getfield 51, 3) := by decide +kernel
theorem d_Mo_thrown_4 : decode b_Mo_thrown 4 = .ok (.ireturn, 1) := by decide +kernel
theorem d_Mo_raise_0 : decode b_Mo_raise 0 = .ok (.aload_n 0, 1) := by decide +kernel
theorem d_Mo_raise_1 : decode b_Mo_raise 1 = .ok (.iload_n 1, 1) := by decide +kernel
theorem d_Mo_raise_2 : decode b_Mo_raise 2 = .ok (.putfield 51, 3) := by decide +kernel
theorem d_Mo_raise_5 : decode b_Mo_raise 5 = .ok (.iconst 0, 1) := by decide +kernel
theorem d_Mo_raise_6 : decode b_Mo_raise 6 = .ok (.ireturn, 1) := by decide +kernel
theorem d_Mo_in_0 : decode b_Mo_in 0 = .ok (.iload_n 0, 1) := by decide +kernel
theorem d_Mo_in_1 : decode b_Mo_in 1 = .ok (.iload_n 1, 1) := by decide +kernel
theorem d_Mo_in_2 : decode b_Mo_in 2 = .ok (.if_icmp .lt 12, 3) := by decide +kernel
theorem d_Mo_in_5 : decode b_Mo_in 5 = .ok (.iload_n 0, 1) := by decide +kernel
theorem d_Mo_in_6 : decode b_Mo_in 6 = .ok (.iload_n 2, 1) := by decide +kernel
theorem d_Mo_in_7 : decode b_Mo_in 7 = .ok (.if_icmp .gt 7, 3) := by decide +kernel
theorem d_Mo_in_10 : decode b_Mo_in 10 = .ok (.iconst 1, 1) := by decide +kernel
theorem d_Mo_in_11 : decode b_Mo_in 11 = .ok (.goto 4, 3) := by decide +kernel
theorem d_Mo_in_14 : decode b_Mo_in 14 = .ok (.iconst 0, 1) := by decide +kernel
theorem d_Mo_in_15 : decode b_Mo_in 15 = .ok (.ireturn, 1) := by decide +kernel
theorem d_Mo_pageOf_0 : decode b_Mo_pageOf 0 = .ok (.iload_n 0, 1) := by decide +kernel
theorem d_Mo_pageOf_1 : decode b_Mo_pageOf 1 = .ok (.bipush 6, 2) := by decide +kernel
theorem d_Mo_pageOf_3 : decode b_Mo_pageOf 3 = .ok (.if_icmp .ge 9, 3) := by decide +kernel
theorem d_Mo_pageOf_6 : decode b_Mo_pageOf 6 = .ok (.iload_n 0, 1) := by decide +kernel
theorem d_Mo_pageOf_7 : decode b_Mo_pageOf 7 = .ok (.iconst 2, 1) := by decide +kernel
theorem d_Mo_pageOf_8 : decode b_Mo_pageOf 8 = .ok (.idiv, 1) := by decide +kernel
theorem d_Mo_pageOf_9 : decode b_Mo_pageOf 9 = .ok (.goto 11, 3) := by decide +kernel
theorem d_Mo_pageOf_12 : decode b_Mo_pageOf 12 = .ok (.iconst 3, 1) := by decide +kernel
theorem d_Mo_pageOf_13 : decode b_Mo_pageOf 13 = .ok (.iload_n 0, 1) := by decide +kernel
theorem d_Mo_pageOf_14 : decode b_Mo_pageOf 14 = .ok (.bipush 6, 2) := by decide +kernel
theorem d_Mo_pageOf_16 : decode b_Mo_pageOf 16 = .ok (.isub, 1) := by decide +kernel
theorem d_Mo_pageOf_17 : decode b_Mo_pageOf 17 = .ok (.iconst 3, 1) := by decide +kernel
theorem d_Mo_pageOf_18 : decode b_Mo_pageOf 18 = .ok (.idiv, 1) := by decide +kernel
theorem d_Mo_pageOf_19 : decode b_Mo_pageOf 19 = .ok (.iadd, 1) := by decide +kernel
theorem d_Mo_pageOf_20 : decode b_Mo_pageOf 20 = .ok (.ireturn, 1) := by decide +kernel
theorem d_Mo_fall_0 : decode b_Mo_fall 0 = .ok (.iconst 0, 1) := by decide +kernel
theorem d_Mo_fall_1 : decode b_Mo_fall 1 = .ok (.istore_n 1, 1) := by decide +kernel
theorem d_Mo_fall_2 : decode b_Mo_fall 2 = .ok (.iload_n 1, 1) := by decide +kernel
theorem d_Mo_fall_3 : decode b_Mo_fall 3 = .ok (.bipush 15, 2) := by decide +kernel
theorem d_Mo_fall_5 : decode b_Mo_fall 5 = .ok (.if_icmp .ge 45, 3) := by decide +kernel
theorem d_Mo_fall_8 : decode b_Mo_fall 8 = .ok (.aload_n 0, 1) := by decide +kernel
theorem d_Mo_fall_9 : decode b_Mo_fall 9 = .ok (.getfield 7, 3) := by decide +kernel
theorem d_Mo_fall_12 : decode b_Mo_fall 12 = .ok (.iload_n 1, 1) := by decide +kernel
theorem d_Mo_fall_13 : decode b_Mo_fall 13 = .ok (.aload_n 0, 1) := by decide +kernel
theorem d_Mo_fall_14 : decode b_Mo_fall 14 = .ok (.getfield 19, 3) := by decide +kernel
theorem d_Mo_fall_17 : decode b_Mo_fall 17 = .ok (.iload_n 1, 1) := by decide +kernel
theorem d_Mo_fall_18 : decode b_Mo_fall 18 = .ok (.iaload, 1) := by decide +kernel
theorem d_Mo_fall_19 : decode b_Mo_fall 19 = .ok (.iastore, 1) := by decide +kernel
theorem d_Mo_fall_20 : decode b_Mo_fall 20 = .ok (.aload_n 0, 1) := by decide +kernel
theorem d_Mo_fall_21 : decode b_Mo_fall 21 = .ok (.getfield 13, 3) := by decide +kernel
theorem d_Mo_fall_24 : decode b_Mo_fall 24 = .ok (.iload_n 1, 1) := by decide +kernel
theorem d_Mo_fall_25 : decode b_Mo_fall 25 = .ok (.aload_n 0, 1) := by decide +kernel
theorem d_Mo_fall_26 : decode b_Mo_fall 26 = .ok (.getfield 22, 3) := by decide +kernel
theorem d_Mo_fall_29 : decode b_Mo_fall 29 = .ok (.iload_n 1, 1) := by decide +kernel
theorem d_Mo_fall_30 : decode b_Mo_fall 30 = .ok (.iaload, 1) := by decide +kernel
theorem d_Mo_fall_31 : decode b_Mo_fall 31 = .ok (.iastore, 1) := by decide +kernel
theorem d_Mo_fall_32 : decode b_Mo_fall 32 = .ok (.aload_n 0, 1) := by decide +kernel
theorem d_Mo_fall_33 : decode b_Mo_fall 33 = .ok (.getfield 16, 3) := by decide +kernel
theorem d_Mo_fall_36 : decode b_Mo_fall 36 = .ok (.iload_n 1, 1) := by decide +kernel
theorem d_Mo_fall_37 : decode b_Mo_fall 37 = .ok (.aload_n 0, 1) := by decide +kernel
theorem d_Mo_fall_38 : decode b_Mo_fall 38 = .ok (.getfield 25, 3) := by decide +kernel
theorem d_Mo_fall_41 : decode b_Mo_fall 41 = .ok (.iload_n 1, 1) := by decide +kernel
theorem d_Mo_fall_42 : decode b_Mo_fall 42 = .ok (.iaload, 1) := by decide +kernel
theorem d_Mo_fall_43 : decode b_Mo_fall 43 = .ok (.iastore, 1) := by decide +kernel
theorem d_Mo_fall_44 : decode b_Mo_fall 44 = .ok (.iinc 1 1, 3) := by decide +kernel
theorem d_Mo_fall_47 : decode b_Mo_fall 47 = .ok (.goto (-45), 3) := by decide +kernel
theorem d_Mo_fall_50 : decode b_Mo_fall 50 = .ok (.iconst 0, 1) := by decide +kernel
theorem d_Mo_fall_51 : decode b_Mo_fall 51 = .ok (.istore_n 1, 1) := by decide +kernel
theorem d_Mo_fall_52 : decode b_Mo_fall 52 = .ok (.iload_n 1, 1) := by decide +kernel
theorem d_Mo_fall_53 : decode b_Mo_fall 53 = .ok (.bipush 7, 2) := by decide +kernel
theorem d_Mo_fall_55 : decode b_Mo_fall 55 = .ok (.if_icmp .ge 23, 3) := by decide +kernel
theorem d_Mo_fall_58 : decode b_Mo_fall 58 = .ok (.aload_n 0, 1) := by decide +kernel
theorem d_Mo_fall_59 : decode b_Mo_fall 59 = .ok (.getfield 34, 3) := by decide +kernel
theorem d_Mo_fall_62 : decode b_Mo_fall 62 = .ok (.iload_n 1, 1) := by decide +kernel
theorem d_Mo_fall_63 : decode b_Mo_fall 63 = .ok (.iconst 0, 1) := by decide +kernel
theorem d_Mo_fall_64 : decode b_Mo_fall 64 = .ok (.bastore, 1) := by decide +kernel
theorem d_Mo_fall_65 : decode b_Mo_fall 65 = .ok (.aload_n 0, 1) := by decide +kernel
theorem d_Mo_fall_66 : decode b_Mo_fall 66 = .ok (.getfield 38, 3) := by decide +kernel
theorem d_Mo_fall_69 : decode b_Mo_fall 69 = .ok (.iload_n 1, 1) := by decide +kernel
theorem d_Mo_fall_70 : decode b_Mo_fall 70 = .ok (.iconst 0, 1) := by decide +kernel
theorem d_Mo_fall_71 : decode b_Mo_fall 71 = .ok (.iastore, 1) := by decide +kernel
theorem d_Mo_fall_72 : decode b_Mo_fall 72 = .ok (.iinc 1 1, 3) := by decide +kernel
theorem d_Mo_fall_75 : decode b_Mo_fall 75 = .ok (.goto (-23), 3) := by decide +kernel
theorem d_Mo_fall_78 : decode b_Mo_fall 78 = .ok (.iconst 1, 1) := by decide +kernel
theorem d_Mo_fall_79 : decode b_Mo_fall 79 = .ok (.istore_n 1, 1) := by decide +kernel
theorem d_Mo_fall_80 : decode b_Mo_fall 80 = .ok (.iload_n 1, 1) := by decide +kernel
theorem d_Mo_fall_81 : decode b_Mo_fall 81 = .ok (.bipush 40, 2) := by decide +kernel
theorem d_Mo_fall_83 : decode b_Mo_fall 83 = .ok (.if_icmp .gt 49, 3) := by decide +kernel
theorem d_Mo_fall_86 : decode b_Mo_fall 86 = .ok (.aload_n 0, 1) := by decide +kernel
theorem d_Mo_fall_87 : decode b_Mo_fall 87 = .ok (.getfield 28, 3) := by decide +kernel
theorem d_Mo_fall_90 : decode b_Mo_fall 90 = .ok (.iload_n 1, 1) := by decide +kernel
theorem d_Mo_fall_91 : decode b_Mo_fall 91 = .ok (.aload_n 0, 1) := by decide +kernel
theorem d_Mo_fall_92 : decode b_Mo_fall 92 = .ok (.getfield 31, 3) := by decide +kernel
theorem d_Mo_fall_95 : decode b_Mo_fall 95 = .ok (.iload_n 1, 1) := by decide +kernel
theorem d_Mo_fall_96 : decode b_Mo_fall 96 = .ok (.iaload, 1) := by decide +kernel
theorem d_Mo_fall_97 : decode b_Mo_fall 97 = .ok (.iastore, 1) := by decide +kernel
theorem d_Mo_fall_98 : decode b_Mo_fall 98 = .ok (.aload_n 0, 1) := by decide +kernel
theorem d_Mo_fall_99 : decode b_Mo_fall 99 = .ok (.getfield 28, 3) := by decide +kernel
theorem d_Mo_fall_102 : decode b_Mo_fall 102 = .ok (.iload_n 1, 1) := by decide +kernel
theorem d_Mo_fall_103 : decode b_Mo_fall 103 = .ok (.iaload, 1) := by decide +kernel
theorem d_Mo_fall_104 : decode b_Mo_fall 104 = .ok (.iconst 1, 1) := by decide +kernel
theorem d_Mo_fall_105 : decode b_Mo_fall 105 = .ok (.if_icmp .eq 6, 3) := by decide +kernel
theorem d_Mo_fall_108 : decode b_Mo_fall 108 = .ok (.goto 18, 3) := by decide +kernel
theorem d_Mo_fall_111 : decode b_Mo_fall 111 = .ok (.aload_n 0, 1) := by decide +kernel
theorem d_Mo_fall_112 : decode b_Mo_fall 112 = .ok (.getfield 28, 3) := by decide +kernel
theorem d_Mo_fall_115 : decode b_Mo_fall 115 = .ok (.iload_n 1, 1) := by decide +kernel
theorem d_Mo_fall_116 : decode b_Mo_fall 116 = .ok (.iconst 3, 1) := by decide +kernel
theorem d_Mo_fall_117 : decode b_Mo_fall 117 = .ok (.iastore, 1) := by decide +kernel
theorem d_Mo_fall_118 : decode b_Mo_fall 118 = .ok (.aload_n 0, 1) := by decide +kernel
theorem d_Mo_fall_119 : decode b_Mo_fall 119 = .ok (.getfield 34, 3) := by decide +kernel
theorem d_Mo_fall_122 : decode b_Mo_fall 122 = .ok (.bipush 6, 2) := by decide +kernel
theorem d_Mo_fall_124 : decode b_Mo_fall 124 = .ok (.iconst 1, 1) := by decide +kernel
theorem d_Mo_fall_125 : decode b_Mo_fall 125 = .ok (.bastore, 1) := by decide +kernel
theorem d_Mo_fall_126 : decode b_Mo_fall 126 = .ok (.iinc 1 1, 3) := by decide +kernel
theorem d_Mo_fall_129 : decode b_Mo_fall 129 = .ok (.goto (-49), 3) := by decide +kernel
theorem d_Mo_fall_132 : decode b_Mo_fall 132 = .ok (.aload_n 0, 1) := by decide +kernel
theorem d_Mo_fall_133 : decode b_Mo_fall 133 = .ok (.dup, 1) := by decide +kernel
theorem d_Mo_fall_134 : decode b_Mo_fall 134 = .ok (.getfield 55, 3) := by decide +kernel
theorem d_Mo_fall_137 : decode b_Mo_fall 137 = .ok (.iconst 1, 1) := by decide +kernel
theorem d_Mo_fall_138 : decode b_Mo_fall 138 = .ok (.iadd, 1) := by decide +kernel
theorem d_Mo_fall_139 : decode b_Mo_fall 139 = .ok (.putfield 55, 3) := by decide +kernel
theorem d_Mo_fall_142 : decode b_Mo_fall 142 = .ok (.aload_n 0, 1) := by decide +kernel
theorem d_Mo_fall_143 : decode b_Mo_fall 143 = .ok (.iconst 1, 1) := by decide +kernel
theorem d_Mo_fall_144 : decode b_Mo_fall 144 = .ok (.putfield 58, 3) := by decide +kernel
theorem d_Mo_fall_147 : decode b_Mo_fall 147 = .ok (.return_, 1) := by decide +kernel
theorem d_Mo_put_0 : decode b_Mo_put 0 = .ok (.aload_n 0, 1) := by decide +kernel
theorem d_Mo_put_1 : decode b_Mo_put 1 = .ok (.getfield 62, 3) := by decide +kernel
theorem d_Mo_put_4 : decode b_Mo_put 4 = .ok (.iconst 1, 1) := by decide +kernel
theorem d_Mo_put_5 : decode b_Mo_put 5 = .ok (.if_icmp .ne 13, 3) := by decide +kernel
theorem d_Mo_put_8 : decode b_Mo_put 8 = .ok (.aload_n 0, 1) := by decide +kernel
theorem d_Mo_put_9 : decode b_Mo_put 9 = .ok (.iconst 0, 1) := by decide +kernel
theorem d_Mo_put_10 : decode b_Mo_put 10 = .ok (.putfield 62, 3) := by decide +kernel
theorem d_Mo_put_13 : decode b_Mo_put 13 = .ok (.aload_n 0, 1) := by decide +kernel
theorem d_Mo_put_14 : decode b_Mo_put 14 = .ok (.invokevirtual 65, 3) := by decide +kernel
theorem d_Mo_put_17 : decode b_Mo_put 17 = .ok (.return_, 1) := by decide +kernel
theorem d_Mo_put_18 : decode b_Mo_put 18 = .ok (.aload_n 0, 1) := by decide +kernel
theorem d_Mo_put_19 : decode b_Mo_put 19 = .ok (.getfield 62, 3) := by decide +kernel
theorem d_Mo_put_22 : decode b_Mo_put 22 = .ok (.ifCond .le 13, 3) := by decide +kernel
theorem d_Mo_put_25 : decode b_Mo_put 25 = .ok (.aload_n 0, 1) := by decide +kernel
theorem d_Mo_put_26 : decode b_Mo_put 26 = .ok (.dup, 1) := by decide +kernel
theorem d_Mo_put_27 : decode b_Mo_put 27 = .ok (.getfield 62, 3) := by decide +kernel
theorem d_Mo_put_30 : decode b_Mo_put 30 = .ok (.iconst 1, 1) := by decide +kernel
theorem d_Mo_put_31 : decode b_Mo_put 31 = .ok (.isub, 1) := by decide +kernel
theorem d_Mo_put_32 : decode b_Mo_put 32 = .ok (.putfield 62, 3) := by decide +kernel
theorem d_Mo_put_35 : decode b_Mo_put 35 = .ok (.iconst 0, 1) := by decide +kernel
theorem d_Mo_put_36 : decode b_Mo_put 36 = .ok (.istore_n 2, 1) := by decide +kernel
theorem d_Mo_put_37 : decode b_Mo_put 37 = .ok (.iload_n 2, 1) := by decide +kernel
theorem d_Mo_put_38 : decode b_Mo_put 38 = .ok (.bipush 15, 2) := by decide +kernel
theorem d_Mo_put_40 : decode b_Mo_put 40 = .ok (.if_icmp .ge 56, 3) := by decide +kernel
theorem d_Mo_put_43 : decode b_Mo_put 43 = .ok (.iload_n 2, 1) := by decide +kernel
theorem d_Mo_put_44 : decode b_Mo_put 44 = .ok (.invokestatic 68, 3) := by decide +kernel
theorem d_Mo_put_47 : decode b_Mo_put 47 = .ok (.iload_n 1, 1) := by decide +kernel
theorem d_Mo_put_48 : decode b_Mo_put 48 = .ok (.if_icmp .eq 6, 3) := by decide +kernel
theorem d_Mo_put_51 : decode b_Mo_put 51 = .ok (.goto 39, 3) := by decide +kernel
theorem d_Mo_put_54 : decode b_Mo_put 54 = .ok (.aload_n 0, 1) := by decide +kernel
theorem d_Mo_put_55 : decode b_Mo_put 55 = .ok (.getfield 19, 3) := by decide +kernel
theorem d_Mo_put_58 : decode b_Mo_put 58 = .ok (.iload_n 2, 1) := by decide +kernel
theorem d_Mo_put_59 : decode b_Mo_put 59 = .ok (.aload_n 0, 1) := by decide +kernel
theorem d_Mo_put_60 : decode b_Mo_put 60 = .ok (.getfield 7, 3) := by decide +kernel
theorem d_Mo_put_63 : decode b_Mo_put 63 = .ok (.iload_n 2, 1) := by decide +kernel
theorem d_Mo_put_64 : decode b_Mo_put 64 = .ok (.iaload, 1) := by decide +kernel
theorem d_Mo_put_65 : decode b_Mo_put 65 = .ok (.iastore, 1) := by decide +kernel
theorem d_Mo_put_66 : decode b_Mo_put 66 = .ok (.aload_n 0, 1) := by decide +kernel
theorem d_Mo_put_67 : decode b_Mo_put 67 = .ok (.getfield 22, 3) := by decide +kernel
theorem d_Mo_put_70 : decode b_Mo_put 70 = .ok (.iload_n 2, 1) := by decide +kernel
theorem d_Mo_put_71 : decode b_Mo_put 71 = .ok (.aload_n 0, 1) := by decide +kernel
theorem d_Mo_put_72 : decode b_Mo_put 72 = .ok (.getfield 13, 3) := by decide +kernel
theorem d_Mo_put_75 : decode b_Mo_put 75 = .ok (.iload_n 2, 1) := by decide +kernel
theorem d_Mo_put_76 : decode b_Mo_put 76 = .ok (.iaload, 1) := by decide +kernel
theorem d_Mo_put_77 : decode b_Mo_put 77 = .ok (.iastore, 1) := by decide +kernel
theorem d_Mo_put_78 : decode b_Mo_put 78 = .ok (.aload_n 0, 1) := by decide +kernel
theorem d_Mo_put_79 : decode b_Mo_put 79 = .ok (.getfield 25, 3) := by decide +kernel
theorem d_Mo_put_82 : decode b_Mo_put 82 = .ok (.iload_n 2, 1) := by decide +kernel
theorem d_Mo_put_83 : decode b_Mo_put 83 = .ok (.aload_n 0, 1) := by decide +kernel
theorem d_Mo_put_84 : decode b_Mo_put 84 = .ok (.getfield 16, 3) := by decide +kernel
theorem d_Mo_put_87 : decode b_Mo_put 87 = .ok (.iload_n 2, 1) := by decide +kernel
theorem d_Mo_put_88 : decode b_Mo_put 88 = .ok (.iaload, 1) := by decide +kernel
theorem d_Mo_put_89 : decode b_Mo_put 89 = .ok (.iastore, 1) := by decide +kernel
theorem d_Mo_put_90 : decode b_Mo_put 90 = .ok (.iinc 2 1, 3) := by decide +kernel
theorem d_Mo_put_93 : decode b_Mo_put 93 = .ok (.goto (-56), 3) := by decide +kernel
theorem d_Mo_put_96 : decode b_Mo_put 96 = .ok (.iconst 1, 1) := by decide +kernel
theorem d_Mo_put_97 : decode b_Mo_put 97 = .ok (.istore_n 2, 1) := by decide +kernel
theorem d_Mo_put_98 : decode b_Mo_put 98 = .ok (.iload_n 2, 1) := by decide +kernel
theorem d_Mo_put_99 : decode b_Mo_put 99 = .ok (.bipush 40, 2) := by decide +kernel
theorem d_Mo_put_101 : decode b_Mo_put 101 = .ok (.if_icmp .gt 27, 3) := by decide +kernel
theorem d_Mo_put_104 : decode b_Mo_put 104 = .ok (.iload_n 1, 1) := by decide +kernel
theorem d_Mo_put_105 : decode b_Mo_put 105 = .ok (.bipush 6, 2) := by decide +kernel
theorem d_Mo_put_107 : decode b_Mo_put 107 = .ok (.if_icmp .ne 21, 3) := by decide +kernel
theorem d_Mo_put_110 : decode b_Mo_put 110 = .ok (.aload_n 0, 1) := by decide +kernel
theorem d_Mo_put_111 : decode b_Mo_put 111 = .ok (.getfield 31, 3) := by decide +kernel
theorem d_Mo_put_114 : decode b_Mo_put 114 = .ok (.iload_n 2, 1) := by decide +kernel
theorem d_Mo_put_115 : decode b_Mo_put 115 = .ok (.aload_n 0, 1) := by decide +kernel
theorem d_Mo_put_116 : decode b_Mo_put 116 = .ok (.getfield 28, 3) := by decide +kernel
theorem d_Mo_put_119 : decode b_Mo_put 119 = .ok (.iload_n 2, 1) := by decide +kernel
theorem d_Mo_put_120 : decode b_Mo_put 120 = .ok (.iaload, 1) := by decide +kernel
theorem d_Mo_put_121 : decode b_Mo_put 121 = .ok (.iastore, 1) := by decide +kernel
theorem d_Mo_put_122 : decode b_Mo_put 122 = .ok (.iinc 2 1, 3) := by decide +kernel
theorem d_Mo_put_125 : decode b_Mo_put 125 = .ok (.goto (-27), 3) := by decide +kernel
theorem d_Mo_put_128 : decode b_Mo_put 128 = .ok (.aload_n 0, 1) := by decide +kernel
theorem d_Mo_put_129 : decode b_Mo_put 129 = .ok (.getfield 34, 3) := by decide +kernel
theorem d_Mo_put_132 : decode b_Mo_put 132 = .ok (.iload_n 1, 1) := by decide +kernel
theorem d_Mo_put_133 : decode b_Mo_put 133 = .ok (.iconst 0, 1) := by decide +kernel
theorem d_Mo_put_134 : decode b_Mo_put 134 = .ok (.bastore, 1) := by decide +kernel
theorem d_Mo_put_135 : decode b_Mo_put 135 = .ok (.iconst 0, 1) := by decide +kernel
theorem d_Mo_put_136 : decode b_Mo_put 136 = .ok (.istore_n 2, 1) := by decide +kernel
theorem d_Mo_put_137 : decode b_Mo_put 137 = .ok (.iload_n 2, 1) := by decide +kernel
theorem d_Mo_put_138 : decode b_Mo_put 138 = .ok (.bipush 7, 2) := by decide +kernel
theorem d_Mo_put_140 : decode b_Mo_put 140 = .ok (.if_icmp .ge 23, 3) := by decide +kernel
theorem d_Mo_put_143 : decode b_Mo_put 143 = .ok (.aload_n 0, 1) := by decide +kernel
theorem d_Mo_put_144 : decode b_Mo_put 144 = .ok (.getfield 38, 3) := by decide +kernel
theorem d_Mo_put_147 : decode b_Mo_put 147 = .ok (.iload_n 2, 1) := by decide +kernel
theorem d_Mo_put_148 : decode b_Mo_put 148 = .ok (.dup2, 1) := by decide +kernel
theorem d_Mo_put_149 : decode b_Mo_put 149 = .ok (.iaload, 1) := by decide +kernel
theorem d_Mo_put_150 : decode b_Mo_put 150 = .ok (.iconst 1, 1) := by decide +kernel
theorem d_Mo_put_151 : decode b_Mo_put 151 = .ok (.iload_n 1, 1) := by decide +kernel
theorem d_Mo_put_152 : decode b_Mo_put 152 = .ok (.ishl, 1) := by decide +kernel
theorem d_Mo_put_153 : decode b_Mo_put 153 = .ok (.iconst (-1), 1) := by decide +kernel
theorem d_Mo_put_154 : decode b_Mo_put 154 = .ok (.ixor, 1) := by decide +kernel
theorem d_Mo_put_155 : decode b_Mo_put 155 = .ok (.iand, 1) := by decide +kernel
theorem d_Mo_put_156 : decode b_Mo_put 156 = .ok (.iastore, 1) := by decide +kernel
theorem d_Mo_put_157 : decode b_Mo_put 157 = .ok (.iinc 2 1, 3) := by decide +kernel
theorem d_Mo_put_160 : decode b_Mo_put 160 = .ok (.goto (-23), 3) := by decide +kernel
theorem d_Mo_put_163 : decode b_Mo_put 163 = .ok (.aload_n 0, 1) := by decide +kernel
theorem d_Mo_put_164 : decode b_Mo_put 164 = .ok (.dup, 1) := by decide +kernel
theorem d_Mo_put_165 : decode b_Mo_put 165 = .ok (.getfield 72, 3) := by decide +kernel
theorem d_Mo_put_168 : decode b_Mo_put 168 = .ok (.iconst 1, 1) := by decide +kernel
theorem d_Mo_put_169 : decode b_Mo_put 169 = .ok (.iadd, 1) := by decide +kernel
theorem d_Mo_put_170 : decode b_Mo_put 170 = .ok (.putfield 72, 3) := by decide +kernel
theorem d_Mo_put_173 : decode b_Mo_put 173 = .ok (.return_, 1) := by decide +kernel
theorem d_Mo_waitsFor_0 : decode b_Mo_waitsFor 0 = .ok (.iconst 0, 1) := by decide +kernel
theorem d_Mo_waitsFor_1 : decode b_Mo_waitsFor 1 = .ok (.istore_n 2, 1) := by decide +kernel
theorem d_Mo_waitsFor_2 : decode b_Mo_waitsFor 2 = .ok (.iload_n 2, 1) := by decide +kernel
theorem d_Mo_waitsFor_3 : decode b_Mo_waitsFor 3 = .ok (.bipush 7, 2) := by decide +kernel
theorem d_Mo_waitsFor_5 : decode b_Mo_waitsFor 5 = .ok (.if_icmp .ge 33, 3) := by decide +kernel
theorem d_Mo_waitsFor_8 : decode b_Mo_waitsFor 8 = .ok (.aload_n 0, 1) := by decide +kernel
theorem d_Mo_waitsFor_9 : decode b_Mo_waitsFor 9 = .ok (.getfield 38, 3) := by decide +kernel
theorem d_Mo_waitsFor_12 : decode b_Mo_waitsFor 12 = .ok (.iload_n 1, 1) := by decide +kernel
theorem d_Mo_waitsFor_13 : decode b_Mo_waitsFor 13 = .ok (.iaload, 1) := by decide +kernel
theorem d_Mo_waitsFor_14 : decode b_Mo_waitsFor 14 = .ok (.iload_n 2, 1) := by decide +kernel
theorem d_Mo_waitsFor_15 : decode b_Mo_waitsFor 15 = .ok (.ishr, 1) := by decide +kernel
theorem d_Mo_waitsFor_16 : decode b_Mo_waitsFor 16 = .ok (.iconst 1, 1) := by decide +kernel
theorem d_Mo_waitsFor_17 : decode b_Mo_waitsFor 17 = .ok (.iand, 1) := by decide +kernel
theorem d_Mo_waitsFor_18 : decode b_Mo_waitsFor 18 = .ok (.ifCond .eq 14, 3) := by decide +kernel
theorem d_Mo_waitsFor_21 : decode b_Mo_waitsFor 21 = .ok (.aload_n 0, 1) := by decide +kernel
theorem d_Mo_waitsFor_22 : decode b_Mo_waitsFor 22 = .ok (.getfield 34, 3) := by decide +kernel
theorem d_Mo_waitsFor_25 : decode b_Mo_waitsFor 25 = .ok (.iload_n 2, 1) := by decide +kernel
theorem d_Mo_waitsFor_26 : decode b_Mo_waitsFor 26 = .ok (.baload, 1) := by decide +kernel
theorem d_Mo_waitsFor_27 : decode b_Mo_waitsFor 27 = .ok (.ifCond .eq 5, 3) := by decide +kernel
theorem d_Mo_waitsFor_30 : decode b_Mo_waitsFor 30 = .ok (.iload_n 2, 1) := by decide +kernel
theorem d_Mo_waitsFor_31 : decode b_Mo_waitsFor 31 = .ok (.ireturn, 1) := by decide +kernel
theorem d_Mo_waitsFor_32 : decode b_Mo_waitsFor 32 = .ok (.iinc 2 1, 3) := by decide +kernel
theorem d_Mo_waitsFor_35 : decode b_Mo_waitsFor 35 = .ok (.goto (-33), 3) := by decide +kernel
theorem d_Mo_waitsFor_38 : decode b_Mo_waitsFor 38 = .ok (.iconst (-1), 1) := by decide +kernel
theorem d_Mo_waitsFor_39 : decode b_Mo_waitsFor 39 = .ok (.ireturn, 1) := by decide +kernel
theorem d_Mo_store_0 : decode b_Mo_store 0 = .ok (.aload_n 0, 1) := by decide +kernel
theorem d_Mo_store_1 : decode b_Mo_store 1 = .ok (.getfield 48, 3) := by decide +kernel
theorem d_Mo_store_4 : decode b_Mo_store 4 = .ok (.iconst 0, 1) := by decide +kernel
theorem d_Mo_store_5 : decode b_Mo_store 5 = .ok (.iload_n 1, 1) := by decide +kernel
theorem d_Mo_store_6 : decode b_Mo_store 6 = .ok (.iastore, 1) := by decide +kernel
theorem d_Mo_store_7 : decode b_Mo_store 7 = .ok (.iconst 1, 1) := by decide +kernel
theorem d_Mo_store_8 : decode b_Mo_store 8 = .ok (.istore_n 2, 1) := by decide +kernel
theorem d_Mo_store_9 : decode b_Mo_store 9 = .ok (.iload_n 2, 1) := by decide +kernel
theorem d_Mo_store_10 : decode b_Mo_store 10 = .ok (.ifCond .le 58, 3) := by decide +kernel
theorem d_Mo_store_13 : decode b_Mo_store 13 = .ok (.aload_n 0, 1) := by decide +kernel
theorem d_Mo_store_14 : decode b_Mo_store 14 = .ok (.getfield 58, 3) := by decide +kernel
theorem d_Mo_store_17 : decode b_Mo_store 17 = .ok (.ifCond .ne 51, 3) := by decide +kernel
theorem d_Mo_store_20 : decode b_Mo_store 20 = .ok (.aload_n 0, 1) := by decide +kernel
theorem d_Mo_store_21 : decode b_Mo_store 21 = .ok (.aload_n 0, 1) := by decide +kernel
theorem d_Mo_store_22 : decode b_Mo_store 22 = .ok (.getfield 48, 3) := by decide +kernel
theorem d_Mo_store_25 : decode b_Mo_store 25 = .ok (.iload_n 2, 1) := by decide +kernel
theorem d_Mo_store_26 : decode b_Mo_store 26 = .ok (.iconst 1, 1) := by decide +kernel
theorem d_Mo_store_27 : decode b_Mo_store 27 = .ok (.isub, 1) := by decide +kernel
theorem d_Mo_store_28 : decode b_Mo_store 28 = .ok (.iaload, 1) := by decide +kernel
theorem d_Mo_store_29 : decode b_Mo_store 29 = .ok (.invokevirtual 75, 3) := by decide +kernel
theorem d_Mo_store_32 : decode b_Mo_store 32 = .ok (.istore_n 3, 1) := by decide +kernel
theorem d_Mo_store_33 : decode b_Mo_store 33 = .ok (.iload_n 3, 1) := by decide +kernel
theorem d_Mo_store_34 : decode b_Mo_store 34 = .ok (.ifCond .lt 16, 3) := by decide +kernel
theorem d_Mo_store_37 : decode b_Mo_store 37 = .ok (.aload_n 0, 1) := by decide +kernel
theorem d_Mo_store_38 : decode b_Mo_store 38 = .ok (.getfield 48, 3) := by decide +kernel
theorem d_Mo_store_41 : decode b_Mo_store 41 = .ok (.iload_n 2, 1) := by decide +kernel
theorem d_Mo_store_42 : decode b_Mo_store 42 = .ok (.iload_n 3, 1) := by decide +kernel
theorem d_Mo_store_43 : decode b_Mo_store 43 = .ok (.iastore, 1) := by decide +kernel
theorem d_Mo_store_44 : decode b_Mo_store 44 = .ok (.iinc 2 1, 3) := by decide +kernel
theorem d_Mo_store_47 : decode b_Mo_store 47 = .ok (.goto 18, 3) := by decide +kernel
theorem d_Mo_store_50 : decode b_Mo_store 50 = .ok (.aload_n 0, 1) := by decide +kernel
theorem d_Mo_store_51 : decode b_Mo_store 51 = .ok (.aload_n 0, 1) := by decide +kernel
theorem d_Mo_store_52 : decode b_Mo_store 52 = .ok (.getfield 48, 3) := by decide +kernel
theorem d_Mo_store_55 : decode b_Mo_store 55 = .ok (.iload_n 2, 1) := by decide +kernel
theorem d_Mo_store_56 : decode b_Mo_store 56 = .ok (.iconst 1, 1) := by decide +kernel
theorem d_Mo_store_57 : decode b_Mo_store 57 = .ok (.isub, 1) := by decide +kernel
theorem d_Mo_store_58 : decode b_Mo_store 58 = .ok (.iaload, 1) := by decide +kernel
theorem d_Mo_store_59 : decode b_Mo_store 59 = .ok (.invokevirtual 78, 3) := by decide +kernel
theorem d_Mo_store_62 : decode b_Mo_store 62 = .ok (.iinc 2 (-1), 3) := by decide +kernel
theorem d_Mo_store_65 : decode b_Mo_store 65 = .ok (.goto (-56), 3) := by decide +kernel
theorem d_Mo_store_68 : decode b_Mo_store 68 = .ok (.return_, 1) := by decide +kernel
theorem d_Mo_before_0 : decode b_Mo_before 0 = .ok (.aload_n 0, 1) := by decide +kernel
theorem d_Mo_before_1 : decode b_Mo_before 1 = .ok (.getfield 38, 3) := by decide +kernel
theorem d_Mo_before_4 : decode b_Mo_before 4 = .ok (.iload_n 1, 1) := by decide +kernel
theorem d_Mo_before_5 : decode b_Mo_before 5 = .ok (.iaload, 1) := by decide +kernel
theorem d_Mo_before_6 : decode b_Mo_before 6 = .ok (.istore_n 2, 1) := by decide +kernel
theorem d_Mo_before_7 : decode b_Mo_before 7 = .ok (.iconst 0, 1) := by decide +kernel
theorem d_Mo_before_8 : decode b_Mo_before 8 = .ok (.istore_n 3, 1) := by decide +kernel
theorem d_Mo_before_9 : decode b_Mo_before 9 = .ok (.iload_n 3, 1) := by decide +kernel
theorem d_Mo_before_10 : decode b_Mo_before 10 = .ok (.bipush 7, 2) := by decide +kernel
theorem d_Mo_before_12 : decode b_Mo_before 12 = .ok (.if_icmp .ge 44, 3) := by decide +kernel
theorem d_Mo_before_15 : decode b_Mo_before 15 = .ok (.iconst 0, 1) := by decide +kernel
theorem d_Mo_before_16 : decode b_Mo_before 16 = .ok (.istore 4, 2) := by decide +kernel
theorem d_Mo_before_18 : decode b_Mo_before 18 = .ok (.iload 4, 2) := by decide +kernel
theorem d_Mo_before_20 : decode b_Mo_before 20 = .ok (.bipush 7, 2) := by decide +kernel
theorem d_Mo_before_22 : decode b_Mo_before 22 = .ok (.if_icmp .ge 28, 3) := by decide +kernel
theorem d_Mo_before_25 : decode b_Mo_before 25 = .ok (.iload_n 2, 1) := by decide +kernel
theorem d_Mo_before_26 : decode b_Mo_before 26 = .ok (.iload 4, 2) := by decide +kernel
theorem d_Mo_before_28 : decode b_Mo_before 28 = .ok (.ishr, 1) := by decide +kernel
theorem d_Mo_before_29 : decode b_Mo_before 29 = .ok (.iconst 1, 1) := by decide +kernel
theorem d_Mo_before_30 : decode b_Mo_before 30 = .ok (.iand, 1) := by decide +kernel
theorem d_Mo_before_31 : decode b_Mo_before 31 = .ok (.ifCond .eq 13, 3) := by decide +kernel
theorem d_Mo_before_34 : decode b_Mo_before 34 = .ok (.iload_n 2, 1) := by decide +kernel
theorem d_Mo_before_35 : decode b_Mo_before 35 = .ok (.aload_n 0, 1) := by decide +kernel
theorem d_Mo_before_36 : decode b_Mo_before 36 = .ok (.getfield 38, 3) := by decide +kernel
theorem d_Mo_before_39 : decode b_Mo_before 39 = .ok (.iload 4, 2) := by decide +kernel
theorem d_Mo_before_41 : decode b_Mo_before 41 = .ok (.iaload, 1) := by decide +kernel
theorem d_Mo_before_42 : decode b_Mo_before 42 = .ok (.ior, 1) := by decide +kernel
theorem d_Mo_before_43 : decode b_Mo_before 43 = .ok (.istore_n 2, 1) := by decide +kernel
theorem d_Mo_before_44 : decode b_Mo_before 44 = .ok (.iinc 4 1, 3) := by decide +kernel
theorem d_Mo_before_47 : decode b_Mo_before 47 = .ok (.goto (-29), 3) := by decide +kernel
theorem d_Mo_before_50 : decode b_Mo_before 50 = .ok (.iinc 3 1, 3) := by decide +kernel
theorem d_Mo_before_53 : decode b_Mo_before 53 = .ok (.goto (-44), 3) := by decide +kernel
theorem d_Mo_before_56 : decode b_Mo_before 56 = .ok (.iload_n 2, 1) := by decide +kernel
theorem d_Mo_before_57 : decode b_Mo_before 57 = .ok (.ireturn, 1) := by decide +kernel
theorem d_Mo_note_0 : decode b_Mo_note 0 = .ok (.aload_n 0, 1) := by decide +kernel
theorem d_Mo_note_1 : decode b_Mo_note 1 = .ok (.getfield 58, 3) := by decide +kernel
theorem d_Mo_note_4 : decode b_Mo_note 4 = .ok (.ifCond .eq 4, 3) := by decide +kernel
theorem d_Mo_note_7 : decode b_Mo_note 7 = .ok (.return_, 1) := by decide +kernel
theorem d_Mo_note_8 : decode b_Mo_note 8 = .ok (.aload_n 0, 1) := by decide +kernel
theorem d_Mo_note_9 : decode b_Mo_note 9 = .ok (.iload_n 1, 1) := by decide +kernel
theorem d_Mo_note_10 : decode b_Mo_note 10 = .ok (.invokevirtual 82, 3) := by decide +kernel
theorem d_Mo_note_13 : decode b_Mo_note 13 = .ok (.iload_n 2, 1) := by decide +kernel
theorem d_Mo_note_14 : decode b_Mo_note 14 = .ok (.ishr, 1) := by decide +kernel
theorem d_Mo_note_15 : decode b_Mo_note 15 = .ok (.iconst 1, 1) := by decide +kernel
theorem d_Mo_note_16 : decode b_Mo_note 16 = .ok (.iand, 1) := by decide +kernel
theorem d_Mo_note_17 : decode b_Mo_note 17 = .ok (.ifCond .eq 8, 3) := by decide +kernel
theorem d_Mo_note_20 : decode b_Mo_note 20 = .ok (.aload_n 0, 1) := by decide +kernel
theorem d_Mo_note_21 : decode b_Mo_note 21 = .ok (.iload_n 2, 1) := by decide +kernel
theorem d_Mo_note_22 : decode b_Mo_note 22 = .ok (.invokevirtual 85, 3) := by decide +kernel
theorem d_Mo_note_25 : decode b_Mo_note 25 = .ok (.aload_n 0, 1) := by decide +kernel
theorem d_Mo_note_26 : decode b_Mo_note 26 = .ok (.getfield 58, 3) := by decide +kernel
theorem d_Mo_note_29 : decode b_Mo_note 29 = .ok (.ifCond .ne 20, 3) := by decide +kernel
theorem d_Mo_note_32 : decode b_Mo_note 32 = .ok (.iload_n 1, 1) := by decide +kernel
theorem d_Mo_note_33 : decode b_Mo_note 33 = .ok (.iload_n 2, 1) := by decide +kernel
theorem d_Mo_note_34 : decode b_Mo_note 34 = .ok (.if_icmp .eq 15, 3) := by decide +kernel
theorem d_Mo_note_37 : decode b_Mo_note 37 = .ok (.aload_n 0, 1) := by decide +kernel
theorem d_Mo_note_38 : decode b_Mo_note 38 = .ok (.getfield 38, 3) := by decide +kernel
theorem d_Mo_note_41 : decode b_Mo_note 41 = .ok (.iload_n 2, 1) := by decide +kernel
theorem d_Mo_note_42 : decode b_Mo_note 42 = .ok (.dup2, 1) := by decide +kernel
theorem d_Mo_note_43 : decode b_Mo_note 43 = .ok (.iaload, 1) := by decide +kernel
theorem d_Mo_note_44 : decode b_Mo_note 44 = .ok (.iconst 1, 1) := by decide +kernel
theorem d_Mo_note_45 : decode b_Mo_note 45 = .ok (.iload_n 1, 1) := by decide +kernel
theorem d_Mo_note_46 : decode b_Mo_note 46 = .ok (.ishl, 1) := by decide +kernel
theorem d_Mo_note_47 : decode b_Mo_note 47 = .ok (.ior, 1) := by decide +kernel
theorem d_Mo_note_48 : decode b_Mo_note 48 = .ok (.iastore, 1) := by decide +kernel
theorem d_Mo_note_49 : decode b_Mo_note 49 = .ok (.return_, 1) := by decide +kernel
theorem d_Mo_done_0 : decode b_Mo_done 0 = .ok (.aload_n 0, 1) := by decide +kernel
theorem d_Mo_done_1 : decode b_Mo_done 1 = .ok (.getfield 58, 3) := by decide +kernel
theorem d_Mo_done_4 : decode b_Mo_done 4 = .ok (.ifCond .eq 8, 3) := by decide +kernel
theorem d_Mo_done_7 : decode b_Mo_done 7 = .ok (.bipush (-9), 2) := by decide +kernel
theorem d_Mo_done_9 : decode b_Mo_done 9 = .ok (.goto 4, 3) := by decide +kernel
theorem d_Mo_done_12 : decode b_Mo_done 12 = .ok (.iload_n 1, 1) := by decide +kernel
theorem d_Mo_done_13 : decode b_Mo_done 13 = .ok (.ireturn, 1) := by decide +kernel
theorem d_Mo_begun_0 : decode b_Mo_begun 0 = .ok (.aload_n 0, 1) := by decide +kernel
theorem d_Mo_begun_1 : decode b_Mo_begun 1 = .ok (.iconst 0, 1) := by decide +kernel
theorem d_Mo_begun_2 : decode b_Mo_begun 2 = .ok (.putfield 51, 3) := by decide +kernel
theorem d_Mo_begun_5 : decode b_Mo_begun 5 = .ok (.aload_n 0, 1) := by decide +kernel
theorem d_Mo_begun_6 : decode b_Mo_begun 6 = .ok (.iconst 0, 1) := by decide +kernel
theorem d_Mo_begun_7 : decode b_Mo_begun 7 = .ok (.putfield 58, 3) := by decide +kernel
theorem d_Mo_begun_10 : decode b_Mo_begun 10 = .ok (.aload_n 0, 1) := by decide +kernel
theorem d_Mo_begun_11 : decode b_Mo_begun 11 = .ok (.iconst 0, 1) := by decide +kernel
theorem d_Mo_begun_12 : decode b_Mo_begun 12 = .ok (.putfield 88, 3) := by decide +kernel
theorem d_Mo_begun_15 : decode b_Mo_begun 15 = .ok (.return_, 1) := by decide +kernel
theorem d_Mo_actives_0 : decode b_Mo_actives 0 = .ok (.iconst 0, 1) := by decide +kernel
theorem d_Mo_actives_1 : decode b_Mo_actives 1 = .ok (.istore_n 1, 1) := by decide +kernel
theorem d_Mo_actives_2 : decode b_Mo_actives 2 = .ok (.iconst 1, 1) := by decide +kernel
theorem d_Mo_actives_3 : decode b_Mo_actives 3 = .ok (.istore_n 2, 1) := by decide +kernel
theorem d_Mo_actives_4 : decode b_Mo_actives 4 = .ok (.iload_n 2, 1) := by decide +kernel
theorem d_Mo_actives_5 : decode b_Mo_actives 5 = .ok (.bipush 40, 2) := by decide +kernel
theorem d_Mo_actives_7 : decode b_Mo_actives 7 = .ok (.if_icmp .gt 22, 3) := by decide +kernel
theorem d_Mo_actives_10 : decode b_Mo_actives 10 = .ok (.aload_n 0, 1) := by decide +kernel
theorem d_Mo_actives_11 : decode b_Mo_actives 11 = .ok (.getfield 28, 3) := by decide +kernel
theorem d_Mo_actives_14 : decode b_Mo_actives 14 = .ok (.iload_n 2, 1) := by decide +kernel
theorem d_Mo_actives_15 : decode b_Mo_actives 15 = .ok (.iaload, 1) := by decide +kernel
theorem d_Mo_actives_16 : decode b_Mo_actives 16 = .ok (.iconst 1, 1) := by decide +kernel
theorem d_Mo_actives_17 : decode b_Mo_actives 17 = .ok (.if_icmp .ne 6, 3) := by decide +kernel
theorem d_Mo_actives_20 : decode b_Mo_actives 20 = .ok (.iinc 1 1, 3) := by decide +kernel
theorem d_Mo_actives_23 : decode b_Mo_actives 23 = .ok (.iinc 2 1, 3) := by decide +kernel
theorem d_Mo_actives_26 : decode b_Mo_actives 26 = .ok (.goto (-22), 3) := by decide +kernel
theorem d_Mo_actives_29 : decode b_Mo_actives 29 = .ok (.iload_n 1, 1) := by decide +kernel
theorem d_Mo_actives_30 : decode b_Mo_actives 30 = .ok (.ireturn, 1) := by decide +kernel
theorem d_Mo_idle_0 : decode b_Mo_idle 0 = .ok (.iload_n 1, 1) := by decide +kernel
theorem d_Mo_idle_1 : decode b_Mo_idle 1 = .ok (.iconst 1, 1) := by decide +kernel
theorem d_Mo_idle_2 : decode b_Mo_idle 2 = .ok (.bipush 40, 2) := by decide +kernel
theorem d_Mo_idle_4 : decode b_Mo_idle 4 = .ok (.invokestatic 91, 3) := by decide +kernel
theorem d_Mo_idle_7 : decode b_Mo_idle 7 = .ok (.ifCond .eq 13, 3) := by decide +kernel
theorem d_Mo_idle_10 : decode b_Mo_idle 10 = .ok (.aload_n 0, 1) := by decide +kernel
theorem d_Mo_idle_11 : decode b_Mo_idle 11 = .ok (.getfield 28, 3) := by decide +kernel
theorem d_Mo_idle_14 : decode b_Mo_idle 14 = .ok (.iload_n 1, 1) := by decide +kernel
theorem d_Mo_idle_15 : decode b_Mo_idle 15 = .ok (.iaload, 1) := by decide +kernel
theorem d_Mo_idle_16 : decode b_Mo_idle 16 = .ok (.iconst 1, 1) := by decide +kernel
theorem d_Mo_idle_17 : decode b_Mo_idle 17 = .ok (.if_icmp .eq 7, 3) := by decide +kernel
theorem d_Mo_idle_20 : decode b_Mo_idle 20 = .ok (.iconst 1, 1) := by decide +kernel
theorem d_Mo_idle_21 : decode b_Mo_idle 21 = .ok (.goto 4, 3) := by decide +kernel
theorem d_Mo_idle_24 : decode b_Mo_idle 24 = .ok (.iconst 0, 1) := by decide +kernel
theorem d_Mo_idle_25 : decode b_Mo_idle 25 = .ok (.ireturn, 1) := by decide +kernel
theorem d_Mo_begin_0 : decode b_Mo_begin 0 = .ok (.aload_n 0, 1) := by decide +kernel
theorem d_Mo_begin_1 : decode b_Mo_begin 1 = .ok (.invokevirtual 95, 3) := by decide +kernel
theorem d_Mo_begin_4 : decode b_Mo_begin 4 = .ok (.iconst 1, 1) := by decide +kernel
theorem d_Mo_begin_5 : decode b_Mo_begin 5 = .ok (.istore_n 1, 1) := by decide +kernel
theorem d_Mo_begin_6 : decode b_Mo_begin 6 = .ok (.iload_n 1, 1) := by decide +kernel
theorem d_Mo_begin_7 : decode b_Mo_begin 7 = .ok (.bipush 40, 2) := by decide +kernel
theorem d_Mo_begin_9 : decode b_Mo_begin 9 = .ok (.if_icmp .gt 18, 3) := by decide +kernel
theorem d_Mo_begin_12 : decode b_Mo_begin 12 = .ok (.aload_n 0, 1) := by decide +kernel
theorem d_Mo_begin_13 : decode b_Mo_begin 13 = .ok (.getfield 28, 3) := by decide +kernel
theorem d_Mo_begin_16 : decode b_Mo_begin 16 = .ok (.iload_n 1, 1) := by decide +kernel
theorem d_Mo_begin_17 : decode b_Mo_begin 17 = .ok (.iaload, 1) := by decide +kernel
theorem d_Mo_begin_18 : decode b_Mo_begin 18 = .ok (.ifCond .eq 9, 3) := by decide +kernel
theorem d_Mo_begin_21 : decode b_Mo_begin 21 = .ok (.iinc 1 1, 3) := by decide +kernel
theorem d_Mo_begin_24 : decode b_Mo_begin 24 = .ok (.goto (-18), 3) := by decide +kernel
theorem d_Mo_begin_27 : decode b_Mo_begin 27 = .ok (.iload_n 1, 1) := by decide +kernel
theorem d_Mo_begin_28 : decode b_Mo_begin 28 = .ok (.bipush 40, 2) := by decide +kernel
theorem d_Mo_begin_30 : decode b_Mo_begin 30 = .ok (.if_icmp .gt 11, 3) := by decide +kernel
theorem d_Mo_begin_33 : decode b_Mo_begin 33 = .ok (.aload_n 0, 1) := by decide +kernel
theorem d_Mo_begin_34 : decode b_Mo_begin 34 = .ok (.invokevirtual 98, 3) := by decide +kernel
theorem d_Mo_begin_37 : decode b_Mo_begin 37 = .ok (.iconst 4, 1) := by decide +kernel
theorem d_Mo_begin_38 : decode b_Mo_begin 38 = .ok (.if_icmp .ne 9, 3) := by decide +kernel
theorem d_Mo_begin_41 : decode b_Mo_begin 41 = .ok (.aload_n 0, 1) := by decide +kernel
theorem d_Mo_begin_42 : decode b_Mo_begin 42 = .ok (.iconst 1, 1) := by decide +kernel
theorem d_Mo_begin_43 : decode b_Mo_begin 43 = .ok (.invokevirtual 102, 3) := by decide +kernel
theorem d_Mo_begin_46 : decode b_Mo_begin 46 = .ok (.ireturn, 1) := by decide +kernel
theorem d_Mo_begin_47 : decode b_Mo_begin 47 = .ok (.aload_n 0, 1) := by decide +kernel
theorem d_Mo_begin_48 : decode b_Mo_begin 48 = .ok (.getfield 28, 3) := by decide +kernel
theorem d_Mo_begin_51 : decode b_Mo_begin 51 = .ok (.iload_n 1, 1) := by decide +kernel
theorem d_Mo_begin_52 : decode b_Mo_begin 52 = .ok (.iconst 1, 1) := by decide +kernel
theorem d_Mo_begin_53 : decode b_Mo_begin 53 = .ok (.iastore, 1) := by decide +kernel
theorem d_Mo_begin_54 : decode b_Mo_begin 54 = .ok (.aload_n 0, 1) := by decide +kernel
theorem d_Mo_begin_55 : decode b_Mo_begin 55 = .ok (.getfield 41, 3) := by decide +kernel
theorem d_Mo_begin_58 : decode b_Mo_begin 58 = .ok (.iload_n 1, 1) := by decide +kernel
theorem d_Mo_begin_59 : decode b_Mo_begin 59 = .ok (.iconst 0, 1) := by decide +kernel
theorem d_Mo_begin_60 : decode b_Mo_begin 60 = .ok (.iastore, 1) := by decide +kernel
theorem d_Mo_begin_61 : decode b_Mo_begin 61 = .ok (.aload_n 0, 1) := by decide +kernel
theorem d_Mo_begin_62 : decode b_Mo_begin 62 = .ok (.getfield 44, 3) := by decide +kernel
theorem d_Mo_begin_65 : decode b_Mo_begin 65 = .ok (.iload_n 1, 1) := by decide +kernel
theorem d_Mo_begin_66 : decode b_Mo_begin 66 = .ok (.lconst 0, 1) := by decide +kernel
theorem d_Mo_begin_67 : decode b_Mo_begin 67 = .ok (.lastore, 1) := by decide +kernel
theorem d_Mo_begin_68 : decode b_Mo_begin 68 = .ok (.iconst 1, 1) := by decide +kernel
theorem d_Mo_begin_69 : decode b_Mo_begin 69 = .ok (.istore_n 2, 1) := by decide +kernel
theorem d_Mo_begin_70 : decode b_Mo_begin 70 = .ok (.iload_n 2, 1) := by decide +kernel
theorem d_Mo_begin_71 : decode b_Mo_begin 71 = .ok (.bipush 40, 2) := by decide +kernel
theorem d_Mo_begin_73 : decode b_Mo_begin 73 = .ok (.if_icmp .gt 31, 3) := by decide +kernel
theorem d_Mo_begin_76 : decode b_Mo_begin 76 = .ok (.aload_n 0, 1) := by decide +kernel
theorem d_Mo_begin_77 : decode b_Mo_begin 77 = .ok (.getfield 28, 3) := by decide +kernel
theorem d_Mo_begin_80 : decode b_Mo_begin 80 = .ok (.iload_n 2, 1) := by decide +kernel
theorem d_Mo_begin_81 : decode b_Mo_begin 81 = .ok (.iaload, 1) := by decide +kernel
theorem d_Mo_begin_82 : decode b_Mo_begin 82 = .ok (.iconst 2, 1) := by decide +kernel
theorem d_Mo_begin_83 : decode b_Mo_begin 83 = .ok (.if_icmp .ne 15, 3) := by decide +kernel
theorem d_Mo_begin_86 : decode b_Mo_begin 86 = .ok (.aload_n 0, 1) := by decide +kernel
theorem d_Mo_begin_87 : decode b_Mo_begin 87 = .ok (.getfield 44, 3) := by decide +kernel
theorem d_Mo_begin_90 : decode b_Mo_begin 90 = .ok (.iload_n 1, 1) := by decide +kernel
theorem d_Mo_begin_91 : decode b_Mo_begin 91 = .ok (.dup2, 1) := by decide +kernel
theorem d_Mo_begin_92 : decode b_Mo_begin 92 = .ok (.laload, 1) := by decide +kernel
theorem d_Mo_begin_93 : decode b_Mo_begin 93 = .ok (.lconst 1, 1) := by decide +kernel
theorem d_Mo_begin_94 : decode b_Mo_begin 94 = .ok (.iload_n 2, 1) := by decide +kernel
theorem d_Mo_begin_95 : decode b_Mo_begin 95 = .ok (.lshl, 1) := by decide +kernel
theorem d_Mo_begin_96 : decode b_Mo_begin 96 = .ok (.lor, 1) := by decide +kernel
theorem d_Mo_begin_97 : decode b_Mo_begin 97 = .ok (.lastore, 1) := by decide +kernel
theorem d_Mo_begin_98 : decode b_Mo_begin 98 = .ok (.iinc 2 1, 3) := by decide +kernel
theorem d_Mo_begin_101 : decode b_Mo_begin 101 = .ok (.goto (-31), 3) := by decide +kernel
theorem d_Mo_begin_104 : decode b_Mo_begin 104 = .ok (.aload_n 0, 1) := by decide +kernel
theorem d_Mo_begin_105 : decode b_Mo_begin 105 = .ok (.getfield 34, 3) := by decide +kernel
theorem d_Mo_begin_108 : decode b_Mo_begin 108 = .ok (.bipush 6, 2) := by decide +kernel
theorem d_Mo_begin_110 : decode b_Mo_begin 110 = .ok (.iconst 1, 1) := by decide +kernel
theorem d_Mo_begin_111 : decode b_Mo_begin 111 = .ok (.bastore, 1) := by decide +kernel
theorem d_Mo_begin_112 : decode b_Mo_begin 112 = .ok (.aload_n 0, 1) := by decide +kernel
theorem d_Mo_begin_113 : decode b_Mo_begin 113 = .ok (.bipush 6, 2) := by decide +kernel
theorem d_Mo_begin_115 : decode b_Mo_begin 115 = .ok (.invokevirtual 85, 3) := by decide +kernel
theorem d_Mo_begin_118 : decode b_Mo_begin 118 = .ok (.aload_n 0, 1) := by decide +kernel
theorem d_Mo_begin_119 : decode b_Mo_begin 119 = .ok (.iload_n 1, 1) := by decide +kernel
theorem d_Mo_begin_120 : decode b_Mo_begin 120 = .ok (.invokevirtual 105, 3) := by decide +kernel
theorem d_Mo_begin_123 : decode b_Mo_begin 123 = .ok (.ireturn, 1) := by decide +kernel
theorem d_Mo_seen_0 : decode b_Mo_seen 0 = .ok (.aload_n 0, 1) := by decide +kernel
theorem d_Mo_seen_1 : decode b_Mo_seen 1 = .ok (.getfield 7, 3) := by decide +kernel
theorem d_Mo_seen_4 : decode b_Mo_seen 4 = .ok (.iload_n 2, 1) := by decide +kernel
theorem d_Mo_seen_5 : decode b_Mo_seen 5 = .ok (.iaload, 1) := by decide +kernel
theorem d_Mo_seen_6 : decode b_Mo_seen 6 = .ok (.iload_n 1, 1) := by decide +kernel
theorem d_Mo_seen_7 : decode b_Mo_seen 7 = .ok (.if_icmp .eq 23, 3) := by decide +kernel
theorem d_Mo_seen_10 : decode b_Mo_seen 10 = .ok (.aload_n 0, 1) := by decide +kernel
theorem d_Mo_seen_11 : decode b_Mo_seen 11 = .ok (.getfield 44, 3) := by decide +kernel
theorem d_Mo_seen_14 : decode b_Mo_seen 14 = .ok (.iload_n 1, 1) := by decide +kernel
theorem d_Mo_seen_15 : decode b_Mo_seen 15 = .ok (.laload, 1) := by decide +kernel
theorem d_Mo_seen_16 : decode b_Mo_seen 16 = .ok (.aload_n 0, 1) := by decide +kernel
theorem d_Mo_seen_17 : decode b_Mo_seen 17 = .ok (.getfield 7, 3) := by decide +kernel
theorem d_Mo_seen_20 : decode b_Mo_seen 20 = .ok (.iload_n 2, 1) := by decide +kernel
theorem d_Mo_seen_21 : decode b_Mo_seen 21 = .ok (.iaload, 1) := by decide +kernel
theorem d_Mo_seen_22 : decode b_Mo_seen 22 = .ok (.lshr, 1) := by decide +kernel
theorem d_Mo_seen_23 : decode b_Mo_seen 23 = .ok (.lconst 1, 1) := by decide +kernel
theorem d_Mo_seen_24 : decode b_Mo_seen 24 = .ok (.land, 1) := by decide +kernel
theorem d_Mo_seen_25 : decode b_Mo_seen 25 = .ok (.lconst 0, 1) := by decide +kernel
theorem d_Mo_seen_26 : decode b_Mo_seen 26 = .ok (.lcmp, 1) := by decide +kernel
theorem d_Mo_seen_27 : decode b_Mo_seen 27 = .ok (.ifCond .eq 7, 3) := by decide +kernel
theorem d_Mo_seen_30 : decode b_Mo_seen 30 = .ok (.iconst 1, 1) := by decide +kernel
theorem d_Mo_seen_31 : decode b_Mo_seen 31 = .ok (.goto 4, 3) := by decide +kernel
theorem d_Mo_seen_34 : decode b_Mo_seen 34 = .ok (.iconst 0, 1) := by decide +kernel
theorem d_Mo_seen_35 : decode b_Mo_seen 35 = .ok (.ireturn, 1) := by decide +kernel
theorem d_Mo_behind_0 : decode b_Mo_behind 0 = .ok (.aload_n 0, 1) := by decide +kernel
theorem d_Mo_behind_1 : decode b_Mo_behind 1 = .ok (.getfield 16, 3) := by decide +kernel
theorem d_Mo_behind_4 : decode b_Mo_behind 4 = .ok (.iload_n 1, 1) := by decide +kernel
theorem d_Mo_behind_5 : decode b_Mo_behind 5 = .ok (.iaload, 1) := by decide +kernel
theorem d_Mo_behind_6 : decode b_Mo_behind 6 = .ok (.ifCond .lt 20, 3) := by decide +kernel
theorem d_Mo_behind_9 : decode b_Mo_behind 9 = .ok (.aload_n 0, 1) := by decide +kernel
theorem d_Mo_behind_10 : decode b_Mo_behind 10 = .ok (.getfield 7, 3) := by decide +kernel
theorem d_Mo_behind_13 : decode b_Mo_behind 13 = .ok (.bipush 6, 2) := by decide +kernel
theorem d_Mo_behind_15 : decode b_Mo_behind 15 = .ok (.aload_n 0, 1) := by decide +kernel
theorem d_Mo_behind_16 : decode b_Mo_behind 16 = .ok (.getfield 16, 3) := by decide +kernel
theorem d_Mo_behind_19 : decode b_Mo_behind 19 = .ok (.iload_n 1, 1) := by decide +kernel
theorem d_Mo_behind_20 : decode b_Mo_behind 20 = .ok (.iaload, 1) := by decide +kernel
theorem d_Mo_behind_21 : decode b_Mo_behind 21 = .ok (.iadd, 1) := by decide +kernel
theorem d_Mo_behind_22 : decode b_Mo_behind 22 = .ok (.iaload, 1) := by decide +kernel
theorem d_Mo_behind_23 : decode b_Mo_behind 23 = .ok (.ifCond .ne 7, 3) := by decide +kernel
theorem d_Mo_behind_26 : decode b_Mo_behind 26 = .ok (.iconst (-1), 1) := by decide +kernel
theorem d_Mo_behind_27 : decode b_Mo_behind 27 = .ok (.goto 12, 3) := by decide +kernel
theorem d_Mo_behind_30 : decode b_Mo_behind 30 = .ok (.bipush 6, 2) := by decide +kernel
theorem d_Mo_behind_32 : decode b_Mo_behind 32 = .ok (.aload_n 0, 1) := by decide +kernel
theorem d_Mo_behind_33 : decode b_Mo_behind 33 = .ok (.getfield 16, 3) := by decide +kernel
theorem d_Mo_behind_36 : decode b_Mo_behind 36 = .ok (.iload_n 1, 1) := by decide +kernel
theorem d_Mo_behind_37 : decode b_Mo_behind 37 = .ok (.iaload, 1) := by decide +kernel
theorem d_Mo_behind_38 : decode b_Mo_behind 38 = .ok (.iadd, 1) := by decide +kernel
theorem d_Mo_behind_39 : decode b_Mo_behind 39 = .ok (.ireturn, 1) := by decide +kernel
theorem d_Mo_reads_0 : decode b_Mo_reads 0 = .ok (.aload_n 0, 1) := by decide +kernel
theorem d_Mo_reads_1 : decode b_Mo_reads 1 = .ok (.getfield 7, 3) := by decide +kernel
theorem d_Mo_reads_4 : decode b_Mo_reads 4 = .ok (.iload_n 2, 1) := by decide +kernel
theorem d_Mo_reads_5 : decode b_Mo_reads 5 = .ok (.iaload, 1) := by decide +kernel
theorem d_Mo_reads_6 : decode b_Mo_reads 6 = .ok (.ifCond .ne 5, 3) := by decide +kernel
theorem d_Mo_reads_9 : decode b_Mo_reads 9 = .ok (.iconst (-1), 1) := by decide +kernel
theorem d_Mo_reads_10 : decode b_Mo_reads 10 = .ok (.ireturn, 1) := by decide +kernel
theorem d_Mo_reads_11 : decode b_Mo_reads 11 = .ok (.iload_n 2, 1) := by decide +kernel
theorem d_Mo_reads_12 : decode b_Mo_reads 12 = .ok (.istore_n 3, 1) := by decide +kernel
theorem d_Mo_reads_13 : decode b_Mo_reads 13 = .ok (.iload_n 3, 1) := by decide +kernel
theorem d_Mo_reads_14 : decode b_Mo_reads 14 = .ok (.ifCond .lt 28, 3) := by decide +kernel
theorem d_Mo_reads_17 : decode b_Mo_reads 17 = .ok (.aload_n 0, 1) := by decide +kernel
theorem d_Mo_reads_18 : decode b_Mo_reads 18 = .ok (.iload_n 1, 1) := by decide +kernel
theorem d_Mo_reads_19 : decode b_Mo_reads 19 = .ok (.iload_n 3, 1) := by decide +kernel
theorem d_Mo_reads_20 : decode b_Mo_reads 20 = .ok (.invokevirtual 108, 3) := by decide +kernel
theorem d_Mo_reads_23 : decode b_Mo_reads 23 = .ok (.ifCond .eq 10, 3) := by decide +kernel
theorem d_Mo_reads_26 : decode b_Mo_reads 26 = .ok (.aload_n 0, 1) := by decide +kernel
theorem d_Mo_reads_27 : decode b_Mo_reads 27 = .ok (.getfield 13, 3) := by decide +kernel
theorem d_Mo_reads_30 : decode b_Mo_reads 30 = .ok (.iload_n 3, 1) := by decide +kernel
theorem d_Mo_reads_31 : decode b_Mo_reads 31 = .ok (.iaload, 1) := by decide +kernel
theorem d_Mo_reads_32 : decode b_Mo_reads 32 = .ok (.ireturn, 1) := by decide +kernel
theorem d_Mo_reads_33 : decode b_Mo_reads 33 = .ok (.aload_n 0, 1) := by decide +kernel
theorem d_Mo_reads_34 : decode b_Mo_reads 34 = .ok (.iload_n 3, 1) := by decide +kernel
theorem d_Mo_reads_35 : decode b_Mo_reads 35 = .ok (.invokevirtual 112, 3) := by decide +kernel
theorem d_Mo_reads_38 : decode b_Mo_reads 38 = .ok (.istore_n 3, 1) := by decide +kernel
theorem d_Mo_reads_39 : decode b_Mo_reads 39 = .ok (.goto (-26), 3) := by decide +kernel
theorem d_Mo_reads_42 : decode b_Mo_reads 42 = .ok (.iconst (-1), 1) := by decide +kernel
theorem d_Mo_reads_43 : decode b_Mo_reads 43 = .ok (.ireturn, 1) := by decide +kernel
theorem d_Mo_read_0 : decode b_Mo_read 0 = .ok (.aload_n 0, 1) := by decide +kernel
theorem d_Mo_read_1 : decode b_Mo_read 1 = .ok (.invokevirtual 95, 3) := by decide +kernel
theorem d_Mo_read_4 : decode b_Mo_read 4 = .ok (.iload_n 2, 1) := by decide +kernel
theorem d_Mo_read_5 : decode b_Mo_read 5 = .ok (.iconst 0, 1) := by decide +kernel
theorem d_Mo_read_6 : decode b_Mo_read 6 = .ok (.iconst 5, 1) := by decide +kernel
theorem d_Mo_read_7 : decode b_Mo_read 7 = .ok (.invokestatic 91, 3) := by decide +kernel
theorem d_Mo_read_10 : decode b_Mo_read 10 = .ok (.ifCond .ne 9, 3) := by decide +kernel
theorem d_Mo_read_13 : decode b_Mo_read 13 = .ok (.aload_n 0, 1) := by decide +kernel
theorem d_Mo_read_14 : decode b_Mo_read 14 = .ok (.iconst 1, 1) := by decide +kernel
theorem d_Mo_read_15 : decode b_Mo_read 15 = .ok (.invokevirtual 102, 3) := by decide +kernel
theorem d_Mo_read_18 : decode b_Mo_read 18 = .ok (.ireturn, 1) := by decide +kernel
theorem d_Mo_read_19 : decode b_Mo_read 19 = .ok (.aload_n 0, 1) := by decide +kernel
theorem d_Mo_read_20 : decode b_Mo_read 20 = .ok (.iload_n 1, 1) := by decide +kernel
theorem d_Mo_read_21 : decode b_Mo_read 21 = .ok (.invokevirtual 115, 3) := by decide +kernel
theorem d_Mo_read_24 : decode b_Mo_read 24 = .ok (.ifCond .eq 9, 3) := by decide +kernel
theorem d_Mo_read_27 : decode b_Mo_read 27 = .ok (.aload_n 0, 1) := by decide +kernel
theorem d_Mo_read_28 : decode b_Mo_read 28 = .ok (.iconst 2, 1) := by decide +kernel
theorem d_Mo_read_29 : decode b_Mo_read 29 = .ok (.invokevirtual 102, 3) := by decide +kernel
theorem d_Mo_read_32 : decode b_Mo_read 32 = .ok (.ireturn, 1) := by decide +kernel
theorem d_Mo_read_33 : decode b_Mo_read 33 = .ok (.aload_n 0, 1) := by decide +kernel
theorem d_Mo_read_34 : decode b_Mo_read 34 = .ok (.iload_n 1, 1) := by decide +kernel
theorem d_Mo_read_35 : decode b_Mo_read 35 = .ok (.iload_n 2, 1) := by decide +kernel
theorem d_Mo_read_36 : decode b_Mo_read 36 = .ok (.invokevirtual 119, 3) := by decide +kernel
theorem d_Mo_read_39 : decode b_Mo_read 39 = .ok (.istore_n 3, 1) := by decide +kernel
theorem d_Mo_read_40 : decode b_Mo_read 40 = .ok (.iload_n 3, 1) := by decide +kernel
theorem d_Mo_read_41 : decode b_Mo_read 41 = .ok (.ifCond .ge 11, 3) := by decide +kernel
theorem d_Mo_read_44 : decode b_Mo_read 44 = .ok (.aload_n 0, 1) := by decide +kernel
theorem d_Mo_read_45 : decode b_Mo_read 45 = .ok (.iconst 3, 1) := by decide +kernel
theorem d_Mo_read_46 : decode b_Mo_read 46 = .ok (.invokevirtual 102, 3) := by decide +kernel
theorem d_Mo_read_49 : decode b_Mo_read 49 = .ok (.goto 4, 3) := by decide +kernel
theorem d_Mo_read_52 : decode b_Mo_read 52 = .ok (.iload_n 3, 1) := by decide +kernel
theorem d_Mo_read_53 : decode b_Mo_read 53 = .ok (.ireturn, 1) := by decide +kernel
theorem d_Mo_free_0 : decode b_Mo_free 0 = .ok (.aload_n 0, 1) := by decide +kernel
theorem d_Mo_free_1 : decode b_Mo_free 1 = .ok (.getfield 7, 3) := by decide +kernel
theorem d_Mo_free_4 : decode b_Mo_free 4 = .ok (.iload_n 1, 1) := by decide +kernel
theorem d_Mo_free_5 : decode b_Mo_free 5 = .ok (.iconst 0, 1) := by decide +kernel
theorem d_Mo_free_6 : decode b_Mo_free 6 = .ok (.iastore, 1) := by decide +kernel
theorem d_Mo_free_7 : decode b_Mo_free 7 = .ok (.aload_n 0, 1) := by decide +kernel
theorem d_Mo_free_8 : decode b_Mo_free 8 = .ok (.getfield 13, 3) := by decide +kernel
theorem d_Mo_free_11 : decode b_Mo_free 11 = .ok (.iload_n 1, 1) := by decide +kernel
theorem d_Mo_free_12 : decode b_Mo_free 12 = .ok (.iconst 0, 1) := by decide +kernel
theorem d_Mo_free_13 : decode b_Mo_free 13 = .ok (.iastore, 1) := by decide +kernel
theorem d_Mo_free_14 : decode b_Mo_free 14 = .ok (.aload_n 0, 1) := by decide +kernel
theorem d_Mo_free_15 : decode b_Mo_free 15 = .ok (.getfield 16, 3) := by decide +kernel
theorem d_Mo_free_18 : decode b_Mo_free 18 = .ok (.iload_n 1, 1) := by decide +kernel
theorem d_Mo_free_19 : decode b_Mo_free 19 = .ok (.iconst (-1), 1) := by decide +kernel
theorem d_Mo_free_20 : decode b_Mo_free 20 = .ok (.iastore, 1) := by decide +kernel
theorem d_Mo_free_21 : decode b_Mo_free 21 = .ok (.aload_n 0, 1) := by decide +kernel
theorem d_Mo_free_22 : decode b_Mo_free 22 = .ok (.getfield 34, 3) := by decide +kernel
theorem d_Mo_free_25 : decode b_Mo_free 25 = .ok (.iload_n 1, 1) := by decide +kernel
theorem d_Mo_free_26 : decode b_Mo_free 26 = .ok (.invokestatic 68, 3) := by decide +kernel
theorem d_Mo_free_29 : decode b_Mo_free 29 = .ok (.iconst 1, 1) := by decide +kernel
theorem d_Mo_free_30 : decode b_Mo_free 30 = .ok (.bastore, 1) := by decide +kernel
theorem d_Mo_free_31 : decode b_Mo_free 31 = .ok (.return_, 1) := by decide +kernel
theorem d_Mo_move_0 : decode b_Mo_move 0 = .ok (.aload_n 0, 1) := by decide +kernel
theorem d_Mo_move_1 : decode b_Mo_move 1 = .ok (.getfield 7, 3) := by decide +kernel
theorem d_Mo_move_4 : decode b_Mo_move 4 = .ok (.iload_n 2, 1) := by decide +kernel
theorem d_Mo_move_5 : decode b_Mo_move 5 = .ok (.aload_n 0, 1) := by decide +kernel
theorem d_Mo_move_6 : decode b_Mo_move 6 = .ok (.getfield 7, 3) := by decide +kernel
theorem d_Mo_move_9 : decode b_Mo_move 9 = .ok (.iload_n 1, 1) := by decide +kernel
theorem d_Mo_move_10 : decode b_Mo_move 10 = .ok (.iaload, 1) := by decide +kernel
theorem d_Mo_move_11 : decode b_Mo_move 11 = .ok (.iastore, 1) := by decide +kernel
theorem d_Mo_move_12 : decode b_Mo_move 12 = .ok (.aload_n 0, 1) := by decide +kernel
theorem d_Mo_move_13 : decode b_Mo_move 13 = .ok (.getfield 13, 3) := by decide +kernel
theorem d_Mo_move_16 : decode b_Mo_move 16 = .ok (.iload_n 2, 1) := by decide +kernel
theorem d_Mo_move_17 : decode b_Mo_move 17 = .ok (.aload_n 0, 1) := by decide +kernel
theorem d_Mo_move_18 : decode b_Mo_move 18 = .ok (.getfield 13, 3) := by decide +kernel
theorem d_Mo_move_21 : decode b_Mo_move 21 = .ok (.iload_n 1, 1) := by decide +kernel
theorem d_Mo_move_22 : decode b_Mo_move 22 = .ok (.iaload, 1) := by decide +kernel
theorem d_Mo_move_23 : decode b_Mo_move 23 = .ok (.iastore, 1) := by decide +kernel
theorem d_Mo_move_24 : decode b_Mo_move 24 = .ok (.aload_n 0, 1) := by decide +kernel
theorem d_Mo_move_25 : decode b_Mo_move 25 = .ok (.getfield 16, 3) := by decide +kernel
theorem d_Mo_move_28 : decode b_Mo_move 28 = .ok (.iload_n 2, 1) := by decide +kernel
theorem d_Mo_move_29 : decode b_Mo_move 29 = .ok (.aload_n 0, 1) := by decide +kernel
theorem d_Mo_move_30 : decode b_Mo_move 30 = .ok (.getfield 16, 3) := by decide +kernel
theorem d_Mo_move_33 : decode b_Mo_move 33 = .ok (.iload_n 1, 1) := by decide +kernel
theorem d_Mo_move_34 : decode b_Mo_move 34 = .ok (.iaload, 1) := by decide +kernel
theorem d_Mo_move_35 : decode b_Mo_move 35 = .ok (.iastore, 1) := by decide +kernel
theorem d_Mo_move_36 : decode b_Mo_move 36 = .ok (.aload_n 0, 1) := by decide +kernel
theorem d_Mo_move_37 : decode b_Mo_move 37 = .ok (.getfield 34, 3) := by decide +kernel
theorem d_Mo_move_40 : decode b_Mo_move 40 = .ok (.iload_n 2, 1) := by decide +kernel
theorem d_Mo_move_41 : decode b_Mo_move 41 = .ok (.invokestatic 68, 3) := by decide +kernel
theorem d_Mo_move_44 : decode b_Mo_move 44 = .ok (.iconst 1, 1) := by decide +kernel
theorem d_Mo_move_45 : decode b_Mo_move 45 = .ok (.bastore, 1) := by decide +kernel
theorem d_Mo_move_46 : decode b_Mo_move 46 = .ok (.return_, 1) := by decide +kernel
theorem d_Mo_clean_0 : decode b_Mo_clean 0 = .ok (.aload_n 0, 1) := by decide +kernel
theorem d_Mo_clean_1 : decode b_Mo_clean 1 = .ok (.getfield 58, 3) := by decide +kernel
theorem d_Mo_clean_4 : decode b_Mo_clean 4 = .ok (.ifCond .ne 79, 3) := by decide +kernel
theorem d_Mo_clean_7 : decode b_Mo_clean 7 = .ok (.aload_n 0, 1) := by decide +kernel
theorem d_Mo_clean_8 : decode b_Mo_clean 8 = .ok (.getfield 7, 3) := by decide +kernel
theorem d_Mo_clean_11 : decode b_Mo_clean 11 = .ok (.iload_n 1, 1) := by decide +kernel
theorem d_Mo_clean_12 : decode b_Mo_clean 12 = .ok (.iaload, 1) := by decide +kernel
theorem d_Mo_clean_13 : decode b_Mo_clean 13 = .ok (.ifCond .eq 70, 3) := by decide +kernel
theorem d_Mo_clean_16 : decode b_Mo_clean 16 = .ok (.aload_n 0, 1) := by decide +kernel
theorem d_Mo_clean_17 : decode b_Mo_clean 17 = .ok (.getfield 28, 3) := by decide +kernel
theorem d_Mo_clean_20 : decode b_Mo_clean 20 = .ok (.aload_n 0, 1) := by decide +kernel
theorem d_Mo_clean_21 : decode b_Mo_clean 21 = .ok (.getfield 7, 3) := by decide +kernel
theorem d_Mo_clean_24 : decode b_Mo_clean 24 = .ok (.iload_n 1, 1) := by decide +kernel
theorem d_Mo_clean_25 : decode b_Mo_clean 25 = .ok (.iaload, 1) := by decide +kernel
theorem d_Mo_clean_26 : decode b_Mo_clean 26 = .ok (.iaload, 1) := by decide +kernel
theorem d_Mo_clean_27 : decode b_Mo_clean 27 = .ok (.iconst 3, 1) := by decide +kernel
theorem d_Mo_clean_28 : decode b_Mo_clean 28 = .ok (.if_icmp .ne 55, 3) := by decide +kernel
theorem d_Mo_clean_31 : decode b_Mo_clean 31 = .ok (.aload_n 0, 1) := by decide +kernel
theorem d_Mo_clean_32 : decode b_Mo_clean 32 = .ok (.iload_n 1, 1) := by decide +kernel
theorem d_Mo_clean_33 : decode b_Mo_clean 33 = .ok (.invokevirtual 112, 3) := by decide +kernel
theorem d_Mo_clean_36 : decode b_Mo_clean 36 = .ok (.istore_n 2, 1) := by decide +kernel
theorem d_Mo_clean_37 : decode b_Mo_clean 37 = .ok (.iload_n 2, 1) := by decide +kernel
theorem d_Mo_clean_38 : decode b_Mo_clean 38 = .ok (.ifCond .ge 11, 3) := by decide +kernel
theorem d_Mo_clean_41 : decode b_Mo_clean 41 = .ok (.aload_n 0, 1) := by decide +kernel
theorem d_Mo_clean_42 : decode b_Mo_clean 42 = .ok (.iload_n 1, 1) := by decide +kernel
theorem d_Mo_clean_43 : decode b_Mo_clean 43 = .ok (.invokevirtual 123, 3) := by decide +kernel
theorem d_Mo_clean_46 : decode b_Mo_clean 46 = .ok (.goto (-46), 3) := by decide +kernel
theorem d_Mo_clean_49 : decode b_Mo_clean 49 = .ok (.aload_n 0, 1) := by decide +kernel
theorem d_Mo_clean_50 : decode b_Mo_clean 50 = .ok (.iload_n 1, 1) := by decide +kernel
theorem d_Mo_clean_51 : decode b_Mo_clean 51 = .ok (.invokestatic 68, 3) := by decide +kernel
theorem d_Mo_clean_54 : decode b_Mo_clean 54 = .ok (.iload_n 2, 1) := by decide +kernel
theorem d_Mo_clean_55 : decode b_Mo_clean 55 = .ok (.invokestatic 68, 3) := by decide +kernel
theorem d_Mo_clean_58 : decode b_Mo_clean 58 = .ok (.invokevirtual 126, 3) := by decide +kernel
theorem d_Mo_clean_61 : decode b_Mo_clean 61 = .ok (.aload_n 0, 1) := by decide +kernel
theorem d_Mo_clean_62 : decode b_Mo_clean 62 = .ok (.getfield 58, 3) := by decide +kernel
theorem d_Mo_clean_65 : decode b_Mo_clean 65 = .ok (.ifCond .eq 4, 3) := by decide +kernel
theorem d_Mo_clean_68 : decode b_Mo_clean 68 = .ok (.return_, 1) := by decide +kernel
theorem d_Mo_clean_69 : decode b_Mo_clean 69 = .ok (.aload_n 0, 1) := by decide +kernel
theorem d_Mo_clean_70 : decode b_Mo_clean 70 = .ok (.iload_n 2, 1) := by decide +kernel
theorem d_Mo_clean_71 : decode b_Mo_clean 71 = .ok (.iload_n 1, 1) := by decide +kernel
theorem d_Mo_clean_72 : decode b_Mo_clean 72 = .ok (.invokevirtual 130, 3) := by decide +kernel
theorem d_Mo_clean_75 : decode b_Mo_clean 75 = .ok (.aload_n 0, 1) := by decide +kernel
theorem d_Mo_clean_76 : decode b_Mo_clean 76 = .ok (.iload_n 2, 1) := by decide +kernel
theorem d_Mo_clean_77 : decode b_Mo_clean 77 = .ok (.invokevirtual 123, 3) := by decide +kernel
theorem d_Mo_clean_80 : decode b_Mo_clean 80 = .ok (.goto (-80), 3) := by decide +kernel
theorem d_Mo_clean_83 : decode b_Mo_clean 83 = .ok (.return_, 1) := by decide +kernel
theorem d_Mo_change_0 : decode b_Mo_change 0 = .ok (.aload_n 0, 1) := by decide +kernel
theorem d_Mo_change_1 : decode b_Mo_change 1 = .ok (.iload_n 2, 1) := by decide +kernel
theorem d_Mo_change_2 : decode b_Mo_change 2 = .ok (.invokevirtual 133, 3) := by decide +kernel
theorem d_Mo_change_5 : decode b_Mo_change 5 = .ok (.aload_n 0, 1) := by decide +kernel
theorem d_Mo_change_6 : decode b_Mo_change 6 = .ok (.getfield 58, 3) := by decide +kernel
theorem d_Mo_change_9 : decode b_Mo_change 9 = .ok (.ifCond .eq 4, 3) := by decide +kernel
theorem d_Mo_change_12 : decode b_Mo_change 12 = .ok (.return_, 1) := by decide +kernel
theorem d_Mo_change_13 : decode b_Mo_change 13 = .ok (.aload_n 0, 1) := by decide +kernel
theorem d_Mo_change_14 : decode b_Mo_change 14 = .ok (.getfield 7, 3) := by decide +kernel
theorem d_Mo_change_17 : decode b_Mo_change 17 = .ok (.iload_n 2, 1) := by decide +kernel
theorem d_Mo_change_18 : decode b_Mo_change 18 = .ok (.iaload, 1) := by decide +kernel
theorem d_Mo_change_19 : decode b_Mo_change 19 = .ok (.ifCond .eq 18, 3) := by decide +kernel
theorem d_Mo_change_22 : decode b_Mo_change 22 = .ok (.aload_n 0, 1) := by decide +kernel
theorem d_Mo_change_23 : decode b_Mo_change 23 = .ok (.iload_n 1, 1) := by decide +kernel
theorem d_Mo_change_24 : decode b_Mo_change 24 = .ok (.iload_n 2, 1) := by decide +kernel
theorem d_Mo_change_25 : decode b_Mo_change 25 = .ok (.invokevirtual 108, 3) := by decide +kernel
theorem d_Mo_change_28 : decode b_Mo_change 28 = .ok (.ifCond .ne 9, 3) := by decide +kernel
theorem d_Mo_change_31 : decode b_Mo_change 31 = .ok (.aload_n 0, 1) := by decide +kernel
theorem d_Mo_change_32 : decode b_Mo_change 32 = .ok (.iconst 1, 1) := by decide +kernel
theorem d_Mo_change_33 : decode b_Mo_change 33 = .ok (.putfield 88, 3) := by decide +kernel
theorem d_Mo_change_36 : decode b_Mo_change 36 = .ok (.return_, 1) := by decide +kernel
theorem d_Mo_change_37 : decode b_Mo_change 37 = .ok (.iload_n 2, 1) := by decide +kernel
theorem d_Mo_change_38 : decode b_Mo_change 38 = .ok (.invokestatic 68, 3) := by decide +kernel
theorem d_Mo_change_41 : decode b_Mo_change 41 = .ok (.istore 4, 2) := by decide +kernel
theorem d_Mo_change_43 : decode b_Mo_change 43 = .ok (.aload_n 0, 1) := by decide +kernel
theorem d_Mo_change_44 : decode b_Mo_change 44 = .ok (.getfield 7, 3) := by decide +kernel
theorem d_Mo_change_47 : decode b_Mo_change 47 = .ok (.iload_n 2, 1) := by decide +kernel
theorem d_Mo_change_48 : decode b_Mo_change 48 = .ok (.iaload, 1) := by decide +kernel
theorem d_Mo_change_49 : decode b_Mo_change 49 = .ok (.iload_n 1, 1) := by decide +kernel
theorem d_Mo_change_50 : decode b_Mo_change 50 = .ok (.if_icmp .eq 108, 3) := by decide +kernel
theorem d_Mo_change_53 : decode b_Mo_change 53 = .ok (.aload_n 0, 1) := by decide +kernel
theorem d_Mo_change_54 : decode b_Mo_change 54 = .ok (.getfield 7, 3) := by decide +kernel
theorem d_Mo_change_57 : decode b_Mo_change 57 = .ok (.iload_n 2, 1) := by decide +kernel
theorem d_Mo_change_58 : decode b_Mo_change 58 = .ok (.iaload, 1) := by decide +kernel
theorem d_Mo_change_59 : decode b_Mo_change 59 = .ok (.ifCond .eq 99, 3) := by decide +kernel
theorem d_Mo_change_62 : decode b_Mo_change 62 = .ok (.bipush 6, 2) := by decide +kernel
theorem d_Mo_change_64 : decode b_Mo_change 64 = .ok (.istore 5, 2) := by decide +kernel
theorem d_Mo_change_66 : decode b_Mo_change 66 = .ok (.iload 5, 2) := by decide +kernel
theorem d_Mo_change_68 : decode b_Mo_change 68 = .ok (.bipush 15, 2) := by decide +kernel
theorem d_Mo_change_70 : decode b_Mo_change 70 = .ok (.if_icmp .ge 19, 3) := by decide +kernel
theorem d_Mo_change_73 : decode b_Mo_change 73 = .ok (.aload_n 0, 1) := by decide +kernel
theorem d_Mo_change_74 : decode b_Mo_change 74 = .ok (.getfield 7, 3) := by decide +kernel
theorem d_Mo_change_77 : decode b_Mo_change 77 = .ok (.iload 5, 2) := by decide +kernel
theorem d_Mo_change_79 : decode b_Mo_change 79 = .ok (.iaload, 1) := by decide +kernel
theorem d_Mo_change_80 : decode b_Mo_change 80 = .ok (.ifCond .eq 9, 3) := by decide +kernel
theorem d_Mo_change_83 : decode b_Mo_change 83 = .ok (.iinc 5 1, 3) := by decide +kernel
theorem d_Mo_change_86 : decode b_Mo_change 86 = .ok (.goto (-20), 3) := by decide +kernel
theorem d_Mo_change_89 : decode b_Mo_change 89 = .ok (.iload 5, 2) := by decide +kernel
theorem d_Mo_change_91 : decode b_Mo_change 91 = .ok (.bipush 15, 2) := by decide +kernel
theorem d_Mo_change_93 : decode b_Mo_change 93 = .ok (.if_icmp .ne 9, 3) := by decide +kernel
theorem d_Mo_change_96 : decode b_Mo_change 96 = .ok (.aload_n 0, 1) := by decide +kernel
theorem d_Mo_change_97 : decode b_Mo_change 97 = .ok (.iconst 2, 1) := by decide +kernel
theorem d_Mo_change_98 : decode b_Mo_change 98 = .ok (.putfield 88, 3) := by decide +kernel
theorem d_Mo_change_101 : decode b_Mo_change 101 = .ok (.return_, 1) := by decide +kernel
theorem d_Mo_change_102 : decode b_Mo_change 102 = .ok (.aload_n 0, 1) := by decide +kernel
theorem d_Mo_change_103 : decode b_Mo_change 103 = .ok (.iload 5, 2) := by decide +kernel
theorem d_Mo_change_105 : decode b_Mo_change 105 = .ok (.invokestatic 68, 3) := by decide +kernel
theorem d_Mo_change_108 : decode b_Mo_change 108 = .ok (.iload 4, 2) := by decide +kernel
theorem d_Mo_change_110 : decode b_Mo_change 110 = .ok (.invokevirtual 126, 3) := by decide +kernel
theorem d_Mo_change_113 : decode b_Mo_change 113 = .ok (.aload_n 0, 1) := by decide +kernel
theorem d_Mo_change_114 : decode b_Mo_change 114 = .ok (.getfield 58, 3) := by decide +kernel
theorem d_Mo_change_117 : decode b_Mo_change 117 = .ok (.ifCond .eq 4, 3) := by decide +kernel
theorem d_Mo_change_120 : decode b_Mo_change 120 = .ok (.return_, 1) := by decide +kernel
theorem d_Mo_change_121 : decode b_Mo_change 121 = .ok (.aload_n 0, 1) := by decide +kernel
theorem d_Mo_change_122 : decode b_Mo_change 122 = .ok (.iload_n 2, 1) := by decide +kernel
theorem d_Mo_change_123 : decode b_Mo_change 123 = .ok (.iload 5, 2) := by decide +kernel
theorem d_Mo_change_125 : decode b_Mo_change 125 = .ok (.invokevirtual 130, 3) := by decide +kernel
theorem d_Mo_change_128 : decode b_Mo_change 128 = .ok (.aload_n 0, 1) := by decide +kernel
theorem d_Mo_change_129 : decode b_Mo_change 129 = .ok (.getfield 16, 3) := by decide +kernel
theorem d_Mo_change_132 : decode b_Mo_change 132 = .ok (.iload_n 2, 1) := by decide +kernel
theorem d_Mo_change_133 : decode b_Mo_change 133 = .ok (.iload 5, 2) := by decide +kernel
theorem d_Mo_change_135 : decode b_Mo_change 135 = .ok (.bipush 6, 2) := by decide +kernel
theorem d_Mo_change_137 : decode b_Mo_change 137 = .ok (.isub, 1) := by decide +kernel
theorem d_Mo_change_138 : decode b_Mo_change 138 = .ok (.iastore, 1) := by decide +kernel
theorem d_Mo_change_139 : decode b_Mo_change 139 = .ok (.aload_n 0, 1) := by decide +kernel
theorem d_Mo_change_140 : decode b_Mo_change 140 = .ok (.getfield 41, 3) := by decide +kernel
theorem d_Mo_change_143 : decode b_Mo_change 143 = .ok (.iload_n 1, 1) := by decide +kernel
theorem d_Mo_change_144 : decode b_Mo_change 144 = .ok (.dup2, 1) := by decide +kernel
theorem d_Mo_change_145 : decode b_Mo_change 145 = .ok (.iaload, 1) := by decide +kernel
theorem d_Mo_change_146 : decode b_Mo_change 146 = .ok (.iconst 1, 1) := by decide +kernel
theorem d_Mo_change_147 : decode b_Mo_change 147 = .ok (.iload 5, 2) := by decide +kernel
theorem d_Mo_change_149 : decode b_Mo_change 149 = .ok (.invokestatic 68, 3) := by decide +kernel
theorem d_Mo_change_152 : decode b_Mo_change 152 = .ok (.ishl, 1) := by decide +kernel
theorem d_Mo_change_153 : decode b_Mo_change 153 = .ok (.ior, 1) := by decide +kernel
theorem d_Mo_change_154 : decode b_Mo_change 154 = .ok (.iastore, 1) := by decide +kernel
theorem d_Mo_change_155 : decode b_Mo_change 155 = .ok (.goto 19, 3) := by decide +kernel
theorem d_Mo_change_158 : decode b_Mo_change 158 = .ok (.aload_n 0, 1) := by decide +kernel
theorem d_Mo_change_159 : decode b_Mo_change 159 = .ok (.getfield 7, 3) := by decide +kernel
theorem d_Mo_change_162 : decode b_Mo_change 162 = .ok (.iload_n 2, 1) := by decide +kernel
theorem d_Mo_change_163 : decode b_Mo_change 163 = .ok (.iaload, 1) := by decide +kernel
theorem d_Mo_change_164 : decode b_Mo_change 164 = .ok (.ifCond .ne 10, 3) := by decide +kernel
theorem d_Mo_change_167 : decode b_Mo_change 167 = .ok (.aload_n 0, 1) := by decide +kernel
theorem d_Mo_change_168 : decode b_Mo_change 168 = .ok (.getfield 16, 3) := by decide +kernel
theorem d_Mo_change_171 : decode b_Mo_change 171 = .ok (.iload_n 2, 1) := by decide +kernel
theorem d_Mo_change_172 : decode b_Mo_change 172 = .ok (.iconst (-1), 1) := by decide +kernel
theorem d_Mo_change_173 : decode b_Mo_change 173 = .ok (.iastore, 1) := by decide +kernel
theorem d_Mo_change_174 : decode b_Mo_change 174 = .ok (.aload_n 0, 1) := by decide +kernel
theorem d_Mo_change_175 : decode b_Mo_change 175 = .ok (.getfield 7, 3) := by decide +kernel
theorem d_Mo_change_178 : decode b_Mo_change 178 = .ok (.iload_n 2, 1) := by decide +kernel
theorem d_Mo_change_179 : decode b_Mo_change 179 = .ok (.iload_n 1, 1) := by decide +kernel
theorem d_Mo_change_180 : decode b_Mo_change 180 = .ok (.iastore, 1) := by decide +kernel
theorem d_Mo_change_181 : decode b_Mo_change 181 = .ok (.aload_n 0, 1) := by decide +kernel
theorem d_Mo_change_182 : decode b_Mo_change 182 = .ok (.getfield 13, 3) := by decide +kernel
theorem d_Mo_change_185 : decode b_Mo_change 185 = .ok (.iload_n 2, 1) := by decide +kernel
theorem d_Mo_change_186 : decode b_Mo_change 186 = .ok (.iload_n 3, 1) := by decide +kernel
theorem d_Mo_change_187 : decode b_Mo_change 187 = .ok (.iastore, 1) := by decide +kernel
theorem d_Mo_change_188 : decode b_Mo_change 188 = .ok (.aload_n 0, 1) := by decide +kernel
theorem d_Mo_change_189 : decode b_Mo_change 189 = .ok (.getfield 34, 3) := by decide +kernel
theorem d_Mo_change_192 : decode b_Mo_change 192 = .ok (.iload 4, 2) := by decide +kernel
theorem d_Mo_change_194 : decode b_Mo_change 194 = .ok (.iconst 1, 1) := by decide +kernel
theorem d_Mo_change_195 : decode b_Mo_change 195 = .ok (.bastore, 1) := by decide +kernel
theorem d_Mo_change_196 : decode b_Mo_change 196 = .ok (.aload_n 0, 1) := by decide +kernel
theorem d_Mo_change_197 : decode b_Mo_change 197 = .ok (.getfield 41, 3) := by decide +kernel
theorem d_Mo_change_200 : decode b_Mo_change 200 = .ok (.iload_n 1, 1) := by decide +kernel
theorem d_Mo_change_201 : decode b_Mo_change 201 = .ok (.dup2, 1) := by decide +kernel
theorem d_Mo_change_202 : decode b_Mo_change 202 = .ok (.iaload, 1) := by decide +kernel
theorem d_Mo_change_203 : decode b_Mo_change 203 = .ok (.iconst 1, 1) := by decide +kernel
theorem d_Mo_change_204 : decode b_Mo_change 204 = .ok (.iload 4, 2) := by decide +kernel
theorem d_Mo_change_206 : decode b_Mo_change 206 = .ok (.ishl, 1) := by decide +kernel
theorem d_Mo_change_207 : decode b_Mo_change 207 = .ok (.ior, 1) := by decide +kernel
theorem d_Mo_change_208 : decode b_Mo_change 208 = .ok (.iastore, 1) := by decide +kernel
theorem d_Mo_change_209 : decode b_Mo_change 209 = .ok (.return_, 1) := by decide +kernel
theorem d_Mo_write_0 : decode b_Mo_write 0 = .ok (.aload_n 0, 1) := by decide +kernel
theorem d_Mo_write_1 : decode b_Mo_write 1 = .ok (.invokevirtual 95, 3) := by decide +kernel
theorem d_Mo_write_4 : decode b_Mo_write 4 = .ok (.iload_n 2, 1) := by decide +kernel
theorem d_Mo_write_5 : decode b_Mo_write 5 = .ok (.iconst 0, 1) := by decide +kernel
theorem d_Mo_write_6 : decode b_Mo_write 6 = .ok (.iconst 5, 1) := by decide +kernel
theorem d_Mo_write_7 : decode b_Mo_write 7 = .ok (.invokestatic 91, 3) := by decide +kernel
theorem d_Mo_write_10 : decode b_Mo_write 10 = .ok (.ifCond .eq 13, 3) := by decide +kernel
theorem d_Mo_write_13 : decode b_Mo_write 13 = .ok (.iload_n 3, 1) := by decide +kernel
theorem d_Mo_write_14 : decode b_Mo_write 14 = .ok (.iconst 0, 1) := by decide +kernel
theorem d_Mo_write_15 : decode b_Mo_write 15 = .ok (.ldc 136, 2) := by decide +kernel
theorem d_Mo_write_17 : decode b_Mo_write 17 = .ok (.invokestatic 91, 3) := by decide +kernel
theorem d_Mo_write_20 : decode b_Mo_write 20 = .ok (.ifCond .ne 9, 3) := by decide +kernel
theorem d_Mo_write_23 : decode b_Mo_write 23 = .ok (.aload_n 0, 1) := by decide +kernel
theorem d_Mo_write_24 : decode b_Mo_write 24 = .ok (.iconst 1, 1) := by decide +kernel
theorem d_Mo_write_25 : decode b_Mo_write 25 = .ok (.invokevirtual 102, 3) := by decide +kernel
theorem d_Mo_write_28 : decode b_Mo_write 28 = .ok (.ireturn, 1) := by decide +kernel
theorem d_Mo_write_29 : decode b_Mo_write 29 = .ok (.aload_n 0, 1) := by decide +kernel
theorem d_Mo_write_30 : decode b_Mo_write 30 = .ok (.iload_n 1, 1) := by decide +kernel
theorem d_Mo_write_31 : decode b_Mo_write 31 = .ok (.invokevirtual 115, 3) := by decide +kernel
theorem d_Mo_write_34 : decode b_Mo_write 34 = .ok (.ifCond .eq 9, 3) := by decide +kernel
theorem d_Mo_write_37 : decode b_Mo_write 37 = .ok (.aload_n 0, 1) := by decide +kernel
theorem d_Mo_write_38 : decode b_Mo_write 38 = .ok (.iconst 2, 1) := by decide +kernel
theorem d_Mo_write_39 : decode b_Mo_write 39 = .ok (.invokevirtual 102, 3) := by decide +kernel
theorem d_Mo_write_42 : decode b_Mo_write 42 = .ok (.ireturn, 1) := by decide +kernel
theorem d_Mo_write_43 : decode b_Mo_write 43 = .ok (.aload_n 0, 1) := by decide +kernel
theorem d_Mo_write_44 : decode b_Mo_write 44 = .ok (.iload_n 1, 1) := by decide +kernel
theorem d_Mo_write_45 : decode b_Mo_write 45 = .ok (.iload_n 2, 1) := by decide +kernel
theorem d_Mo_write_46 : decode b_Mo_write 46 = .ok (.iload_n 3, 1) := by decide +kernel
theorem d_Mo_write_47 : decode b_Mo_write 47 = .ok (.invokevirtual 137, 3) := by decide +kernel
theorem d_Mo_write_50 : decode b_Mo_write 50 = .ok (.aload_n 0, 1) := by decide +kernel
theorem d_Mo_write_51 : decode b_Mo_write 51 = .ok (.getfield 88, 3) := by decide +kernel
theorem d_Mo_write_54 : decode b_Mo_write 54 = .ok (.ifCond .le 16, 3) := by decide +kernel
theorem d_Mo_write_57 : decode b_Mo_write 57 = .ok (.aload_n 0, 1) := by decide +kernel
theorem d_Mo_write_58 : decode b_Mo_write 58 = .ok (.iconst 2, 1) := by decide +kernel
theorem d_Mo_write_59 : decode b_Mo_write 59 = .ok (.aload_n 0, 1) := by decide +kernel
theorem d_Mo_write_60 : decode b_Mo_write 60 = .ok (.getfield 88, 3) := by decide +kernel
theorem d_Mo_write_63 : decode b_Mo_write 63 = .ok (.iadd, 1) := by decide +kernel
theorem d_Mo_write_64 : decode b_Mo_write 64 = .ok (.invokevirtual 102, 3) := by decide +kernel
theorem d_Mo_write_67 : decode b_Mo_write 67 = .ok (.goto 8, 3) := by decide +kernel
theorem d_Mo_write_70 : decode b_Mo_write 70 = .ok (.aload_n 0, 1) := by decide +kernel
theorem d_Mo_write_71 : decode b_Mo_write 71 = .ok (.iconst 1, 1) := by decide +kernel
theorem d_Mo_write_72 : decode b_Mo_write 72 = .ok (.invokevirtual 105, 3) := by decide +kernel
theorem d_Mo_write_75 : decode b_Mo_write 75 = .ok (.ireturn, 1) := by decide +kernel
theorem d_Mo_erase_0 : decode b_Mo_erase 0 = .ok (.aload_n 0, 1) := by decide +kernel
theorem d_Mo_erase_1 : decode b_Mo_erase 1 = .ok (.invokevirtual 95, 3) := by decide +kernel
theorem d_Mo_erase_4 : decode b_Mo_erase 4 = .ok (.iload_n 2, 1) := by decide +kernel
theorem d_Mo_erase_5 : decode b_Mo_erase 5 = .ok (.iconst 0, 1) := by decide +kernel
theorem d_Mo_erase_6 : decode b_Mo_erase 6 = .ok (.iconst 5, 1) := by decide +kernel
theorem d_Mo_erase_7 : decode b_Mo_erase 7 = .ok (.invokestatic 91, 3) := by decide +kernel
theorem d_Mo_erase_10 : decode b_Mo_erase 10 = .ok (.ifCond .ne 9, 3) := by decide +kernel
theorem d_Mo_erase_13 : decode b_Mo_erase 13 = .ok (.aload_n 0, 1) := by decide +kernel
theorem d_Mo_erase_14 : decode b_Mo_erase 14 = .ok (.iconst 1, 1) := by decide +kernel
theorem d_Mo_erase_15 : decode b_Mo_erase 15 = .ok (.invokevirtual 102, 3) := by decide +kernel
theorem d_Mo_erase_18 : decode b_Mo_erase 18 = .ok (.ireturn, 1) := by decide +kernel
theorem d_Mo_erase_19 : decode b_Mo_erase 19 = .ok (.aload_n 0, 1) := by decide +kernel
theorem d_Mo_erase_20 : decode b_Mo_erase 20 = .ok (.iload_n 1, 1) := by decide +kernel
theorem d_Mo_erase_21 : decode b_Mo_erase 21 = .ok (.invokevirtual 115, 3) := by decide +kernel
theorem d_Mo_erase_24 : decode b_Mo_erase 24 = .ok (.ifCond .eq 9, 3) := by decide +kernel
theorem d_Mo_erase_27 : decode b_Mo_erase 27 = .ok (.aload_n 0, 1) := by decide +kernel
theorem d_Mo_erase_28 : decode b_Mo_erase 28 = .ok (.iconst 2, 1) := by decide +kernel
theorem d_Mo_erase_29 : decode b_Mo_erase 29 = .ok (.invokevirtual 102, 3) := by decide +kernel
theorem d_Mo_erase_32 : decode b_Mo_erase 32 = .ok (.ireturn, 1) := by decide +kernel
theorem d_Mo_erase_33 : decode b_Mo_erase 33 = .ok (.aload_n 0, 1) := by decide +kernel
theorem d_Mo_erase_34 : decode b_Mo_erase 34 = .ok (.iload_n 1, 1) := by decide +kernel
theorem d_Mo_erase_35 : decode b_Mo_erase 35 = .ok (.iload_n 2, 1) := by decide +kernel
theorem d_Mo_erase_36 : decode b_Mo_erase 36 = .ok (.invokevirtual 119, 3) := by decide +kernel
theorem d_Mo_erase_39 : decode b_Mo_erase 39 = .ok (.ifCond .ge 9, 3) := by decide +kernel
theorem d_Mo_erase_42 : decode b_Mo_erase 42 = .ok (.aload_n 0, 1) := by decide +kernel
theorem d_Mo_erase_43 : decode b_Mo_erase 43 = .ok (.iconst 3, 1) := by decide +kernel
theorem d_Mo_erase_44 : decode b_Mo_erase 44 = .ok (.invokevirtual 102, 3) := by decide +kernel
theorem d_Mo_erase_47 : decode b_Mo_erase 47 = .ok (.ireturn, 1) := by decide +kernel
theorem d_Mo_erase_48 : decode b_Mo_erase 48 = .ok (.aload_n 0, 1) := by decide +kernel
theorem d_Mo_erase_49 : decode b_Mo_erase 49 = .ok (.iload_n 1, 1) := by decide +kernel
theorem d_Mo_erase_50 : decode b_Mo_erase 50 = .ok (.iload_n 2, 1) := by decide +kernel
theorem d_Mo_erase_51 : decode b_Mo_erase 51 = .ok (.iconst (-1), 1) := by decide +kernel
theorem d_Mo_erase_52 : decode b_Mo_erase 52 = .ok (.invokevirtual 137, 3) := by decide +kernel
theorem d_Mo_erase_55 : decode b_Mo_erase 55 = .ok (.aload_n 0, 1) := by decide +kernel
theorem d_Mo_erase_56 : decode b_Mo_erase 56 = .ok (.getfield 88, 3) := by decide +kernel
theorem d_Mo_erase_59 : decode b_Mo_erase 59 = .ok (.ifCond .le 16, 3) := by decide +kernel
theorem d_Mo_erase_62 : decode b_Mo_erase 62 = .ok (.aload_n 0, 1) := by decide +kernel
theorem d_Mo_erase_63 : decode b_Mo_erase 63 = .ok (.iconst 3, 1) := by decide +kernel
theorem d_Mo_erase_64 : decode b_Mo_erase 64 = .ok (.aload_n 0, 1) := by decide +kernel
theorem d_Mo_erase_65 : decode b_Mo_erase 65 = .ok (.getfield 88, 3) := by decide +kernel
theorem d_Mo_erase_68 : decode b_Mo_erase 68 = .ok (.iadd, 1) := by decide +kernel
theorem d_Mo_erase_69 : decode b_Mo_erase 69 = .ok (.invokevirtual 102, 3) := by decide +kernel
theorem d_Mo_erase_72 : decode b_Mo_erase 72 = .ok (.goto 8, 3) := by decide +kernel
theorem d_Mo_erase_75 : decode b_Mo_erase 75 = .ok (.aload_n 0, 1) := by decide +kernel
theorem d_Mo_erase_76 : decode b_Mo_erase 76 = .ok (.iconst 1, 1) := by decide +kernel
theorem d_Mo_erase_77 : decode b_Mo_erase 77 = .ok (.invokevirtual 105, 3) := by decide +kernel
theorem d_Mo_erase_80 : decode b_Mo_erase 80 = .ok (.ireturn, 1) := by decide +kernel
theorem d_Mo_commit_0 : decode b_Mo_commit 0 = .ok (.aload_n 0, 1) := by decide +kernel
theorem d_Mo_commit_1 : decode b_Mo_commit 1 = .ok (.invokevirtual 95, 3) := by decide +kernel
theorem d_Mo_commit_4 : decode b_Mo_commit 4 = .ok (.aload_n 0, 1) := by decide +kernel
theorem d_Mo_commit_5 : decode b_Mo_commit 5 = .ok (.iload_n 1, 1) := by decide +kernel
theorem d_Mo_commit_6 : decode b_Mo_commit 6 = .ok (.invokevirtual 115, 3) := by decide +kernel
theorem d_Mo_commit_9 : decode b_Mo_commit 9 = .ok (.ifCond .eq 9, 3) := by decide +kernel
theorem d_Mo_commit_12 : decode b_Mo_commit 12 = .ok (.aload_n 0, 1) := by decide +kernel
theorem d_Mo_commit_13 : decode b_Mo_commit 13 = .ok (.iconst 1, 1) := by decide +kernel
theorem d_Mo_commit_14 : decode b_Mo_commit 14 = .ok (.invokevirtual 102, 3) := by decide +kernel
theorem d_Mo_commit_17 : decode b_Mo_commit 17 = .ok (.ireturn, 1) := by decide +kernel
theorem d_Mo_commit_18 : decode b_Mo_commit 18 = .ok (.aload_n 0, 1) := by decide +kernel
theorem d_Mo_commit_19 : decode b_Mo_commit 19 = .ok (.getfield 72, 3) := by decide +kernel
theorem d_Mo_commit_22 : decode b_Mo_commit 22 = .ok (.istore_n 2, 1) := by decide +kernel
theorem d_Mo_commit_23 : decode b_Mo_commit 23 = .ok (.iconst 0, 1) := by decide +kernel
theorem d_Mo_commit_24 : decode b_Mo_commit 24 = .ok (.istore_n 3, 1) := by decide +kernel
theorem d_Mo_commit_25 : decode b_Mo_commit 25 = .ok (.iload_n 3, 1) := by decide +kernel
theorem d_Mo_commit_26 : decode b_Mo_commit 26 = .ok (.bipush 6, 2) := by decide +kernel
theorem d_Mo_commit_28 : decode b_Mo_commit 28 = .ok (.if_icmp .ge 43, 3) := by decide +kernel
theorem d_Mo_commit_31 : decode b_Mo_commit 31 = .ok (.aload_n 0, 1) := by decide +kernel
theorem d_Mo_commit_32 : decode b_Mo_commit 32 = .ok (.getfield 58, 3) := by decide +kernel
theorem d_Mo_commit_35 : decode b_Mo_commit 35 = .ok (.ifCond .ne 36, 3) := by decide +kernel
theorem d_Mo_commit_38 : decode b_Mo_commit 38 = .ok (.aload_n 0, 1) := by decide +kernel
theorem d_Mo_commit_39 : decode b_Mo_commit 39 = .ok (.getfield 41, 3) := by decide +kernel
theorem d_Mo_commit_42 : decode b_Mo_commit 42 = .ok (.iload_n 1, 1) := by decide +kernel
theorem d_Mo_commit_43 : decode b_Mo_commit 43 = .ok (.iaload, 1) := by decide +kernel
theorem d_Mo_commit_44 : decode b_Mo_commit 44 = .ok (.iload_n 3, 1) := by decide +kernel
theorem d_Mo_commit_45 : decode b_Mo_commit 45 = .ok (.ishr, 1) := by decide +kernel
theorem d_Mo_commit_46 : decode b_Mo_commit 46 = .ok (.iconst 1, 1) := by decide +kernel
theorem d_Mo_commit_47 : decode b_Mo_commit 47 = .ok (.iand, 1) := by decide +kernel
theorem d_Mo_commit_48 : decode b_Mo_commit 48 = .ok (.ifCond .eq 17, 3) := by decide +kernel
theorem d_Mo_commit_51 : decode b_Mo_commit 51 = .ok (.aload_n 0, 1) := by decide +kernel
theorem d_Mo_commit_52 : decode b_Mo_commit 52 = .ok (.getfield 34, 3) := by decide +kernel
theorem d_Mo_commit_55 : decode b_Mo_commit 55 = .ok (.iload_n 3, 1) := by decide +kernel
theorem d_Mo_commit_56 : decode b_Mo_commit 56 = .ok (.baload, 1) := by decide +kernel
theorem d_Mo_commit_57 : decode b_Mo_commit 57 = .ok (.ifCond .eq 8, 3) := by decide +kernel
theorem d_Mo_commit_60 : decode b_Mo_commit 60 = .ok (.aload_n 0, 1) := by decide +kernel
theorem d_Mo_commit_61 : decode b_Mo_commit 61 = .ok (.iload_n 3, 1) := by decide +kernel
theorem d_Mo_commit_62 : decode b_Mo_commit 62 = .ok (.invokevirtual 85, 3) := by decide +kernel
theorem d_Mo_commit_65 : decode b_Mo_commit 65 = .ok (.iinc 3 1, 3) := by decide +kernel
theorem d_Mo_commit_68 : decode b_Mo_commit 68 = .ok (.goto (-43), 3) := by decide +kernel
theorem d_Mo_commit_71 : decode b_Mo_commit 71 = .ok (.aload_n 0, 1) := by decide +kernel
theorem d_Mo_commit_72 : decode b_Mo_commit 72 = .ok (.getfield 58, 3) := by decide +kernel
theorem d_Mo_commit_75 : decode b_Mo_commit 75 = .ok (.ifCond .eq 6, 3) := by decide +kernel
theorem d_Mo_commit_78 : decode b_Mo_commit 78 = .ok (.bipush (-9), 2) := by decide +kernel
theorem d_Mo_commit_80 : decode b_Mo_commit 80 = .ok (.ireturn, 1) := by decide +kernel
theorem d_Mo_commit_81 : decode b_Mo_commit 81 = .ok (.aload_n 0, 1) := by decide +kernel
theorem d_Mo_commit_82 : decode b_Mo_commit 82 = .ok (.getfield 28, 3) := by decide +kernel
theorem d_Mo_commit_85 : decode b_Mo_commit 85 = .ok (.iload_n 1, 1) := by decide +kernel
theorem d_Mo_commit_86 : decode b_Mo_commit 86 = .ok (.iconst 2, 1) := by decide +kernel
theorem d_Mo_commit_87 : decode b_Mo_commit 87 = .ok (.iastore, 1) := by decide +kernel
theorem d_Mo_commit_88 : decode b_Mo_commit 88 = .ok (.aload_n 0, 1) := by decide +kernel
theorem d_Mo_commit_89 : decode b_Mo_commit 89 = .ok (.getfield 34, 3) := by decide +kernel
theorem d_Mo_commit_92 : decode b_Mo_commit 92 = .ok (.bipush 6, 2) := by decide +kernel
theorem d_Mo_commit_94 : decode b_Mo_commit 94 = .ok (.iconst 1, 1) := by decide +kernel
theorem d_Mo_commit_95 : decode b_Mo_commit 95 = .ok (.bastore, 1) := by decide +kernel
theorem d_Mo_commit_96 : decode b_Mo_commit 96 = .ok (.aload_n 0, 1) := by decide +kernel
theorem d_Mo_commit_97 : decode b_Mo_commit 97 = .ok (.bipush 6, 2) := by decide +kernel
theorem d_Mo_commit_99 : decode b_Mo_commit 99 = .ok (.invokevirtual 85, 3) := by decide +kernel
theorem d_Mo_commit_102 : decode b_Mo_commit 102 = .ok (.aload_n 0, 1) := by decide +kernel
theorem d_Mo_commit_103 : decode b_Mo_commit 103 = .ok (.aload_n 0, 1) := by decide +kernel
theorem d_Mo_commit_104 : decode b_Mo_commit 104 = .ok (.getfield 72, 3) := by decide +kernel
theorem d_Mo_commit_107 : decode b_Mo_commit 107 = .ok (.iload_n 2, 1) := by decide +kernel
theorem d_Mo_commit_108 : decode b_Mo_commit 108 = .ok (.isub, 1) := by decide +kernel
theorem d_Mo_commit_109 : decode b_Mo_commit 109 = .ok (.invokevirtual 105, 3) := by decide +kernel
theorem d_Mo_commit_112 : decode b_Mo_commit 112 = .ok (.ireturn, 1) := by decide +kernel
theorem d_Mo_rollback_0 : decode b_Mo_rollback 0 = .ok (.aload_n 0, 1) := by decide +kernel
theorem d_Mo_rollback_1 : decode b_Mo_rollback 1 = .ok (.invokevirtual 95, 3) := by decide +kernel
theorem d_Mo_rollback_4 : decode b_Mo_rollback 4 = .ok (.aload_n 0, 1) := by decide +kernel
theorem d_Mo_rollback_5 : decode b_Mo_rollback 5 = .ok (.iload_n 1, 1) := by decide +kernel
theorem d_Mo_rollback_6 : decode b_Mo_rollback 6 = .ok (.invokevirtual 115, 3) := by decide +kernel
theorem d_Mo_rollback_9 : decode b_Mo_rollback 9 = .ok (.ifCond .eq 9, 3) := by decide +kernel
theorem d_Mo_rollback_12 : decode b_Mo_rollback 12 = .ok (.aload_n 0, 1) := by decide +kernel
theorem d_Mo_rollback_13 : decode b_Mo_rollback 13 = .ok (.iconst 1, 1) := by decide +kernel
theorem d_Mo_rollback_14 : decode b_Mo_rollback 14 = .ok (.invokevirtual 102, 3) := by decide +kernel
theorem d_Mo_rollback_17 : decode b_Mo_rollback 17 = .ok (.ireturn, 1) := by decide +kernel
theorem d_Mo_rollback_18 : decode b_Mo_rollback 18 = .ok (.aload_n 0, 1) := by decide +kernel
theorem d_Mo_rollback_19 : decode b_Mo_rollback 19 = .ok (.getfield 28, 3) := by decide +kernel
theorem d_Mo_rollback_22 : decode b_Mo_rollback 22 = .ok (.iload_n 1, 1) := by decide +kernel
theorem d_Mo_rollback_23 : decode b_Mo_rollback 23 = .ok (.iconst 3, 1) := by decide +kernel
theorem d_Mo_rollback_24 : decode b_Mo_rollback 24 = .ok (.iastore, 1) := by decide +kernel
theorem d_Mo_rollback_25 : decode b_Mo_rollback 25 = .ok (.aload_n 0, 1) := by decide +kernel
theorem d_Mo_rollback_26 : decode b_Mo_rollback 26 = .ok (.getfield 34, 3) := by decide +kernel
theorem d_Mo_rollback_29 : decode b_Mo_rollback 29 = .ok (.bipush 6, 2) := by decide +kernel
theorem d_Mo_rollback_31 : decode b_Mo_rollback 31 = .ok (.iconst 1, 1) := by decide +kernel
theorem d_Mo_rollback_32 : decode b_Mo_rollback 32 = .ok (.bastore, 1) := by decide +kernel
theorem d_Mo_rollback_33 : decode b_Mo_rollback 33 = .ok (.iconst 1, 1) := by decide +kernel
theorem d_Mo_rollback_34 : decode b_Mo_rollback 34 = .ok (.ireturn, 1) := by decide +kernel
theorem d_Mo_settled_0 : decode b_Mo_settled 0 = .ok (.aload_n 0, 1) := by decide +kernel
theorem d_Mo_settled_1 : decode b_Mo_settled 1 = .ok (.getfield 28, 3) := by decide +kernel
theorem d_Mo_settled_4 : decode b_Mo_settled 4 = .ok (.aload_n 0, 1) := by decide +kernel
theorem d_Mo_settled_5 : decode b_Mo_settled 5 = .ok (.getfield 7, 3) := by decide +kernel
theorem d_Mo_settled_8 : decode b_Mo_settled 8 = .ok (.iload_n 1, 1) := by decide +kernel
theorem d_Mo_settled_9 : decode b_Mo_settled 9 = .ok (.iaload, 1) := by decide +kernel
theorem d_Mo_settled_10 : decode b_Mo_settled 10 = .ok (.iaload, 1) := by decide +kernel
theorem d_Mo_settled_11 : decode b_Mo_settled 11 = .ok (.iconst 2, 1) := by decide +kernel
theorem d_Mo_settled_12 : decode b_Mo_settled 12 = .ok (.if_icmp .eq 5, 3) := by decide +kernel
theorem d_Mo_settled_15 : decode b_Mo_settled 15 = .ok (.iconst 0, 1) := by decide +kernel
theorem d_Mo_settled_16 : decode b_Mo_settled 16 = .ok (.ireturn, 1) := by decide +kernel
theorem d_Mo_settled_17 : decode b_Mo_settled 17 = .ok (.iconst 1, 1) := by decide +kernel
theorem d_Mo_settled_18 : decode b_Mo_settled 18 = .ok (.istore_n 2, 1) := by decide +kernel
theorem d_Mo_settled_19 : decode b_Mo_settled 19 = .ok (.iload_n 2, 1) := by decide +kernel
theorem d_Mo_settled_20 : decode b_Mo_settled 20 = .ok (.bipush 40, 2) := by decide +kernel
theorem d_Mo_settled_22 : decode b_Mo_settled 22 = .ok (.if_icmp .gt 30, 3) := by decide +kernel
theorem d_Mo_settled_25 : decode b_Mo_settled 25 = .ok (.aload_n 0, 1) := by decide +kernel
theorem d_Mo_settled_26 : decode b_Mo_settled 26 = .ok (.getfield 28, 3) := by decide +kernel
theorem d_Mo_settled_29 : decode b_Mo_settled 29 = .ok (.iload_n 2, 1) := by decide +kernel
theorem d_Mo_settled_30 : decode b_Mo_settled 30 = .ok (.iaload, 1) := by decide +kernel
theorem d_Mo_settled_31 : decode b_Mo_settled 31 = .ok (.iconst 1, 1) := by decide +kernel
theorem d_Mo_settled_32 : decode b_Mo_settled 32 = .ok (.if_icmp .ne 14, 3) := by decide +kernel
theorem d_Mo_settled_35 : decode b_Mo_settled 35 = .ok (.aload_n 0, 1) := by decide +kernel
theorem d_Mo_settled_36 : decode b_Mo_settled 36 = .ok (.iload_n 2, 1) := by decide +kernel
theorem d_Mo_settled_37 : decode b_Mo_settled 37 = .ok (.iload_n 1, 1) := by decide +kernel
theorem d_Mo_settled_38 : decode b_Mo_settled 38 = .ok (.invokevirtual 108, 3) := by decide +kernel
theorem d_Mo_settled_41 : decode b_Mo_settled 41 = .ok (.ifCond .ne 5, 3) := by decide +kernel
theorem d_Mo_settled_44 : decode b_Mo_settled 44 = .ok (.iconst 0, 1) := by decide +kernel
theorem d_Mo_settled_45 : decode b_Mo_settled 45 = .ok (.ireturn, 1) := by decide +kernel
theorem d_Mo_settled_46 : decode b_Mo_settled 46 = .ok (.iinc 2 1, 3) := by decide +kernel
theorem d_Mo_settled_49 : decode b_Mo_settled 49 = .ok (.goto (-30), 3) := by decide +kernel
theorem d_Mo_settled_52 : decode b_Mo_settled 52 = .ok (.iconst 1, 1) := by decide +kernel
theorem d_Mo_settled_53 : decode b_Mo_settled 53 = .ok (.ireturn, 1) := by decide +kernel
theorem d_Mo_sweepOne_0 : decode b_Mo_sweepOne 0 = .ok (.aload_n 0, 1) := by decide +kernel
theorem d_Mo_sweepOne_1 : decode b_Mo_sweepOne 1 = .ok (.iload_n 1, 1) := by decide +kernel
theorem d_Mo_sweepOne_2 : decode b_Mo_sweepOne 2 = .ok (.invokevirtual 133, 3) := by decide +kernel
theorem d_Mo_sweepOne_5 : decode b_Mo_sweepOne 5 = .ok (.aload_n 0, 1) := by decide +kernel
theorem d_Mo_sweepOne_6 : decode b_Mo_sweepOne 6 = .ok (.getfield 58, 3) := by decide +kernel
theorem d_Mo_sweepOne_9 : decode b_Mo_sweepOne 9 = .ok (.ifCond .ne 12, 3) := by decide +kernel
theorem d_Mo_sweepOne_12 : decode b_Mo_sweepOne 12 = .ok (.aload_n 0, 1) := by decide +kernel
theorem d_Mo_sweepOne_13 : decode b_Mo_sweepOne 13 = .ok (.getfield 7, 3) := by decide +kernel
theorem d_Mo_sweepOne_16 : decode b_Mo_sweepOne 16 = .ok (.iload_n 1, 1) := by decide +kernel
theorem d_Mo_sweepOne_17 : decode b_Mo_sweepOne 17 = .ok (.iaload, 1) := by decide +kernel
theorem d_Mo_sweepOne_18 : decode b_Mo_sweepOne 18 = .ok (.ifCond .ne 5, 3) := by decide +kernel
theorem d_Mo_sweepOne_21 : decode b_Mo_sweepOne 21 = .ok (.iconst 0, 1) := by decide +kernel
theorem d_Mo_sweepOne_22 : decode b_Mo_sweepOne 22 = .ok (.ireturn, 1) := by decide +kernel
theorem d_Mo_sweepOne_23 : decode b_Mo_sweepOne 23 = .ok (.iload_n 1, 1) := by decide +kernel
theorem d_Mo_sweepOne_24 : decode b_Mo_sweepOne 24 = .ok (.istore_n 2, 1) := by decide +kernel
theorem d_Mo_sweepOne_25 : decode b_Mo_sweepOne 25 = .ok (.iload_n 2, 1) := by decide +kernel
theorem d_Mo_sweepOne_26 : decode b_Mo_sweepOne 26 = .ok (.ifCond .lt 20, 3) := by decide +kernel
theorem d_Mo_sweepOne_29 : decode b_Mo_sweepOne 29 = .ok (.aload_n 0, 1) := by decide +kernel
theorem d_Mo_sweepOne_30 : decode b_Mo_sweepOne 30 = .ok (.iload_n 2, 1) := by decide +kernel
theorem d_Mo_sweepOne_31 : decode b_Mo_sweepOne 31 = .ok (.invokevirtual 141, 3) := by decide +kernel
theorem d_Mo_sweepOne_34 : decode b_Mo_sweepOne 34 = .ok (.ifCond .ne 12, 3) := by decide +kernel
theorem d_Mo_sweepOne_37 : decode b_Mo_sweepOne 37 = .ok (.aload_n 0, 1) := by decide +kernel
theorem d_Mo_sweepOne_38 : decode b_Mo_sweepOne 38 = .ok (.iload_n 2, 1) := by decide +kernel
theorem d_Mo_sweepOne_39 : decode b_Mo_sweepOne 39 = .ok (.invokevirtual 112, 3) := by decide +kernel
theorem d_Mo_sweepOne_42 : decode b_Mo_sweepOne 42 = .ok (.istore_n 2, 1) := by decide +kernel
theorem d_Mo_sweepOne_43 : decode b_Mo_sweepOne 43 = .ok (.goto (-18), 3) := by decide +kernel
theorem d_Mo_sweepOne_46 : decode b_Mo_sweepOne 46 = .ok (.iload_n 2, 1) := by decide +kernel
theorem d_Mo_sweepOne_47 : decode b_Mo_sweepOne 47 = .ok (.ifCond .ge 5, 3) := by decide +kernel
theorem d_Mo_sweepOne_50 : decode b_Mo_sweepOne 50 = .ok (.iconst 0, 1) := by decide +kernel
theorem d_Mo_sweepOne_51 : decode b_Mo_sweepOne 51 = .ok (.ireturn, 1) := by decide +kernel
theorem d_Mo_sweepOne_52 : decode b_Mo_sweepOne 52 = .ok (.iconst 0, 1) := by decide +kernel
theorem d_Mo_sweepOne_53 : decode b_Mo_sweepOne 53 = .ok (.istore_n 3, 1) := by decide +kernel
theorem d_Mo_sweepOne_54 : decode b_Mo_sweepOne 54 = .ok (.aload_n 0, 1) := by decide +kernel
theorem d_Mo_sweepOne_55 : decode b_Mo_sweepOne 55 = .ok (.iload_n 2, 1) := by decide +kernel
theorem d_Mo_sweepOne_56 : decode b_Mo_sweepOne 56 = .ok (.invokevirtual 112, 3) := by decide +kernel
theorem d_Mo_sweepOne_59 : decode b_Mo_sweepOne 59 = .ok (.istore 4, 2) := by decide +kernel
theorem d_Mo_sweepOne_61 : decode b_Mo_sweepOne 61 = .ok (.aload_n 0, 1) := by decide +kernel
theorem d_Mo_sweepOne_62 : decode b_Mo_sweepOne 62 = .ok (.getfield 16, 3) := by decide +kernel
theorem d_Mo_sweepOne_65 : decode b_Mo_sweepOne 65 = .ok (.iload_n 2, 1) := by decide +kernel
theorem d_Mo_sweepOne_66 : decode b_Mo_sweepOne 66 = .ok (.iaload, 1) := by decide +kernel
theorem d_Mo_sweepOne_67 : decode b_Mo_sweepOne 67 = .ok (.ifCond .lt 20, 3) := by decide +kernel
theorem d_Mo_sweepOne_70 : decode b_Mo_sweepOne 70 = .ok (.aload_n 0, 1) := by decide +kernel
theorem d_Mo_sweepOne_71 : decode b_Mo_sweepOne 71 = .ok (.getfield 16, 3) := by decide +kernel
theorem d_Mo_sweepOne_74 : decode b_Mo_sweepOne 74 = .ok (.iload_n 2, 1) := by decide +kernel
theorem d_Mo_sweepOne_75 : decode b_Mo_sweepOne 75 = .ok (.iconst (-1), 1) := by decide +kernel
theorem d_Mo_sweepOne_76 : decode b_Mo_sweepOne 76 = .ok (.iastore, 1) := by decide +kernel
theorem d_Mo_sweepOne_77 : decode b_Mo_sweepOne 77 = .ok (.aload_n 0, 1) := by decide +kernel
theorem d_Mo_sweepOne_78 : decode b_Mo_sweepOne 78 = .ok (.getfield 34, 3) := by decide +kernel
theorem d_Mo_sweepOne_81 : decode b_Mo_sweepOne 81 = .ok (.iload_n 2, 1) := by decide +kernel
theorem d_Mo_sweepOne_82 : decode b_Mo_sweepOne 82 = .ok (.invokestatic 68, 3) := by decide +kernel
theorem d_Mo_sweepOne_85 : decode b_Mo_sweepOne 85 = .ok (.iconst 1, 1) := by decide +kernel
theorem d_Mo_sweepOne_86 : decode b_Mo_sweepOne 86 = .ok (.bastore, 1) := by decide +kernel
theorem d_Mo_sweepOne_87 : decode b_Mo_sweepOne 87 = .ok (.iload 4, 2) := by decide +kernel
theorem d_Mo_sweepOne_89 : decode b_Mo_sweepOne 89 = .ok (.ifCond .lt 62, 3) := by decide +kernel
theorem d_Mo_sweepOne_92 : decode b_Mo_sweepOne 92 = .ok (.aload_n 0, 1) := by decide +kernel
theorem d_Mo_sweepOne_93 : decode b_Mo_sweepOne 93 = .ok (.iload 4, 2) := by decide +kernel
theorem d_Mo_sweepOne_95 : decode b_Mo_sweepOne 95 = .ok (.invokevirtual 112, 3) := by decide +kernel
theorem d_Mo_sweepOne_98 : decode b_Mo_sweepOne 98 = .ok (.istore 5, 2) := by decide +kernel
theorem d_Mo_sweepOne_100 : decode b_Mo_sweepOne 100 = .ok (.aload_n 0, 1) := by decide +kernel
theorem d_Mo_sweepOne_101 : decode b_Mo_sweepOne 101 = .ok (.iload_n 1, 1) := by decide +kernel
theorem d_Mo_sweepOne_102 : decode b_Mo_sweepOne 102 = .ok (.invokestatic 68, 3) := by decide +kernel
theorem d_Mo_sweepOne_105 : decode b_Mo_sweepOne 105 = .ok (.iload 4, 2) := by decide +kernel
theorem d_Mo_sweepOne_107 : decode b_Mo_sweepOne 107 = .ok (.invokestatic 68, 3) := by decide +kernel
theorem d_Mo_sweepOne_110 : decode b_Mo_sweepOne 110 = .ok (.invokevirtual 126, 3) := by decide +kernel
theorem d_Mo_sweepOne_113 : decode b_Mo_sweepOne 113 = .ok (.aload_n 0, 1) := by decide +kernel
theorem d_Mo_sweepOne_114 : decode b_Mo_sweepOne 114 = .ok (.iload_n 2, 1) := by decide +kernel
theorem d_Mo_sweepOne_115 : decode b_Mo_sweepOne 115 = .ok (.invokestatic 68, 3) := by decide +kernel
theorem d_Mo_sweepOne_118 : decode b_Mo_sweepOne 118 = .ok (.iload 4, 2) := by decide +kernel
theorem d_Mo_sweepOne_120 : decode b_Mo_sweepOne 120 = .ok (.invokestatic 68, 3) := by decide +kernel
theorem d_Mo_sweepOne_123 : decode b_Mo_sweepOne 123 = .ok (.invokevirtual 126, 3) := by decide +kernel
theorem d_Mo_sweepOne_126 : decode b_Mo_sweepOne 126 = .ok (.aload_n 0, 1) := by decide +kernel
theorem d_Mo_sweepOne_127 : decode b_Mo_sweepOne 127 = .ok (.getfield 58, 3) := by decide +kernel
theorem d_Mo_sweepOne_130 : decode b_Mo_sweepOne 130 = .ok (.ifCond .eq 5, 3) := by decide +kernel
theorem d_Mo_sweepOne_133 : decode b_Mo_sweepOne 133 = .ok (.iconst 0, 1) := by decide +kernel
theorem d_Mo_sweepOne_134 : decode b_Mo_sweepOne 134 = .ok (.ireturn, 1) := by decide +kernel
theorem d_Mo_sweepOne_135 : decode b_Mo_sweepOne 135 = .ok (.aload_n 0, 1) := by decide +kernel
theorem d_Mo_sweepOne_136 : decode b_Mo_sweepOne 136 = .ok (.iload 4, 2) := by decide +kernel
theorem d_Mo_sweepOne_138 : decode b_Mo_sweepOne 138 = .ok (.invokevirtual 123, 3) := by decide +kernel
theorem d_Mo_sweepOne_141 : decode b_Mo_sweepOne 141 = .ok (.iinc 3 1, 3) := by decide +kernel
theorem d_Mo_sweepOne_144 : decode b_Mo_sweepOne 144 = .ok (.iload 5, 2) := by decide +kernel
theorem d_Mo_sweepOne_146 : decode b_Mo_sweepOne 146 = .ok (.istore 4, 2) := by decide +kernel
theorem d_Mo_sweepOne_148 : decode b_Mo_sweepOne 148 = .ok (.goto (-61), 3) := by decide +kernel
theorem d_Mo_sweepOne_151 : decode b_Mo_sweepOne 151 = .ok (.iload_n 2, 1) := by decide +kernel
theorem d_Mo_sweepOne_152 : decode b_Mo_sweepOne 152 = .ok (.iload_n 1, 1) := by decide +kernel
theorem d_Mo_sweepOne_153 : decode b_Mo_sweepOne 153 = .ok (.if_icmp .ne 17, 3) := by decide +kernel
theorem d_Mo_sweepOne_156 : decode b_Mo_sweepOne 156 = .ok (.aload_n 0, 1) := by decide +kernel
theorem d_Mo_sweepOne_157 : decode b_Mo_sweepOne 157 = .ok (.getfield 13, 3) := by decide +kernel
theorem d_Mo_sweepOne_160 : decode b_Mo_sweepOne 160 = .ok (.iload_n 2, 1) := by decide +kernel
theorem d_Mo_sweepOne_161 : decode b_Mo_sweepOne 161 = .ok (.iaload, 1) := by decide +kernel
theorem d_Mo_sweepOne_162 : decode b_Mo_sweepOne 162 = .ok (.ifCond .ge 8, 3) := by decide +kernel
theorem d_Mo_sweepOne_165 : decode b_Mo_sweepOne 165 = .ok (.aload_n 0, 1) := by decide +kernel
theorem d_Mo_sweepOne_166 : decode b_Mo_sweepOne 166 = .ok (.iload_n 1, 1) := by decide +kernel
theorem d_Mo_sweepOne_167 : decode b_Mo_sweepOne 167 = .ok (.invokevirtual 123, 3) := by decide +kernel
theorem d_Mo_sweepOne_170 : decode b_Mo_sweepOne 170 = .ok (.iload_n 3, 1) := by decide +kernel
theorem d_Mo_sweepOne_171 : decode b_Mo_sweepOne 171 = .ok (.ireturn, 1) := by decide +kernel
theorem d_Mo_sweep_0 : decode b_Mo_sweep 0 = .ok (.aload_n 0, 1) := by decide +kernel
theorem d_Mo_sweep_1 : decode b_Mo_sweep 1 = .ok (.invokevirtual 95, 3) := by decide +kernel
theorem d_Mo_sweep_4 : decode b_Mo_sweep 4 = .ok (.iconst 0, 1) := by decide +kernel
theorem d_Mo_sweep_5 : decode b_Mo_sweep 5 = .ok (.istore_n 1, 1) := by decide +kernel
theorem d_Mo_sweep_6 : decode b_Mo_sweep 6 = .ok (.iconst 0, 1) := by decide +kernel
theorem d_Mo_sweep_7 : decode b_Mo_sweep 7 = .ok (.istore_n 2, 1) := by decide +kernel
theorem d_Mo_sweep_8 : decode b_Mo_sweep 8 = .ok (.iload_n 2, 1) := by decide +kernel
theorem d_Mo_sweep_9 : decode b_Mo_sweep 9 = .ok (.bipush 6, 2) := by decide +kernel
theorem d_Mo_sweep_11 : decode b_Mo_sweep 11 = .ok (.if_icmp .ge 24, 3) := by decide +kernel
theorem d_Mo_sweep_14 : decode b_Mo_sweep 14 = .ok (.aload_n 0, 1) := by decide +kernel
theorem d_Mo_sweep_15 : decode b_Mo_sweep 15 = .ok (.getfield 58, 3) := by decide +kernel
theorem d_Mo_sweep_18 : decode b_Mo_sweep 18 = .ok (.ifCond .ne 17, 3) := by decide +kernel
theorem d_Mo_sweep_21 : decode b_Mo_sweep 21 = .ok (.iload_n 1, 1) := by decide +kernel
theorem d_Mo_sweep_22 : decode b_Mo_sweep 22 = .ok (.aload_n 0, 1) := by decide +kernel
theorem d_Mo_sweep_23 : decode b_Mo_sweep 23 = .ok (.iload_n 2, 1) := by decide +kernel
theorem d_Mo_sweep_24 : decode b_Mo_sweep 24 = .ok (.invokevirtual 144, 3) := by decide +kernel
theorem d_Mo_sweep_27 : decode b_Mo_sweep 27 = .ok (.iadd, 1) := by decide +kernel
theorem d_Mo_sweep_28 : decode b_Mo_sweep 28 = .ok (.istore_n 1, 1) := by decide +kernel
theorem d_Mo_sweep_29 : decode b_Mo_sweep 29 = .ok (.iinc 2 1, 3) := by decide +kernel
theorem d_Mo_sweep_32 : decode b_Mo_sweep 32 = .ok (.goto (-24), 3) := by decide +kernel
theorem d_Mo_sweep_35 : decode b_Mo_sweep 35 = .ok (.aload_n 0, 1) := by decide +kernel
theorem d_Mo_sweep_36 : decode b_Mo_sweep 36 = .ok (.iload_n 1, 1) := by decide +kernel
theorem d_Mo_sweep_37 : decode b_Mo_sweep 37 = .ok (.invokevirtual 105, 3) := by decide +kernel
theorem d_Mo_sweep_40 : decode b_Mo_sweep 40 = .ok (.ireturn, 1) := by decide +kernel
theorem d_Mo_flush_0 : decode b_Mo_flush 0 = .ok (.aload_n 0, 1) := by decide +kernel
theorem d_Mo_flush_1 : decode b_Mo_flush 1 = .ok (.invokevirtual 95, 3) := by decide +kernel
theorem d_Mo_flush_4 : decode b_Mo_flush 4 = .ok (.aload_n 0, 1) := by decide +kernel
theorem d_Mo_flush_5 : decode b_Mo_flush 5 = .ok (.getfield 72, 3) := by decide +kernel
theorem d_Mo_flush_8 : decode b_Mo_flush 8 = .ok (.istore_n 1, 1) := by decide +kernel
theorem d_Mo_flush_9 : decode b_Mo_flush 9 = .ok (.iconst 0, 1) := by decide +kernel
theorem d_Mo_flush_10 : decode b_Mo_flush 10 = .ok (.istore_n 2, 1) := by decide +kernel
theorem d_Mo_flush_11 : decode b_Mo_flush 11 = .ok (.iload_n 2, 1) := by decide +kernel
theorem d_Mo_flush_12 : decode b_Mo_flush 12 = .ok (.bipush 7, 2) := by decide +kernel
theorem d_Mo_flush_14 : decode b_Mo_flush 14 = .ok (.if_icmp .ge 30, 3) := by decide +kernel
theorem d_Mo_flush_17 : decode b_Mo_flush 17 = .ok (.aload_n 0, 1) := by decide +kernel
theorem d_Mo_flush_18 : decode b_Mo_flush 18 = .ok (.getfield 58, 3) := by decide +kernel
theorem d_Mo_flush_21 : decode b_Mo_flush 21 = .ok (.ifCond .ne 23, 3) := by decide +kernel
theorem d_Mo_flush_24 : decode b_Mo_flush 24 = .ok (.aload_n 0, 1) := by decide +kernel
theorem d_Mo_flush_25 : decode b_Mo_flush 25 = .ok (.getfield 34, 3) := by decide +kernel
theorem d_Mo_flush_28 : decode b_Mo_flush 28 = .ok (.iload_n 2, 1) := by decide +kernel
theorem d_Mo_flush_29 : decode b_Mo_flush 29 = .ok (.baload, 1) := by decide +kernel
theorem d_Mo_flush_30 : decode b_Mo_flush 30 = .ok (.ifCond .eq 8, 3) := by decide +kernel
theorem d_Mo_flush_33 : decode b_Mo_flush 33 = .ok (.aload_n 0, 1) := by decide +kernel
theorem d_Mo_flush_34 : decode b_Mo_flush 34 = .ok (.iload_n 2, 1) := by decide +kernel
theorem d_Mo_flush_35 : decode b_Mo_flush 35 = .ok (.invokevirtual 85, 3) := by decide +kernel
theorem d_Mo_flush_38 : decode b_Mo_flush 38 = .ok (.iinc 2 1, 3) := by decide +kernel
theorem d_Mo_flush_41 : decode b_Mo_flush 41 = .ok (.goto (-30), 3) := by decide +kernel
theorem d_Mo_flush_44 : decode b_Mo_flush 44 = .ok (.aload_n 0, 1) := by decide +kernel
theorem d_Mo_flush_45 : decode b_Mo_flush 45 = .ok (.aload_n 0, 1) := by decide +kernel
theorem d_Mo_flush_46 : decode b_Mo_flush 46 = .ok (.getfield 72, 3) := by decide +kernel
theorem d_Mo_flush_49 : decode b_Mo_flush 49 = .ok (.iload_n 1, 1) := by decide +kernel
theorem d_Mo_flush_50 : decode b_Mo_flush 50 = .ok (.isub, 1) := by decide +kernel
theorem d_Mo_flush_51 : decode b_Mo_flush 51 = .ok (.invokevirtual 105, 3) := by decide +kernel
theorem d_Mo_flush_54 : decode b_Mo_flush 54 = .ok (.ireturn, 1) := by decide +kernel
theorem d_Mo_fail_0 : decode b_Mo_fail 0 = .ok (.aload_n 0, 1) := by decide +kernel
theorem d_Mo_fail_1 : decode b_Mo_fail 1 = .ok (.invokevirtual 95, 3) := by decide +kernel
theorem d_Mo_fail_4 : decode b_Mo_fail 4 = .ok (.iload_n 1, 1) := by decide +kernel
theorem d_Mo_fail_5 : decode b_Mo_fail 5 = .ok (.iconst 0, 1) := by decide +kernel
theorem d_Mo_fail_6 : decode b_Mo_fail 6 = .ok (.bipush 50, 2) := by decide +kernel
theorem d_Mo_fail_8 : decode b_Mo_fail 8 = .ok (.invokestatic 91, 3) := by decide +kernel
theorem d_Mo_fail_11 : decode b_Mo_fail 11 = .ok (.ifCond .ne 9, 3) := by decide +kernel
theorem d_Mo_fail_14 : decode b_Mo_fail 14 = .ok (.aload_n 0, 1) := by decide +kernel
theorem d_Mo_fail_15 : decode b_Mo_fail 15 = .ok (.iconst 1, 1) := by decide +kernel
theorem d_Mo_fail_16 : decode b_Mo_fail 16 = .ok (.invokevirtual 102, 3) := by decide +kernel
theorem d_Mo_fail_19 : decode b_Mo_fail 19 = .ok (.ireturn, 1) := by decide +kernel
theorem d_Mo_fail_20 : decode b_Mo_fail 20 = .ok (.aload_n 0, 1) := by decide +kernel
theorem d_Mo_fail_21 : decode b_Mo_fail 21 = .ok (.getfield 62, 3) := by decide +kernel
theorem d_Mo_fail_24 : decode b_Mo_fail 24 = .ok (.istore_n 2, 1) := by decide +kernel
theorem d_Mo_fail_25 : decode b_Mo_fail 25 = .ok (.aload_n 0, 1) := by decide +kernel
theorem d_Mo_fail_26 : decode b_Mo_fail 26 = .ok (.iload_n 1, 1) := by decide +kernel
theorem d_Mo_fail_27 : decode b_Mo_fail 27 = .ok (.putfield 62, 3) := by decide +kernel
theorem d_Mo_fail_30 : decode b_Mo_fail 30 = .ok (.iload_n 2, 1) := by decide +kernel
theorem d_Mo_fail_31 : decode b_Mo_fail 31 = .ok (.ireturn, 1) := by decide +kernel
theorem d_Mo_crash_0 : decode b_Mo_crash 0 = .ok (.aload_n 0, 1) := by decide +kernel
theorem d_Mo_crash_1 : decode b_Mo_crash 1 = .ok (.invokevirtual 95, 3) := by decide +kernel
theorem d_Mo_crash_4 : decode b_Mo_crash 4 = .ok (.aload_n 0, 1) := by decide +kernel
theorem d_Mo_crash_5 : decode b_Mo_crash 5 = .ok (.invokevirtual 98, 3) := by decide +kernel
theorem d_Mo_crash_8 : decode b_Mo_crash 8 = .ok (.istore_n 1, 1) := by decide +kernel
theorem d_Mo_crash_9 : decode b_Mo_crash 9 = .ok (.aload_n 0, 1) := by decide +kernel
theorem d_Mo_crash_10 : decode b_Mo_crash 10 = .ok (.invokevirtual 65, 3) := by decide +kernel
theorem d_Mo_crash_13 : decode b_Mo_crash 13 = .ok (.iload_n 1, 1) := by decide +kernel
theorem d_Mo_crash_14 : decode b_Mo_crash 14 = .ok (.ireturn, 1) := by decide +kernel
theorem d_Mo_image_0 : decode b_Mo_image 0 = .ok (.aload_n 0, 1) := by decide +kernel
theorem d_Mo_image_1 : decode b_Mo_image 1 = .ok (.invokevirtual 95, 3) := by decide +kernel
theorem d_Mo_image_4 : decode b_Mo_image 4 = .ok (.iload_n 1, 1) := by decide +kernel
theorem d_Mo_image_5 : decode b_Mo_image 5 = .ok (.iconst 0, 1) := by decide +kernel
theorem d_Mo_image_6 : decode b_Mo_image 6 = .ok (.iconst 5, 1) := by decide +kernel
theorem d_Mo_image_7 : decode b_Mo_image 7 = .ok (.invokestatic 91, 3) := by decide +kernel
theorem d_Mo_image_10 : decode b_Mo_image 10 = .ok (.ifCond .ne 9, 3) := by decide +kernel
theorem d_Mo_image_13 : decode b_Mo_image 13 = .ok (.aload_n 0, 1) := by decide +kernel
theorem d_Mo_image_14 : decode b_Mo_image 14 = .ok (.iconst 1, 1) := by decide +kernel
theorem d_Mo_image_15 : decode b_Mo_image 15 = .ok (.invokevirtual 102, 3) := by decide +kernel
theorem d_Mo_image_18 : decode b_Mo_image 18 = .ok (.ireturn, 1) := by decide +kernel
theorem d_Mo_image_19 : decode b_Mo_image 19 = .ok (.iload_n 1, 1) := by decide +kernel
theorem d_Mo_image_20 : decode b_Mo_image 20 = .ok (.istore_n 2, 1) := by decide +kernel
theorem d_Mo_image_21 : decode b_Mo_image 21 = .ok (.iconst 0, 1) := by decide +kernel
theorem d_Mo_image_22 : decode b_Mo_image 22 = .ok (.istore_n 3, 1) := by decide +kernel
theorem d_Mo_image_23 : decode b_Mo_image 23 = .ok (.iload_n 3, 1) := by decide +kernel
theorem d_Mo_image_24 : decode b_Mo_image 24 = .ok (.bipush 16, 2) := by decide +kernel
theorem d_Mo_image_26 : decode b_Mo_image 26 = .ok (.if_icmp .ge 84, 3) := by decide +kernel
theorem d_Mo_image_29 : decode b_Mo_image 29 = .ok (.iload_n 2, 1) := by decide +kernel
theorem d_Mo_image_30 : decode b_Mo_image 30 = .ok (.ifCond .lt 80, 3) := by decide +kernel
theorem d_Mo_image_33 : decode b_Mo_image 33 = .ok (.aload_n 0, 1) := by decide +kernel
theorem d_Mo_image_34 : decode b_Mo_image 34 = .ok (.getfield 19, 3) := by decide +kernel
theorem d_Mo_image_37 : decode b_Mo_image 37 = .ok (.iload_n 2, 1) := by decide +kernel
theorem d_Mo_image_38 : decode b_Mo_image 38 = .ok (.iaload, 1) := by decide +kernel
theorem d_Mo_image_39 : decode b_Mo_image 39 = .ok (.ifCond .eq 71, 3) := by decide +kernel
theorem d_Mo_image_42 : decode b_Mo_image 42 = .ok (.aload_n 0, 1) := by decide +kernel
theorem d_Mo_image_43 : decode b_Mo_image 43 = .ok (.getfield 31, 3) := by decide +kernel
theorem d_Mo_image_46 : decode b_Mo_image 46 = .ok (.aload_n 0, 1) := by decide +kernel
theorem d_Mo_image_47 : decode b_Mo_image 47 = .ok (.getfield 19, 3) := by decide +kernel
theorem d_Mo_image_50 : decode b_Mo_image 50 = .ok (.iload_n 2, 1) := by decide +kernel
theorem d_Mo_image_51 : decode b_Mo_image 51 = .ok (.iaload, 1) := by decide +kernel
theorem d_Mo_image_52 : decode b_Mo_image 52 = .ok (.iaload, 1) := by decide +kernel
theorem d_Mo_image_53 : decode b_Mo_image 53 = .ok (.iconst 2, 1) := by decide +kernel
theorem d_Mo_image_54 : decode b_Mo_image 54 = .ok (.if_icmp .ne 27, 3) := by decide +kernel
theorem d_Mo_image_57 : decode b_Mo_image 57 = .ok (.aload_n 0, 1) := by decide +kernel
theorem d_Mo_image_58 : decode b_Mo_image 58 = .ok (.getfield 22, 3) := by decide +kernel
theorem d_Mo_image_61 : decode b_Mo_image 61 = .ok (.iload_n 2, 1) := by decide +kernel
theorem d_Mo_image_62 : decode b_Mo_image 62 = .ok (.iaload, 1) := by decide +kernel
theorem d_Mo_image_63 : decode b_Mo_image 63 = .ok (.ifCond .ge 11, 3) := by decide +kernel
theorem d_Mo_image_66 : decode b_Mo_image 66 = .ok (.aload_n 0, 1) := by decide +kernel
theorem d_Mo_image_67 : decode b_Mo_image 67 = .ok (.iconst 2, 1) := by decide +kernel
theorem d_Mo_image_68 : decode b_Mo_image 68 = .ok (.invokevirtual 102, 3) := by decide +kernel
theorem d_Mo_image_71 : decode b_Mo_image 71 = .ok (.goto 9, 3) := by decide +kernel
theorem d_Mo_image_74 : decode b_Mo_image 74 = .ok (.aload_n 0, 1) := by decide +kernel
theorem d_Mo_image_75 : decode b_Mo_image 75 = .ok (.getfield 22, 3) := by decide +kernel
theorem d_Mo_image_78 : decode b_Mo_image 78 = .ok (.iload_n 2, 1) := by decide +kernel
theorem d_Mo_image_79 : decode b_Mo_image 79 = .ok (.iaload, 1) := by decide +kernel
theorem d_Mo_image_80 : decode b_Mo_image 80 = .ok (.ireturn, 1) := by decide +kernel
theorem d_Mo_image_81 : decode b_Mo_image 81 = .ok (.aload_n 0, 1) := by decide +kernel
theorem d_Mo_image_82 : decode b_Mo_image 82 = .ok (.getfield 25, 3) := by decide +kernel
theorem d_Mo_image_85 : decode b_Mo_image 85 = .ok (.iload_n 2, 1) := by decide +kernel
theorem d_Mo_image_86 : decode b_Mo_image 86 = .ok (.iaload, 1) := by decide +kernel
theorem d_Mo_image_87 : decode b_Mo_image 87 = .ok (.ifCond .ge 7, 3) := by decide +kernel
theorem d_Mo_image_90 : decode b_Mo_image 90 = .ok (.iconst (-1), 1) := by decide +kernel
theorem d_Mo_image_91 : decode b_Mo_image 91 = .ok (.goto 12, 3) := by decide +kernel
theorem d_Mo_image_94 : decode b_Mo_image 94 = .ok (.bipush 6, 2) := by decide +kernel
theorem d_Mo_image_96 : decode b_Mo_image 96 = .ok (.aload_n 0, 1) := by decide +kernel
theorem d_Mo_image_97 : decode b_Mo_image 97 = .ok (.getfield 25, 3) := by decide +kernel
theorem d_Mo_image_100 : decode b_Mo_image 100 = .ok (.iload_n 2, 1) := by decide +kernel
theorem d_Mo_image_101 : decode b_Mo_image 101 = .ok (.iaload, 1) := by decide +kernel
theorem d_Mo_image_102 : decode b_Mo_image 102 = .ok (.iadd, 1) := by decide +kernel
theorem d_Mo_image_103 : decode b_Mo_image 103 = .ok (.istore_n 2, 1) := by decide +kernel
theorem d_Mo_image_104 : decode b_Mo_image 104 = .ok (.iinc 3 1, 3) := by decide +kernel
theorem d_Mo_image_107 : decode b_Mo_image 107 = .ok (.goto (-84), 3) := by decide +kernel
theorem d_Mo_image_110 : decode b_Mo_image 110 = .ok (.aload_n 0, 1) := by decide +kernel
theorem d_Mo_image_111 : decode b_Mo_image 111 = .ok (.iconst 2, 1) := by decide +kernel
theorem d_Mo_image_112 : decode b_Mo_image 112 = .ok (.invokevirtual 102, 3) := by decide +kernel
theorem d_Mo_image_115 : decode b_Mo_image 115 = .ok (.ireturn, 1) := by decide +kernel
theorem d_Mo_state_0 : decode b_Mo_state 0 = .ok (.aload_n 0, 1) := by decide +kernel
theorem d_Mo_state_1 : decode b_Mo_state 1 = .ok (.invokevirtual 95, 3) := by decide +kernel
theorem d_Mo_state_4 : decode b_Mo_state 4 = .ok (.iload_n 1, 1) := by decide +kernel
theorem d_Mo_state_5 : decode b_Mo_state 5 = .ok (.iconst 1, 1) := by decide +kernel
theorem d_Mo_state_6 : decode b_Mo_state 6 = .ok (.bipush 40, 2) := by decide +kernel
theorem d_Mo_state_8 : decode b_Mo_state 8 = .ok (.invokestatic 91, 3) := by decide +kernel
theorem d_Mo_state_11 : decode b_Mo_state 11 = .ok (.ifCond .eq 12, 3) := by decide +kernel
theorem d_Mo_state_14 : decode b_Mo_state 14 = .ok (.aload_n 0, 1) := by decide +kernel
theorem d_Mo_state_15 : decode b_Mo_state 15 = .ok (.getfield 28, 3) := by decide +kernel
theorem d_Mo_state_18 : decode b_Mo_state 18 = .ok (.iload_n 1, 1) := by decide +kernel
theorem d_Mo_state_19 : decode b_Mo_state 19 = .ok (.iaload, 1) := by decide +kernel
theorem d_Mo_state_20 : decode b_Mo_state 20 = .ok (.goto 8, 3) := by decide +kernel
theorem d_Mo_state_23 : decode b_Mo_state 23 = .ok (.aload_n 0, 1) := by decide +kernel
theorem d_Mo_state_24 : decode b_Mo_state 24 = .ok (.iconst 1, 1) := by decide +kernel
theorem d_Mo_state_25 : decode b_Mo_state 25 = .ok (.invokevirtual 102, 3) := by decide +kernel
theorem d_Mo_state_28 : decode b_Mo_state 28 = .ok (.ireturn, 1) := by decide +kernel
theorem d_Mo_version_0 : decode b_Mo_version 0 = .ok (.aload_n 0, 1) := by decide +kernel
theorem d_Mo_version_1 : decode b_Mo_version 1 = .ok (.invokevirtual 95, 3) := by decide +kernel
theorem d_Mo_version_4 : decode b_Mo_version 4 = .ok (.iload_n 1, 1) := by decide +kernel
theorem d_Mo_version_5 : decode b_Mo_version 5 = .ok (.iconst 0, 1) := by decide +kernel
theorem d_Mo_version_6 : decode b_Mo_version 6 = .ok (.iconst 5, 1) := by decide +kernel
theorem d_Mo_version_7 : decode b_Mo_version 7 = .ok (.invokestatic 91, 3) := by decide +kernel
theorem d_Mo_version_10 : decode b_Mo_version 10 = .ok (.ifCond .eq 12, 3) := by decide +kernel
theorem d_Mo_version_13 : decode b_Mo_version 13 = .ok (.iload_n 3, 1) := by decide +kernel
theorem d_Mo_version_14 : decode b_Mo_version 14 = .ok (.iconst 0, 1) := by decide +kernel
theorem d_Mo_version_15 : decode b_Mo_version 15 = .ok (.iconst 2, 1) := by decide +kernel
theorem d_Mo_version_16 : decode b_Mo_version 16 = .ok (.invokestatic 91, 3) := by decide +kernel
theorem d_Mo_version_19 : decode b_Mo_version 19 = .ok (.ifCond .ne 9, 3) := by decide +kernel
theorem d_Mo_version_22 : decode b_Mo_version 22 = .ok (.aload_n 0, 1) := by decide +kernel
theorem d_Mo_version_23 : decode b_Mo_version 23 = .ok (.iconst 1, 1) := by decide +kernel
theorem d_Mo_version_24 : decode b_Mo_version 24 = .ok (.invokevirtual 102, 3) := by decide +kernel
theorem d_Mo_version_27 : decode b_Mo_version 27 = .ok (.ireturn, 1) := by decide +kernel
theorem d_Mo_version_28 : decode b_Mo_version 28 = .ok (.iload_n 2, 1) := by decide +kernel
theorem d_Mo_version_29 : decode b_Mo_version 29 = .ok (.ifCond .lt 12, 3) := by decide +kernel
theorem d_Mo_version_32 : decode b_Mo_version 32 = .ok (.aload_n 0, 1) := by decide +kernel
theorem d_Mo_version_33 : decode b_Mo_version 33 = .ok (.getfield 7, 3) := by decide +kernel
theorem d_Mo_version_36 : decode b_Mo_version 36 = .ok (.iload_n 1, 1) := by decide +kernel
theorem d_Mo_version_37 : decode b_Mo_version 37 = .ok (.iaload, 1) := by decide +kernel
theorem d_Mo_version_38 : decode b_Mo_version 38 = .ok (.ifCond .ne 7, 3) := by decide +kernel
theorem d_Mo_version_41 : decode b_Mo_version 41 = .ok (.iconst (-1), 1) := by decide +kernel
theorem d_Mo_version_42 : decode b_Mo_version 42 = .ok (.goto 4, 3) := by decide +kernel
theorem d_Mo_version_45 : decode b_Mo_version 45 = .ok (.iload_n 1, 1) := by decide +kernel
theorem d_Mo_version_46 : decode b_Mo_version 46 = .ok (.istore 4, 2) := by decide +kernel
theorem d_Mo_version_48 : decode b_Mo_version 48 = .ok (.iconst 0, 1) := by decide +kernel
theorem d_Mo_version_49 : decode b_Mo_version 49 = .ok (.istore 5, 2) := by decide +kernel
theorem d_Mo_version_51 : decode b_Mo_version 51 = .ok (.iload 5, 2) := by decide +kernel
theorem d_Mo_version_53 : decode b_Mo_version 53 = .ok (.iload_n 2, 1) := by decide +kernel
theorem d_Mo_version_54 : decode b_Mo_version 54 = .ok (.if_icmp .ge 22, 3) := by decide +kernel
theorem d_Mo_version_57 : decode b_Mo_version 57 = .ok (.iload 4, 2) := by decide +kernel
theorem d_Mo_version_59 : decode b_Mo_version 59 = .ok (.ifCond .lt 17, 3) := by decide +kernel
theorem d_Mo_version_62 : decode b_Mo_version 62 = .ok (.aload_n 0, 1) := by decide +kernel
theorem d_Mo_version_63 : decode b_Mo_version 63 = .ok (.iload 4, 2) := by decide +kernel
theorem d_Mo_version_65 : decode b_Mo_version 65 = .ok (.invokevirtual 112, 3) := by decide +kernel
theorem d_Mo_version_68 : decode b_Mo_version 68 = .ok (.istore 4, 2) := by decide +kernel
theorem d_Mo_version_70 : decode b_Mo_version 70 = .ok (.iinc 5 1, 3) := by decide +kernel
theorem d_Mo_version_73 : decode b_Mo_version 73 = .ok (.goto (-22), 3) := by decide +kernel
theorem d_Mo_version_76 : decode b_Mo_version 76 = .ok (.iload 4, 2) := by decide +kernel
theorem d_Mo_version_78 : decode b_Mo_version 78 = .ok (.ifCond .ge 9, 3) := by decide +kernel
theorem d_Mo_version_81 : decode b_Mo_version 81 = .ok (.aload_n 0, 1) := by decide +kernel
theorem d_Mo_version_82 : decode b_Mo_version 82 = .ok (.iconst 2, 1) := by decide +kernel
theorem d_Mo_version_83 : decode b_Mo_version 83 = .ok (.invokevirtual 102, 3) := by decide +kernel
theorem d_Mo_version_86 : decode b_Mo_version 86 = .ok (.ireturn, 1) := by decide +kernel
theorem d_Mo_version_87 : decode b_Mo_version 87 = .ok (.iload_n 3, 1) := by decide +kernel
theorem d_Mo_version_88 : decode b_Mo_version 88 = .ok (.ifCond .ne 13, 3) := by decide +kernel
theorem d_Mo_version_91 : decode b_Mo_version 91 = .ok (.aload_n 0, 1) := by decide +kernel
theorem d_Mo_version_92 : decode b_Mo_version 92 = .ok (.getfield 7, 3) := by decide +kernel
theorem d_Mo_version_95 : decode b_Mo_version 95 = .ok (.iload 4, 2) := by decide +kernel
theorem d_Mo_version_97 : decode b_Mo_version 97 = .ok (.iaload, 1) := by decide +kernel
theorem d_Mo_version_98 : decode b_Mo_version 98 = .ok (.goto 34, 3) := by decide +kernel
theorem d_Mo_version_101 : decode b_Mo_version 101 = .ok (.iload_n 3, 1) := by decide +kernel
theorem d_Mo_version_102 : decode b_Mo_version 102 = .ok (.iconst 1, 1) := by decide +kernel
theorem d_Mo_version_103 : decode b_Mo_version 103 = .ok (.if_icmp .ne 13, 3) := by decide +kernel
theorem d_Mo_version_106 : decode b_Mo_version 106 = .ok (.aload_n 0, 1) := by decide +kernel
theorem d_Mo_version_107 : decode b_Mo_version 107 = .ok (.getfield 13, 3) := by decide +kernel
theorem d_Mo_version_110 : decode b_Mo_version 110 = .ok (.iload 4, 2) := by decide +kernel
theorem d_Mo_version_112 : decode b_Mo_version 112 = .ok (.iaload, 1) := by decide +kernel
theorem d_Mo_version_113 : decode b_Mo_version 113 = .ok (.goto 19, 3) := by decide +kernel
theorem d_Mo_version_116 : decode b_Mo_version 116 = .ok (.iload 4, 2) := by decide +kernel
theorem d_Mo_version_118 : decode b_Mo_version 118 = .ok (.bipush 6, 2) := by decide +kernel
theorem d_Mo_version_120 : decode b_Mo_version 120 = .ok (.if_icmp .ge 7, 3) := by decide +kernel
theorem d_Mo_version_123 : decode b_Mo_version 123 = .ok (.iconst (-1), 1) := by decide +kernel
theorem d_Mo_version_124 : decode b_Mo_version 124 = .ok (.goto 8, 3) := by decide +kernel
theorem d_Mo_version_127 : decode b_Mo_version 127 = .ok (.iload 4, 2) := by decide +kernel
theorem d_Mo_version_129 : decode b_Mo_version 129 = .ok (.bipush 6, 2) := by decide +kernel
theorem d_Mo_version_131 : decode b_Mo_version 131 = .ok (.isub, 1) := by decide +kernel
theorem d_Mo_version_132 : decode b_Mo_version 132 = .ok (.ireturn, 1) := by decide +kernel
theorem d_Mo_page_0 : decode b_Mo_page 0 = .ok (.aload_n 0, 1) := by decide +kernel
theorem d_Mo_page_1 : decode b_Mo_page 1 = .ok (.invokevirtual 95, 3) := by decide +kernel
theorem d_Mo_page_4 : decode b_Mo_page 4 = .ok (.iload_n 1, 1) := by decide +kernel
theorem d_Mo_page_5 : decode b_Mo_page 5 = .ok (.iconst 0, 1) := by decide +kernel
theorem d_Mo_page_6 : decode b_Mo_page 6 = .ok (.bipush 6, 2) := by decide +kernel
theorem d_Mo_page_8 : decode b_Mo_page 8 = .ok (.invokestatic 91, 3) := by decide +kernel
theorem d_Mo_page_11 : decode b_Mo_page 11 = .ok (.ifCond .eq 10, 3) := by decide +kernel
theorem d_Mo_page_14 : decode b_Mo_page 14 = .ok (.aload_n 0, 1) := by decide +kernel
theorem d_Mo_page_15 : decode b_Mo_page 15 = .ok (.getfield 38, 3) := by decide +kernel
theorem d_Mo_page_18 : decode b_Mo_page 18 = .ok (.iload_n 1, 1) := by decide +kernel
theorem d_Mo_page_19 : decode b_Mo_page 19 = .ok (.iaload, 1) := by decide +kernel
theorem d_Mo_page_20 : decode b_Mo_page 20 = .ok (.ireturn, 1) := by decide +kernel
theorem d_Mo_page_21 : decode b_Mo_page 21 = .ok (.iload_n 1, 1) := by decide +kernel
theorem d_Mo_page_22 : decode b_Mo_page 22 = .ok (.bipush 10, 2) := by decide +kernel
theorem d_Mo_page_24 : decode b_Mo_page 24 = .ok (.bipush 16, 2) := by decide +kernel
theorem d_Mo_page_26 : decode b_Mo_page 26 = .ok (.invokestatic 91, 3) := by decide +kernel
theorem d_Mo_page_29 : decode b_Mo_page 29 = .ok (.ifCond .eq 23, 3) := by decide +kernel
theorem d_Mo_page_32 : decode b_Mo_page 32 = .ok (.aload_n 0, 1) := by decide +kernel
theorem d_Mo_page_33 : decode b_Mo_page 33 = .ok (.getfield 34, 3) := by decide +kernel
theorem d_Mo_page_36 : decode b_Mo_page 36 = .ok (.iload_n 1, 1) := by decide +kernel
theorem d_Mo_page_37 : decode b_Mo_page 37 = .ok (.bipush 10, 2) := by decide +kernel
theorem d_Mo_page_39 : decode b_Mo_page 39 = .ok (.isub, 1) := by decide +kernel
theorem d_Mo_page_40 : decode b_Mo_page 40 = .ok (.baload, 1) := by decide +kernel
theorem d_Mo_page_41 : decode b_Mo_page 41 = .ok (.ifCond .eq 7, 3) := by decide +kernel
theorem d_Mo_page_44 : decode b_Mo_page 44 = .ok (.iconst 1, 1) := by decide +kernel
theorem d_Mo_page_45 : decode b_Mo_page 45 = .ok (.goto 12, 3) := by decide +kernel
theorem d_Mo_page_48 : decode b_Mo_page 48 = .ok (.iconst 0, 1) := by decide +kernel
theorem d_Mo_page_49 : decode b_Mo_page 49 = .ok (.goto 8, 3) := by decide +kernel
theorem d_Mo_page_52 : decode b_Mo_page 52 = .ok (.aload_n 0, 1) := by decide +kernel
theorem d_Mo_page_53 : decode b_Mo_page 53 = .ok (.iconst 1, 1) := by decide +kernel
theorem d_Mo_page_54 : decode b_Mo_page 54 = .ok (.invokevirtual 102, 3) := by decide +kernel
theorem d_Mo_page_57 : decode b_Mo_page 57 = .ok (.ireturn, 1) := by decide +kernel
theorem d_Mo_count_0 : decode b_Mo_count 0 = .ok (.aload_n 0, 1) := by decide +kernel
theorem d_Mo_count_1 : decode b_Mo_count 1 = .ok (.invokevirtual 95, 3) := by decide +kernel
theorem d_Mo_count_4 : decode b_Mo_count 4 = .ok (.iconst 0, 1) := by decide +kernel
theorem d_Mo_count_5 : decode b_Mo_count 5 = .ok (.istore_n 2, 1) := by decide +kernel
theorem d_Mo_count_6 : decode b_Mo_count 6 = .ok (.iload_n 1, 1) := by decide +kernel
theorem d_Mo_count_7 : decode b_Mo_count 7 = .ok (.tableswitch 105 0 4 #[33, 62, 67, 72, 77], 33) := by decide +kernel
theorem d_Mo_count_40 : decode b_Mo_count 40 = .ok (.bipush 6, 2) := by decide +kernel
theorem d_Mo_count_42 : decode b_Mo_count 42 = .ok (.istore_n 3, 1) := by decide +kernel
theorem d_Mo_count_43 : decode b_Mo_count 43 = .ok (.iload_n 3, 1) := by decide +kernel
theorem d_Mo_count_44 : decode b_Mo_count 44 = .ok (.bipush 15, 2) := by decide +kernel
theorem d_Mo_count_46 : decode b_Mo_count 46 = .ok (.if_icmp .ge 21, 3) := by decide +kernel
theorem d_Mo_count_49 : decode b_Mo_count 49 = .ok (.aload_n 0, 1) := by decide +kernel
theorem d_Mo_count_50 : decode b_Mo_count 50 = .ok (.getfield 7, 3) := by decide +kernel
theorem d_Mo_count_53 : decode b_Mo_count 53 = .ok (.iload_n 3, 1) := by decide +kernel
theorem d_Mo_count_54 : decode b_Mo_count 54 = .ok (.iaload, 1) := by decide +kernel
theorem d_Mo_count_55 : decode b_Mo_count 55 = .ok (.ifCond .ne 6, 3) := by decide +kernel
theorem d_Mo_count_58 : decode b_Mo_count 58 = .ok (.iinc 2 1, 3) := by decide +kernel
theorem d_Mo_count_61 : decode b_Mo_count 61 = .ok (.iinc 3 1, 3) := by decide +kernel
theorem d_Mo_count_64 : decode b_Mo_count 64 = .ok (.goto (-21), 3) := by decide +kernel
theorem d_Mo_count_67 : decode b_Mo_count 67 = .ok (.iload_n 2, 1) := by decide +kernel
theorem d_Mo_count_68 : decode b_Mo_count 68 = .ok (.ireturn, 1) := by decide +kernel
theorem d_Mo_count_69 : decode b_Mo_count 69 = .ok (.aload_n 0, 1) := by decide +kernel
theorem d_Mo_count_70 : decode b_Mo_count 70 = .ok (.invokevirtual 98, 3) := by decide +kernel
theorem d_Mo_count_73 : decode b_Mo_count 73 = .ok (.ireturn, 1) := by decide +kernel
theorem d_Mo_count_74 : decode b_Mo_count 74 = .ok (.aload_n 0, 1) := by decide +kernel
theorem d_Mo_count_75 : decode b_Mo_count 75 = .ok (.getfield 72, 3) := by decide +kernel
theorem d_Mo_count_78 : decode b_Mo_count 78 = .ok (.ireturn, 1) := by decide +kernel
theorem d_Mo_count_79 : decode b_Mo_count 79 = .ok (.aload_n 0, 1) := by decide +kernel
theorem d_Mo_count_80 : decode b_Mo_count 80 = .ok (.getfield 55, 3) := by decide +kernel
theorem d_Mo_count_83 : decode b_Mo_count 83 = .ok (.ireturn, 1) := by decide +kernel
theorem d_Mo_count_84 : decode b_Mo_count 84 = .ok (.iconst 0, 1) := by decide +kernel
theorem d_Mo_count_85 : decode b_Mo_count 85 = .ok (.istore_n 3, 1) := by decide +kernel
theorem d_Mo_count_86 : decode b_Mo_count 86 = .ok (.iload_n 3, 1) := by decide +kernel
theorem d_Mo_count_87 : decode b_Mo_count 87 = .ok (.bipush 7, 2) := by decide +kernel
theorem d_Mo_count_89 : decode b_Mo_count 89 = .ok (.if_icmp .ge 21, 3) := by decide +kernel
theorem d_Mo_count_92 : decode b_Mo_count 92 = .ok (.aload_n 0, 1) := by decide +kernel
theorem d_Mo_count_93 : decode b_Mo_count 93 = .ok (.getfield 34, 3) := by decide +kernel
theorem d_Mo_count_96 : decode b_Mo_count 96 = .ok (.iload_n 3, 1) := by decide +kernel
theorem d_Mo_count_97 : decode b_Mo_count 97 = .ok (.baload, 1) := by decide +kernel
theorem d_Mo_count_98 : decode b_Mo_count 98 = .ok (.ifCond .eq 6, 3) := by decide +kernel
theorem d_Mo_count_101 : decode b_Mo_count 101 = .ok (.iinc 2 1, 3) := by decide +kernel
theorem d_Mo_count_104 : decode b_Mo_count 104 = .ok (.iinc 3 1, 3) := by decide +kernel
theorem d_Mo_count_107 : decode b_Mo_count 107 = .ok (.goto (-21), 3) := by decide +kernel
theorem d_Mo_count_110 : decode b_Mo_count 110 = .ok (.iload_n 2, 1) := by decide +kernel
theorem d_Mo_count_111 : decode b_Mo_count 111 = .ok (.ireturn, 1) := by decide +kernel
theorem d_Mo_count_112 : decode b_Mo_count 112 = .ok (.aload_n 0, 1) := by decide +kernel
theorem d_Mo_count_113 : decode b_Mo_count 113 = .ok (.iconst 1, 1) := by decide +kernel
theorem d_Mo_count_114 : decode b_Mo_count 114 = .ok (.invokevirtual 102, 3) := by decide +kernel
theorem d_Mo_count_117 : decode b_Mo_count 117 = .ok (.ireturn, 1) := by decide +kernel
end
section
theorem d_Rv_has_0 : decode b_Rv_has 0 = .ok (.lload_n 0, 1) := by decide +kernel
theorem d_Rv_has_1 : decode b_Rv_has 1 = .ok (.iload_n 2, 1) := by decide +kernel
theorem d_Rv_has_2 : decode b_Rv_has 2 = .ok (.lshr, 1) := by decide +kernel
theorem d_Rv_has_3 : decode b_Rv_has 3 = .ok (.lconst 1, 1) := by decide +kernel
theorem d_Rv_has_4 : decode b_Rv_has 4 = .ok (.land, 1) := by decide +kernel
theorem d_Rv_has_5 : decode b_Rv_has 5 = .ok (.lconst 0, 1) := by decide +kernel
theorem d_Rv_has_6 : decode b_Rv_has 6 = .ok (.lcmp, 1) := by decide +kernel
theorem d_Rv_has_7 : decode b_Rv_has 7 = .ok (.ifCond .eq 7, 3) := by decide +kernel
theorem d_Rv_has_10 : decode b_Rv_has 10 = .ok (.iconst 1, 1) := by decide +kernel
theorem d_Rv_has_11 : decode b_Rv_has 11 = .ok (.goto 4, 3) := by decide +kernel
theorem d_Rv_has_14 : decode b_Rv_has 14 = .ok (.iconst 0, 1) := by decide +kernel
theorem d_Rv_has_15 : decode b_Rv_has 15 = .ok (.ireturn, 1) := by decide +kernel
theorem d_Rv_init_0 : decode b_Rv_init 0 = .ok (.aload_n 0, 1) := by decide +kernel
theorem d_Rv_init_1 : decode b_Rv_init 1 = .ok (.invokespecial 3, 3) := by decide +kernel
theorem d_Rv_init_4 : decode b_Rv_init 4 = .ok (.aload_n 0, 1) := by decide +kernel
theorem d_Rv_init_5 : decode b_Rv_init 5 = .ok (.new 9, 3) := by decide +kernel
theorem d_Rv_init_8 : decode b_Rv_init 8 = .ok (.dup, 1) := by decide +kernel
theorem d_Rv_init_9 : decode b_Rv_init 9 = .ok (.invokespecial 11, 3) := by decide +kernel
theorem d_Rv_init_12 : decode b_Rv_init 12 = .ok (.putfield 12, 3) := by decide +kernel
theorem d_Rv_init_15 : decode b_Rv_init 15 = .ok (.aload_n 0, 1) := by decide +kernel
theorem d_Rv_init_16 : decode b_Rv_init 16 = .ok (.aload_n 0, 1) := by decide +kernel
theorem d_Rv_init_17 : decode b_Rv_init 17 = .ok (.getfield 12, 3) := by decide +kernel
theorem d_Rv_init_20 : decode b_Rv_init 20 = .ok (.getfield 16, 3) := by decide +kernel
theorem d_Rv_init_23 : decode b_Rv_init 23 = .ok (.putfield 20, 3) := by decide +kernel
theorem d_Rv_init_26 : decode b_Rv_init 26 = .ok (.aload_n 0, 1) := by decide +kernel
theorem d_Rv_init_27 : decode b_Rv_init 27 = .ok (.bipush 41, 2) := by decide +kernel
theorem d_Rv_init_29 : decode b_Rv_init 29 = .ok (.newarray .long, 2) := by decide +kernel
theorem d_Rv_init_31 : decode b_Rv_init 31 = .ok (.putfield 21, 3) := by decide +kernel
theorem d_Rv_init_34 : decode b_Rv_init 34 = .ok (.aload_n 0, 1) := by decide +kernel
theorem d_Rv_init_35 : decode b_Rv_init 35 = .ok (.bipush 41, 2) := by decide +kernel
theorem d_Rv_init_37 : decode b_Rv_init 37 = .ok (.newarray .int, 2) := by decide +kernel
theorem d_Rv_init_39 : decode b_Rv_init 39 = .ok (.putfield 25, 3) := by decide +kernel
theorem d_Rv_init_42 : decode b_Rv_init 42 = .ok (.aload_n 0, 1) := by decide +kernel
theorem d_Rv_init_43 : decode b_Rv_init 43 = .ok (.bipush 9, 2) := by decide +kernel
theorem d_Rv_init_45 : decode b_Rv_init 45 = .ok (.newarray .int, 2) := by decide +kernel
theorem d_Rv_init_47 : decode b_Rv_init 47 = .ok (.putfield 29, 3) := by decide +kernel
theorem d_Rv_init_50 : decode b_Rv_init 50 = .ok (.return_, 1) := by decide +kernel
theorem d_Rv_begin_0 : decode b_Rv_begin 0 = .ok (.aload_n 0, 1) := by decide +kernel
theorem d_Rv_begin_1 : decode b_Rv_begin 1 = .ok (.getfield 20, 3) := by decide +kernel
theorem d_Rv_begin_4 : decode b_Rv_begin 4 = .ok (.invokevirtual 32, 3) := by decide +kernel
theorem d_Rv_begin_7 : decode b_Rv_begin 7 = .ok (.istore_n 1, 1) := by decide +kernel
theorem d_Rv_begin_8 : decode b_Rv_begin 8 = .ok (.aload_n 0, 1) := by decide +kernel
theorem d_Rv_begin_9 : decode b_Rv_begin 9 = .ok (.getfield 20, 3) := by decide +kernel
theorem d_Rv_begin_12 : decode b_Rv_begin 12 = .ok (.invokevirtual 38, 3) := by decide +kernel
theorem d_Rv_begin_15 : decode b_Rv_begin 15 = .ok (.iconst 4, 1) := by decide +kernel
theorem d_Rv_begin_16 : decode b_Rv_begin 16 = .ok (.if_icmp .ge 7, 3) := by decide +kernel
theorem d_Rv_begin_19 : decode b_Rv_begin 19 = .ok (.iload_n 1, 1) := by decide +kernel
theorem d_Rv_begin_20 : decode b_Rv_begin 20 = .ok (.ifCond .ne 11, 3) := by decide +kernel
theorem d_Rv_begin_23 : decode b_Rv_begin 23 = .ok (.new 41, 3) := by decide +kernel
theorem d_Rv_begin_26 : decode b_Rv_begin 26 = .ok (.dup, 1) := by decide +kernel
theorem d_Rv_begin_27 : decode b_Rv_begin 27 = .ok (.invokespecial 43, 3) := by decide +kernel
theorem d_Rv_begin_30 : decode b_Rv_begin 30 = .ok (.athrow, 1) := by decide +kernel
theorem d_Rv_begin_31 : decode b_Rv_begin 31 = .ok (.aload_n 0, 1) := by decide +kernel
theorem d_Rv_begin_32 : decode b_Rv_begin 32 = .ok (.getfield 21, 3) := by decide +kernel
theorem d_Rv_begin_35 : decode b_Rv_begin 35 = .ok (.iload_n 1, 1) := by decide +kernel
theorem d_Rv_begin_36 : decode b_Rv_begin 36 = .ok (.aload_n 0, 1) := by decide +kernel
theorem d_Rv_begin_37 : decode b_Rv_begin 37 = .ok (.getfield 20, 3) := by decide +kernel
theorem d_Rv_begin_40 : decode b_Rv_begin 40 = .ok (.invokevirtual 44, 3) := by decide +kernel
theorem d_Rv_begin_43 : decode b_Rv_begin 43 = .ok (.lastore, 1) := by decide +kernel
theorem d_Rv_begin_44 : decode b_Rv_begin 44 = .ok (.aload_n 0, 1) := by decide +kernel
theorem d_Rv_begin_45 : decode b_Rv_begin 45 = .ok (.getfield 25, 3) := by decide +kernel
theorem d_Rv_begin_48 : decode b_Rv_begin 48 = .ok (.iload_n 1, 1) := by decide +kernel
theorem d_Rv_begin_49 : decode b_Rv_begin 49 = .ok (.iconst 0, 1) := by decide +kernel
theorem d_Rv_begin_50 : decode b_Rv_begin 50 = .ok (.iastore, 1) := by decide +kernel
theorem d_Rv_begin_51 : decode b_Rv_begin 51 = .ok (.aload_n 0, 1) := by decide +kernel
theorem d_Rv_begin_52 : decode b_Rv_begin 52 = .ok (.getfield 20, 3) := by decide +kernel
theorem d_Rv_begin_55 : decode b_Rv_begin 55 = .ok (.getfield 48, 3) := by decide +kernel
theorem d_Rv_begin_58 : decode b_Rv_begin 58 = .ok (.iload_n 1, 1) := by decide +kernel
theorem d_Rv_begin_59 : decode b_Rv_begin 59 = .ok (.iconst 1, 1) := by decide +kernel
theorem d_Rv_begin_60 : decode b_Rv_begin 60 = .ok (.iastore, 1) := by decide +kernel
theorem d_Rv_begin_61 : decode b_Rv_begin 61 = .ok (.aload_n 0, 1) := by decide +kernel
theorem d_Rv_begin_62 : decode b_Rv_begin 62 = .ok (.getfield 12, 3) := by decide +kernel
theorem d_Rv_begin_65 : decode b_Rv_begin 65 = .ok (.bipush 6, 2) := by decide +kernel
theorem d_Rv_begin_67 : decode b_Rv_begin 67 = .ok (.invokevirtual 51, 3) := by decide +kernel
theorem d_Rv_begin_70 : decode b_Rv_begin 70 = .ok (.aload_n 0, 1) := by decide +kernel
theorem d_Rv_begin_71 : decode b_Rv_begin 71 = .ok (.getfield 12, 3) := by decide +kernel
theorem d_Rv_begin_74 : decode b_Rv_begin 74 = .ok (.bipush 6, 2) := by decide +kernel
theorem d_Rv_begin_76 : decode b_Rv_begin 76 = .ok (.iconst 0, 1) := by decide +kernel
theorem d_Rv_begin_77 : decode b_Rv_begin 77 = .ok (.invokevirtual 55, 3) := by decide +kernel
theorem d_Rv_begin_80 : decode b_Rv_begin 80 = .ok (.ifCond .eq 7, 3) := by decide +kernel
theorem d_Rv_begin_83 : decode b_Rv_begin 83 = .ok (.iload_n 1, 1) := by decide +kernel
theorem d_Rv_begin_84 : decode b_Rv_begin 84 = .ok (.goto 5, 3) := by decide +kernel
theorem d_Rv_begin_87 : decode b_Rv_begin 87 = .ok (.bipush (-9), 2) := by decide +kernel
theorem d_Rv_begin_89 : decode b_Rv_begin 89 = .ok (.ireturn, 1) := by decide +kernel
theorem d_Rv_demandRecord_0 : decode b_Rv_demandRecord 0 = .ok (.iload_n 0, 1) := by decide +kernel
theorem d_Rv_demandRecord_1 : decode b_Rv_demandRecord 1 = .ok (.ifCond .lt 9, 3) := by decide +kernel
theorem d_Rv_demandRecord_4 : decode b_Rv_demandRecord 4 = .ok (.iload_n 0, 1) := by decide +kernel
theorem d_Rv_demandRecord_5 : decode b_Rv_demandRecord 5 = .ok (.bipush 6, 2) := by decide +kernel
theorem d_Rv_demandRecord_7 : decode b_Rv_demandRecord 7 = .ok (.if_icmp .lt 11, 3) := by decide +kernel
theorem d_Rv_demandRecord_10 : decode b_Rv_demandRecord 10 = .ok (.new 74, 3) := by decide +kernel
theorem d_Rv_demandRecord_13 : decode b_Rv_demandRecord 13 = .ok (.dup, 1) := by decide +kernel
theorem d_Rv_demandRecord_14 : decode b_Rv_demandRecord 14 = .ok (.invokespecial 76, 3) := by decide +kernel
theorem d_Rv_demandRecord_17 : decode b_Rv_demandRecord 17 = .ok (.athrow, 1) := by decide +kernel
theorem d_Rv_demandRecord_18 : decode b_Rv_demandRecord 18 = .ok (.return_, 1) := by decide +kernel
theorem d_Rv_demandActive_0 : decode b_Rv_demandActive 0 = .ok (.iload_n 1, 1) := by decide +kernel
theorem d_Rv_demandActive_1 : decode b_Rv_demandActive 1 = .ok (.iconst 1, 1) := by decide +kernel
theorem d_Rv_demandActive_2 : decode b_Rv_demandActive 2 = .ok (.if_icmp .lt 22, 3) := by decide +kernel
theorem d_Rv_demandActive_5 : decode b_Rv_demandActive 5 = .ok (.iload_n 1, 1) := by decide +kernel
theorem d_Rv_demandActive_6 : decode b_Rv_demandActive 6 = .ok (.bipush 40, 2) := by decide +kernel
theorem d_Rv_demandActive_8 : decode b_Rv_demandActive 8 = .ok (.if_icmp .gt 16, 3) := by decide +kernel
theorem d_Rv_demandActive_11 : decode b_Rv_demandActive 11 = .ok (.aload_n 0, 1) := by decide +kernel
theorem d_Rv_demandActive_12 : decode b_Rv_demandActive 12 = .ok (.getfield 20, 3) := by decide +kernel
theorem d_Rv_demandActive_15 : decode b_Rv_demandActive 15 = .ok (.getfield 48, 3) := by decide +kernel
theorem d_Rv_demandActive_18 : decode b_Rv_demandActive 18 = .ok (.iload_n 1, 1) := by decide +kernel
theorem d_Rv_demandActive_19 : decode b_Rv_demandActive 19 = .ok (.iaload, 1) := by decide +kernel
theorem d_Rv_demandActive_20 : decode b_Rv_demandActive 20 = .ok (.iconst 1, 1) := by decide +kernel
theorem d_Rv_demandActive_21 : decode b_Rv_demandActive 21 = .ok (.if_icmp .eq 11, 3) := by decide +kernel
theorem d_Rv_demandActive_24 : decode b_Rv_demandActive 24 = .ok (.new 41, 3) := by decide +kernel
theorem d_Rv_demandActive_27 : decode b_Rv_demandActive 27 = .ok (.dup, 1) := by decide +kernel
theorem d_Rv_demandActive_28 : decode b_Rv_demandActive 28 = .ok (.invokespecial 43, 3) := by decide +kernel
theorem d_Rv_demandActive_31 : decode b_Rv_demandActive 31 = .ok (.athrow, 1) := by decide +kernel
theorem d_Rv_demandActive_32 : decode b_Rv_demandActive 32 = .ok (.return_, 1) := by decide +kernel
theorem d_Rv_seenBy_0 : decode b_Rv_seenBy 0 = .ok (.aload_n 0, 1) := by decide +kernel
theorem d_Rv_seenBy_1 : decode b_Rv_seenBy 1 = .ok (.getfield 21, 3) := by decide +kernel
theorem d_Rv_seenBy_4 : decode b_Rv_seenBy 4 = .ok (.iload_n 1, 1) := by decide +kernel
theorem d_Rv_seenBy_5 : decode b_Rv_seenBy 5 = .ok (.laload, 1) := by decide +kernel
theorem d_Rv_seenBy_6 : decode b_Rv_seenBy 6 = .ok (.lconst 1, 1) := by decide +kernel
theorem d_Rv_seenBy_7 : decode b_Rv_seenBy 7 = .ok (.iload_n 1, 1) := by decide +kernel
theorem d_Rv_seenBy_8 : decode b_Rv_seenBy 8 = .ok (.lshl, 1) := by decide +kernel
theorem d_Rv_seenBy_9 : decode b_Rv_seenBy 9 = .ok (.lor, 1) := by decide +kernel
theorem d_Rv_seenBy_10 : decode b_Rv_seenBy 10 = .ok (.lreturn, 1) := by decide +kernel
theorem d_Rv_placeSeen_0 : decode b_Rv_placeSeen 0 = .ok (.aload_n 0, 1) := by decide +kernel
theorem d_Rv_placeSeen_1 : decode b_Rv_placeSeen 1 = .ok (.getfield 20, 3) := by decide +kernel
theorem d_Rv_placeSeen_4 : decode b_Rv_placeSeen 4 = .ok (.aload_n 0, 1) := by decide +kernel
theorem d_Rv_placeSeen_5 : decode b_Rv_placeSeen 5 = .ok (.iload_n 1, 1) := by decide +kernel
theorem d_Rv_placeSeen_6 : decode b_Rv_placeSeen 6 = .ok (.invokevirtual 139, 3) := by decide +kernel
theorem d_Rv_placeSeen_9 : decode b_Rv_placeSeen 9 = .ok (.iload_n 2, 1) := by decide +kernel
theorem d_Rv_placeSeen_10 : decode b_Rv_placeSeen 10 = .ok (.invokevirtual 105, 3) := by decide +kernel
theorem d_Rv_placeSeen_13 : decode b_Rv_placeSeen 13 = .ok (.ireturn, 1) := by decide +kernel
theorem d_Rv_demandValue_0 : decode b_Rv_demandValue 0 = .ok (.iload_n 1, 1) := by decide +kernel
theorem d_Rv_demandValue_1 : decode b_Rv_demandValue 1 = .ok (.iconst (-1), 1) := by decide +kernel
theorem d_Rv_demandValue_2 : decode b_Rv_demandValue 2 = .ok (.if_icmp .eq 13, 3) := by decide +kernel
theorem d_Rv_demandValue_5 : decode b_Rv_demandValue 5 = .ok (.aload_n 0, 1) := by decide +kernel
theorem d_Rv_demandValue_6 : decode b_Rv_demandValue 6 = .ok (.getfield 118, 3) := by decide +kernel
theorem d_Rv_demandValue_9 : decode b_Rv_demandValue 9 = .ok (.iload_n 1, 1) := by decide +kernel
theorem d_Rv_demandValue_10 : decode b_Rv_demandValue 10 = .ok (.iaload, 1) := by decide +kernel
theorem d_Rv_demandValue_11 : decode b_Rv_demandValue 11 = .ok (.iconst (-1), 1) := by decide +kernel
theorem d_Rv_demandValue_12 : decode b_Rv_demandValue 12 = .ok (.if_icmp .ne 11, 3) := by decide +kernel
theorem d_Rv_demandValue_15 : decode b_Rv_demandValue 15 = .ok (.new 112, 3) := by decide +kernel
theorem d_Rv_demandValue_18 : decode b_Rv_demandValue 18 = .ok (.dup, 1) := by decide +kernel
theorem d_Rv_demandValue_19 : decode b_Rv_demandValue 19 = .ok (.invokespecial 114, 3) := by decide +kernel
theorem d_Rv_demandValue_22 : decode b_Rv_demandValue 22 = .ok (.athrow, 1) := by decide +kernel
theorem d_Rv_demandValue_23 : decode b_Rv_demandValue 23 = .ok (.aload_n 0, 1) := by decide +kernel
theorem d_Rv_demandValue_24 : decode b_Rv_demandValue 24 = .ok (.getfield 118, 3) := by decide +kernel
theorem d_Rv_demandValue_27 : decode b_Rv_demandValue 27 = .ok (.iload_n 1, 1) := by decide +kernel
theorem d_Rv_demandValue_28 : decode b_Rv_demandValue 28 = .ok (.iaload, 1) := by decide +kernel
theorem d_Rv_demandValue_29 : decode b_Rv_demandValue 29 = .ok (.ireturn, 1) := by decide +kernel
theorem d_Rv_read_0 : decode b_Rv_read 0 = .ok (.iload_n 2, 1) := by decide +kernel
theorem d_Rv_read_1 : decode b_Rv_read 1 = .ok (.invokestatic 59, 3) := by decide +kernel
theorem d_Rv_read_4 : decode b_Rv_read 4 = .ok (.aload_n 0, 1) := by decide +kernel
theorem d_Rv_read_5 : decode b_Rv_read 5 = .ok (.iload_n 1, 1) := by decide +kernel
theorem d_Rv_read_6 : decode b_Rv_read 6 = .ok (.invokevirtual 62, 3) := by decide +kernel
theorem d_Rv_read_9 : decode b_Rv_read 9 = .ok (.aload_n 0, 1) := by decide +kernel
theorem d_Rv_read_10 : decode b_Rv_read 10 = .ok (.getfield 20, 3) := by decide +kernel
theorem d_Rv_read_13 : decode b_Rv_read 13 = .ok (.aload_n 0, 1) := by decide +kernel
theorem d_Rv_read_14 : decode b_Rv_read 14 = .ok (.iload_n 1, 1) := by decide +kernel
theorem d_Rv_read_15 : decode b_Rv_read 15 = .ok (.iload_n 2, 1) := by decide +kernel
theorem d_Rv_read_16 : decode b_Rv_read 16 = .ok (.invokevirtual 65, 3) := by decide +kernel
theorem d_Rv_read_19 : decode b_Rv_read 19 = .ok (.invokestatic 69, 3) := by decide +kernel
theorem d_Rv_read_22 : decode b_Rv_read 22 = .ok (.ireturn, 1) := by decide +kernel
theorem d_Rv_pageOf_0 : decode b_Rv_pageOf 0 = .ok (.iload_n 0, 1) := by decide +kernel
theorem d_Rv_pageOf_1 : decode b_Rv_pageOf 1 = .ok (.bipush 6, 2) := by decide +kernel
theorem d_Rv_pageOf_3 : decode b_Rv_pageOf 3 = .ok (.if_icmp .ge 9, 3) := by decide +kernel
theorem d_Rv_pageOf_6 : decode b_Rv_pageOf 6 = .ok (.iload_n 0, 1) := by decide +kernel
theorem d_Rv_pageOf_7 : decode b_Rv_pageOf 7 = .ok (.iconst 2, 1) := by decide +kernel
theorem d_Rv_pageOf_8 : decode b_Rv_pageOf 8 = .ok (.idiv, 1) := by decide +kernel
theorem d_Rv_pageOf_9 : decode b_Rv_pageOf 9 = .ok (.goto 11, 3) := by decide +kernel
theorem d_Rv_pageOf_12 : decode b_Rv_pageOf 12 = .ok (.iconst 3, 1) := by decide +kernel
theorem d_Rv_pageOf_13 : decode b_Rv_pageOf 13 = .ok (.iload_n 0, 1) := by decide +kernel
theorem d_Rv_pageOf_14 : decode b_Rv_pageOf 14 = .ok (.bipush 6, 2) := by decide +kernel
theorem d_Rv_pageOf_16 : decode b_Rv_pageOf 16 = .ok (.isub, 1) := by decide +kernel
theorem d_Rv_pageOf_17 : decode b_Rv_pageOf 17 = .ok (.iconst 3, 1) := by decide +kernel
theorem d_Rv_pageOf_18 : decode b_Rv_pageOf 18 = .ok (.idiv, 1) := by decide +kernel
theorem d_Rv_pageOf_19 : decode b_Rv_pageOf 19 = .ok (.iadd, 1) := by decide +kernel
theorem d_Rv_pageOf_20 : decode b_Rv_pageOf 20 = .ok (.ireturn, 1) := by decide +kernel
theorem d_Rv_clean_0 : decode b_Rv_clean 0 = .ok (.iconst 0, 1) := by decide +kernel
theorem d_Rv_clean_1 : decode b_Rv_clean 1 = .ok (.istore_n 2, 1) := by decide +kernel
theorem d_Rv_clean_2 : decode b_Rv_clean 2 = .ok (.iload_n 2, 1) := by decide +kernel
theorem d_Rv_clean_3 : decode b_Rv_clean 3 = .ok (.bipush 15, 2) := by decide +kernel
theorem d_Rv_clean_5 : decode b_Rv_clean 5 = .ok (.if_icmp .ge 105, 3) := by decide +kernel
theorem d_Rv_clean_8 : decode b_Rv_clean 8 = .ok (.aload_n 0, 1) := by decide +kernel
theorem d_Rv_clean_9 : decode b_Rv_clean 9 = .ok (.getfield 20, 3) := by decide +kernel
theorem d_Rv_clean_12 : decode b_Rv_clean 12 = .ok (.iload_n 1, 1) := by decide +kernel
theorem d_Rv_clean_13 : decode b_Rv_clean 13 = .ok (.invokevirtual 172, 3) := by decide +kernel
theorem d_Rv_clean_16 : decode b_Rv_clean 16 = .ok (.ifCond .eq 94, 3) := by decide +kernel
theorem d_Rv_clean_19 : decode b_Rv_clean 19 = .ok (.aload_n 0, 1) := by decide +kernel
theorem d_Rv_clean_20 : decode b_Rv_clean 20 = .ok (.getfield 20, 3) := by decide +kernel
theorem d_Rv_clean_23 : decode b_Rv_clean 23 = .ok (.getfield 175, 3) := by decide +kernel
theorem d_Rv_clean_26 : decode b_Rv_clean 26 = .ok (.iload_n 1, 1) := by decide +kernel
theorem d_Rv_clean_27 : decode b_Rv_clean 27 = .ok (.iaload, 1) := by decide +kernel
theorem d_Rv_clean_28 : decode b_Rv_clean 28 = .ok (.istore_n 3, 1) := by decide +kernel
theorem d_Rv_clean_29 : decode b_Rv_clean 29 = .ok (.iload_n 3, 1) := by decide +kernel
theorem d_Rv_clean_30 : decode b_Rv_clean 30 = .ok (.iconst (-1), 1) := by decide +kernel
theorem d_Rv_clean_31 : decode b_Rv_clean 31 = .ok (.if_icmp .ne 14, 3) := by decide +kernel
theorem d_Rv_clean_34 : decode b_Rv_clean 34 = .ok (.aload_n 0, 1) := by decide +kernel
theorem d_Rv_clean_35 : decode b_Rv_clean 35 = .ok (.getfield 20, 3) := by decide +kernel
theorem d_Rv_clean_38 : decode b_Rv_clean 38 = .ok (.iload_n 1, 1) := by decide +kernel
theorem d_Rv_clean_39 : decode b_Rv_clean 39 = .ok (.invokevirtual 178, 3) := by decide +kernel
theorem d_Rv_clean_42 : decode b_Rv_clean 42 = .ok (.goto 51, 3) := by decide +kernel
theorem d_Rv_clean_45 : decode b_Rv_clean 45 = .ok (.aload_n 0, 1) := by decide +kernel
theorem d_Rv_clean_46 : decode b_Rv_clean 46 = .ok (.getfield 12, 3) := by decide +kernel
theorem d_Rv_clean_49 : decode b_Rv_clean 49 = .ok (.iload_n 1, 1) := by decide +kernel
theorem d_Rv_clean_50 : decode b_Rv_clean 50 = .ok (.invokestatic 159, 3) := by decide +kernel
theorem d_Rv_clean_53 : decode b_Rv_clean 53 = .ok (.iload_n 3, 1) := by decide +kernel
theorem d_Rv_clean_54 : decode b_Rv_clean 54 = .ok (.invokestatic 159, 3) := by decide +kernel
theorem d_Rv_clean_57 : decode b_Rv_clean 57 = .ok (.invokevirtual 162, 3) := by decide +kernel
theorem d_Rv_clean_60 : decode b_Rv_clean 60 = .ok (.ifCond .ne 5, 3) := by decide +kernel
theorem d_Rv_clean_63 : decode b_Rv_clean 63 = .ok (.iconst 0, 1) := by decide +kernel
theorem d_Rv_clean_64 : decode b_Rv_clean 64 = .ok (.ireturn, 1) := by decide +kernel
theorem d_Rv_clean_65 : decode b_Rv_clean 65 = .ok (.aload_n 0, 1) := by decide +kernel
theorem d_Rv_clean_66 : decode b_Rv_clean 66 = .ok (.getfield 20, 3) := by decide +kernel
theorem d_Rv_clean_69 : decode b_Rv_clean 69 = .ok (.iload_n 3, 1) := by decide +kernel
theorem d_Rv_clean_70 : decode b_Rv_clean 70 = .ok (.iload_n 1, 1) := by decide +kernel
theorem d_Rv_clean_71 : decode b_Rv_clean 71 = .ok (.invokevirtual 165, 3) := by decide +kernel
theorem d_Rv_clean_74 : decode b_Rv_clean 74 = .ok (.aload_n 0, 1) := by decide +kernel
theorem d_Rv_clean_75 : decode b_Rv_clean 75 = .ok (.getfield 20, 3) := by decide +kernel
theorem d_Rv_clean_78 : decode b_Rv_clean 78 = .ok (.iload_n 3, 1) := by decide +kernel
theorem d_Rv_clean_79 : decode b_Rv_clean 79 = .ok (.invokevirtual 178, 3) := by decide +kernel
theorem d_Rv_clean_82 : decode b_Rv_clean 82 = .ok (.aload_n 0, 1) := by decide +kernel
theorem d_Rv_clean_83 : decode b_Rv_clean 83 = .ok (.getfield 12, 3) := by decide +kernel
theorem d_Rv_clean_86 : decode b_Rv_clean 86 = .ok (.iload_n 3, 1) := by decide +kernel
theorem d_Rv_clean_87 : decode b_Rv_clean 87 = .ok (.invokestatic 159, 3) := by decide +kernel
theorem d_Rv_clean_90 : decode b_Rv_clean 90 = .ok (.invokevirtual 51, 3) := by decide +kernel
theorem d_Rv_clean_93 : decode b_Rv_clean 93 = .ok (.aload_n 0, 1) := by decide +kernel
theorem d_Rv_clean_94 : decode b_Rv_clean 94 = .ok (.getfield 12, 3) := by decide +kernel
theorem d_Rv_clean_97 : decode b_Rv_clean 97 = .ok (.iload_n 1, 1) := by decide +kernel
theorem d_Rv_clean_98 : decode b_Rv_clean 98 = .ok (.invokestatic 159, 3) := by decide +kernel
theorem d_Rv_clean_101 : decode b_Rv_clean 101 = .ok (.invokevirtual 51, 3) := by decide +kernel
theorem d_Rv_clean_104 : decode b_Rv_clean 104 = .ok (.iinc 2 1, 3) := by decide +kernel
theorem d_Rv_clean_107 : decode b_Rv_clean 107 = .ok (.goto (-105), 3) := by decide +kernel
theorem d_Rv_clean_110 : decode b_Rv_clean 110 = .ok (.iconst 1, 1) := by decide +kernel
theorem d_Rv_clean_111 : decode b_Rv_clean 111 = .ok (.ireturn, 1) := by decide +kernel
theorem d_Rv_changedBy_0 : decode b_Rv_changedBy 0 = .ok (.aload_n 0, 1) := by decide +kernel
theorem d_Rv_changedBy_1 : decode b_Rv_changedBy 1 = .ok (.getfield 12, 3) := by decide +kernel
theorem d_Rv_changedBy_4 : decode b_Rv_changedBy 4 = .ok (.iload_n 2, 1) := by decide +kernel
theorem d_Rv_changedBy_5 : decode b_Rv_changedBy 5 = .ok (.invokestatic 159, 3) := by decide +kernel
theorem d_Rv_changedBy_8 : decode b_Rv_changedBy 8 = .ok (.invokevirtual 51, 3) := by decide +kernel
theorem d_Rv_changedBy_11 : decode b_Rv_changedBy 11 = .ok (.aload_n 0, 1) := by decide +kernel
theorem d_Rv_changedBy_12 : decode b_Rv_changedBy 12 = .ok (.getfield 25, 3) := by decide +kernel
theorem d_Rv_changedBy_15 : decode b_Rv_changedBy 15 = .ok (.iload_n 1, 1) := by decide +kernel
theorem d_Rv_changedBy_16 : decode b_Rv_changedBy 16 = .ok (.dup2, 1) := by decide +kernel
theorem d_Rv_changedBy_17 : decode b_Rv_changedBy 17 = .ok (.iaload, 1) := by decide +kernel
theorem d_Rv_changedBy_18 : decode b_Rv_changedBy 18 = .ok (.iconst 1, 1) := by decide +kernel
theorem d_Rv_changedBy_19 : decode b_Rv_changedBy 19 = .ok (.iload_n 2, 1) := by decide +kernel
theorem d_Rv_changedBy_20 : decode b_Rv_changedBy 20 = .ok (.invokestatic 159, 3) := by decide +kernel
theorem d_Rv_changedBy_23 : decode b_Rv_changedBy 23 = .ok (.ishl, 1) := by decide +kernel
theorem d_Rv_changedBy_24 : decode b_Rv_changedBy 24 = .ok (.ior, 1) := by decide +kernel
theorem d_Rv_changedBy_25 : decode b_Rv_changedBy 25 = .ok (.iastore, 1) := by decide +kernel
theorem d_Rv_changedBy_26 : decode b_Rv_changedBy 26 = .ok (.return_, 1) := by decide +kernel
theorem d_Rv_change_0 : decode b_Rv_change 0 = .ok (.aload_n 0, 1) := by decide +kernel
theorem d_Rv_change_1 : decode b_Rv_change 1 = .ok (.iload_n 2, 1) := by decide +kernel
theorem d_Rv_change_2 : decode b_Rv_change 2 = .ok (.invokevirtual 143, 3) := by decide +kernel
theorem d_Rv_change_5 : decode b_Rv_change 5 = .ok (.ifCond .ne 6, 3) := by decide +kernel
theorem d_Rv_change_8 : decode b_Rv_change 8 = .ok (.bipush (-9), 2) := by decide +kernel
theorem d_Rv_change_10 : decode b_Rv_change 10 = .ok (.ireturn, 1) := by decide +kernel
theorem d_Rv_change_11 : decode b_Rv_change 11 = .ok (.aload_n 0, 1) := by decide +kernel
theorem d_Rv_change_12 : decode b_Rv_change 12 = .ok (.getfield 20, 3) := by decide +kernel
theorem d_Rv_change_15 : decode b_Rv_change 15 = .ok (.getfield 115, 3) := by decide +kernel
theorem d_Rv_change_18 : decode b_Rv_change 18 = .ok (.iload_n 2, 1) := by decide +kernel
theorem d_Rv_change_19 : decode b_Rv_change 19 = .ok (.iaload, 1) := by decide +kernel
theorem d_Rv_change_20 : decode b_Rv_change 20 = .ok (.istore 4, 2) := by decide +kernel
theorem d_Rv_change_22 : decode b_Rv_change 22 = .ok (.iload 4, 2) := by decide +kernel
theorem d_Rv_change_24 : decode b_Rv_change 24 = .ok (.ifCond .eq 24, 3) := by decide +kernel
theorem d_Rv_change_27 : decode b_Rv_change 27 = .ok (.aload_n 0, 1) := by decide +kernel
theorem d_Rv_change_28 : decode b_Rv_change 28 = .ok (.iload_n 1, 1) := by decide +kernel
theorem d_Rv_change_29 : decode b_Rv_change 29 = .ok (.invokevirtual 139, 3) := by decide +kernel
theorem d_Rv_change_32 : decode b_Rv_change 32 = .ok (.iload 4, 2) := by decide +kernel
theorem d_Rv_change_34 : decode b_Rv_change 34 = .ok (.invokestatic 124, 3) := by decide +kernel
theorem d_Rv_change_37 : decode b_Rv_change 37 = .ok (.ifCond .ne 11, 3) := by decide +kernel
theorem d_Rv_change_40 : decode b_Rv_change 40 = .ok (.new 146, 3) := by decide +kernel
theorem d_Rv_change_43 : decode b_Rv_change 43 = .ok (.dup, 1) := by decide +kernel
theorem d_Rv_change_44 : decode b_Rv_change 44 = .ok (.invokespecial 148, 3) := by decide +kernel
theorem d_Rv_change_47 : decode b_Rv_change 47 = .ok (.athrow, 1) := by decide +kernel
theorem d_Rv_change_48 : decode b_Rv_change 48 = .ok (.iload 4, 2) := by decide +kernel
theorem d_Rv_change_50 : decode b_Rv_change 50 = .ok (.ifCond .ne 17, 3) := by decide +kernel
theorem d_Rv_change_53 : decode b_Rv_change 53 = .ok (.aload_n 0, 1) := by decide +kernel
theorem d_Rv_change_54 : decode b_Rv_change 54 = .ok (.getfield 20, 3) := by decide +kernel
theorem d_Rv_change_57 : decode b_Rv_change 57 = .ok (.iload_n 2, 1) := by decide +kernel
theorem d_Rv_change_58 : decode b_Rv_change 58 = .ok (.iload_n 1, 1) := by decide +kernel
theorem d_Rv_change_59 : decode b_Rv_change 59 = .ok (.iload_n 3, 1) := by decide +kernel
theorem d_Rv_change_60 : decode b_Rv_change 60 = .ok (.iconst (-1), 1) := by decide +kernel
theorem d_Rv_change_61 : decode b_Rv_change 61 = .ok (.invokevirtual 149, 3) := by decide +kernel
theorem d_Rv_change_64 : decode b_Rv_change 64 = .ok (.goto 96, 3) := by decide +kernel
theorem d_Rv_change_67 : decode b_Rv_change 67 = .ok (.iload 4, 2) := by decide +kernel
theorem d_Rv_change_69 : decode b_Rv_change 69 = .ok (.iload_n 1, 1) := by decide +kernel
theorem d_Rv_change_70 : decode b_Rv_change 70 = .ok (.if_icmp .ne 16, 3) := by decide +kernel
theorem d_Rv_change_73 : decode b_Rv_change 73 = .ok (.aload_n 0, 1) := by decide +kernel
theorem d_Rv_change_74 : decode b_Rv_change 74 = .ok (.getfield 20, 3) := by decide +kernel
theorem d_Rv_change_77 : decode b_Rv_change 77 = .ok (.getfield 118, 3) := by decide +kernel
theorem d_Rv_change_80 : decode b_Rv_change 80 = .ok (.iload_n 2, 1) := by decide +kernel
theorem d_Rv_change_81 : decode b_Rv_change 81 = .ok (.iload_n 3, 1) := by decide +kernel
theorem d_Rv_change_82 : decode b_Rv_change 82 = .ok (.iastore, 1) := by decide +kernel
theorem d_Rv_change_83 : decode b_Rv_change 83 = .ok (.goto 77, 3) := by decide +kernel
theorem d_Rv_change_86 : decode b_Rv_change 86 = .ok (.aload_n 0, 1) := by decide +kernel
theorem d_Rv_change_87 : decode b_Rv_change 87 = .ok (.getfield 20, 3) := by decide +kernel
theorem d_Rv_change_90 : decode b_Rv_change 90 = .ok (.invokevirtual 153, 3) := by decide +kernel
theorem d_Rv_change_93 : decode b_Rv_change 93 = .ok (.istore 5, 2) := by decide +kernel
theorem d_Rv_change_95 : decode b_Rv_change 95 = .ok (.iload 5, 2) := by decide +kernel
theorem d_Rv_change_97 : decode b_Rv_change 97 = .ok (.iconst (-1), 1) := by decide +kernel
theorem d_Rv_change_98 : decode b_Rv_change 98 = .ok (.if_icmp .ne 11, 3) := by decide +kernel
theorem d_Rv_change_101 : decode b_Rv_change 101 = .ok (.new 156, 3) := by decide +kernel
theorem d_Rv_change_104 : decode b_Rv_change 104 = .ok (.dup, 1) := by decide +kernel
theorem d_Rv_change_105 : decode b_Rv_change 105 = .ok (.invokespecial 158, 3) := by decide +kernel
theorem d_Rv_change_108 : decode b_Rv_change 108 = .ok (.athrow, 1) := by decide +kernel
theorem d_Rv_change_109 : decode b_Rv_change 109 = .ok (.aload_n 0, 1) := by decide +kernel
theorem d_Rv_change_110 : decode b_Rv_change 110 = .ok (.getfield 12, 3) := by decide +kernel
theorem d_Rv_change_113 : decode b_Rv_change 113 = .ok (.iload 5, 2) := by decide +kernel
theorem d_Rv_change_115 : decode b_Rv_change 115 = .ok (.invokestatic 159, 3) := by decide +kernel
theorem d_Rv_change_118 : decode b_Rv_change 118 = .ok (.iload_n 2, 1) := by decide +kernel
theorem d_Rv_change_119 : decode b_Rv_change 119 = .ok (.invokestatic 159, 3) := by decide +kernel
theorem d_Rv_change_122 : decode b_Rv_change 122 = .ok (.invokevirtual 162, 3) := by decide +kernel
theorem d_Rv_change_125 : decode b_Rv_change 125 = .ok (.ifCond .ne 6, 3) := by decide +kernel
theorem d_Rv_change_128 : decode b_Rv_change 128 = .ok (.bipush (-9), 2) := by decide +kernel
theorem d_Rv_change_130 : decode b_Rv_change 130 = .ok (.ireturn, 1) := by decide +kernel
theorem d_Rv_change_131 : decode b_Rv_change 131 = .ok (.aload_n 0, 1) := by decide +kernel
theorem d_Rv_change_132 : decode b_Rv_change 132 = .ok (.getfield 20, 3) := by decide +kernel
theorem d_Rv_change_135 : decode b_Rv_change 135 = .ok (.iload_n 2, 1) := by decide +kernel
theorem d_Rv_change_136 : decode b_Rv_change 136 = .ok (.iload 5, 2) := by decide +kernel
theorem d_Rv_change_138 : decode b_Rv_change 138 = .ok (.invokevirtual 165, 3) := by decide +kernel
theorem d_Rv_change_141 : decode b_Rv_change 141 = .ok (.aload_n 0, 1) := by decide +kernel
theorem d_Rv_change_142 : decode b_Rv_change 142 = .ok (.getfield 20, 3) := by decide +kernel
theorem d_Rv_change_145 : decode b_Rv_change 145 = .ok (.iload_n 2, 1) := by decide +kernel
theorem d_Rv_change_146 : decode b_Rv_change 146 = .ok (.iload_n 1, 1) := by decide +kernel
theorem d_Rv_change_147 : decode b_Rv_change 147 = .ok (.iload_n 3, 1) := by decide +kernel
theorem d_Rv_change_148 : decode b_Rv_change 148 = .ok (.iload 5, 2) := by decide +kernel
theorem d_Rv_change_150 : decode b_Rv_change 150 = .ok (.invokevirtual 149, 3) := by decide +kernel
theorem d_Rv_change_153 : decode b_Rv_change 153 = .ok (.aload_n 0, 1) := by decide +kernel
theorem d_Rv_change_154 : decode b_Rv_change 154 = .ok (.iload_n 1, 1) := by decide +kernel
theorem d_Rv_change_155 : decode b_Rv_change 155 = .ok (.iload 5, 2) := by decide +kernel
theorem d_Rv_change_157 : decode b_Rv_change 157 = .ok (.invokevirtual 169, 3) := by decide +kernel
theorem d_Rv_change_160 : decode b_Rv_change 160 = .ok (.aload_n 0, 1) := by decide +kernel
theorem d_Rv_change_161 : decode b_Rv_change 161 = .ok (.iload_n 1, 1) := by decide +kernel
theorem d_Rv_change_162 : decode b_Rv_change 162 = .ok (.iload_n 2, 1) := by decide +kernel
theorem d_Rv_change_163 : decode b_Rv_change 163 = .ok (.invokevirtual 169, 3) := by decide +kernel
theorem d_Rv_change_166 : decode b_Rv_change 166 = .ok (.iconst 1, 1) := by decide +kernel
theorem d_Rv_change_167 : decode b_Rv_change 167 = .ok (.ireturn, 1) := by decide +kernel
theorem d_Rv_write_0 : decode b_Rv_write 0 = .ok (.iload_n 2, 1) := by decide +kernel
theorem d_Rv_write_1 : decode b_Rv_write 1 = .ok (.invokestatic 59, 3) := by decide +kernel
theorem d_Rv_write_4 : decode b_Rv_write 4 = .ok (.iload_n 3, 1) := by decide +kernel
theorem d_Rv_write_5 : decode b_Rv_write 5 = .ok (.ifCond .lt 9, 3) := by decide +kernel
theorem d_Rv_write_8 : decode b_Rv_write 8 = .ok (.iload_n 3, 1) := by decide +kernel
theorem d_Rv_write_9 : decode b_Rv_write 9 = .ok (.ldc 73, 2) := by decide +kernel
theorem d_Rv_write_11 : decode b_Rv_write 11 = .ok (.if_icmp .le 11, 3) := by decide +kernel
theorem d_Rv_write_14 : decode b_Rv_write 14 = .ok (.new 74, 3) := by decide +kernel
theorem d_Rv_write_17 : decode b_Rv_write 17 = .ok (.dup, 1) := by decide +kernel
theorem d_Rv_write_18 : decode b_Rv_write 18 = .ok (.invokespecial 76, 3) := by decide +kernel
theorem d_Rv_write_21 : decode b_Rv_write 21 = .ok (.athrow, 1) := by decide +kernel
theorem d_Rv_write_22 : decode b_Rv_write 22 = .ok (.aload_n 0, 1) := by decide +kernel
theorem d_Rv_write_23 : decode b_Rv_write 23 = .ok (.iload_n 1, 1) := by decide +kernel
theorem d_Rv_write_24 : decode b_Rv_write 24 = .ok (.invokevirtual 62, 3) := by decide +kernel
theorem d_Rv_write_27 : decode b_Rv_write 27 = .ok (.aload_n 0, 1) := by decide +kernel
theorem d_Rv_write_28 : decode b_Rv_write 28 = .ok (.iload_n 1, 1) := by decide +kernel
theorem d_Rv_write_29 : decode b_Rv_write 29 = .ok (.iload_n 2, 1) := by decide +kernel
theorem d_Rv_write_30 : decode b_Rv_write 30 = .ok (.iload_n 3, 1) := by decide +kernel
theorem d_Rv_write_31 : decode b_Rv_write 31 = .ok (.invokevirtual 77, 3) := by decide +kernel
theorem d_Rv_write_34 : decode b_Rv_write 34 = .ok (.ireturn, 1) := by decide +kernel
theorem d_Rv_erase_0 : decode b_Rv_erase 0 = .ok (.iload_n 2, 1) := by decide +kernel
theorem d_Rv_erase_1 : decode b_Rv_erase 1 = .ok (.invokestatic 59, 3) := by decide +kernel
theorem d_Rv_erase_4 : decode b_Rv_erase 4 = .ok (.aload_n 0, 1) := by decide +kernel
theorem d_Rv_erase_5 : decode b_Rv_erase 5 = .ok (.iload_n 1, 1) := by decide +kernel
theorem d_Rv_erase_6 : decode b_Rv_erase 6 = .ok (.invokevirtual 62, 3) := by decide +kernel
theorem d_Rv_erase_9 : decode b_Rv_erase 9 = .ok (.aload_n 0, 1) := by decide +kernel
theorem d_Rv_erase_10 : decode b_Rv_erase 10 = .ok (.getfield 20, 3) := by decide +kernel
theorem d_Rv_erase_13 : decode b_Rv_erase 13 = .ok (.aload_n 0, 1) := by decide +kernel
theorem d_Rv_erase_14 : decode b_Rv_erase 14 = .ok (.iload_n 1, 1) := by decide +kernel
theorem d_Rv_erase_15 : decode b_Rv_erase 15 = .ok (.iload_n 2, 1) := by decide +kernel
theorem d_Rv_erase_16 : decode b_Rv_erase 16 = .ok (.invokevirtual 65, 3) := by decide +kernel
theorem d_Rv_erase_19 : decode b_Rv_erase 19 = .ok (.invokestatic 69, 3) := by decide +kernel
theorem d_Rv_erase_22 : decode b_Rv_erase 22 = .ok (.pop, 1) := by decide +kernel
theorem d_Rv_erase_23 : decode b_Rv_erase 23 = .ok (.aload_n 0, 1) := by decide +kernel
theorem d_Rv_erase_24 : decode b_Rv_erase 24 = .ok (.iload_n 1, 1) := by decide +kernel
theorem d_Rv_erase_25 : decode b_Rv_erase 25 = .ok (.iload_n 2, 1) := by decide +kernel
theorem d_Rv_erase_26 : decode b_Rv_erase 26 = .ok (.iconst (-1), 1) := by decide +kernel
theorem d_Rv_erase_27 : decode b_Rv_erase 27 = .ok (.invokevirtual 77, 3) := by decide +kernel
theorem d_Rv_erase_30 : decode b_Rv_erase 30 = .ok (.ireturn, 1) := by decide +kernel
theorem d_Rv_commit_0 : decode b_Rv_commit 0 = .ok (.aload_n 0, 1) := by decide +kernel
theorem d_Rv_commit_1 : decode b_Rv_commit 1 = .ok (.iload_n 1, 1) := by decide +kernel
theorem d_Rv_commit_2 : decode b_Rv_commit 2 = .ok (.invokevirtual 62, 3) := by decide +kernel
theorem d_Rv_commit_5 : decode b_Rv_commit 5 = .ok (.aload_n 0, 1) := by decide +kernel
theorem d_Rv_commit_6 : decode b_Rv_commit 6 = .ok (.getfield 12, 3) := by decide +kernel
theorem d_Rv_commit_9 : decode b_Rv_commit 9 = .ok (.getfield 81, 3) := by decide +kernel
theorem d_Rv_commit_12 : decode b_Rv_commit 12 = .ok (.istore_n 2, 1) := by decide +kernel
theorem d_Rv_commit_13 : decode b_Rv_commit 13 = .ok (.aload_n 0, 1) := by decide +kernel
theorem d_Rv_commit_14 : decode b_Rv_commit 14 = .ok (.getfield 12, 3) := by decide +kernel
theorem d_Rv_commit_17 : decode b_Rv_commit 17 = .ok (.aload_n 0, 1) := by decide +kernel
theorem d_Rv_commit_18 : decode b_Rv_commit 18 = .ok (.getfield 25, 3) := by decide +kernel
theorem d_Rv_commit_21 : decode b_Rv_commit 21 = .ok (.iload_n 1, 1) := by decide +kernel
theorem d_Rv_commit_22 : decode b_Rv_commit 22 = .ok (.iaload, 1) := by decide +kernel
theorem d_Rv_commit_23 : decode b_Rv_commit 23 = .ok (.invokevirtual 85, 3) := by decide +kernel
theorem d_Rv_commit_26 : decode b_Rv_commit 26 = .ok (.ifCond .ne 6, 3) := by decide +kernel
theorem d_Rv_commit_29 : decode b_Rv_commit 29 = .ok (.bipush (-9), 2) := by decide +kernel
theorem d_Rv_commit_31 : decode b_Rv_commit 31 = .ok (.ireturn, 1) := by decide +kernel
theorem d_Rv_commit_32 : decode b_Rv_commit 32 = .ok (.aload_n 0, 1) := by decide +kernel
theorem d_Rv_commit_33 : decode b_Rv_commit 33 = .ok (.getfield 20, 3) := by decide +kernel
theorem d_Rv_commit_36 : decode b_Rv_commit 36 = .ok (.getfield 48, 3) := by decide +kernel
theorem d_Rv_commit_39 : decode b_Rv_commit 39 = .ok (.iload_n 1, 1) := by decide +kernel
theorem d_Rv_commit_40 : decode b_Rv_commit 40 = .ok (.iconst 2, 1) := by decide +kernel
theorem d_Rv_commit_41 : decode b_Rv_commit 41 = .ok (.iastore, 1) := by decide +kernel
theorem d_Rv_commit_42 : decode b_Rv_commit 42 = .ok (.aload_n 0, 1) := by decide +kernel
theorem d_Rv_commit_43 : decode b_Rv_commit 43 = .ok (.getfield 12, 3) := by decide +kernel
theorem d_Rv_commit_46 : decode b_Rv_commit 46 = .ok (.bipush 6, 2) := by decide +kernel
theorem d_Rv_commit_48 : decode b_Rv_commit 48 = .ok (.invokevirtual 51, 3) := by decide +kernel
theorem d_Rv_commit_51 : decode b_Rv_commit 51 = .ok (.aload_n 0, 1) := by decide +kernel
theorem d_Rv_commit_52 : decode b_Rv_commit 52 = .ok (.getfield 12, 3) := by decide +kernel
theorem d_Rv_commit_55 : decode b_Rv_commit 55 = .ok (.bipush 6, 2) := by decide +kernel
theorem d_Rv_commit_57 : decode b_Rv_commit 57 = .ok (.iconst 0, 1) := by decide +kernel
theorem d_Rv_commit_58 : decode b_Rv_commit 58 = .ok (.invokevirtual 55, 3) := by decide +kernel
theorem d_Rv_commit_61 : decode b_Rv_commit 61 = .ok (.ifCond .eq 15, 3) := by decide +kernel
theorem d_Rv_commit_64 : decode b_Rv_commit 64 = .ok (.aload_n 0, 1) := by decide +kernel
theorem d_Rv_commit_65 : decode b_Rv_commit 65 = .ok (.getfield 12, 3) := by decide +kernel
theorem d_Rv_commit_68 : decode b_Rv_commit 68 = .ok (.getfield 81, 3) := by decide +kernel
theorem d_Rv_commit_71 : decode b_Rv_commit 71 = .ok (.iload_n 2, 1) := by decide +kernel
theorem d_Rv_commit_72 : decode b_Rv_commit 72 = .ok (.isub, 1) := by decide +kernel
theorem d_Rv_commit_73 : decode b_Rv_commit 73 = .ok (.goto 5, 3) := by decide +kernel
theorem d_Rv_commit_76 : decode b_Rv_commit 76 = .ok (.bipush (-9), 2) := by decide +kernel
theorem d_Rv_commit_78 : decode b_Rv_commit 78 = .ok (.ireturn, 1) := by decide +kernel
theorem d_Rv_rollback_0 : decode b_Rv_rollback 0 = .ok (.aload_n 0, 1) := by decide +kernel
theorem d_Rv_rollback_1 : decode b_Rv_rollback 1 = .ok (.iload_n 1, 1) := by decide +kernel
theorem d_Rv_rollback_2 : decode b_Rv_rollback 2 = .ok (.invokevirtual 62, 3) := by decide +kernel
theorem d_Rv_rollback_5 : decode b_Rv_rollback 5 = .ok (.aload_n 0, 1) := by decide +kernel
theorem d_Rv_rollback_6 : decode b_Rv_rollback 6 = .ok (.getfield 20, 3) := by decide +kernel
theorem d_Rv_rollback_9 : decode b_Rv_rollback 9 = .ok (.getfield 48, 3) := by decide +kernel
theorem d_Rv_rollback_12 : decode b_Rv_rollback 12 = .ok (.iload_n 1, 1) := by decide +kernel
theorem d_Rv_rollback_13 : decode b_Rv_rollback 13 = .ok (.iconst 3, 1) := by decide +kernel
theorem d_Rv_rollback_14 : decode b_Rv_rollback 14 = .ok (.iastore, 1) := by decide +kernel
theorem d_Rv_rollback_15 : decode b_Rv_rollback 15 = .ok (.aload_n 0, 1) := by decide +kernel
theorem d_Rv_rollback_16 : decode b_Rv_rollback 16 = .ok (.getfield 12, 3) := by decide +kernel
theorem d_Rv_rollback_19 : decode b_Rv_rollback 19 = .ok (.bipush 6, 2) := by decide +kernel
theorem d_Rv_rollback_21 : decode b_Rv_rollback 21 = .ok (.invokevirtual 51, 3) := by decide +kernel
theorem d_Rv_rollback_24 : decode b_Rv_rollback 24 = .ok (.iconst 1, 1) := by decide +kernel
theorem d_Rv_rollback_25 : decode b_Rv_rollback 25 = .ok (.ireturn, 1) := by decide +kernel
theorem d_Rv_committedForAll_0 : decode b_Rv_committedForAll 0 = .ok (.aload_n 0, 1) := by decide +kernel
theorem d_Rv_committedForAll_1 : decode b_Rv_committedForAll 1 = .ok (.getfield 20, 3) := by decide +kernel
theorem d_Rv_committedForAll_4 : decode b_Rv_committedForAll 4 = .ok (.invokevirtual 44, 3) := by decide +kernel
theorem d_Rv_committedForAll_7 : decode b_Rv_committedForAll 7 = .ok (.lstore_n 1, 1) := by decide +kernel
theorem d_Rv_committedForAll_8 : decode b_Rv_committedForAll 8 = .ok (.iconst 1, 1) := by decide +kernel
theorem d_Rv_committedForAll_9 : decode b_Rv_committedForAll 9 = .ok (.istore_n 3, 1) := by decide +kernel
theorem d_Rv_committedForAll_10 : decode b_Rv_committedForAll 10 = .ok (.iload_n 3, 1) := by decide +kernel
theorem d_Rv_committedForAll_11 : decode b_Rv_committedForAll 11 = .ok (.bipush 40, 2) := by decide +kernel
theorem d_Rv_committedForAll_13 : decode b_Rv_committedForAll 13 = .ok (.if_icmp .gt 31, 3) := by decide +kernel
theorem d_Rv_committedForAll_16 : decode b_Rv_committedForAll 16 = .ok (.aload_n 0, 1) := by decide +kernel
theorem d_Rv_committedForAll_17 : decode b_Rv_committedForAll 17 = .ok (.getfield 20, 3) := by decide +kernel
theorem d_Rv_committedForAll_20 : decode b_Rv_committedForAll 20 = .ok (.getfield 48, 3) := by decide +kernel
theorem d_Rv_committedForAll_23 : decode b_Rv_committedForAll 23 = .ok (.iload_n 3, 1) := by decide +kernel
theorem d_Rv_committedForAll_24 : decode b_Rv_committedForAll 24 = .ok (.iaload, 1) := by decide +kernel
theorem d_Rv_committedForAll_25 : decode b_Rv_committedForAll 25 = .ok (.iconst 1, 1) := by decide +kernel
theorem d_Rv_committedForAll_26 : decode b_Rv_committedForAll 26 = .ok (.if_icmp .ne 12, 3) := by decide +kernel
theorem d_Rv_committedForAll_29 : decode b_Rv_committedForAll 29 = .ok (.lload_n 1, 1) := by decide +kernel
theorem d_Rv_committedForAll_30 : decode b_Rv_committedForAll 30 = .ok (.aload_n 0, 1) := by decide +kernel
theorem d_Rv_committedForAll_31 : decode b_Rv_committedForAll 31 = .ok (.getfield 21, 3) := by decide +kernel
theorem d_Rv_committedForAll_34 : decode b_Rv_committedForAll 34 = .ok (.iload_n 3, 1) := by decide +kernel
theorem d_Rv_committedForAll_35 : decode b_Rv_committedForAll 35 = .ok (.laload, 1) := by decide +kernel
theorem d_Rv_committedForAll_36 : decode b_Rv_committedForAll 36 = .ok (.land, 1) := by decide +kernel
theorem d_Rv_committedForAll_37 : decode b_Rv_committedForAll 37 = .ok (.lstore_n 1, 1) := by decide +kernel
theorem d_Rv_committedForAll_38 : decode b_Rv_committedForAll 38 = .ok (.iinc 3 1, 3) := by decide +kernel
theorem d_Rv_committedForAll_41 : decode b_Rv_committedForAll 41 = .ok (.goto (-31), 3) := by decide +kernel
theorem d_Rv_committedForAll_44 : decode b_Rv_committedForAll 44 = .ok (.lload_n 1, 1) := by decide +kernel
theorem d_Rv_committedForAll_45 : decode b_Rv_committedForAll 45 = .ok (.lreturn, 1) := by decide +kernel
theorem d_Rv_cutBehind_0 : decode b_Rv_cutBehind 0 = .ok (.aload_n 0, 1) := by decide +kernel
theorem d_Rv_cutBehind_1 : decode b_Rv_cutBehind 1 = .ok (.getfield 20, 3) := by decide +kernel
theorem d_Rv_cutBehind_4 : decode b_Rv_cutBehind 4 = .ok (.iload_n 2, 1) := by decide +kernel
theorem d_Rv_cutBehind_5 : decode b_Rv_cutBehind 5 = .ok (.aload_n 0, 1) := by decide +kernel
theorem d_Rv_cutBehind_6 : decode b_Rv_cutBehind 6 = .ok (.getfield 29, 3) := by decide +kernel
theorem d_Rv_cutBehind_9 : decode b_Rv_cutBehind 9 = .ok (.invokevirtual 187, 3) := by decide +kernel
theorem d_Rv_cutBehind_12 : decode b_Rv_cutBehind 12 = .ok (.istore_n 3, 1) := by decide +kernel
theorem d_Rv_cutBehind_13 : decode b_Rv_cutBehind 13 = .ok (.aload_n 0, 1) := by decide +kernel
theorem d_Rv_cutBehind_14 : decode b_Rv_cutBehind 14 = .ok (.getfield 20, 3) := by decide +kernel
theorem d_Rv_cutBehind_17 : decode b_Rv_cutBehind 17 = .ok (.getfield 175, 3) := by decide +kernel
theorem d_Rv_cutBehind_20 : decode b_Rv_cutBehind 20 = .ok (.iload_n 2, 1) := by decide +kernel
theorem d_Rv_cutBehind_21 : decode b_Rv_cutBehind 21 = .ok (.iaload, 1) := by decide +kernel
theorem d_Rv_cutBehind_22 : decode b_Rv_cutBehind 22 = .ok (.iconst (-1), 1) := by decide +kernel
theorem d_Rv_cutBehind_23 : decode b_Rv_cutBehind 23 = .ok (.if_icmp .eq 24, 3) := by decide +kernel
theorem d_Rv_cutBehind_26 : decode b_Rv_cutBehind 26 = .ok (.aload_n 0, 1) := by decide +kernel
theorem d_Rv_cutBehind_27 : decode b_Rv_cutBehind 27 = .ok (.getfield 20, 3) := by decide +kernel
theorem d_Rv_cutBehind_30 : decode b_Rv_cutBehind 30 = .ok (.getfield 175, 3) := by decide +kernel
theorem d_Rv_cutBehind_33 : decode b_Rv_cutBehind 33 = .ok (.iload_n 2, 1) := by decide +kernel
theorem d_Rv_cutBehind_34 : decode b_Rv_cutBehind 34 = .ok (.iconst (-1), 1) := by decide +kernel
theorem d_Rv_cutBehind_35 : decode b_Rv_cutBehind 35 = .ok (.iastore, 1) := by decide +kernel
theorem d_Rv_cutBehind_36 : decode b_Rv_cutBehind 36 = .ok (.aload_n 0, 1) := by decide +kernel
theorem d_Rv_cutBehind_37 : decode b_Rv_cutBehind 37 = .ok (.getfield 12, 3) := by decide +kernel
theorem d_Rv_cutBehind_40 : decode b_Rv_cutBehind 40 = .ok (.iload_n 2, 1) := by decide +kernel
theorem d_Rv_cutBehind_41 : decode b_Rv_cutBehind 41 = .ok (.invokestatic 159, 3) := by decide +kernel
theorem d_Rv_cutBehind_44 : decode b_Rv_cutBehind 44 = .ok (.invokevirtual 51, 3) := by decide +kernel
theorem d_Rv_cutBehind_47 : decode b_Rv_cutBehind 47 = .ok (.iconst 0, 1) := by decide +kernel
theorem d_Rv_cutBehind_48 : decode b_Rv_cutBehind 48 = .ok (.istore 4, 2) := by decide +kernel
theorem d_Rv_cutBehind_50 : decode b_Rv_cutBehind 50 = .ok (.iload 4, 2) := by decide +kernel
theorem d_Rv_cutBehind_52 : decode b_Rv_cutBehind 52 = .ok (.iload_n 3, 1) := by decide +kernel
theorem d_Rv_cutBehind_53 : decode b_Rv_cutBehind 53 = .ok (.if_icmp .ge 80, 3) := by decide +kernel
theorem d_Rv_cutBehind_56 : decode b_Rv_cutBehind 56 = .ok (.aload_n 0, 1) := by decide +kernel
theorem d_Rv_cutBehind_57 : decode b_Rv_cutBehind 57 = .ok (.getfield 29, 3) := by decide +kernel
theorem d_Rv_cutBehind_60 : decode b_Rv_cutBehind 60 = .ok (.iload 4, 2) := by decide +kernel
theorem d_Rv_cutBehind_62 : decode b_Rv_cutBehind 62 = .ok (.iaload, 1) := by decide +kernel
theorem d_Rv_cutBehind_63 : decode b_Rv_cutBehind 63 = .ok (.istore 5, 2) := by decide +kernel
theorem d_Rv_cutBehind_65 : decode b_Rv_cutBehind 65 = .ok (.aload_n 0, 1) := by decide +kernel
theorem d_Rv_cutBehind_66 : decode b_Rv_cutBehind 66 = .ok (.getfield 12, 3) := by decide +kernel
theorem d_Rv_cutBehind_69 : decode b_Rv_cutBehind 69 = .ok (.iload_n 1, 1) := by decide +kernel
theorem d_Rv_cutBehind_70 : decode b_Rv_cutBehind 70 = .ok (.invokestatic 159, 3) := by decide +kernel
theorem d_Rv_cutBehind_73 : decode b_Rv_cutBehind 73 = .ok (.iload 5, 2) := by decide +kernel
theorem d_Rv_cutBehind_75 : decode b_Rv_cutBehind 75 = .ok (.invokestatic 159, 3) := by decide +kernel
theorem d_Rv_cutBehind_78 : decode b_Rv_cutBehind 78 = .ok (.invokevirtual 162, 3) := by decide +kernel
theorem d_Rv_cutBehind_81 : decode b_Rv_cutBehind 81 = .ok (.ifCond .eq 22, 3) := by decide +kernel
theorem d_Rv_cutBehind_84 : decode b_Rv_cutBehind 84 = .ok (.aload_n 0, 1) := by decide +kernel
theorem d_Rv_cutBehind_85 : decode b_Rv_cutBehind 85 = .ok (.getfield 12, 3) := by decide +kernel
theorem d_Rv_cutBehind_88 : decode b_Rv_cutBehind 88 = .ok (.iload_n 2, 1) := by decide +kernel
theorem d_Rv_cutBehind_89 : decode b_Rv_cutBehind 89 = .ok (.invokestatic 159, 3) := by decide +kernel
theorem d_Rv_cutBehind_92 : decode b_Rv_cutBehind 92 = .ok (.iload 5, 2) := by decide +kernel
theorem d_Rv_cutBehind_94 : decode b_Rv_cutBehind 94 = .ok (.invokestatic 159, 3) := by decide +kernel
theorem d_Rv_cutBehind_97 : decode b_Rv_cutBehind 97 = .ok (.invokevirtual 162, 3) := by decide +kernel
theorem d_Rv_cutBehind_100 : decode b_Rv_cutBehind 100 = .ok (.ifCond .ne 6, 3) := by decide +kernel
theorem d_Rv_cutBehind_103 : decode b_Rv_cutBehind 103 = .ok (.bipush (-9), 2) := by decide +kernel
theorem d_Rv_cutBehind_105 : decode b_Rv_cutBehind 105 = .ok (.ireturn, 1) := by decide +kernel
theorem d_Rv_cutBehind_106 : decode b_Rv_cutBehind 106 = .ok (.aload_n 0, 1) := by decide +kernel
theorem d_Rv_cutBehind_107 : decode b_Rv_cutBehind 107 = .ok (.getfield 20, 3) := by decide +kernel
theorem d_Rv_cutBehind_110 : decode b_Rv_cutBehind 110 = .ok (.iload 5, 2) := by decide +kernel
theorem d_Rv_cutBehind_112 : decode b_Rv_cutBehind 112 = .ok (.invokevirtual 178, 3) := by decide +kernel
theorem d_Rv_cutBehind_115 : decode b_Rv_cutBehind 115 = .ok (.aload_n 0, 1) := by decide +kernel
theorem d_Rv_cutBehind_116 : decode b_Rv_cutBehind 116 = .ok (.getfield 12, 3) := by decide +kernel
theorem d_Rv_cutBehind_119 : decode b_Rv_cutBehind 119 = .ok (.iload 5, 2) := by decide +kernel
theorem d_Rv_cutBehind_121 : decode b_Rv_cutBehind 121 = .ok (.invokestatic 159, 3) := by decide +kernel
theorem d_Rv_cutBehind_124 : decode b_Rv_cutBehind 124 = .ok (.invokevirtual 51, 3) := by decide +kernel
theorem d_Rv_cutBehind_127 : decode b_Rv_cutBehind 127 = .ok (.iinc 4 1, 3) := by decide +kernel
theorem d_Rv_cutBehind_130 : decode b_Rv_cutBehind 130 = .ok (.goto (-80), 3) := by decide +kernel
theorem d_Rv_cutBehind_133 : decode b_Rv_cutBehind 133 = .ok (.iload_n 3, 1) := by decide +kernel
theorem d_Rv_cutBehind_134 : decode b_Rv_cutBehind 134 = .ok (.ireturn, 1) := by decide +kernel
theorem d_Rv_sweepRecord_0 : decode b_Rv_sweepRecord 0 = .ok (.aload_n 0, 1) := by decide +kernel
theorem d_Rv_sweepRecord_1 : decode b_Rv_sweepRecord 1 = .ok (.iload_n 1, 1) := by decide +kernel
theorem d_Rv_sweepRecord_2 : decode b_Rv_sweepRecord 2 = .ok (.invokevirtual 143, 3) := by decide +kernel
theorem d_Rv_sweepRecord_5 : decode b_Rv_sweepRecord 5 = .ok (.ifCond .ne 6, 3) := by decide +kernel
theorem d_Rv_sweepRecord_8 : decode b_Rv_sweepRecord 8 = .ok (.bipush (-9), 2) := by decide +kernel
theorem d_Rv_sweepRecord_10 : decode b_Rv_sweepRecord 10 = .ok (.ireturn, 1) := by decide +kernel
theorem d_Rv_sweepRecord_11 : decode b_Rv_sweepRecord 11 = .ok (.aload_n 0, 1) := by decide +kernel
theorem d_Rv_sweepRecord_12 : decode b_Rv_sweepRecord 12 = .ok (.getfield 20, 3) := by decide +kernel
theorem d_Rv_sweepRecord_15 : decode b_Rv_sweepRecord 15 = .ok (.aload_n 0, 1) := by decide +kernel
theorem d_Rv_sweepRecord_16 : decode b_Rv_sweepRecord 16 = .ok (.invokevirtual 181, 3) := by decide +kernel
theorem d_Rv_sweepRecord_19 : decode b_Rv_sweepRecord 19 = .ok (.iload_n 1, 1) := by decide +kernel
theorem d_Rv_sweepRecord_20 : decode b_Rv_sweepRecord 20 = .ok (.invokevirtual 105, 3) := by decide +kernel
theorem d_Rv_sweepRecord_23 : decode b_Rv_sweepRecord 23 = .ok (.istore_n 2, 1) := by decide +kernel
theorem d_Rv_sweepRecord_24 : decode b_Rv_sweepRecord 24 = .ok (.iload_n 2, 1) := by decide +kernel
theorem d_Rv_sweepRecord_25 : decode b_Rv_sweepRecord 25 = .ok (.iconst (-1), 1) := by decide +kernel
theorem d_Rv_sweepRecord_26 : decode b_Rv_sweepRecord 26 = .ok (.if_icmp .ne 5, 3) := by decide +kernel
theorem d_Rv_sweepRecord_29 : decode b_Rv_sweepRecord 29 = .ok (.iconst 0, 1) := by decide +kernel
theorem d_Rv_sweepRecord_30 : decode b_Rv_sweepRecord 30 = .ok (.ireturn, 1) := by decide +kernel
theorem d_Rv_sweepRecord_31 : decode b_Rv_sweepRecord 31 = .ok (.aload_n 0, 1) := by decide +kernel
theorem d_Rv_sweepRecord_32 : decode b_Rv_sweepRecord 32 = .ok (.iload_n 1, 1) := by decide +kernel
theorem d_Rv_sweepRecord_33 : decode b_Rv_sweepRecord 33 = .ok (.iload_n 2, 1) := by decide +kernel
theorem d_Rv_sweepRecord_34 : decode b_Rv_sweepRecord 34 = .ok (.invokevirtual 184, 3) := by decide +kernel
theorem d_Rv_sweepRecord_37 : decode b_Rv_sweepRecord 37 = .ok (.istore_n 3, 1) := by decide +kernel
theorem d_Rv_sweepRecord_38 : decode b_Rv_sweepRecord 38 = .ok (.iload_n 3, 1) := by decide +kernel
theorem d_Rv_sweepRecord_39 : decode b_Rv_sweepRecord 39 = .ok (.bipush (-9), 2) := by decide +kernel
theorem d_Rv_sweepRecord_41 : decode b_Rv_sweepRecord 41 = .ok (.if_icmp .eq 40, 3) := by decide +kernel
theorem d_Rv_sweepRecord_44 : decode b_Rv_sweepRecord 44 = .ok (.iload_n 2, 1) := by decide +kernel
theorem d_Rv_sweepRecord_45 : decode b_Rv_sweepRecord 45 = .ok (.iload_n 1, 1) := by decide +kernel
theorem d_Rv_sweepRecord_46 : decode b_Rv_sweepRecord 46 = .ok (.if_icmp .ne 35, 3) := by decide +kernel
theorem d_Rv_sweepRecord_49 : decode b_Rv_sweepRecord 49 = .ok (.aload_n 0, 1) := by decide +kernel
theorem d_Rv_sweepRecord_50 : decode b_Rv_sweepRecord 50 = .ok (.getfield 20, 3) := by decide +kernel
theorem d_Rv_sweepRecord_53 : decode b_Rv_sweepRecord 53 = .ok (.getfield 118, 3) := by decide +kernel
theorem d_Rv_sweepRecord_56 : decode b_Rv_sweepRecord 56 = .ok (.iload_n 1, 1) := by decide +kernel
theorem d_Rv_sweepRecord_57 : decode b_Rv_sweepRecord 57 = .ok (.iaload, 1) := by decide +kernel
theorem d_Rv_sweepRecord_58 : decode b_Rv_sweepRecord 58 = .ok (.iconst (-1), 1) := by decide +kernel
theorem d_Rv_sweepRecord_59 : decode b_Rv_sweepRecord 59 = .ok (.if_icmp .ne 22, 3) := by decide +kernel
theorem d_Rv_sweepRecord_62 : decode b_Rv_sweepRecord 62 = .ok (.aload_n 0, 1) := by decide +kernel
theorem d_Rv_sweepRecord_63 : decode b_Rv_sweepRecord 63 = .ok (.getfield 20, 3) := by decide +kernel
theorem d_Rv_sweepRecord_66 : decode b_Rv_sweepRecord 66 = .ok (.iload_n 1, 1) := by decide +kernel
theorem d_Rv_sweepRecord_67 : decode b_Rv_sweepRecord 67 = .ok (.invokevirtual 178, 3) := by decide +kernel
theorem d_Rv_sweepRecord_70 : decode b_Rv_sweepRecord 70 = .ok (.aload_n 0, 1) := by decide +kernel
theorem d_Rv_sweepRecord_71 : decode b_Rv_sweepRecord 71 = .ok (.getfield 12, 3) := by decide +kernel
theorem d_Rv_sweepRecord_74 : decode b_Rv_sweepRecord 74 = .ok (.iload_n 1, 1) := by decide +kernel
theorem d_Rv_sweepRecord_75 : decode b_Rv_sweepRecord 75 = .ok (.invokestatic 159, 3) := by decide +kernel
theorem d_Rv_sweepRecord_78 : decode b_Rv_sweepRecord 78 = .ok (.invokevirtual 51, 3) := by decide +kernel
theorem d_Rv_sweepRecord_81 : decode b_Rv_sweepRecord 81 = .ok (.iload_n 3, 1) := by decide +kernel
theorem d_Rv_sweepRecord_82 : decode b_Rv_sweepRecord 82 = .ok (.ireturn, 1) := by decide +kernel
theorem d_Rv_sweep_0 : decode b_Rv_sweep 0 = .ok (.iconst 0, 1) := by decide +kernel
theorem d_Rv_sweep_1 : decode b_Rv_sweep 1 = .ok (.istore_n 1, 1) := by decide +kernel
theorem d_Rv_sweep_2 : decode b_Rv_sweep 2 = .ok (.iconst 0, 1) := by decide +kernel
theorem d_Rv_sweep_3 : decode b_Rv_sweep 3 = .ok (.istore_n 2, 1) := by decide +kernel
theorem d_Rv_sweep_4 : decode b_Rv_sweep 4 = .ok (.iload_n 2, 1) := by decide +kernel
theorem d_Rv_sweep_5 : decode b_Rv_sweep 5 = .ok (.bipush 6, 2) := by decide +kernel
theorem d_Rv_sweep_7 : decode b_Rv_sweep 7 = .ok (.if_icmp .ge 28, 3) := by decide +kernel
theorem d_Rv_sweep_10 : decode b_Rv_sweep 10 = .ok (.aload_n 0, 1) := by decide +kernel
theorem d_Rv_sweep_11 : decode b_Rv_sweep 11 = .ok (.iload_n 2, 1) := by decide +kernel
theorem d_Rv_sweep_12 : decode b_Rv_sweep 12 = .ok (.invokevirtual 89, 3) := by decide +kernel
theorem d_Rv_sweep_15 : decode b_Rv_sweep 15 = .ok (.istore_n 3, 1) := by decide +kernel
theorem d_Rv_sweep_16 : decode b_Rv_sweep 16 = .ok (.iload_n 3, 1) := by decide +kernel
theorem d_Rv_sweep_17 : decode b_Rv_sweep 17 = .ok (.bipush (-9), 2) := by decide +kernel
theorem d_Rv_sweep_19 : decode b_Rv_sweep 19 = .ok (.if_icmp .ne 6, 3) := by decide +kernel
theorem d_Rv_sweep_22 : decode b_Rv_sweep 22 = .ok (.bipush (-9), 2) := by decide +kernel
theorem d_Rv_sweep_24 : decode b_Rv_sweep 24 = .ok (.ireturn, 1) := by decide +kernel
theorem d_Rv_sweep_25 : decode b_Rv_sweep 25 = .ok (.iload_n 1, 1) := by decide +kernel
theorem d_Rv_sweep_26 : decode b_Rv_sweep 26 = .ok (.iload_n 3, 1) := by decide +kernel
theorem d_Rv_sweep_27 : decode b_Rv_sweep 27 = .ok (.iadd, 1) := by decide +kernel
theorem d_Rv_sweep_28 : decode b_Rv_sweep 28 = .ok (.istore_n 1, 1) := by decide +kernel
theorem d_Rv_sweep_29 : decode b_Rv_sweep 29 = .ok (.iinc 2 1, 3) := by decide +kernel
theorem d_Rv_sweep_32 : decode b_Rv_sweep 32 = .ok (.goto (-28), 3) := by decide +kernel
theorem d_Rv_sweep_35 : decode b_Rv_sweep 35 = .ok (.iload_n 1, 1) := by decide +kernel
theorem d_Rv_sweep_36 : decode b_Rv_sweep 36 = .ok (.ireturn, 1) := by decide +kernel
theorem d_Rv_flush_0 : decode b_Rv_flush 0 = .ok (.aload_n 0, 1) := by decide +kernel
theorem d_Rv_flush_1 : decode b_Rv_flush 1 = .ok (.getfield 12, 3) := by decide +kernel
theorem d_Rv_flush_4 : decode b_Rv_flush 4 = .ok (.getfield 81, 3) := by decide +kernel
theorem d_Rv_flush_7 : decode b_Rv_flush 7 = .ok (.istore_n 1, 1) := by decide +kernel
theorem d_Rv_flush_8 : decode b_Rv_flush 8 = .ok (.aload_n 0, 1) := by decide +kernel
theorem d_Rv_flush_9 : decode b_Rv_flush 9 = .ok (.getfield 12, 3) := by decide +kernel
theorem d_Rv_flush_12 : decode b_Rv_flush 12 = .ok (.aload_n 0, 1) := by decide +kernel
theorem d_Rv_flush_13 : decode b_Rv_flush 13 = .ok (.getfield 12, 3) := by decide +kernel
theorem d_Rv_flush_16 : decode b_Rv_flush 16 = .ok (.getfield 93, 3) := by decide +kernel
theorem d_Rv_flush_19 : decode b_Rv_flush 19 = .ok (.invokevirtual 85, 3) := by decide +kernel
theorem d_Rv_flush_22 : decode b_Rv_flush 22 = .ok (.ifCond .eq 15, 3) := by decide +kernel
theorem d_Rv_flush_25 : decode b_Rv_flush 25 = .ok (.aload_n 0, 1) := by decide +kernel
theorem d_Rv_flush_26 : decode b_Rv_flush 26 = .ok (.getfield 12, 3) := by decide +kernel
theorem d_Rv_flush_29 : decode b_Rv_flush 29 = .ok (.getfield 81, 3) := by decide +kernel
theorem d_Rv_flush_32 : decode b_Rv_flush 32 = .ok (.iload_n 1, 1) := by decide +kernel
theorem d_Rv_flush_33 : decode b_Rv_flush 33 = .ok (.isub, 1) := by decide +kernel
theorem d_Rv_flush_34 : decode b_Rv_flush 34 = .ok (.goto 5, 3) := by decide +kernel
theorem d_Rv_flush_37 : decode b_Rv_flush 37 = .ok (.bipush (-9), 2) := by decide +kernel
theorem d_Rv_flush_39 : decode b_Rv_flush 39 = .ok (.ireturn, 1) := by decide +kernel
theorem d_Rv_fail_0 : decode b_Rv_fail 0 = .ok (.iload_n 1, 1) := by decide +kernel
theorem d_Rv_fail_1 : decode b_Rv_fail 1 = .ok (.ifCond .lt 9, 3) := by decide +kernel
theorem d_Rv_fail_4 : decode b_Rv_fail 4 = .ok (.iload_n 1, 1) := by decide +kernel
theorem d_Rv_fail_5 : decode b_Rv_fail 5 = .ok (.bipush 50, 2) := by decide +kernel
theorem d_Rv_fail_7 : decode b_Rv_fail 7 = .ok (.if_icmp .le 11, 3) := by decide +kernel
theorem d_Rv_fail_10 : decode b_Rv_fail 10 = .ok (.new 74, 3) := by decide +kernel
theorem d_Rv_fail_13 : decode b_Rv_fail 13 = .ok (.dup, 1) := by decide +kernel
theorem d_Rv_fail_14 : decode b_Rv_fail 14 = .ok (.invokespecial 76, 3) := by decide +kernel
theorem d_Rv_fail_17 : decode b_Rv_fail 17 = .ok (.athrow, 1) := by decide +kernel
theorem d_Rv_fail_18 : decode b_Rv_fail 18 = .ok (.aload_n 0, 1) := by decide +kernel
theorem d_Rv_fail_19 : decode b_Rv_fail 19 = .ok (.getfield 12, 3) := by decide +kernel
theorem d_Rv_fail_22 : decode b_Rv_fail 22 = .ok (.getfield 96, 3) := by decide +kernel
theorem d_Rv_fail_25 : decode b_Rv_fail 25 = .ok (.istore_n 2, 1) := by decide +kernel
theorem d_Rv_fail_26 : decode b_Rv_fail 26 = .ok (.aload_n 0, 1) := by decide +kernel
theorem d_Rv_fail_27 : decode b_Rv_fail 27 = .ok (.getfield 12, 3) := by decide +kernel
theorem d_Rv_fail_30 : decode b_Rv_fail 30 = .ok (.iload_n 1, 1) := by decide +kernel
theorem d_Rv_fail_31 : decode b_Rv_fail 31 = .ok (.putfield 96, 3) := by decide +kernel
theorem d_Rv_fail_34 : decode b_Rv_fail 34 = .ok (.iload_n 2, 1) := by decide +kernel
theorem d_Rv_fail_35 : decode b_Rv_fail 35 = .ok (.ireturn, 1) := by decide +kernel
theorem d_Rv_crash_0 : decode b_Rv_crash 0 = .ok (.aload_n 0, 1) := by decide +kernel
theorem d_Rv_crash_1 : decode b_Rv_crash 1 = .ok (.getfield 20, 3) := by decide +kernel
theorem d_Rv_crash_4 : decode b_Rv_crash 4 = .ok (.invokevirtual 38, 3) := by decide +kernel
theorem d_Rv_crash_7 : decode b_Rv_crash 7 = .ok (.istore_n 1, 1) := by decide +kernel
theorem d_Rv_crash_8 : decode b_Rv_crash 8 = .ok (.aload_n 0, 1) := by decide +kernel
theorem d_Rv_crash_9 : decode b_Rv_crash 9 = .ok (.getfield 12, 3) := by decide +kernel
theorem d_Rv_crash_12 : decode b_Rv_crash 12 = .ok (.invokevirtual 99, 3) := by decide +kernel
theorem d_Rv_crash_15 : decode b_Rv_crash 15 = .ok (.iload_n 1, 1) := by decide +kernel
theorem d_Rv_crash_16 : decode b_Rv_crash 16 = .ok (.ireturn, 1) := by decide +kernel
theorem d_Rv_image_0 : decode b_Rv_image 0 = .ok (.iload_n 1, 1) := by decide +kernel
theorem d_Rv_image_1 : decode b_Rv_image 1 = .ok (.invokestatic 59, 3) := by decide +kernel
theorem d_Rv_image_4 : decode b_Rv_image 4 = .ok (.aload_n 0, 1) := by decide +kernel
theorem d_Rv_image_5 : decode b_Rv_image 5 = .ok (.getfield 12, 3) := by decide +kernel
theorem d_Rv_image_8 : decode b_Rv_image 8 = .ok (.getfield 102, 3) := by decide +kernel
theorem d_Rv_image_11 : decode b_Rv_image 11 = .ok (.aload_n 0, 1) := by decide +kernel
theorem d_Rv_image_12 : decode b_Rv_image 12 = .ok (.getfield 12, 3) := by decide +kernel
theorem d_Rv_image_15 : decode b_Rv_image 15 = .ok (.getfield 102, 3) := by decide +kernel
theorem d_Rv_image_18 : decode b_Rv_image 18 = .ok (.aload_n 0, 1) := by decide +kernel
theorem d_Rv_image_19 : decode b_Rv_image 19 = .ok (.getfield 12, 3) := by decide +kernel
theorem d_Rv_image_22 : decode b_Rv_image 22 = .ok (.getfield 102, 3) := by decide +kernel
theorem d_Rv_image_25 : decode b_Rv_image 25 = .ok (.invokevirtual 44, 3) := by decide +kernel
theorem d_Rv_image_28 : decode b_Rv_image 28 = .ok (.iload_n 1, 1) := by decide +kernel
theorem d_Rv_image_29 : decode b_Rv_image 29 = .ok (.invokevirtual 105, 3) := by decide +kernel
theorem d_Rv_image_32 : decode b_Rv_image 32 = .ok (.invokestatic 69, 3) := by decide +kernel
theorem d_Rv_image_35 : decode b_Rv_image 35 = .ok (.ireturn, 1) := by decide +kernel
theorem d_Rv_state_0 : decode b_Rv_state 0 = .ok (.iload_n 1, 1) := by decide +kernel
theorem d_Rv_state_1 : decode b_Rv_state 1 = .ok (.iconst 1, 1) := by decide +kernel
theorem d_Rv_state_2 : decode b_Rv_state 2 = .ok (.if_icmp .lt 9, 3) := by decide +kernel
theorem d_Rv_state_5 : decode b_Rv_state 5 = .ok (.iload_n 1, 1) := by decide +kernel
theorem d_Rv_state_6 : decode b_Rv_state 6 = .ok (.bipush 40, 2) := by decide +kernel
theorem d_Rv_state_8 : decode b_Rv_state 8 = .ok (.if_icmp .le 11, 3) := by decide +kernel
theorem d_Rv_state_11 : decode b_Rv_state 11 = .ok (.new 74, 3) := by decide +kernel
theorem d_Rv_state_14 : decode b_Rv_state 14 = .ok (.dup, 1) := by decide +kernel
theorem d_Rv_state_15 : decode b_Rv_state 15 = .ok (.invokespecial 76, 3) := by decide +kernel
theorem d_Rv_state_18 : decode b_Rv_state 18 = .ok (.athrow, 1) := by decide +kernel
theorem d_Rv_state_19 : decode b_Rv_state 19 = .ok (.aload_n 0, 1) := by decide +kernel
theorem d_Rv_state_20 : decode b_Rv_state 20 = .ok (.getfield 20, 3) := by decide +kernel
theorem d_Rv_state_23 : decode b_Rv_state 23 = .ok (.getfield 48, 3) := by decide +kernel
theorem d_Rv_state_26 : decode b_Rv_state 26 = .ok (.iload_n 1, 1) := by decide +kernel
theorem d_Rv_state_27 : decode b_Rv_state 27 = .ok (.iaload, 1) := by decide +kernel
theorem d_Rv_state_28 : decode b_Rv_state 28 = .ok (.ireturn, 1) := by decide +kernel
theorem d_Rv_version_0 : decode b_Rv_version 0 = .ok (.iload_n 1, 1) := by decide +kernel
theorem d_Rv_version_1 : decode b_Rv_version 1 = .ok (.invokestatic 59, 3) := by decide +kernel
theorem d_Rv_version_4 : decode b_Rv_version 4 = .ok (.iload_n 3, 1) := by decide +kernel
theorem d_Rv_version_5 : decode b_Rv_version 5 = .ok (.ifCond .lt 8, 3) := by decide +kernel
theorem d_Rv_version_8 : decode b_Rv_version 8 = .ok (.iload_n 3, 1) := by decide +kernel
theorem d_Rv_version_9 : decode b_Rv_version 9 = .ok (.iconst 2, 1) := by decide +kernel
theorem d_Rv_version_10 : decode b_Rv_version 10 = .ok (.if_icmp .le 11, 3) := by decide +kernel
theorem d_Rv_version_13 : decode b_Rv_version 13 = .ok (.new 74, 3) := by decide +kernel
theorem d_Rv_version_16 : decode b_Rv_version 16 = .ok (.dup, 1) := by decide +kernel
theorem d_Rv_version_17 : decode b_Rv_version 17 = .ok (.invokespecial 76, 3) := by decide +kernel
theorem d_Rv_version_20 : decode b_Rv_version 20 = .ok (.athrow, 1) := by decide +kernel
theorem d_Rv_version_21 : decode b_Rv_version 21 = .ok (.aload_n 0, 1) := by decide +kernel
theorem d_Rv_version_22 : decode b_Rv_version 22 = .ok (.getfield 20, 3) := by decide +kernel
theorem d_Rv_version_25 : decode b_Rv_version 25 = .ok (.iload_n 1, 1) := by decide +kernel
theorem d_Rv_version_26 : decode b_Rv_version 26 = .ok (.iload_n 2, 1) := by decide +kernel
theorem d_Rv_version_27 : decode b_Rv_version 27 = .ok (.invokevirtual 109, 3) := by decide +kernel
theorem d_Rv_version_30 : decode b_Rv_version 30 = .ok (.istore 4, 2) := by decide +kernel
theorem d_Rv_version_32 : decode b_Rv_version 32 = .ok (.iload 4, 2) := by decide +kernel
theorem d_Rv_version_34 : decode b_Rv_version 34 = .ok (.iconst (-1), 1) := by decide +kernel
theorem d_Rv_version_35 : decode b_Rv_version 35 = .ok (.if_icmp .ne 11, 3) := by decide +kernel
theorem d_Rv_version_38 : decode b_Rv_version 38 = .ok (.new 112, 3) := by decide +kernel
theorem d_Rv_version_41 : decode b_Rv_version 41 = .ok (.dup, 1) := by decide +kernel
theorem d_Rv_version_42 : decode b_Rv_version 42 = .ok (.invokespecial 114, 3) := by decide +kernel
theorem d_Rv_version_45 : decode b_Rv_version 45 = .ok (.athrow, 1) := by decide +kernel
theorem d_Rv_version_46 : decode b_Rv_version 46 = .ok (.iload_n 3, 1) := by decide +kernel
theorem d_Rv_version_47 : decode b_Rv_version 47 = .ok (.ifCond .ne 14, 3) := by decide +kernel
theorem d_Rv_version_50 : decode b_Rv_version 50 = .ok (.aload_n 0, 1) := by decide +kernel
theorem d_Rv_version_51 : decode b_Rv_version 51 = .ok (.getfield 20, 3) := by decide +kernel
theorem d_Rv_version_54 : decode b_Rv_version 54 = .ok (.getfield 115, 3) := by decide +kernel
theorem d_Rv_version_57 : decode b_Rv_version 57 = .ok (.iload 4, 2) := by decide +kernel
theorem d_Rv_version_59 : decode b_Rv_version 59 = .ok (.iaload, 1) := by decide +kernel
theorem d_Rv_version_60 : decode b_Rv_version 60 = .ok (.ireturn, 1) := by decide +kernel
theorem d_Rv_version_61 : decode b_Rv_version 61 = .ok (.iload_n 3, 1) := by decide +kernel
theorem d_Rv_version_62 : decode b_Rv_version 62 = .ok (.iconst 1, 1) := by decide +kernel
theorem d_Rv_version_63 : decode b_Rv_version 63 = .ok (.if_icmp .ne 14, 3) := by decide +kernel
theorem d_Rv_version_66 : decode b_Rv_version 66 = .ok (.aload_n 0, 1) := by decide +kernel
theorem d_Rv_version_67 : decode b_Rv_version 67 = .ok (.getfield 20, 3) := by decide +kernel
theorem d_Rv_version_70 : decode b_Rv_version 70 = .ok (.getfield 118, 3) := by decide +kernel
theorem d_Rv_version_73 : decode b_Rv_version 73 = .ok (.iload 4, 2) := by decide +kernel
theorem d_Rv_version_75 : decode b_Rv_version 75 = .ok (.iaload, 1) := by decide +kernel
theorem d_Rv_version_76 : decode b_Rv_version 76 = .ok (.ireturn, 1) := by decide +kernel
theorem d_Rv_version_77 : decode b_Rv_version 77 = .ok (.iload 4, 2) := by decide +kernel
theorem d_Rv_version_79 : decode b_Rv_version 79 = .ok (.bipush 6, 2) := by decide +kernel
theorem d_Rv_version_81 : decode b_Rv_version 81 = .ok (.if_icmp .ge 7, 3) := by decide +kernel
theorem d_Rv_version_84 : decode b_Rv_version 84 = .ok (.iconst (-1), 1) := by decide +kernel
theorem d_Rv_version_85 : decode b_Rv_version 85 = .ok (.goto 8, 3) := by decide +kernel
theorem d_Rv_version_88 : decode b_Rv_version 88 = .ok (.iload 4, 2) := by decide +kernel
theorem d_Rv_version_90 : decode b_Rv_version 90 = .ok (.bipush 6, 2) := by decide +kernel
theorem d_Rv_version_92 : decode b_Rv_version 92 = .ok (.isub, 1) := by decide +kernel
theorem d_Rv_version_93 : decode b_Rv_version 93 = .ok (.ireturn, 1) := by decide +kernel
theorem d_Rv_page_0 : decode b_Rv_page 0 = .ok (.iload_n 1, 1) := by decide +kernel
theorem d_Rv_page_1 : decode b_Rv_page 1 = .ok (.ifCond .lt 19, 3) := by decide +kernel
theorem d_Rv_page_4 : decode b_Rv_page 4 = .ok (.iload_n 1, 1) := by decide +kernel
theorem d_Rv_page_5 : decode b_Rv_page 5 = .ok (.bipush 7, 2) := by decide +kernel
theorem d_Rv_page_7 : decode b_Rv_page 7 = .ok (.if_icmp .ge 13, 3) := by decide +kernel
theorem d_Rv_page_10 : decode b_Rv_page 10 = .ok (.aload_n 0, 1) := by decide +kernel
theorem d_Rv_page_11 : decode b_Rv_page 11 = .ok (.getfield 12, 3) := by decide +kernel
theorem d_Rv_page_14 : decode b_Rv_page 14 = .ok (.getfield 121, 3) := by decide +kernel
theorem d_Rv_page_17 : decode b_Rv_page 17 = .ok (.iload_n 1, 1) := by decide +kernel
theorem d_Rv_page_18 : decode b_Rv_page 18 = .ok (.iaload, 1) := by decide +kernel
theorem d_Rv_page_19 : decode b_Rv_page 19 = .ok (.ireturn, 1) := by decide +kernel
theorem d_Rv_page_20 : decode b_Rv_page 20 = .ok (.iload_n 1, 1) := by decide +kernel
theorem d_Rv_page_21 : decode b_Rv_page 21 = .ok (.bipush 10, 2) := by decide +kernel
theorem d_Rv_page_23 : decode b_Rv_page 23 = .ok (.if_icmp .lt 33, 3) := by decide +kernel
theorem d_Rv_page_26 : decode b_Rv_page 26 = .ok (.iload_n 1, 1) := by decide +kernel
theorem d_Rv_page_27 : decode b_Rv_page 27 = .ok (.bipush 17, 2) := by decide +kernel
theorem d_Rv_page_29 : decode b_Rv_page 29 = .ok (.if_icmp .ge 27, 3) := by decide +kernel
theorem d_Rv_page_32 : decode b_Rv_page 32 = .ok (.aload_n 0, 1) := by decide +kernel
theorem d_Rv_page_33 : decode b_Rv_page 33 = .ok (.getfield 12, 3) := by decide +kernel
theorem d_Rv_page_36 : decode b_Rv_page 36 = .ok (.getfield 93, 3) := by decide +kernel
theorem d_Rv_page_39 : decode b_Rv_page 39 = .ok (.i2l, 1) := by decide +kernel
theorem d_Rv_page_40 : decode b_Rv_page 40 = .ok (.iload_n 1, 1) := by decide +kernel
theorem d_Rv_page_41 : decode b_Rv_page 41 = .ok (.bipush 10, 2) := by decide +kernel
theorem d_Rv_page_43 : decode b_Rv_page 43 = .ok (.isub, 1) := by decide +kernel
theorem d_Rv_page_44 : decode b_Rv_page 44 = .ok (.invokestatic 124, 3) := by decide +kernel
theorem d_Rv_page_47 : decode b_Rv_page 47 = .ok (.ifCond .eq 7, 3) := by decide +kernel
theorem d_Rv_page_50 : decode b_Rv_page 50 = .ok (.iconst 1, 1) := by decide +kernel
theorem d_Rv_page_51 : decode b_Rv_page 51 = .ok (.goto 4, 3) := by decide +kernel
theorem d_Rv_page_54 : decode b_Rv_page 54 = .ok (.iconst 0, 1) := by decide +kernel
theorem d_Rv_page_55 : decode b_Rv_page 55 = .ok (.ireturn, 1) := by decide +kernel
theorem d_Rv_page_56 : decode b_Rv_page 56 = .ok (.new 74, 3) := by decide +kernel
theorem d_Rv_page_59 : decode b_Rv_page 59 = .ok (.dup, 1) := by decide +kernel
theorem d_Rv_page_60 : decode b_Rv_page 60 = .ok (.invokespecial 76, 3) := by decide +kernel
theorem d_Rv_page_63 : decode b_Rv_page 63 = .ok (.athrow, 1) := by decide +kernel
theorem d_Rv_count_0 : decode b_Rv_count 0 = .ok (.iload_n 1, 1) := by decide +kernel
theorem d_Rv_count_1 : decode b_Rv_count 1 = .ok (.tableswitch 78 0 4 #[35, 43, 51, 59, 67], 35) := by decide +kernel
theorem d_Rv_count_36 : decode b_Rv_count 36 = .ok (.aload_n 0, 1) := by decide +kernel
theorem d_Rv_count_37 : decode b_Rv_count 37 = .ok (.getfield 20, 3) := by decide +kernel
theorem d_Rv_count_40 : decode b_Rv_count 40 = .ok (.invokevirtual 128, 3) := by decide +kernel
theorem d_Rv_count_43 : decode b_Rv_count 43 = .ok (.ireturn, 1) := by decide +kernel
theorem d_Rv_count_44 : decode b_Rv_count 44 = .ok (.aload_n 0, 1) := by decide +kernel
theorem d_Rv_count_45 : decode b_Rv_count 45 = .ok (.getfield 20, 3) := by decide +kernel
theorem d_Rv_count_48 : decode b_Rv_count 48 = .ok (.invokevirtual 38, 3) := by decide +kernel
theorem d_Rv_count_51 : decode b_Rv_count 51 = .ok (.ireturn, 1) := by decide +kernel
theorem d_Rv_count_52 : decode b_Rv_count 52 = .ok (.aload_n 0, 1) := by decide +kernel
theorem d_Rv_count_53 : decode b_Rv_count 53 = .ok (.getfield 12, 3) := by decide +kernel
theorem d_Rv_count_56 : decode b_Rv_count 56 = .ok (.getfield 81, 3) := by decide +kernel
theorem d_Rv_count_59 : decode b_Rv_count 59 = .ok (.ireturn, 1) := by decide +kernel
theorem d_Rv_count_60 : decode b_Rv_count 60 = .ok (.aload_n 0, 1) := by decide +kernel
theorem d_Rv_count_61 : decode b_Rv_count 61 = .ok (.getfield 12, 3) := by decide +kernel
theorem d_Rv_count_64 : decode b_Rv_count 64 = .ok (.getfield 131, 3) := by decide +kernel
theorem d_Rv_count_67 : decode b_Rv_count 67 = .ok (.ireturn, 1) := by decide +kernel
theorem d_Rv_count_68 : decode b_Rv_count 68 = .ok (.aload_n 0, 1) := by decide +kernel
theorem d_Rv_count_69 : decode b_Rv_count 69 = .ok (.getfield 12, 3) := by decide +kernel
theorem d_Rv_count_72 : decode b_Rv_count 72 = .ok (.getfield 93, 3) := by decide +kernel
theorem d_Rv_count_75 : decode b_Rv_count 75 = .ok (.invokestatic 134, 3) := by decide +kernel
theorem d_Rv_count_78 : decode b_Rv_count 78 = .ok (.ireturn, 1) := by decide +kernel
theorem d_Rv_count_79 : decode b_Rv_count 79 = .ok (.new 74, 3) := by decide +kernel
theorem d_Rv_count_82 : decode b_Rv_count 82 = .ok (.dup, 1) := by decide +kernel
theorem d_Rv_count_83 : decode b_Rv_count 83 = .ok (.invokespecial 76, 3) := by decide +kernel
theorem d_Rv_count_86 : decode b_Rv_count 86 = .ok (.athrow, 1) := by decide +kernel
end
section
theorem d_St_init_0 : decode b_St_init 0 = .ok (.aload_n 0, 1) := by decide +kernel
theorem d_St_init_1 : decode b_St_init 1 = .ok (.invokespecial 3, 3) := by decide +kernel
theorem d_St_init_4 : decode b_St_init 4 = .ok (.aload_n 0, 1) := by decide +kernel
theorem d_St_init_5 : decode b_St_init 5 = .ok (.new 9, 3) := by decide +kernel
theorem d_St_init_8 : decode b_St_init 8 = .ok (.dup, 1) := by decide +kernel
theorem d_St_init_9 : decode b_St_init 9 = .ok (.invokespecial 11, 3) := by decide +kernel
theorem d_St_init_12 : decode b_St_init 12 = .ok (.putfield 12, 3) := by decide +kernel
theorem d_St_init_15 : decode b_St_init 15 = .ok (.aload_n 0, 1) := by decide +kernel
theorem d_St_init_16 : decode b_St_init 16 = .ok (.new 9, 3) := by decide +kernel
theorem d_St_init_19 : decode b_St_init 19 = .ok (.dup, 1) := by decide +kernel
theorem d_St_init_20 : decode b_St_init 20 = .ok (.invokespecial 11, 3) := by decide +kernel
theorem d_St_init_23 : decode b_St_init 23 = .ok (.putfield 18, 3) := by decide +kernel
theorem d_St_init_26 : decode b_St_init 26 = .ok (.aload_n 0, 1) := by decide +kernel
theorem d_St_init_27 : decode b_St_init 27 = .ok (.bipush 7, 2) := by decide +kernel
theorem d_St_init_29 : decode b_St_init 29 = .ok (.newarray .int, 2) := by decide +kernel
theorem d_St_init_31 : decode b_St_init 31 = .ok (.putfield 21, 3) := by decide +kernel
theorem d_St_init_34 : decode b_St_init 34 = .ok (.return_, 1) := by decide +kernel
theorem d_St_changed_0 : decode b_St_changed 0 = .ok (.aload_n 0, 1) := by decide +kernel
theorem d_St_changed_1 : decode b_St_changed 1 = .ok (.dup, 1) := by decide +kernel
theorem d_St_changed_2 : decode b_St_changed 2 = .ok (.getfield 25, 3) := by decide +kernel
theorem d_St_changed_5 : decode b_St_changed 5 = .ok (.iconst 1, 1) := by decide +kernel
theorem d_St_changed_6 : decode b_St_changed 6 = .ok (.iload_n 1, 1) := by decide +kernel
theorem d_St_changed_7 : decode b_St_changed 7 = .ok (.ishl, 1) := by decide +kernel
theorem d_St_changed_8 : decode b_St_changed 8 = .ok (.ior, 1) := by decide +kernel
theorem d_St_changed_9 : decode b_St_changed 9 = .ok (.putfield 25, 3) := by decide +kernel
theorem d_St_changed_12 : decode b_St_changed 12 = .ok (.return_, 1) := by decide +kernel
theorem d_St_failsNow_0 : decode b_St_failsNow 0 = .ok (.aload_n 0, 1) := by decide +kernel
theorem d_St_failsNow_1 : decode b_St_failsNow 1 = .ok (.getfield 52, 3) := by decide +kernel
theorem d_St_failsNow_4 : decode b_St_failsNow 4 = .ok (.ifCond .ne 5, 3) := by decide +kernel
theorem d_St_failsNow_7 : decode b_St_failsNow 7 = .ok (.iconst 0, 1) := by decide +kernel
theorem d_St_failsNow_8 : decode b_St_failsNow 8 = .ok (.ireturn, 1) := by decide +kernel
theorem d_St_failsNow_9 : decode b_St_failsNow 9 = .ok (.aload_n 0, 1) := by decide +kernel
theorem d_St_failsNow_10 : decode b_St_failsNow 10 = .ok (.dup, 1) := by decide +kernel
theorem d_St_failsNow_11 : decode b_St_failsNow 11 = .ok (.getfield 52, 3) := by decide +kernel
theorem d_St_failsNow_14 : decode b_St_failsNow 14 = .ok (.iconst 1, 1) := by decide +kernel
theorem d_St_failsNow_15 : decode b_St_failsNow 15 = .ok (.isub, 1) := by decide +kernel
theorem d_St_failsNow_16 : decode b_St_failsNow 16 = .ok (.putfield 52, 3) := by decide +kernel
theorem d_St_failsNow_19 : decode b_St_failsNow 19 = .ok (.aload_n 0, 1) := by decide +kernel
theorem d_St_failsNow_20 : decode b_St_failsNow 20 = .ok (.getfield 52, 3) := by decide +kernel
theorem d_St_failsNow_23 : decode b_St_failsNow 23 = .ok (.ifCond .ne 7, 3) := by decide +kernel
theorem d_St_failsNow_26 : decode b_St_failsNow 26 = .ok (.iconst 1, 1) := by decide +kernel
theorem d_St_failsNow_27 : decode b_St_failsNow 27 = .ok (.goto 4, 3) := by decide +kernel
theorem d_St_failsNow_30 : decode b_St_failsNow 30 = .ok (.iconst 0, 1) := by decide +kernel
theorem d_St_failsNow_31 : decode b_St_failsNow 31 = .ok (.ireturn, 1) := by decide +kernel
theorem d_St_settle_0 : decode b_St_settle 0 = .ok (.aload_n 0, 1) := by decide +kernel
theorem d_St_settle_1 : decode b_St_settle 1 = .ok (.dup, 1) := by decide +kernel
theorem d_St_settle_2 : decode b_St_settle 2 = .ok (.getfield 25, 3) := by decide +kernel
theorem d_St_settle_5 : decode b_St_settle 5 = .ok (.iconst 1, 1) := by decide +kernel
theorem d_St_settle_6 : decode b_St_settle 6 = .ok (.iload_n 1, 1) := by decide +kernel
theorem d_St_settle_7 : decode b_St_settle 7 = .ok (.ishl, 1) := by decide +kernel
theorem d_St_settle_8 : decode b_St_settle 8 = .ok (.iconst (-1), 1) := by decide +kernel
theorem d_St_settle_9 : decode b_St_settle 9 = .ok (.ixor, 1) := by decide +kernel
theorem d_St_settle_10 : decode b_St_settle 10 = .ok (.iand, 1) := by decide +kernel
theorem d_St_settle_11 : decode b_St_settle 11 = .ok (.putfield 25, 3) := by decide +kernel
theorem d_St_settle_14 : decode b_St_settle 14 = .ok (.iconst 0, 1) := by decide +kernel
theorem d_St_settle_15 : decode b_St_settle 15 = .ok (.istore_n 2, 1) := by decide +kernel
theorem d_St_settle_16 : decode b_St_settle 16 = .ok (.iload_n 2, 1) := by decide +kernel
theorem d_St_settle_17 : decode b_St_settle 17 = .ok (.bipush 7, 2) := by decide +kernel
theorem d_St_settle_19 : decode b_St_settle 19 = .ok (.if_icmp .ge 23, 3) := by decide +kernel
theorem d_St_settle_22 : decode b_St_settle 22 = .ok (.aload_n 0, 1) := by decide +kernel
theorem d_St_settle_23 : decode b_St_settle 23 = .ok (.getfield 21, 3) := by decide +kernel
theorem d_St_settle_26 : decode b_St_settle 26 = .ok (.iload_n 2, 1) := by decide +kernel
theorem d_St_settle_27 : decode b_St_settle 27 = .ok (.dup2, 1) := by decide +kernel
theorem d_St_settle_28 : decode b_St_settle 28 = .ok (.iaload, 1) := by decide +kernel
theorem d_St_settle_29 : decode b_St_settle 29 = .ok (.iconst 1, 1) := by decide +kernel
theorem d_St_settle_30 : decode b_St_settle 30 = .ok (.iload_n 1, 1) := by decide +kernel
theorem d_St_settle_31 : decode b_St_settle 31 = .ok (.ishl, 1) := by decide +kernel
theorem d_St_settle_32 : decode b_St_settle 32 = .ok (.iconst (-1), 1) := by decide +kernel
theorem d_St_settle_33 : decode b_St_settle 33 = .ok (.ixor, 1) := by decide +kernel
theorem d_St_settle_34 : decode b_St_settle 34 = .ok (.iand, 1) := by decide +kernel
theorem d_St_settle_35 : decode b_St_settle 35 = .ok (.iastore, 1) := by decide +kernel
theorem d_St_settle_36 : decode b_St_settle 36 = .ok (.iinc 2 1, 3) := by decide +kernel
theorem d_St_settle_39 : decode b_St_settle 39 = .ok (.goto (-23), 3) := by decide +kernel
theorem d_St_settle_42 : decode b_St_settle 42 = .ok (.aload_n 0, 1) := by decide +kernel
theorem d_St_settle_43 : decode b_St_settle 43 = .ok (.dup, 1) := by decide +kernel
theorem d_St_settle_44 : decode b_St_settle 44 = .ok (.getfield 55, 3) := by decide +kernel
theorem d_St_settle_47 : decode b_St_settle 47 = .ok (.iconst 1, 1) := by decide +kernel
theorem d_St_settle_48 : decode b_St_settle 48 = .ok (.iadd, 1) := by decide +kernel
theorem d_St_settle_49 : decode b_St_settle 49 = .ok (.putfield 55, 3) := by decide +kernel
theorem d_St_settle_52 : decode b_St_settle 52 = .ok (.return_, 1) := by decide +kernel
theorem d_St_fall_0 : decode b_St_fall 0 = .ok (.iconst 0, 1) := by decide +kernel
theorem d_St_fall_1 : decode b_St_fall 1 = .ok (.istore_n 1, 1) := by decide +kernel
theorem d_St_fall_2 : decode b_St_fall 2 = .ok (.iload_n 1, 1) := by decide +kernel
theorem d_St_fall_3 : decode b_St_fall 3 = .ok (.bipush 7, 2) := by decide +kernel
theorem d_St_fall_5 : decode b_St_fall 5 = .ok (.if_icmp .ge 28, 3) := by decide +kernel
theorem d_St_fall_8 : decode b_St_fall 8 = .ok (.aload_n 0, 1) := by decide +kernel
theorem d_St_fall_9 : decode b_St_fall 9 = .ok (.getfield 12, 3) := by decide +kernel
theorem d_St_fall_12 : decode b_St_fall 12 = .ok (.aload_n 0, 1) := by decide +kernel
theorem d_St_fall_13 : decode b_St_fall 13 = .ok (.getfield 18, 3) := by decide +kernel
theorem d_St_fall_16 : decode b_St_fall 16 = .ok (.iload_n 1, 1) := by decide +kernel
theorem d_St_fall_17 : decode b_St_fall 17 = .ok (.invokevirtual 44, 3) := by decide +kernel
theorem d_St_fall_20 : decode b_St_fall 20 = .ok (.aload_n 0, 1) := by decide +kernel
theorem d_St_fall_21 : decode b_St_fall 21 = .ok (.getfield 21, 3) := by decide +kernel
theorem d_St_fall_24 : decode b_St_fall 24 = .ok (.iload_n 1, 1) := by decide +kernel
theorem d_St_fall_25 : decode b_St_fall 25 = .ok (.iconst 0, 1) := by decide +kernel
theorem d_St_fall_26 : decode b_St_fall 26 = .ok (.iastore, 1) := by decide +kernel
theorem d_St_fall_27 : decode b_St_fall 27 = .ok (.iinc 1 1, 3) := by decide +kernel
theorem d_St_fall_30 : decode b_St_fall 30 = .ok (.goto (-28), 3) := by decide +kernel
theorem d_St_fall_33 : decode b_St_fall 33 = .ok (.aload_n 0, 1) := by decide +kernel
theorem d_St_fall_34 : decode b_St_fall 34 = .ok (.iconst 0, 1) := by decide +kernel
theorem d_St_fall_35 : decode b_St_fall 35 = .ok (.putfield 25, 3) := by decide +kernel
theorem d_St_fall_38 : decode b_St_fall 38 = .ok (.aload_n 0, 1) := by decide +kernel
theorem d_St_fall_39 : decode b_St_fall 39 = .ok (.dup, 1) := by decide +kernel
theorem d_St_fall_40 : decode b_St_fall 40 = .ok (.getfield 61, 3) := by decide +kernel
theorem d_St_fall_43 : decode b_St_fall 43 = .ok (.iconst 1, 1) := by decide +kernel
theorem d_St_fall_44 : decode b_St_fall 44 = .ok (.iadd, 1) := by decide +kernel
theorem d_St_fall_45 : decode b_St_fall 45 = .ok (.putfield 61, 3) := by decide +kernel
theorem d_St_fall_48 : decode b_St_fall 48 = .ok (.iconst 1, 1) := by decide +kernel
theorem d_St_fall_49 : decode b_St_fall 49 = .ok (.istore_n 1, 1) := by decide +kernel
theorem d_St_fall_50 : decode b_St_fall 50 = .ok (.iload_n 1, 1) := by decide +kernel
theorem d_St_fall_51 : decode b_St_fall 51 = .ok (.bipush 40, 2) := by decide +kernel
theorem d_St_fall_53 : decode b_St_fall 53 = .ok (.if_icmp .gt 38, 3) := by decide +kernel
theorem d_St_fall_56 : decode b_St_fall 56 = .ok (.aload_n 0, 1) := by decide +kernel
theorem d_St_fall_57 : decode b_St_fall 57 = .ok (.getfield 12, 3) := by decide +kernel
theorem d_St_fall_60 : decode b_St_fall 60 = .ok (.getfield 64, 3) := by decide +kernel
theorem d_St_fall_63 : decode b_St_fall 63 = .ok (.iload_n 1, 1) := by decide +kernel
theorem d_St_fall_64 : decode b_St_fall 64 = .ok (.iaload, 1) := by decide +kernel
theorem d_St_fall_65 : decode b_St_fall 65 = .ok (.iconst 1, 1) := by decide +kernel
theorem d_St_fall_66 : decode b_St_fall 66 = .ok (.if_icmp .ne 19, 3) := by decide +kernel
theorem d_St_fall_69 : decode b_St_fall 69 = .ok (.aload_n 0, 1) := by decide +kernel
theorem d_St_fall_70 : decode b_St_fall 70 = .ok (.getfield 12, 3) := by decide +kernel
theorem d_St_fall_73 : decode b_St_fall 73 = .ok (.getfield 64, 3) := by decide +kernel
theorem d_St_fall_76 : decode b_St_fall 76 = .ok (.iload_n 1, 1) := by decide +kernel
theorem d_St_fall_77 : decode b_St_fall 77 = .ok (.iconst 3, 1) := by decide +kernel
theorem d_St_fall_78 : decode b_St_fall 78 = .ok (.iastore, 1) := by decide +kernel
theorem d_St_fall_79 : decode b_St_fall 79 = .ok (.aload_n 0, 1) := by decide +kernel
theorem d_St_fall_80 : decode b_St_fall 80 = .ok (.bipush 6, 2) := by decide +kernel
theorem d_St_fall_82 : decode b_St_fall 82 = .ok (.invokevirtual 67, 3) := by decide +kernel
theorem d_St_fall_85 : decode b_St_fall 85 = .ok (.iinc 1 1, 3) := by decide +kernel
theorem d_St_fall_88 : decode b_St_fall 88 = .ok (.goto (-38), 3) := by decide +kernel
theorem d_St_fall_91 : decode b_St_fall 91 = .ok (.return_, 1) := by decide +kernel
theorem d_St_put_0 : decode b_St_put 0 = .ok (.iload_n 2, 1) := by decide +kernel
theorem d_St_put_1 : decode b_St_put 1 = .ok (.bipush 7, 2) := by decide +kernel
theorem d_St_put_3 : decode b_St_put 3 = .ok (.if_icmp .lt 5, 3) := by decide +kernel
theorem d_St_put_6 : decode b_St_put 6 = .ok (.iconst 1, 1) := by decide +kernel
theorem d_St_put_7 : decode b_St_put 7 = .ok (.ireturn, 1) := by decide +kernel
theorem d_St_put_8 : decode b_St_put 8 = .ok (.iconst 0, 1) := by decide +kernel
theorem d_St_put_9 : decode b_St_put 9 = .ok (.istore_n 3, 1) := by decide +kernel
theorem d_St_put_10 : decode b_St_put 10 = .ok (.iload_n 3, 1) := by decide +kernel
theorem d_St_put_11 : decode b_St_put 11 = .ok (.bipush 7, 2) := by decide +kernel
theorem d_St_put_13 : decode b_St_put 13 = .ok (.if_icmp .ge 41, 3) := by decide +kernel
theorem d_St_put_16 : decode b_St_put 16 = .ok (.aload_n 0, 1) := by decide +kernel
theorem d_St_put_17 : decode b_St_put 17 = .ok (.getfield 21, 3) := by decide +kernel
theorem d_St_put_20 : decode b_St_put 20 = .ok (.iload_n 1, 1) := by decide +kernel
theorem d_St_put_21 : decode b_St_put 21 = .ok (.iaload, 1) := by decide +kernel
theorem d_St_put_22 : decode b_St_put 22 = .ok (.aload_n 0, 1) := by decide +kernel
theorem d_St_put_23 : decode b_St_put 23 = .ok (.getfield 25, 3) := by decide +kernel
theorem d_St_put_26 : decode b_St_put 26 = .ok (.iand, 1) := by decide +kernel
theorem d_St_put_27 : decode b_St_put 27 = .ok (.i2l, 1) := by decide +kernel
theorem d_St_put_28 : decode b_St_put 28 = .ok (.iload_n 3, 1) := by decide +kernel
theorem d_St_put_29 : decode b_St_put 29 = .ok (.invokestatic 29, 3) := by decide +kernel
theorem d_St_put_32 : decode b_St_put 32 = .ok (.ifCond .eq 16, 3) := by decide +kernel
theorem d_St_put_35 : decode b_St_put 35 = .ok (.aload_n 0, 1) := by decide +kernel
theorem d_St_put_36 : decode b_St_put 36 = .ok (.iload_n 3, 1) := by decide +kernel
theorem d_St_put_37 : decode b_St_put 37 = .ok (.iload_n 2, 1) := by decide +kernel
theorem d_St_put_38 : decode b_St_put 38 = .ok (.iconst 1, 1) := by decide +kernel
theorem d_St_put_39 : decode b_St_put 39 = .ok (.iadd, 1) := by decide +kernel
theorem d_St_put_40 : decode b_St_put 40 = .ok (.invokevirtual 33, 3) := by decide +kernel
theorem d_St_put_43 : decode b_St_put 43 = .ok (.ifCond .ne 5, 3) := by decide +kernel
theorem d_St_put_46 : decode b_St_put 46 = .ok (.iconst 0, 1) := by decide +kernel
theorem d_St_put_47 : decode b_St_put 47 = .ok (.ireturn, 1) := by decide +kernel
theorem d_St_put_48 : decode b_St_put 48 = .ok (.iinc 3 1, 3) := by decide +kernel
theorem d_St_put_51 : decode b_St_put 51 = .ok (.goto (-41), 3) := by decide +kernel
theorem d_St_put_54 : decode b_St_put 54 = .ok (.aload_n 0, 1) := by decide +kernel
theorem d_St_put_55 : decode b_St_put 55 = .ok (.invokevirtual 37, 3) := by decide +kernel
theorem d_St_put_58 : decode b_St_put 58 = .ok (.ifCond .eq 9, 3) := by decide +kernel
theorem d_St_put_61 : decode b_St_put 61 = .ok (.aload_n 0, 1) := by decide +kernel
theorem d_St_put_62 : decode b_St_put 62 = .ok (.invokevirtual 41, 3) := by decide +kernel
theorem d_St_put_65 : decode b_St_put 65 = .ok (.iconst 0, 1) := by decide +kernel
theorem d_St_put_66 : decode b_St_put 66 = .ok (.ireturn, 1) := by decide +kernel
theorem d_St_put_67 : decode b_St_put 67 = .ok (.aload_n 0, 1) := by decide +kernel
theorem d_St_put_68 : decode b_St_put 68 = .ok (.getfield 18, 3) := by decide +kernel
theorem d_St_put_71 : decode b_St_put 71 = .ok (.aload_n 0, 1) := by decide +kernel
theorem d_St_put_72 : decode b_St_put 72 = .ok (.getfield 12, 3) := by decide +kernel
theorem d_St_put_75 : decode b_St_put 75 = .ok (.iload_n 1, 1) := by decide +kernel
theorem d_St_put_76 : decode b_St_put 76 = .ok (.invokevirtual 44, 3) := by decide +kernel
theorem d_St_put_79 : decode b_St_put 79 = .ok (.aload_n 0, 1) := by decide +kernel
theorem d_St_put_80 : decode b_St_put 80 = .ok (.iload_n 1, 1) := by decide +kernel
theorem d_St_put_81 : decode b_St_put 81 = .ok (.invokevirtual 48, 3) := by decide +kernel
theorem d_St_put_84 : decode b_St_put 84 = .ok (.iconst 1, 1) := by decide +kernel
theorem d_St_put_85 : decode b_St_put 85 = .ok (.ireturn, 1) := by decide +kernel
theorem d_St_putDirty_0 : decode b_St_putDirty 0 = .ok (.iconst 0, 1) := by decide +kernel
theorem d_St_putDirty_1 : decode b_St_putDirty 1 = .ok (.istore_n 2, 1) := by decide +kernel
theorem d_St_putDirty_2 : decode b_St_putDirty 2 = .ok (.iload_n 2, 1) := by decide +kernel
theorem d_St_putDirty_3 : decode b_St_putDirty 3 = .ok (.bipush 7, 2) := by decide +kernel
theorem d_St_putDirty_5 : decode b_St_putDirty 5 = .ok (.if_icmp .ge 34, 3) := by decide +kernel
theorem d_St_putDirty_8 : decode b_St_putDirty 8 = .ok (.iload_n 1, 1) := by decide +kernel
theorem d_St_putDirty_9 : decode b_St_putDirty 9 = .ok (.aload_n 0, 1) := by decide +kernel
theorem d_St_putDirty_10 : decode b_St_putDirty 10 = .ok (.getfield 25, 3) := by decide +kernel
theorem d_St_putDirty_13 : decode b_St_putDirty 13 = .ok (.iand, 1) := by decide +kernel
theorem d_St_putDirty_14 : decode b_St_putDirty 14 = .ok (.i2l, 1) := by decide +kernel
theorem d_St_putDirty_15 : decode b_St_putDirty 15 = .ok (.iload_n 2, 1) := by decide +kernel
theorem d_St_putDirty_16 : decode b_St_putDirty 16 = .ok (.invokestatic 29, 3) := by decide +kernel
theorem d_St_putDirty_19 : decode b_St_putDirty 19 = .ok (.ifCond .eq 14, 3) := by decide +kernel
theorem d_St_putDirty_22 : decode b_St_putDirty 22 = .ok (.aload_n 0, 1) := by decide +kernel
theorem d_St_putDirty_23 : decode b_St_putDirty 23 = .ok (.iload_n 2, 1) := by decide +kernel
theorem d_St_putDirty_24 : decode b_St_putDirty 24 = .ok (.iconst 0, 1) := by decide +kernel
theorem d_St_putDirty_25 : decode b_St_putDirty 25 = .ok (.invokevirtual 33, 3) := by decide +kernel
theorem d_St_putDirty_28 : decode b_St_putDirty 28 = .ok (.ifCond .ne 5, 3) := by decide +kernel
theorem d_St_putDirty_31 : decode b_St_putDirty 31 = .ok (.iconst 0, 1) := by decide +kernel
theorem d_St_putDirty_32 : decode b_St_putDirty 32 = .ok (.ireturn, 1) := by decide +kernel
theorem d_St_putDirty_33 : decode b_St_putDirty 33 = .ok (.iinc 2 1, 3) := by decide +kernel
theorem d_St_putDirty_36 : decode b_St_putDirty 36 = .ok (.goto (-34), 3) := by decide +kernel
theorem d_St_putDirty_39 : decode b_St_putDirty 39 = .ok (.iconst 1, 1) := by decide +kernel
theorem d_St_putDirty_40 : decode b_St_putDirty 40 = .ok (.ireturn, 1) := by decide +kernel
theorem d_St_mustPrecede_0 : decode b_St_mustPrecede 0 = .ok (.aload_n 0, 1) := by decide +kernel
theorem d_St_mustPrecede_1 : decode b_St_mustPrecede 1 = .ok (.getfield 21, 3) := by decide +kernel
theorem d_St_mustPrecede_4 : decode b_St_mustPrecede 4 = .ok (.iload_n 2, 1) := by decide +kernel
theorem d_St_mustPrecede_5 : decode b_St_mustPrecede 5 = .ok (.iaload, 1) := by decide +kernel
theorem d_St_mustPrecede_6 : decode b_St_mustPrecede 6 = .ok (.istore_n 3, 1) := by decide +kernel
theorem d_St_mustPrecede_7 : decode b_St_mustPrecede 7 = .ok (.iconst 0, 1) := by decide +kernel
theorem d_St_mustPrecede_8 : decode b_St_mustPrecede 8 = .ok (.istore 4, 2) := by decide +kernel
theorem d_St_mustPrecede_10 : decode b_St_mustPrecede 10 = .ok (.iload 4, 2) := by decide +kernel
theorem d_St_mustPrecede_12 : decode b_St_mustPrecede 12 = .ok (.bipush 7, 2) := by decide +kernel
theorem d_St_mustPrecede_14 : decode b_St_mustPrecede 14 = .ok (.if_icmp .ge 45, 3) := by decide +kernel
theorem d_St_mustPrecede_17 : decode b_St_mustPrecede 17 = .ok (.iconst 0, 1) := by decide +kernel
theorem d_St_mustPrecede_18 : decode b_St_mustPrecede 18 = .ok (.istore 5, 2) := by decide +kernel
theorem d_St_mustPrecede_20 : decode b_St_mustPrecede 20 = .ok (.iload 5, 2) := by decide +kernel
theorem d_St_mustPrecede_22 : decode b_St_mustPrecede 22 = .ok (.bipush 7, 2) := by decide +kernel
theorem d_St_mustPrecede_24 : decode b_St_mustPrecede 24 = .ok (.if_icmp .ge 29, 3) := by decide +kernel
theorem d_St_mustPrecede_27 : decode b_St_mustPrecede 27 = .ok (.iload_n 3, 1) := by decide +kernel
theorem d_St_mustPrecede_28 : decode b_St_mustPrecede 28 = .ok (.i2l, 1) := by decide +kernel
theorem d_St_mustPrecede_29 : decode b_St_mustPrecede 29 = .ok (.iload 5, 2) := by decide +kernel
theorem d_St_mustPrecede_31 : decode b_St_mustPrecede 31 = .ok (.invokestatic 29, 3) := by decide +kernel
theorem d_St_mustPrecede_34 : decode b_St_mustPrecede 34 = .ok (.ifCond .eq 13, 3) := by decide +kernel
theorem d_St_mustPrecede_37 : decode b_St_mustPrecede 37 = .ok (.iload_n 3, 1) := by decide +kernel
theorem d_St_mustPrecede_38 : decode b_St_mustPrecede 38 = .ok (.aload_n 0, 1) := by decide +kernel
theorem d_St_mustPrecede_39 : decode b_St_mustPrecede 39 = .ok (.getfield 21, 3) := by decide +kernel
theorem d_St_mustPrecede_42 : decode b_St_mustPrecede 42 = .ok (.iload 5, 2) := by decide +kernel
theorem d_St_mustPrecede_44 : decode b_St_mustPrecede 44 = .ok (.iaload, 1) := by decide +kernel
theorem d_St_mustPrecede_45 : decode b_St_mustPrecede 45 = .ok (.ior, 1) := by decide +kernel
theorem d_St_mustPrecede_46 : decode b_St_mustPrecede 46 = .ok (.istore_n 3, 1) := by decide +kernel
theorem d_St_mustPrecede_47 : decode b_St_mustPrecede 47 = .ok (.iinc 5 1, 3) := by decide +kernel
theorem d_St_mustPrecede_50 : decode b_St_mustPrecede 50 = .ok (.goto (-30), 3) := by decide +kernel
theorem d_St_mustPrecede_53 : decode b_St_mustPrecede 53 = .ok (.iinc 4 1, 3) := by decide +kernel
theorem d_St_mustPrecede_56 : decode b_St_mustPrecede 56 = .ok (.goto (-46), 3) := by decide +kernel
theorem d_St_mustPrecede_59 : decode b_St_mustPrecede 59 = .ok (.iload_n 3, 1) := by decide +kernel
theorem d_St_mustPrecede_60 : decode b_St_mustPrecede 60 = .ok (.i2l, 1) := by decide +kernel
theorem d_St_mustPrecede_61 : decode b_St_mustPrecede 61 = .ok (.iload_n 1, 1) := by decide +kernel
theorem d_St_mustPrecede_62 : decode b_St_mustPrecede 62 = .ok (.invokestatic 29, 3) := by decide +kernel
theorem d_St_mustPrecede_65 : decode b_St_mustPrecede 65 = .ok (.ireturn, 1) := by decide +kernel
theorem d_St_note_0 : decode b_St_note 0 = .ok (.iload_n 1, 1) := by decide +kernel
theorem d_St_note_1 : decode b_St_note 1 = .ok (.iload_n 2, 1) := by decide +kernel
theorem d_St_note_2 : decode b_St_note 2 = .ok (.if_icmp .ne 5, 3) := by decide +kernel
theorem d_St_note_5 : decode b_St_note 5 = .ok (.iconst 1, 1) := by decide +kernel
theorem d_St_note_6 : decode b_St_note 6 = .ok (.ireturn, 1) := by decide +kernel
theorem d_St_note_7 : decode b_St_note 7 = .ok (.aload_n 0, 1) := by decide +kernel
theorem d_St_note_8 : decode b_St_note 8 = .ok (.iload_n 2, 1) := by decide +kernel
theorem d_St_note_9 : decode b_St_note 9 = .ok (.iload_n 1, 1) := by decide +kernel
theorem d_St_note_10 : decode b_St_note 10 = .ok (.invokevirtual 58, 3) := by decide +kernel
theorem d_St_note_13 : decode b_St_note 13 = .ok (.ifCond .eq 14, 3) := by decide +kernel
theorem d_St_note_16 : decode b_St_note 16 = .ok (.aload_n 0, 1) := by decide +kernel
theorem d_St_note_17 : decode b_St_note 17 = .ok (.iload_n 2, 1) := by decide +kernel
theorem d_St_note_18 : decode b_St_note 18 = .ok (.iconst 0, 1) := by decide +kernel
theorem d_St_note_19 : decode b_St_note 19 = .ok (.invokevirtual 33, 3) := by decide +kernel
theorem d_St_note_22 : decode b_St_note 22 = .ok (.ifCond .ne 5, 3) := by decide +kernel
theorem d_St_note_25 : decode b_St_note 25 = .ok (.iconst 0, 1) := by decide +kernel
theorem d_St_note_26 : decode b_St_note 26 = .ok (.ireturn, 1) := by decide +kernel
theorem d_St_note_27 : decode b_St_note 27 = .ok (.aload_n 0, 1) := by decide +kernel
theorem d_St_note_28 : decode b_St_note 28 = .ok (.getfield 21, 3) := by decide +kernel
theorem d_St_note_31 : decode b_St_note 31 = .ok (.iload_n 2, 1) := by decide +kernel
theorem d_St_note_32 : decode b_St_note 32 = .ok (.dup2, 1) := by decide +kernel
theorem d_St_note_33 : decode b_St_note 33 = .ok (.iaload, 1) := by decide +kernel
theorem d_St_note_34 : decode b_St_note 34 = .ok (.iconst 1, 1) := by decide +kernel
theorem d_St_note_35 : decode b_St_note 35 = .ok (.iload_n 1, 1) := by decide +kernel
theorem d_St_note_36 : decode b_St_note 36 = .ok (.ishl, 1) := by decide +kernel
theorem d_St_note_37 : decode b_St_note 37 = .ok (.ior, 1) := by decide +kernel
theorem d_St_note_38 : decode b_St_note 38 = .ok (.iastore, 1) := by decide +kernel
theorem d_St_note_39 : decode b_St_note 39 = .ok (.iconst 1, 1) := by decide +kernel
theorem d_St_note_40 : decode b_St_note 40 = .ok (.ireturn, 1) := by decide +kernel
end
section
def f_Co_init_38 (N : Nat) : Nat → Int32 → K_Co → Option K_Co
  | 0, _, _ => none
  | n + 1, x1, U => (if (15 : Int32) ≤ x1 then some U else (if xi x1 15 = true then f_Co_init_38 N n (x1 + (1 : Int32)) (U.1, (U.2.1, ((upd U.2.2.1 x1.toNatClampNeg (-1 : Int32)), U.2.2.2))) else none))
def f_Co_init (N : Nat) : Option K_Co := f_Co_init_38 N N (0 : Int32) ((fun _ => 0), ((fun _ => 0), ((fun _ => 0), (fun _ => 0))))
def rm_Co_init : Room := { frames := 1, cells := 4, slots := 86, locals := 20 }
def f_Co_fill (N : Nat) (p0 : Int32) (p1 : Int32) (p2 : Int32) (p3 : Int32) (U : K_Co) : Option (Unit × K_Co) := (if xi p0 15 = true then (if xi p0 15 = true then (if xi p0 15 = true then some ((), ((upd U.1 p0.toNatClampNeg p1), ((upd U.2.1 p0.toNatClampNeg p2), ((upd U.2.2.1 p0.toNatClampNeg p3), U.2.2.2)))) else none) else none) else none)
def rm_Co_fill : Room := { frames := 0, cells := 0, slots := 0, locals := 0 }
def f_Co_empty (N : Nat) (p0 : Int32) (U : K_Co) : Option (Unit × K_Co) := ((f_Co_fill N p0 (0 : Int32) (0 : Int32) (-1 : Int32) U).bind fun z1 => some ((), z1.2))
def rm_Co_empty : Room := { frames := 1, cells := 0, slots := 0, locals := 24 }
def f_Co_move (N : Nat) (p0 : Int32) (p1 : Int32) (U : K_Co) : Option (Unit × K_Co) := (if xi p0 15 = true then (if xi p0 15 = true then (if xi p0 15 = true then ((f_Co_fill N p1 (U.1 p0.toNatClampNeg) (U.2.1 p0.toNatClampNeg) (U.2.2.1 p0.toNatClampNeg) U).bind fun z4 => some ((), z4.2)) else none) else none) else none)
def rm_Co_move : Room := { frames := 1, cells := 0, slots := 0, locals := 24 }
def f_Co_takePage (N : Nat) (p1 : Int32) (U : K_CC) : Option (Unit × K_CC) := (if p1 = (6 : Int32) then some ((), ((U.1.1, (U.1.2.1, (U.1.2.2.1, (va_cpy U.2.2.2.2 U.1.2.2.2 (0 : Int32).toNatClampNeg (0 : Int32).toNatClampNeg (41 : Int32).toNatClampNeg)))), U.2)) else (if (3 : Int32) ≤ p1 then (if (3 : Int32) ≤ p1 then (if ¬ ((6 : Int32) + ((p1 - (3 : Int32)) * (3 : Int32))) < 0 ∧ ¬ ((6 : Int32) + ((p1 - (3 : Int32)) * (3 : Int32))) < 0 ∧ ¬ (3 : Int32) < 0 ∧ ((6 : Int32) + ((p1 - (3 : Int32)) * (3 : Int32))).toNatClampNeg + (3 : Int32).toNatClampNeg ≤ 15 ∧ ((6 : Int32) + ((p1 - (3 : Int32)) * (3 : Int32))).toNatClampNeg + (3 : Int32).toNatClampNeg ≤ 15 then (if ¬ ((6 : Int32) + ((p1 - (3 : Int32)) * (3 : Int32))) < 0 ∧ ¬ ((6 : Int32) + ((p1 - (3 : Int32)) * (3 : Int32))) < 0 ∧ ¬ (3 : Int32) < 0 ∧ ((6 : Int32) + ((p1 - (3 : Int32)) * (3 : Int32))).toNatClampNeg + (3 : Int32).toNatClampNeg ≤ 15 ∧ ((6 : Int32) + ((p1 - (3 : Int32)) * (3 : Int32))).toNatClampNeg + (3 : Int32).toNatClampNeg ≤ 15 then (if ¬ ((6 : Int32) + ((p1 - (3 : Int32)) * (3 : Int32))) < 0 ∧ ¬ ((6 : Int32) + ((p1 - (3 : Int32)) * (3 : Int32))) < 0 ∧ ¬ (3 : Int32) < 0 ∧ ((6 : Int32) + ((p1 - (3 : Int32)) * (3 : Int32))).toNatClampNeg + (3 : Int32).toNatClampNeg ≤ 15 ∧ ((6 : Int32) + ((p1 - (3 : Int32)) * (3 : Int32))).toNatClampNeg + (3 : Int32).toNatClampNeg ≤ 15 then some ((), (((va_cpy U.2.1 U.1.1 ((6 : Int32) + ((p1 - (3 : Int32)) * (3 : Int32))).toNatClampNeg ((6 : Int32) + ((p1 - (3 : Int32)) * (3 : Int32))).toNatClampNeg (3 : Int32).toNatClampNeg), ((va_cpy U.2.2.1 U.1.2.1 ((6 : Int32) + ((p1 - (3 : Int32)) * (3 : Int32))).toNatClampNeg ((6 : Int32) + ((p1 - (3 : Int32)) * (3 : Int32))).toNatClampNeg (3 : Int32).toNatClampNeg), ((va_cpy U.2.2.2.1 U.1.2.2.1 ((6 : Int32) + ((p1 - (3 : Int32)) * (3 : Int32))).toNatClampNeg ((6 : Int32) + ((p1 - (3 : Int32)) * (3 : Int32))).toNatClampNeg (3 : Int32).toNatClampNeg), U.1.2.2.2))), U.2)) else none) else none) else none) else (if ¬ ((6 : Int32) + ((p1 - (3 : Int32)) * (3 : Int32))) < 0 ∧ ¬ ((6 : Int32) + ((p1 - (3 : Int32)) * (3 : Int32))) < 0 ∧ ¬ (2 : Int32) < 0 ∧ ((6 : Int32) + ((p1 - (3 : Int32)) * (3 : Int32))).toNatClampNeg + (2 : Int32).toNatClampNeg ≤ 15 ∧ ((6 : Int32) + ((p1 - (3 : Int32)) * (3 : Int32))).toNatClampNeg + (2 : Int32).toNatClampNeg ≤ 15 then (if ¬ ((6 : Int32) + ((p1 - (3 : Int32)) * (3 : Int32))) < 0 ∧ ¬ ((6 : Int32) + ((p1 - (3 : Int32)) * (3 : Int32))) < 0 ∧ ¬ (2 : Int32) < 0 ∧ ((6 : Int32) + ((p1 - (3 : Int32)) * (3 : Int32))).toNatClampNeg + (2 : Int32).toNatClampNeg ≤ 15 ∧ ((6 : Int32) + ((p1 - (3 : Int32)) * (3 : Int32))).toNatClampNeg + (2 : Int32).toNatClampNeg ≤ 15 then (if ¬ ((6 : Int32) + ((p1 - (3 : Int32)) * (3 : Int32))) < 0 ∧ ¬ ((6 : Int32) + ((p1 - (3 : Int32)) * (3 : Int32))) < 0 ∧ ¬ (2 : Int32) < 0 ∧ ((6 : Int32) + ((p1 - (3 : Int32)) * (3 : Int32))).toNatClampNeg + (2 : Int32).toNatClampNeg ≤ 15 ∧ ((6 : Int32) + ((p1 - (3 : Int32)) * (3 : Int32))).toNatClampNeg + (2 : Int32).toNatClampNeg ≤ 15 then some ((), (((va_cpy U.2.1 U.1.1 ((6 : Int32) + ((p1 - (3 : Int32)) * (3 : Int32))).toNatClampNeg ((6 : Int32) + ((p1 - (3 : Int32)) * (3 : Int32))).toNatClampNeg (2 : Int32).toNatClampNeg), ((va_cpy U.2.2.1 U.1.2.1 ((6 : Int32) + ((p1 - (3 : Int32)) * (3 : Int32))).toNatClampNeg ((6 : Int32) + ((p1 - (3 : Int32)) * (3 : Int32))).toNatClampNeg (2 : Int32).toNatClampNeg), ((va_cpy U.2.2.2.1 U.1.2.2.1 ((6 : Int32) + ((p1 - (3 : Int32)) * (3 : Int32))).toNatClampNeg ((6 : Int32) + ((p1 - (3 : Int32)) * (3 : Int32))).toNatClampNeg (2 : Int32).toNatClampNeg), U.1.2.2.2))), U.2)) else none) else none) else none)) else (if (3 : Int32) ≤ p1 then (if ¬ (p1 * (2 : Int32)) < 0 ∧ ¬ (p1 * (2 : Int32)) < 0 ∧ ¬ (3 : Int32) < 0 ∧ (p1 * (2 : Int32)).toNatClampNeg + (3 : Int32).toNatClampNeg ≤ 15 ∧ (p1 * (2 : Int32)).toNatClampNeg + (3 : Int32).toNatClampNeg ≤ 15 then (if ¬ (p1 * (2 : Int32)) < 0 ∧ ¬ (p1 * (2 : Int32)) < 0 ∧ ¬ (3 : Int32) < 0 ∧ (p1 * (2 : Int32)).toNatClampNeg + (3 : Int32).toNatClampNeg ≤ 15 ∧ (p1 * (2 : Int32)).toNatClampNeg + (3 : Int32).toNatClampNeg ≤ 15 then (if ¬ (p1 * (2 : Int32)) < 0 ∧ ¬ (p1 * (2 : Int32)) < 0 ∧ ¬ (3 : Int32) < 0 ∧ (p1 * (2 : Int32)).toNatClampNeg + (3 : Int32).toNatClampNeg ≤ 15 ∧ (p1 * (2 : Int32)).toNatClampNeg + (3 : Int32).toNatClampNeg ≤ 15 then some ((), (((va_cpy U.2.1 U.1.1 (p1 * (2 : Int32)).toNatClampNeg (p1 * (2 : Int32)).toNatClampNeg (3 : Int32).toNatClampNeg), ((va_cpy U.2.2.1 U.1.2.1 (p1 * (2 : Int32)).toNatClampNeg (p1 * (2 : Int32)).toNatClampNeg (3 : Int32).toNatClampNeg), ((va_cpy U.2.2.2.1 U.1.2.2.1 (p1 * (2 : Int32)).toNatClampNeg (p1 * (2 : Int32)).toNatClampNeg (3 : Int32).toNatClampNeg), U.1.2.2.2))), U.2)) else none) else none) else none) else (if ¬ (p1 * (2 : Int32)) < 0 ∧ ¬ (p1 * (2 : Int32)) < 0 ∧ ¬ (2 : Int32) < 0 ∧ (p1 * (2 : Int32)).toNatClampNeg + (2 : Int32).toNatClampNeg ≤ 15 ∧ (p1 * (2 : Int32)).toNatClampNeg + (2 : Int32).toNatClampNeg ≤ 15 then (if ¬ (p1 * (2 : Int32)) < 0 ∧ ¬ (p1 * (2 : Int32)) < 0 ∧ ¬ (2 : Int32) < 0 ∧ (p1 * (2 : Int32)).toNatClampNeg + (2 : Int32).toNatClampNeg ≤ 15 ∧ (p1 * (2 : Int32)).toNatClampNeg + (2 : Int32).toNatClampNeg ≤ 15 then (if ¬ (p1 * (2 : Int32)) < 0 ∧ ¬ (p1 * (2 : Int32)) < 0 ∧ ¬ (2 : Int32) < 0 ∧ (p1 * (2 : Int32)).toNatClampNeg + (2 : Int32).toNatClampNeg ≤ 15 ∧ (p1 * (2 : Int32)).toNatClampNeg + (2 : Int32).toNatClampNeg ≤ 15 then some ((), (((va_cpy U.2.1 U.1.1 (p1 * (2 : Int32)).toNatClampNeg (p1 * (2 : Int32)).toNatClampNeg (2 : Int32).toNatClampNeg), ((va_cpy U.2.2.1 U.1.2.1 (p1 * (2 : Int32)).toNatClampNeg (p1 * (2 : Int32)).toNatClampNeg (2 : Int32).toNatClampNeg), ((va_cpy U.2.2.2.1 U.1.2.2.1 (p1 * (2 : Int32)).toNatClampNeg (p1 * (2 : Int32)).toNatClampNeg (2 : Int32).toNatClampNeg), U.1.2.2.2))), U.2)) else none) else none) else none))))
def rm_Co_takePage : Room := { frames := 1, cells := 0, slots := 0, locals := 60 }
def f_Co_isRolled (N : Nat) (p0 : Int32) (U : K_Co) : Option (Int32 × K_Co) := (if xi p0 15 = true then (if (U.1 p0.toNatClampNeg) = 0 then some ((0 : Int32), U) else (if xi p0 15 = true then (if xi (U.1 p0.toNatClampNeg) 41 = true then (if (U.2.2.2 (U.1 p0.toNatClampNeg).toNatClampNeg) = (3 : Int32) then some ((1 : Int32), U) else some ((0 : Int32), U)) else none) else none)) else none)
def rm_Co_isRolled : Room := { frames := 0, cells := 0, slots := 0, locals := 0 }
def f_Co_next (N : Nat) (p0 : Int32) (U : K_Co) : Option (Int32 × K_Co) := (if xi p0 15 = true then (if (U.2.2.1 p0.toNatClampNeg) = (-1 : Int32) then some ((-1 : Int32), U) else (if xi (U.2.2.1 p0.toNatClampNeg) 15 = true then (if (U.1 (U.2.2.1 p0.toNatClampNeg).toNatClampNeg) = 0 then some ((-1 : Int32), U) else some ((U.2.2.1 p0.toNatClampNeg), U)) else none)) else none)
def rm_Co_next : Room := { frames := 0, cells := 0, slots := 0, locals := 0 }
def f_Co_placeAt_26 (N : Nat) : Nat → Int32 → Int32 → Int32 → K_Co → Option (Int32 × K_Co)
  | 0, _, _, _, _ => none
  | n + 1, x2, x3, x4, U => (if x2 ≤ x4 then some (x3, U) else (if x3 = (-1 : Int32) then some (x3, U) else ((f_Co_next N x3 U).bind fun z2 => f_Co_placeAt_26 N n x2 z2.1 (x4 + (1 : Int32)) z2.2)))
def f_Co_placeAt (N : Nat) (p0 : Int32) (p1 : Int32) (U : K_Co) : Option (Int32 × K_Co) := (if p1 < 0 then some ((-1 : Int32), U) else (if (15 : Int32) ≤ p1 then some ((-1 : Int32), U) else (if xi p0 15 = true then (if (U.1 p0.toNatClampNeg) = 0 then some ((-1 : Int32), U) else f_Co_placeAt_26 N N p1 p0 (0 : Int32) U) else none)))
def rm_Co_placeAt : Room := { frames := 1, cells := 0, slots := 0, locals := 22 }
def f_Rv_has (N : Nat) (p0 : Int64) (p1 : Int32) : Option Int32 := (if (lg_cmp ((p0 >>> (p1.toInt64 &&& 63)) &&& (1 : Int64)) (0 : Int64)) = 0 then some (0 : Int32) else some (1 : Int32))
def rm_Rv_has : Room := { frames := 0, cells := 0, slots := 0, locals := 0 }
def f_Co_firstOf_11 (N : Nat) : Nat → Int64 → Int32 → Int32 → K_Co → Option (Int32 × K_Co)
  | 0, _, _, _, _ => none
  | n + 1, x1, x4, x5, U => (if (15 : Int32) ≤ x5 then some ((-1 : Int32), U) else (if x4 = (-1 : Int32) then some ((-1 : Int32), U) else (if xi x4 15 = true then ((f_Rv_has N x1 (U.1 x4.toNatClampNeg) ).bind fun z3 => (if z3 = 0 then ((f_Co_next N x4 U).bind fun z4 => f_Co_firstOf_11 N n x1 z4.1 (x5 + (1 : Int32)) z4.2) else some (x4, U))) else none)))
def f_Co_firstOf (N : Nat) (p0 : Int64) (p1 : Int32) (U : K_Co) : Option (Int32 × K_Co) := ((f_Co_placeAt N p1 (0 : Int32) U).bind fun z1 => f_Co_firstOf_11 N N p0 z1.1 (0 : Int32) z1.2)
def rm_Co_firstOf : Room := { frames := 2, cells := 0, slots := 0, locals := 46 }
def f_Co_chainBehind_9 (N : Nat) : Nat → Int32 → Int32 → K_CR → Option (Int32 × K_CR)
  | 0, _, _, _ => none
  | n + 1, x3, x4, U => (if x4 = (-1 : Int32) then some (x3, U) else (if (9 : Int32) ≤ x3 then some (x3, U) else (if xi x3 9 = true then ((f_Co_next N x4 U.1).bind fun z3 => f_Co_chainBehind_9 N n (x3 + (1 : Int32)) z3.1 (z3.2, (upd U.2 x3.toNatClampNeg x4))) else none)))
def f_Co_chainBehind (N : Nat) (p0 : Int32) (U : K_CR) : Option (Int32 × K_CR) := ((f_Co_next N p0 U.1).bind fun z1 => f_Co_chainBehind_9 N N (0 : Int32) z1.1 (z1.2, U.2))
def rm_Co_chainBehind : Room := { frames := 1, cells := 0, slots := 0, locals := 22 }
def f_Co_leastFree_3 (N : Nat) : Nat → Int32 → K_Co → Option (Int32 × K_Co)
  | 0, _, _ => none
  | n + 1, x1, U => (if (15 : Int32) ≤ x1 then some ((-1 : Int32), U) else (if xi x1 15 = true then (if (U.1 x1.toNatClampNeg) = 0 then some (x1, U) else f_Co_leastFree_3 N n (x1 + (1 : Int32)) U) else none))
def f_Co_leastFree (N : Nat) (U : K_Co) : Option (Int32 × K_Co) := f_Co_leastFree_3 N N (6 : Int32) U
def rm_Co_leastFree : Room := { frames := 0, cells := 0, slots := 0, locals := 0 }
def f_Co_freeSlots_5 (N : Nat) : Nat → Int32 → Int32 → K_Co → Option (Int32 × K_Co)
  | 0, _, _, _ => none
  | n + 1, x1, x2, U => (if (15 : Int32) ≤ x2 then some (x1, U) else (if xi x2 15 = true then (if (U.1 x2.toNatClampNeg) = 0 then f_Co_freeSlots_5 N n (x1 + (1 : Int32)) (x2 + (1 : Int32)) U else f_Co_freeSlots_5 N n (x1 + (0 : Int32)) (x2 + (1 : Int32)) U) else none))
def f_Co_freeSlots (N : Nat) (U : K_Co) : Option (Int32 × K_Co) := f_Co_freeSlots_5 N N (0 : Int32) (6 : Int32) U
def rm_Co_freeSlots : Room := { frames := 0, cells := 0, slots := 0, locals := 0 }
def f_Co_leastUnused_2 (N : Nat) : Nat → Int32 → K_Co → Option (Int32 × K_Co)
  | 0, _, _ => none
  | n + 1, x1, U => (if (40 : Int32) < x1 then some ((0 : Int32), U) else (if xi x1 41 = true then (if (U.2.2.2 x1.toNatClampNeg) = 0 then some (x1, U) else f_Co_leastUnused_2 N n (x1 + (1 : Int32)) U) else none))
def f_Co_leastUnused (N : Nat) (U : K_Co) : Option (Int32 × K_Co) := f_Co_leastUnused_2 N N (1 : Int32) U
def rm_Co_leastUnused : Room := { frames := 0, cells := 0, slots := 0, locals := 0 }
def f_Co_setIn_5 (N : Nat) : Nat → Int32 → Int64 → Int32 → K_Co → Option (Int64 × K_Co)
  | 0, _, _, _, _ => none
  | n + 1, x1, x2, x4, U => (if (40 : Int32) < x4 then some (x2, U) else (if xi x4 41 = true then (if (U.2.2.2 x4.toNatClampNeg) = x1 then f_Co_setIn_5 N n x1 (x2 ||| ((1 : Int64) <<< (x4.toInt64 &&& 63))) (x4 + (1 : Int32)) U else f_Co_setIn_5 N n x1 x2 (x4 + (1 : Int32)) U) else none))
def f_Co_setIn (N : Nat) (p0 : Int32) (U : K_Co) : Option (Int64 × K_Co) := f_Co_setIn_5 N N p0 (0 : Int64) (1 : Int32) U
def rm_Co_setIn : Room := { frames := 0, cells := 0, slots := 0, locals := 0 }
def f_JL_bitCount (N : Nat) (p0 : Int64) : Option Int32 := (xlet (p0 - (((p0).toUInt64 >>> (((1 : Int32)).toInt64.toUInt64 &&& Int64.toUInt64 63)).toInt64 &&& (6148914691236517205 : Int64))) fun y1 => (xlet ((y1 &&& (3689348814741910323 : Int64)) + (((y1).toUInt64 >>> (((2 : Int32)).toInt64.toUInt64 &&& Int64.toUInt64 63)).toInt64 &&& (3689348814741910323 : Int64))) fun y2 => (xlet ((y2 + ((y2).toUInt64 >>> (((4 : Int32)).toInt64.toUInt64 &&& Int64.toUInt64 63)).toInt64) &&& (1085102592571150095 : Int64)) fun y3 => (xlet (y3 + ((y3).toUInt64 >>> (((8 : Int32)).toInt64.toUInt64 &&& Int64.toUInt64 63)).toInt64) fun y4 => (xlet (y4 + ((y4).toUInt64 >>> (((16 : Int32)).toInt64.toUInt64 &&& Int64.toUInt64 63)).toInt64) fun y5 => (xlet (y5 + ((y5).toUInt64 >>> (((32 : Int32)).toInt64.toUInt64 &&& Int64.toUInt64 63)).toInt64) fun y6 => some ((y6).toInt32 &&& (127 : Int32))))))))
def rm_JL_bitCount : Room := { frames := 0, cells := 0, slots := 0, locals := 0 }
def f_Co_active (N : Nat) (U : K_Co) : Option (Int32 × K_Co) := ((f_Co_setIn N (1 : Int32) U).bind fun z1 => ((f_JL_bitCount N z1.1 ).bind fun z2 => some (z2, z1.2)))
def rm_Co_active : Room := { frames := 1, cells := 0, slots := 0, locals := 24 }
def f_Co_committed (N : Nat) (U : K_Co) : Option (Int64 × K_Co) := ((f_Co_setIn N (2 : Int32) U).bind fun z1 => some (z1.1, z1.2))
def rm_Co_committed : Room := { frames := 1, cells := 0, slots := 0, locals := 24 }
def f_St_init (N : Nat) : Option K_St := ((f_Co_init N).bind fun z2 => ((f_Co_init N).bind fun z5 => some (z2, (z5, ((fun _ => 0), ((0 : Int32), ((0 : Int32), ((0 : Int32), (0 : Int32)))))))))
def rm_St_init : Room := { frames := 2, cells := 11, slots := 187, locals := 41 }
def f_St_changed (N : Nat) (p0 : Int32) (U : K_St) : Option (Unit × K_St) := some ((), (U.1, (U.2.1, (U.2.2.1, ((U.2.2.2.1 ||| ((1 : Int32) <<< (p0 &&& 31))), U.2.2.2.2)))))
def rm_St_changed : Room := { frames := 0, cells := 0, slots := 0, locals := 0 }
def f_St_failsNow (N : Nat) (U : K_St) : Option (Int32 × K_St) := (if U.2.2.2.2.2.2 = 0 then some ((0 : Int32), U) else (if (U.2.2.2.2.2.2 - (1 : Int32)) = 0 then some ((1 : Int32), (U.1, (U.2.1, (U.2.2.1, (U.2.2.2.1, (U.2.2.2.2.1, (U.2.2.2.2.2.1, (U.2.2.2.2.2.2 - (1 : Int32))))))))) else some ((0 : Int32), (U.1, (U.2.1, (U.2.2.1, (U.2.2.2.1, (U.2.2.2.2.1, (U.2.2.2.2.2.1, (U.2.2.2.2.2.2 - (1 : Int32)))))))))))
def rm_St_failsNow : Room := { frames := 0, cells := 0, slots := 0, locals := 0 }
def f_St_settle_16 (N : Nat) : Nat → Int32 → Int32 → K_St → Option (Unit × K_St)
  | 0, _, _, _ => none
  | n + 1, x1, x2, U => (if (7 : Int32) ≤ x2 then some ((), (U.1, (U.2.1, (U.2.2.1, (U.2.2.2.1, ((U.2.2.2.2.1 + (1 : Int32)), U.2.2.2.2.2)))))) else (if xi x2 7 = true then (if xi x2 7 = true then f_St_settle_16 N n x1 (x2 + (1 : Int32)) (U.1, (U.2.1, ((upd U.2.2.1 x2.toNatClampNeg ((U.2.2.1 x2.toNatClampNeg) &&& (((1 : Int32) <<< (x1 &&& 31)) ^^^ (-1 : Int32)))), U.2.2.2))) else none) else none))
def f_St_settle (N : Nat) (p0 : Int32) (U : K_St) : Option (Unit × K_St) := f_St_settle_16 N N p0 (0 : Int32) (U.1, (U.2.1, (U.2.2.1, ((U.2.2.2.1 &&& (((1 : Int32) <<< (p0 &&& 31)) ^^^ (-1 : Int32))), U.2.2.2.2))))
def rm_St_settle : Room := { frames := 0, cells := 0, slots := 0, locals := 0 }
def f_St_fall_50 (N : Nat) : Nat → Int32 → K_St → Option (Unit × K_St)
  | 0, _, _ => none
  | n + 1, x1, U => (if (40 : Int32) < x1 then some ((), U) else (if xi x1 41 = true then (if (U.1.2.2.2 x1.toNatClampNeg) = (1 : Int32) then (if xi x1 41 = true then ((f_St_changed N (6 : Int32) ((U.1.1, (U.1.2.1, (U.1.2.2.1, (upd U.1.2.2.2 x1.toNatClampNeg (3 : Int32))))), U.2)).bind fun z3 => f_St_fall_50 N n (x1 + (1 : Int32)) z3.2) else none) else f_St_fall_50 N n (x1 + (1 : Int32)) U) else none))
def f_St_fall_2 (N : Nat) : Nat → Int32 → K_St → Option (Unit × K_St)
  | 0, _, _ => none
  | n + 1, x1, U => (if (7 : Int32) ≤ x1 then f_St_fall_50 N N (1 : Int32) (U.1, (U.2.1, (U.2.2.1, ((0 : Int32), (U.2.2.2.2.1, ((U.2.2.2.2.2.1 + (1 : Int32)), U.2.2.2.2.2.2)))))) else ((f_Co_takePage N x1 (U.1, U.2.1)).bind fun z6 => (if xi x1 7 = true then f_St_fall_2 N n (x1 + (1 : Int32)) (z6.2.1, (z6.2.2, ((upd U.2.2.1 x1.toNatClampNeg (0 : Int32)), U.2.2.2))) else none)))
def f_St_fall (N : Nat) (U : K_St) : Option (Unit × K_St) := f_St_fall_2 N N (0 : Int32) U
def rm_St_fall : Room := { frames := 2, cells := 0, slots := 0, locals := 84 }
def f_St_put_10 (N : Nat) (rc : Int32 → Int32 → K_St → Option (Int32 × K_St)) : Nat → Int32 → Int32 → Int32 → K_St → Option (Int32 × K_St)
  | 0, _, _, _, _ => none
  | n + 1, x1, x2, x3, U => (if (7 : Int32) ≤ x3 then ((f_St_failsNow N  U).bind fun z1 => (if z1.1 = 0 then ((f_Co_takePage N x1 (z1.2.2.1, z1.2.1)).bind fun z2 => ((f_St_settle N x1 (z2.2.2, (z2.2.1, z1.2.2.2))).bind fun z3 => some ((1 : Int32), z3.2))) else ((f_St_fall N  z1.2).bind fun z4 => some ((0 : Int32), z4.2)))) else (if xi x1 7 = true then ((f_Rv_has N ((U.2.2.1 x1.toNatClampNeg) &&& U.2.2.2.1).toInt64 x3 ).bind fun z7 => (if z7 = 0 then f_St_put_10 N rc n x1 x2 (x3 + (1 : Int32)) U else ((rc x3 (x2 + (1 : Int32)) U).bind fun z8 => (if z8.1 = 0 then some ((0 : Int32), z8.2) else f_St_put_10 N rc n x1 x2 (x3 + (1 : Int32)) z8.2)))) else none))
def f_St_put (N : Nat) : Nat → Int32 → Int32 → K_St → Option (Int32 × K_St)
  | 0, _, _, _ => none
  | d + 1, p0, p1, U => (fun (rc : Int32 → Int32 → K_St → Option (Int32 × K_St)) => (if p1 < (7 : Int32) then f_St_put_10 N rc N p0 p1 (0 : Int32) U else some ((1 : Int32), U))) (f_St_put N d)
def rm_St_put (d : Nat) : Room := { frames := 3 + d, cells := 0, slots := 0, locals := 105 + 23 * d }
def f_St_putDirty_2 (N : Nat) : Nat → Int32 → Int32 → K_St → Option (Int32 × K_St)
  | 0, _, _, _ => none
  | n + 1, x1, x2, U => (if (7 : Int32) ≤ x2 then some ((1 : Int32), U) else ((f_Rv_has N (x1 &&& U.2.2.2.1).toInt64 x2 ).bind fun z1 => (if z1 = 0 then f_St_putDirty_2 N n x1 (x2 + (1 : Int32)) U else ((f_St_put N 9 x2 (0 : Int32) U).bind fun z2 => (if z2.1 = 0 then some ((0 : Int32), z2.2) else f_St_putDirty_2 N n x1 (x2 + (1 : Int32)) z2.2)))))
def f_St_putDirty (N : Nat) (p0 : Int32) (U : K_St) : Option (Int32 × K_St) := f_St_putDirty_2 N N p0 (0 : Int32) U
def rm_St_putDirty : Room := { frames := 13, cells := 0, slots := 0, locals := 335 }
def f_St_mustPrecede_20 (N : Nat) (k10 : Int32 → Int32 → Int32 → K_St → Option (Int32 × K_St)) : Nat → Int32 → Int32 → Int32 → Int32 → K_St → Option (Int32 × K_St)
  | 0, _, _, _, _, _ => none
  | n + 1, x1, x3, x4, x5, U => (if (7 : Int32) ≤ x5 then k10 x1 x3 (x4 + (1 : Int32)) U else ((f_Rv_has N (x3).toInt64 x5 ).bind fun z4 => (if z4 = 0 then f_St_mustPrecede_20 N k10 n x1 x3 x4 (x5 + (1 : Int32)) U else (if xi x5 7 = true then f_St_mustPrecede_20 N k10 n x1 (x3 ||| (U.2.2.1 x5.toNatClampNeg)) x4 (x5 + (1 : Int32)) U else none))))
def f_St_mustPrecede_10 (N : Nat) : Nat → Int32 → Int32 → Int32 → K_St → Option (Int32 × K_St)
  | 0, _, _, _, _ => none
  | n + 1, x1, x3, x4, U => (if (7 : Int32) ≤ x4 then ((f_Rv_has N (x3).toInt64 x1 ).bind fun z2 => (if z2 = 0 ∨ z2 = 1 then some (z2, U) else none)) else f_St_mustPrecede_20 N (f_St_mustPrecede_10 N n) N x1 x3 x4 (0 : Int32) U)
def f_St_mustPrecede (N : Nat) (p0 : Int32) (p1 : Int32) (U : K_St) : Option (Int32 × K_St) := (if xi p1 7 = true then f_St_mustPrecede_10 N N p0 (U.2.2.1 p1.toNatClampNeg) (0 : Int32) U else none)
def rm_St_mustPrecede : Room := { frames := 1, cells := 0, slots := 0, locals := 22 }
def f_St_note (N : Nat) (p0 : Int32) (p1 : Int32) (U : K_St) : Option (Int32 × K_St) := (if p0 = p1 then some ((1 : Int32), U) else ((f_St_mustPrecede N p1 p0 U).bind fun z1 => (if z1.1 = 0 then (if xi p1 7 = true then (if xi p1 7 = true then some ((1 : Int32), (z1.2.1, (z1.2.2.1, ((upd z1.2.2.2.1 p1.toNatClampNeg ((z1.2.2.2.1 p1.toNatClampNeg) ||| ((1 : Int32) <<< (p0 &&& 31)))), z1.2.2.2.2)))) else none) else none) else ((f_St_put N 9 p1 (0 : Int32) z1.2).bind fun z4 => (if z4.1 = 0 then some ((0 : Int32), z4.2) else (if xi p1 7 = true then (if xi p1 7 = true then some ((1 : Int32), (z4.2.1, (z4.2.2.1, ((upd z4.2.2.2.1 p1.toNatClampNeg ((z4.2.2.2.1 p1.toNatClampNeg) ||| ((1 : Int32) <<< (p0 &&& 31)))), z4.2.2.2.2)))) else none) else none))))))
def rm_St_note : Room := { frames := 13, cells := 0, slots := 0, locals := 335 }
def f_Rv_init (N : Nat) : Option K_Rv := ((f_St_init N).bind fun z2 => some (z2, ((fun _ => 0), ((fun _ => 0), (fun _ => 0)))))
def rm_Rv_init : Room := { frames := 3, cells := 15, slots := 285, locals := 61 }
def f_Rv_begin (N : Nat) (U : K_Rv) : Option ((Int32 ⊕ String) × K_Rv) := ((f_Co_leastUnused N  U.1.1).bind fun z1 => ((f_Co_active N  z1.2).bind fun z2 => (if (4 : Int32) ≤ z2.1 then some ((Sum.inr "java/lang/IllegalStateException"), ((z2.2, U.1.2), U.2)) else (if z1.1 = 0 then some ((Sum.inr "java/lang/IllegalStateException"), ((z2.2, U.1.2), U.2)) else ((f_Co_committed N  z2.2).bind fun z3 => (if xi z1.1 41 = true then (if xi z1.1 41 = true then (if xi z1.1 41 = true then ((f_St_changed N (6 : Int32) ((z3.2.1, (z3.2.2.1, (z3.2.2.2.1, (upd z3.2.2.2.2 z1.1.toNatClampNeg (1 : Int32))))), U.1.2)).bind fun z7 => ((f_St_put N 9 (6 : Int32) (0 : Int32) z7.2).bind fun z8 => (if z8.1 = 0 then some ((Sum.inl (-9 : Int32)), (z8.2, ((vp_updL U.2.1 z1.1.toNatClampNeg z3.1), ((upd U.2.2.1 z1.1.toNatClampNeg (0 : Int32)), U.2.2.2)))) else some ((Sum.inl z1.1), (z8.2, ((vp_updL U.2.1 z1.1.toNatClampNeg z3.1), ((upd U.2.2.1 z1.1.toNatClampNeg (0 : Int32)), U.2.2.2))))))) else none) else none) else none))))))
def rm_Rv_begin : Room := { frames := 13, cells := 1, slots := 6, locals := 335 }
def f_Rv_demandRecord (N : Nat) (p0 : Int32) : Option (Unit ⊕ String) := (if p0 < 0 then some (Sum.inr "java/lang/IllegalArgumentException") else (if p0 < (6 : Int32) then some (Sum.inl ()) else some (Sum.inr "java/lang/IllegalArgumentException")))
def rm_Rv_demandRecord : Room := { frames := 6, cells := 1, slots := 6, locals := 94 }
def f_Rv_demandActive (N : Nat) (p0 : Int32) (U : K_Rv) : Option ((Unit ⊕ String) × K_Rv) := (if p0 < (1 : Int32) then some ((Sum.inr "java/lang/IllegalStateException"), U) else (if (40 : Int32) < p0 then some ((Sum.inr "java/lang/IllegalStateException"), U) else (if xi p0 41 = true then (if (U.1.1.2.2.2 p0.toNatClampNeg) = (1 : Int32) then some ((Sum.inl ()), U) else some ((Sum.inr "java/lang/IllegalStateException"), U)) else none)))
def rm_Rv_demandActive : Room := { frames := 6, cells := 1, slots := 6, locals := 94 }
def f_Rv_seenBy (N : Nat) (p0 : Int32) (U : K_Rv) : Option (Int64 × K_Rv) := (if xi p0 41 = true then some (((U.2.1 p0.toNatClampNeg) ||| ((1 : Int64) <<< (p0.toInt64 &&& 63))), U) else none)
def rm_Rv_seenBy : Room := { frames := 0, cells := 0, slots := 0, locals := 0 }
def f_Rv_placeSeen (N : Nat) (p0 : Int32) (p1 : Int32) (U : K_Rv) : Option (Int32 × K_Rv) := ((f_Rv_seenBy N p0 U).bind fun z1 => ((f_Co_firstOf N z1.1 p1 z1.2.1.1).bind fun z2 => some (z2.1, ((z2.2, z1.2.1.2), z1.2.2))))
def rm_Rv_placeSeen : Room := { frames := 3, cells := 0, slots := 0, locals := 71 }
def f_Rv_demandValue (N : Nat) (p1 : Int32) (U : K_Co) : Option ((Int32 ⊕ String) × K_Co) := (if p1 = (-1 : Int32) then some ((Sum.inr "java/util/NoSuchElementException"), U) else (if xi p1 15 = true then (if (U.2.1 p1.toNatClampNeg) = (-1 : Int32) then some ((Sum.inr "java/util/NoSuchElementException"), U) else (if xi p1 15 = true then some ((Sum.inl (U.2.1 p1.toNatClampNeg)), U) else none)) else none))
def rm_Rv_demandValue : Room := { frames := 6, cells := 1, slots := 6, locals := 94 }
def f_Rv_read (N : Nat) (p0 : Int32) (p1 : Int32) (U : K_Rv) : Option ((Int32 ⊕ String) × K_Rv) := ((f_Rv_demandRecord N p1 ).bind fun z1 => match z1 with | .inl v2 => ((f_Rv_demandActive N p0 U).bind fun z5 => match z5 with | (.inl v6, U8) => ((f_Rv_placeSeen N p0 p1 U8).bind fun z9 => ((f_Rv_demandValue N z9.1 z9.2.1.1).bind fun z10 => match z10 with | (.inl v11, U13) => some ((Sum.inl v11), ((U13, z9.2.1.2), z9.2.2)) | (.inr E12, U13) => some ((Sum.inr E12), ((U13, z9.2.1.2), z9.2.2)))) | (.inr E7, U8) => some ((Sum.inr E7), U8)) | .inr E3 => some ((Sum.inr E3), U))
def rm_Rv_read : Room := { frames := 7, cells := 3, slots := 18, locals := 115 }
def f_Rv_pageOf (N : Nat) (p0 : Int32) : Option Int32 := (if (6 : Int32) ≤ p0 then some ((3 : Int32) + ((p0 - (6 : Int32)) / (3 : Int32))) else some (p0 / (2 : Int32)))
def rm_Rv_pageOf : Room := { frames := 0, cells := 0, slots := 0, locals := 0 }
def f_Rv_clean_2 (N : Nat) : Nat → Int32 → Int32 → K_Rv → Option (Int32 × K_Rv)
  | 0, _, _, _ => none
  | n + 1, x1, x2, U => (if (15 : Int32) ≤ x2 then some ((1 : Int32), U) else ((f_Co_isRolled N x1 U.1.1).bind fun z1 => (if z1.1 = 0 then some ((1 : Int32), ((z1.2, U.1.2), U.2)) else (if xi x1 15 = true then (if (z1.2.2.2.1 x1.toNatClampNeg) = (-1 : Int32) then ((f_Co_empty N x1 z1.2).bind fun z13 => ((f_Rv_pageOf N x1 ).bind fun z14 => ((f_St_changed N z14 (z13.2, U.1.2)).bind fun z15 => f_Rv_clean_2 N n x1 (x2 + (1 : Int32)) (z15.2, U.2)))) else ((f_Rv_pageOf N x1 ).bind fun z3 => ((f_Rv_pageOf N (z1.2.2.2.1 x1.toNatClampNeg) ).bind fun z4 => ((f_St_note N z3 z4 (z1.2, U.1.2)).bind fun z5 => (if z5.1 = 0 then some ((0 : Int32), (z5.2, U.2)) else ((f_Co_move N (z1.2.2.2.1 x1.toNatClampNeg) x1 z5.2.1).bind fun z6 => ((f_Co_empty N (z1.2.2.2.1 x1.toNatClampNeg) z6.2).bind fun z7 => ((f_Rv_pageOf N (z1.2.2.2.1 x1.toNatClampNeg) ).bind fun z8 => ((f_St_changed N z8 (z7.2, z5.2.2)).bind fun z9 => ((f_Rv_pageOf N x1 ).bind fun z10 => ((f_St_changed N z10 z9.2).bind fun z11 => f_Rv_clean_2 N n x1 (x2 + (1 : Int32)) (z11.2, U.2)))))))))))) else none))))
def f_Rv_clean (N : Nat) (p0 : Int32) (U : K_Rv) : Option (Int32 × K_Rv) := f_Rv_clean_2 N N p0 (0 : Int32) U
def rm_Rv_clean : Room := { frames := 14, cells := 0, slots := 0, locals := 357 }
def f_Rv_changedBy (N : Nat) (p0 : Int32) (p1 : Int32) (U : K_Rv) : Option (Unit × K_Rv) := ((f_Rv_pageOf N p1 ).bind fun z1 => ((f_St_changed N z1 U.1).bind fun z2 => (if xi p0 41 = true then ((f_Rv_pageOf N p1 ).bind fun z4 => (if xi p0 41 = true then some ((), (z2.2, (U.2.1, ((upd U.2.2.1 p0.toNatClampNeg ((U.2.2.1 p0.toNatClampNeg) ||| ((1 : Int32) <<< (z4 &&& 31)))), U.2.2.2)))) else none)) else none)))
def rm_Rv_changedBy : Room := { frames := 1, cells := 0, slots := 0, locals := 21 }
def f_Rv_change (N : Nat) (p0 : Int32) (p1 : Int32) (p2 : Int32) (U : K_Rv) : Option ((Int32 ⊕ String) × K_Rv) := ((f_Rv_clean N p1 U).bind fun z1 => (if z1.1 = 0 then some ((Sum.inl (-9 : Int32)), z1.2) else (if xi p1 15 = true then (if (z1.2.1.1.1 p1.toNatClampNeg) = 0 then (if (z1.2.1.1.1 p1.toNatClampNeg) = 0 then ((f_Co_fill N p1 p0 p2 (-1 : Int32) z1.2.1.1).bind fun z16 => ((f_Rv_changedBy N p0 p1 ((z16.2, z1.2.1.2), z1.2.2)).bind fun z17 => some ((Sum.inl (1 : Int32)), z17.2))) else (if (z1.2.1.1.1 p1.toNatClampNeg) = p0 then (if xi p1 15 = true then ((f_Rv_changedBy N p0 p1 (((z1.2.1.1.1, ((upd z1.2.1.1.2.1 p1.toNatClampNeg p2), z1.2.1.1.2.2)), z1.2.1.2), z1.2.2)).bind fun z14 => some ((Sum.inl (1 : Int32)), z14.2)) else none) else ((f_Co_leastFree N  z1.2.1.1).bind fun z3 => (if z3.1 = (-1 : Int32) then some ((Sum.inr "java/lang/IndexOutOfBoundsException"), ((z3.2, z1.2.1.2), z1.2.2)) else ((f_Rv_pageOf N z3.1 ).bind fun z4 => ((f_Rv_pageOf N p1 ).bind fun z5 => ((f_St_note N z4 z5 (z3.2, z1.2.1.2)).bind fun z6 => (if z6.1 = 0 then some ((Sum.inl (-9 : Int32)), (z6.2, z1.2.2)) else ((f_Co_move N p1 z3.1 z6.2.1).bind fun z7 => ((f_Co_fill N p1 p0 p2 z3.1 z7.2).bind fun z8 => ((f_Rv_changedBy N p0 z3.1 ((z8.2, z6.2.2), z1.2.2)).bind fun z9 => ((f_Rv_changedBy N p0 p1 z9.2).bind fun z10 => some ((Sum.inl (1 : Int32)), z10.2))))))))))))) else ((f_Rv_seenBy N p0 z1.2).bind fun z19 => ((f_Rv_has N z19.1 (z1.2.1.1.1 p1.toNatClampNeg) ).bind fun z20 => (if z20 = 0 then some ((Sum.inr "java/lang/UnsupportedOperationException"), z19.2) else (if (z1.2.1.1.1 p1.toNatClampNeg) = 0 then ((f_Co_fill N p1 p0 p2 (-1 : Int32) z19.2.1.1).bind fun z34 => ((f_Rv_changedBy N p0 p1 ((z34.2, z19.2.1.2), z19.2.2)).bind fun z35 => some ((Sum.inl (1 : Int32)), z35.2))) else (if (z1.2.1.1.1 p1.toNatClampNeg) = p0 then (if xi p1 15 = true then ((f_Rv_changedBy N p0 p1 (((z19.2.1.1.1, ((upd z19.2.1.1.2.1 p1.toNatClampNeg p2), z19.2.1.1.2.2)), z19.2.1.2), z19.2.2)).bind fun z32 => some ((Sum.inl (1 : Int32)), z32.2)) else none) else ((f_Co_leastFree N  z19.2.1.1).bind fun z21 => (if z21.1 = (-1 : Int32) then some ((Sum.inr "java/lang/IndexOutOfBoundsException"), ((z21.2, z19.2.1.2), z19.2.2)) else ((f_Rv_pageOf N z21.1 ).bind fun z22 => ((f_Rv_pageOf N p1 ).bind fun z23 => ((f_St_note N z22 z23 (z21.2, z19.2.1.2)).bind fun z24 => (if z24.1 = 0 then some ((Sum.inl (-9 : Int32)), (z24.2, z19.2.2)) else ((f_Co_move N p1 z21.1 z24.2.1).bind fun z25 => ((f_Co_fill N p1 p0 p2 z21.1 z25.2).bind fun z26 => ((f_Rv_changedBy N p0 z21.1 ((z26.2, z24.2.2), z19.2.2)).bind fun z27 => ((f_Rv_changedBy N p0 p1 z27.2).bind fun z28 => some ((Sum.inl (1 : Int32)), z28.2))))))))))))))))) else none)))
def rm_Rv_change : Room := { frames := 15, cells := 1, slots := 6, locals := 380 }
def f_Rv_write (N : Nat) (p0 : Int32) (p1 : Int32) (p2 : Int32) (U : K_Rv) : Option ((Int32 ⊕ String) × K_Rv) := ((f_Rv_demandRecord N p1 ).bind fun z1 => match z1 with | .inl v2 => (if p2 < 0 then some ((Sum.inr "java/lang/IllegalArgumentException"), U) else (if p2 ≤ (1000000 : Int32) then ((f_Rv_demandActive N p0 U).bind fun z5 => match z5 with | (.inl v6, U8) => ((f_Rv_change N p0 p1 p2 U8).bind fun z9 => match z9 with | (.inl v10, U12) => some ((Sum.inl v10), U12) | (.inr E11, U12) => some ((Sum.inr E11), U12)) | (.inr E7, U8) => some ((Sum.inr E7), U8)) else some ((Sum.inr "java/lang/IllegalArgumentException"), U))) | .inr E3 => some ((Sum.inr E3), U))
def rm_Rv_write : Room := { frames := 16, cells := 3, slots := 18, locals := 405 }
def f_Rv_erase (N : Nat) (p0 : Int32) (p1 : Int32) (U : K_Rv) : Option ((Int32 ⊕ String) × K_Rv) := ((f_Rv_demandRecord N p1 ).bind fun z1 => match z1 with | .inl v2 => ((f_Rv_demandActive N p0 U).bind fun z5 => match z5 with | (.inl v6, U8) => ((f_Rv_placeSeen N p0 p1 U8).bind fun z9 => ((f_Rv_demandValue N z9.1 z9.2.1.1).bind fun z10 => match z10 with | (.inl v11, U13) => ((f_Rv_change N p0 p1 (-1 : Int32) ((U13, z9.2.1.2), z9.2.2)).bind fun z14 => match z14 with | (.inl v15, U17) => some ((Sum.inl v15), U17) | (.inr E16, U17) => some ((Sum.inr E16), U17)) | (.inr E12, U13) => some ((Sum.inr E12), ((U13, z9.2.1.2), z9.2.2)))) | (.inr E7, U8) => some ((Sum.inr E7), U8)) | .inr E3 => some ((Sum.inr E3), U))
def rm_Rv_erase : Room := { frames := 16, cells := 4, slots := 24, locals := 405 }
def f_Rv_commit (N : Nat) (p0 : Int32) (U : K_Rv) : Option ((Int32 ⊕ String) × K_Rv) := ((f_Rv_demandActive N p0 U).bind fun z1 => match z1 with | (.inl v2, U4) => (if xi p0 41 = true then ((f_St_putDirty N (U4.2.2.1 p0.toNatClampNeg) U4.1).bind fun z6 => (if z6.1 = 0 then some ((Sum.inl (-9 : Int32)), (z6.2, U4.2)) else (if xi p0 41 = true then ((f_St_changed N (6 : Int32) ((z6.2.1.1, (z6.2.1.2.1, (z6.2.1.2.2.1, (upd z6.2.1.2.2.2 p0.toNatClampNeg (2 : Int32))))), z6.2.2)).bind fun z8 => ((f_St_put N 9 (6 : Int32) (0 : Int32) z8.2).bind fun z9 => (if z9.1 = 0 then some ((Sum.inl (-9 : Int32)), (z9.2, U4.2)) else some ((Sum.inl (z9.2.2.2.2.2.1 - U4.1.2.2.2.2.1)), (z9.2, U4.2))))) else none))) else none) | (.inr E3, U4) => some ((Sum.inr E3), U4))
def rm_Rv_commit : Room := { frames := 14, cells := 1, slots := 6, locals := 357 }
def f_Rv_rollback (N : Nat) (p0 : Int32) (U : K_Rv) : Option ((Int32 ⊕ String) × K_Rv) := ((f_Rv_demandActive N p0 U).bind fun z1 => match z1 with | (.inl v2, U4) => (if xi p0 41 = true then ((f_St_changed N (6 : Int32) ((U4.1.1.1, (U4.1.1.2.1, (U4.1.1.2.2.1, (upd U4.1.1.2.2.2 p0.toNatClampNeg (3 : Int32))))), U4.1.2)).bind fun z6 => some ((Sum.inl (1 : Int32)), (z6.2, U4.2))) else none) | (.inr E3, U4) => some ((Sum.inr E3), U4))
def rm_Rv_rollback : Room := { frames := 7, cells := 1, slots := 6, locals := 115 }
def f_Rv_committedForAll_10 (N : Nat) : Nat → Int64 → Int32 → K_Rv → Option (Int64 × K_Rv)
  | 0, _, _, _ => none
  | n + 1, x1, x3, U => (if (40 : Int32) < x3 then some (x1, U) else (if xi x3 41 = true then (if (U.1.1.2.2.2 x3.toNatClampNeg) = (1 : Int32) then (if xi x3 41 = true then f_Rv_committedForAll_10 N n (x1 &&& (U.2.1 x3.toNatClampNeg)) (x3 + (1 : Int32)) U else none) else f_Rv_committedForAll_10 N n x1 (x3 + (1 : Int32)) U) else none))
def f_Rv_committedForAll (N : Nat) (U : K_Rv) : Option (Int64 × K_Rv) := ((f_Co_committed N  U.1.1).bind fun z1 => f_Rv_committedForAll_10 N N z1.1 (1 : Int32) ((z1.2, U.1.2), U.2))
def rm_Rv_committedForAll : Room := { frames := 2, cells := 0, slots := 0, locals := 44 }
def f_Rv_cutBehind_50 (N : Nat) : Nat → Int32 → Int32 → Int32 → Int32 → K_Rv → Option (Int32 × K_Rv)
  | 0, _, _, _, _, _ => none
  | n + 1, x1, x2, x3, x4, U => (if x3 ≤ x4 then some (x3, U) else (if xi x4 9 = true then ((f_Rv_pageOf N x1 ).bind fun z4 => ((f_Rv_pageOf N (U.2.2.2 x4.toNatClampNeg) ).bind fun z5 => ((f_St_note N z4 z5 U.1).bind fun z6 => (if z6.1 = 0 then some ((-9 : Int32), (z6.2, U.2)) else ((f_Rv_pageOf N x2 ).bind fun z7 => ((f_Rv_pageOf N (U.2.2.2 x4.toNatClampNeg) ).bind fun z8 => ((f_St_note N z7 z8 z6.2).bind fun z9 => (if z9.1 = 0 then some ((-9 : Int32), (z9.2, U.2)) else ((f_Co_empty N (U.2.2.2 x4.toNatClampNeg) z9.2.1).bind fun z10 => ((f_Rv_pageOf N (U.2.2.2 x4.toNatClampNeg) ).bind fun z11 => ((f_St_changed N z11 (z10.2, z9.2.2)).bind fun z12 => f_Rv_cutBehind_50 N n x1 x2 x3 (x4 + (1 : Int32)) (z12.2, U.2)))))))))))) else none))
def f_Rv_cutBehind (N : Nat) (p0 : Int32) (p1 : Int32) (U : K_Rv) : Option (Int32 × K_Rv) := ((f_Co_chainBehind N p1 (U.1.1, U.2.2.2)).bind fun z1 => (if xi p1 15 = true then (if (z1.2.1.2.2.1 p1.toNatClampNeg) = (-1 : Int32) then f_Rv_cutBehind_50 N N p0 p1 z1.1 (0 : Int32) ((z1.2.1, U.1.2), (U.2.1, (U.2.2.1, z1.2.2))) else (if xi p1 15 = true then ((f_Rv_pageOf N p1 ).bind fun z17 => ((f_St_changed N z17 ((z1.2.1.1, (z1.2.1.2.1, ((upd z1.2.1.2.2.1 p1.toNatClampNeg (-1 : Int32)), z1.2.1.2.2.2))), U.1.2)).bind fun z18 => f_Rv_cutBehind_50 N N p0 p1 z1.1 (0 : Int32) (z18.2, (U.2.1, (U.2.2.1, z1.2.2))))) else none)) else none))
def rm_Rv_cutBehind : Room := { frames := 14, cells := 0, slots := 0, locals := 357 }
def f_Rv_sweepRecord (N : Nat) (p0 : Int32) (U : K_Rv) : Option (Int32 × K_Rv) := ((f_Rv_clean N p0 U).bind fun z1 => (if z1.1 = 0 then some ((-9 : Int32), z1.2) else ((f_Rv_committedForAll N  z1.2).bind fun z2 => ((f_Co_firstOf N z2.1 p0 z2.2.1.1).bind fun z3 => (if z3.1 = (-1 : Int32) then some ((0 : Int32), ((z3.2, z2.2.1.2), z2.2.2)) else ((f_Rv_cutBehind N p0 z3.1 ((z3.2, z2.2.1.2), z2.2.2)).bind fun z4 => (if z4.1 = (-9 : Int32) then some (z4.1, z4.2) else (if z3.1 = p0 then (if xi p0 15 = true then (if (z4.2.1.1.2.1 p0.toNatClampNeg) = (-1 : Int32) then ((f_Co_empty N p0 z4.2.1.1).bind fun z6 => ((f_Rv_pageOf N p0 ).bind fun z7 => ((f_St_changed N z7 (z6.2, z4.2.1.2)).bind fun z8 => some (z4.1, (z8.2, z4.2.2))))) else some (z4.1, z4.2)) else none) else some (z4.1, z4.2)))))))))
def rm_Rv_sweepRecord : Room := { frames := 15, cells := 0, slots := 0, locals := 382 }
def f_Rv_sweep_4 (N : Nat) : Nat → Int32 → Int32 → K_Rv → Option (Int32 × K_Rv)
  | 0, _, _, _ => none
  | n + 1, x1, x2, U => (if (6 : Int32) ≤ x2 then some (x1, U) else ((f_Rv_sweepRecord N x2 U).bind fun z1 => (if z1.1 = (-9 : Int32) then some ((-9 : Int32), z1.2) else f_Rv_sweep_4 N n (x1 + z1.1) (x2 + (1 : Int32)) z1.2)))
def f_Rv_sweep (N : Nat) (U : K_Rv) : Option (Int32 × K_Rv) := f_Rv_sweep_4 N N (0 : Int32) (0 : Int32) U
def rm_Rv_sweep : Room := { frames := 16, cells := 0, slots := 0, locals := 405 }
def f_Rv_flush (N : Nat) (U : K_Rv) : Option (Int32 × K_Rv) := ((f_St_putDirty N U.1.2.2.2.1 U.1).bind fun z1 => (if z1.1 = 0 then some ((-9 : Int32), (z1.2, U.2)) else some ((z1.2.2.2.2.2.1 - U.1.2.2.2.2.1), (z1.2, U.2))))
def rm_Rv_flush : Room := { frames := 14, cells := 0, slots := 0, locals := 357 }
def f_Rv_fail (N : Nat) (p0 : Int32) (U : K_Rv) : Option ((Int32 ⊕ String) × K_Rv) := (if p0 < 0 then some ((Sum.inr "java/lang/IllegalArgumentException"), U) else (if p0 ≤ (50 : Int32) then some ((Sum.inl U.1.2.2.2.2.2.2), ((U.1.1, (U.1.2.1, (U.1.2.2.1, (U.1.2.2.2.1, (U.1.2.2.2.2.1, (U.1.2.2.2.2.2.1, p0)))))), U.2)) else some ((Sum.inr "java/lang/IllegalArgumentException"), U)))
def rm_Rv_fail : Room := { frames := 6, cells := 1, slots := 6, locals := 94 }
def f_Rv_crash (N : Nat) (U : K_Rv) : Option (Int32 × K_Rv) := ((f_Co_active N  U.1.1).bind fun z1 => ((f_St_fall N  (z1.2, U.1.2)).bind fun z2 => some (z1.1, (z2.2, U.2))))
def rm_Rv_crash : Room := { frames := 3, cells := 0, slots := 0, locals := 105 }
def f_Rv_image (N : Nat) (p0 : Int32) (U : K_Rv) : Option ((Int32 ⊕ String) × K_Rv) := ((f_Rv_demandRecord N p0 ).bind fun z1 => match z1 with | .inl v2 => ((f_Co_committed N  U.1.2.1).bind fun z5 => ((f_Co_firstOf N z5.1 p0 z5.2).bind fun z6 => ((f_Rv_demandValue N z6.1 z6.2).bind fun z7 => match z7 with | (.inl v8, U10) => some ((Sum.inl v8), ((U.1.1, (U10, U.1.2.2)), U.2)) | (.inr E9, U10) => some ((Sum.inr E9), ((U.1.1, (U10, U.1.2.2)), U.2))))) | .inr E3 => some ((Sum.inr E3), U))
def rm_Rv_image : Room := { frames := 7, cells := 2, slots := 12, locals := 115 }
def f_Rv_state (N : Nat) (p0 : Int32) (U : K_Rv) : Option ((Int32 ⊕ String) × K_Rv) := (if p0 < (1 : Int32) then some ((Sum.inr "java/lang/IllegalArgumentException"), U) else (if p0 ≤ (40 : Int32) then (if xi p0 41 = true then some ((Sum.inl (U.1.1.2.2.2 p0.toNatClampNeg)), U) else none) else some ((Sum.inr "java/lang/IllegalArgumentException"), U)))
def rm_Rv_state : Room := { frames := 6, cells := 1, slots := 6, locals := 94 }
def f_Rv_version (N : Nat) (p0 : Int32) (p1 : Int32) (p2 : Int32) (U : K_Rv) : Option ((Int32 ⊕ String) × K_Rv) := ((f_Rv_demandRecord N p0 ).bind fun z1 => match z1 with | .inl v2 => (if p2 < 0 then some ((Sum.inr "java/lang/IllegalArgumentException"), U) else (if p2 ≤ (2 : Int32) then ((f_Co_placeAt N p0 p1 U.1.1).bind fun z5 => (if z5.1 = (-1 : Int32) then some ((Sum.inr "java/util/NoSuchElementException"), ((z5.2, U.1.2), U.2)) else (if p2 = 0 then (if xi z5.1 15 = true then some ((Sum.inl (z5.2.1 z5.1.toNatClampNeg)), ((z5.2, U.1.2), U.2)) else none) else (if p2 = (1 : Int32) then (if xi z5.1 15 = true then some ((Sum.inl (z5.2.2.1 z5.1.toNatClampNeg)), ((z5.2, U.1.2), U.2)) else none) else (if (6 : Int32) ≤ z5.1 then some ((Sum.inl (z5.1 - (6 : Int32))), ((z5.2, U.1.2), U.2)) else some ((Sum.inl (-1 : Int32)), ((z5.2, U.1.2), U.2))))))) else some ((Sum.inr "java/lang/IllegalArgumentException"), U))) | .inr E3 => some ((Sum.inr E3), U))
def rm_Rv_version : Room := { frames := 7, cells := 2, slots := 12, locals := 114 }
def f_Rv_page (N : Nat) (p0 : Int32) (U : K_Rv) : Option ((Int32 ⊕ String) × K_Rv) := (if p0 < 0 then (if p0 < (10 : Int32) then some ((Sum.inr "java/lang/IllegalArgumentException"), U) else (if (17 : Int32) ≤ p0 then some ((Sum.inr "java/lang/IllegalArgumentException"), U) else ((f_Rv_has N (U.1.2.2.2.1).toInt64 (p0 - (10 : Int32)) ).bind fun z1 => (if z1 = 0 then some ((Sum.inl (0 : Int32)), U) else some ((Sum.inl (1 : Int32)), U))))) else (if (7 : Int32) ≤ p0 then (if p0 < (10 : Int32) then some ((Sum.inr "java/lang/IllegalArgumentException"), U) else (if (17 : Int32) ≤ p0 then some ((Sum.inr "java/lang/IllegalArgumentException"), U) else ((f_Rv_has N (U.1.2.2.2.1).toInt64 (p0 - (10 : Int32)) ).bind fun z5 => (if z5 = 0 then some ((Sum.inl (0 : Int32)), U) else some ((Sum.inl (1 : Int32)), U))))) else (if xi p0 7 = true then some ((Sum.inl (U.1.2.2.1 p0.toNatClampNeg)), U) else none)))
def rm_Rv_page : Room := { frames := 6, cells := 1, slots := 6, locals := 94 }
def f_JI_bitCount (N : Nat) (p0 : Int32) : Option Int32 := (xlet (p0 - (((p0).toUInt32 >>> (((1 : Int32)).toUInt32 &&& Int32.toUInt32 31)).toInt32 &&& (1431655765 : Int32))) fun y1 => (xlet ((y1 &&& (858993459 : Int32)) + (((y1).toUInt32 >>> (((2 : Int32)).toUInt32 &&& Int32.toUInt32 31)).toInt32 &&& (858993459 : Int32))) fun y2 => (xlet ((y2 + ((y2).toUInt32 >>> (((4 : Int32)).toUInt32 &&& Int32.toUInt32 31)).toInt32) &&& (252645135 : Int32)) fun y3 => (xlet (y3 + ((y3).toUInt32 >>> (((8 : Int32)).toUInt32 &&& Int32.toUInt32 31)).toInt32) fun y4 => (xlet (y4 + ((y4).toUInt32 >>> (((16 : Int32)).toUInt32 &&& Int32.toUInt32 31)).toInt32) fun y5 => some (y5 &&& (63 : Int32)))))))
def rm_JI_bitCount : Room := { frames := 0, cells := 0, slots := 0, locals := 0 }
def f_Rv_count (N : Nat) (p0 : Int32) (U : K_Rv) : Option ((Int32 ⊕ String) × K_Rv) := (if p0 = (0 : Int32) then ((f_Co_freeSlots N  U.1.1).bind fun z2 => some ((Sum.inl z2.1), ((z2.2, U.1.2), U.2))) else (if p0 = (1 : Int32) then ((f_Co_active N  U.1.1).bind fun z4 => some ((Sum.inl z4.1), ((z4.2, U.1.2), U.2))) else (if p0 = (2 : Int32) then some ((Sum.inl U.1.2.2.2.2.1), U) else (if p0 = (3 : Int32) then some ((Sum.inl U.1.2.2.2.2.2.1), U) else (if p0 = (4 : Int32) then ((f_JI_bitCount N U.1.2.2.2.1 ).bind fun z8 => some ((Sum.inl z8), U)) else some ((Sum.inr "java/lang/IllegalArgumentException"), U))))))
def rm_Rv_count : Room := { frames := 6, cells := 1, slots := 6, locals := 94 }
def f_Mo_init_110 (N : Nat) : Nat → Int32 → K_Mo → Option K_Mo
  | 0, _, _ => none
  | n + 1, x1, U => (if (15 : Int32) ≤ x1 then some U else (if xi x1 15 = true then (if xi x1 15 = true then f_Mo_init_110 N n (x1 + (1 : Int32)) ((U.1.1, (U.1.2.1, ((upd U.1.2.2.1 x1.toNatClampNeg (-1 : Int32)), U.1.2.2.2))), ((U.2.1.1, (U.2.1.2.1, ((upd U.2.1.2.2.1 x1.toNatClampNeg (-1 : Int32)), U.2.1.2.2.2))), U.2.2)) else none) else none))
def f_Mo_init (N : Nat) : Option K_Mo := f_Mo_init_110 N N (0 : Int32) (((fun _ => 0), ((fun _ => 0), ((fun _ => 0), (fun _ => 0)))), (((fun _ => 0), ((fun _ => 0), ((fun _ => 0), (fun _ => 0)))), ((fun _ => 0), ((fun _ => 0), ((fun _ => 0), ((fun _ => 0), ((fun _ => 0), ((0 : Int32), ((0 : Int32), ((0 : Int32), ((0 : Int32), ((0 : Int32), (0 : Int32)))))))))))))
def rm_Mo_init : Room := { frames := 1, cells := 13, slots := 276, locals := 20 }
def f_Mo_thrown (N : Nat) (U : K_Mo) : Option (Int32 × K_Mo) := some (U.2.2.2.2.2.2.2.1, U)
def rm_Mo_thrown : Room := { frames := 0, cells := 0, slots := 0, locals := 0 }
def f_Mo_raise (N : Nat) (p0 : Int32) (U : K_Mo) : Option (Int32 × K_Mo) := some ((0 : Int32), (U.1, (U.2.1, (U.2.2.1, (U.2.2.2.1, (U.2.2.2.2.1, (U.2.2.2.2.2.1, (U.2.2.2.2.2.2.1, (p0, U.2.2.2.2.2.2.2.2)))))))))
def rm_Mo_raise : Room := { frames := 0, cells := 0, slots := 0, locals := 0 }
def f_Mo_in (N : Nat) (p0 : Int32) (p1 : Int32) (p2 : Int32) : Option Int32 := (if p0 < p1 then some (0 : Int32) else (if p2 < p0 then some (0 : Int32) else some (1 : Int32)))
def rm_Mo_in : Room := { frames := 0, cells := 0, slots := 0, locals := 0 }
def f_Mo_pageOf (N : Nat) (p0 : Int32) : Option Int32 := (if (6 : Int32) ≤ p0 then some ((3 : Int32) + ((p0 - (6 : Int32)) / (3 : Int32))) else some (p0 / (2 : Int32)))
def rm_Mo_pageOf : Room := { frames := 0, cells := 0, slots := 0, locals := 0 }
def f_Mo_fall_80 (N : Nat) : Nat → Int32 → K_Mo → Option (Unit × K_Mo)
  | 0, _, _ => none
  | n + 1, x1, U => (if (40 : Int32) < x1 then some ((), (U.1, (U.2.1, (U.2.2.1, (U.2.2.2.1, (U.2.2.2.2.1, (U.2.2.2.2.2.1, (U.2.2.2.2.2.2.1, (U.2.2.2.2.2.2.2.1, (U.2.2.2.2.2.2.2.2.1, ((U.2.2.2.2.2.2.2.2.2.1 + (1 : Int32)), (U.2.2.2.2.2.2.2.2.2.2.1, ((1 : Int32), U.2.2.2.2.2.2.2.2.2.2.2.2))))))))))))) else (if xi x1 41 = true then (if xi x1 41 = true then (if xi x1 41 = true then (if ((upd U.1.2.2.2 x1.toNatClampNeg (U.2.1.2.2.2 x1.toNatClampNeg)) x1.toNatClampNeg) = (1 : Int32) then (if xi x1 41 = true then f_Mo_fall_80 N n (x1 + (1 : Int32)) ((U.1.1, (U.1.2.1, (U.1.2.2.1, (upd (upd U.1.2.2.2 x1.toNatClampNeg (U.2.1.2.2.2 x1.toNatClampNeg)) x1.toNatClampNeg (3 : Int32))))), (U.2.1, ((upd U.2.2.1 (6 : Int32).toNatClampNeg (vp_nar .boolean (1 : Int32))), U.2.2.2))) else none) else f_Mo_fall_80 N n (x1 + (1 : Int32)) ((U.1.1, (U.1.2.1, (U.1.2.2.1, (upd U.1.2.2.2 x1.toNatClampNeg (U.2.1.2.2.2 x1.toNatClampNeg))))), U.2)) else none) else none) else none))
def f_Mo_fall_52 (N : Nat) : Nat → Int32 → K_Mo → Option (Unit × K_Mo)
  | 0, _, _ => none
  | n + 1, x1, U => (if (7 : Int32) ≤ x1 then f_Mo_fall_80 N N (1 : Int32) U else (if xi x1 7 = true then (if xi x1 7 = true then f_Mo_fall_52 N n (x1 + (1 : Int32)) (U.1, (U.2.1, ((upd U.2.2.1 x1.toNatClampNeg (vp_nar .boolean (0 : Int32))), ((upd U.2.2.2.1 x1.toNatClampNeg (0 : Int32)), U.2.2.2.2)))) else none) else none))
def f_Mo_fall_2 (N : Nat) : Nat → Int32 → K_Mo → Option (Unit × K_Mo)
  | 0, _, _ => none
  | n + 1, x1, U => (if (15 : Int32) ≤ x1 then f_Mo_fall_52 N N (0 : Int32) U else (if xi x1 15 = true then (if xi x1 15 = true then (if xi x1 15 = true then (if xi x1 15 = true then (if xi x1 15 = true then (if xi x1 15 = true then f_Mo_fall_2 N n (x1 + (1 : Int32)) (((upd U.1.1 x1.toNatClampNeg (U.2.1.1 x1.toNatClampNeg)), ((upd U.1.2.1 x1.toNatClampNeg (U.2.1.2.1 x1.toNatClampNeg)), ((upd U.1.2.2.1 x1.toNatClampNeg (U.2.1.2.2.1 x1.toNatClampNeg)), U.1.2.2.2))), U.2) else none) else none) else none) else none) else none) else none))
def f_Mo_fall (N : Nat) (U : K_Mo) : Option (Unit × K_Mo) := f_Mo_fall_2 N N (0 : Int32) U
def rm_Mo_fall : Room := { frames := 0, cells := 0, slots := 0, locals := 0 }
def f_Mo_put_137 (N : Nat) : Nat → Int32 → Int32 → K_Mo → Option (Unit × K_Mo)
  | 0, _, _, _ => none
  | n + 1, x1, x2, U => (if (7 : Int32) ≤ x2 then some ((), (U.1, (U.2.1, (U.2.2.1, (U.2.2.2.1, (U.2.2.2.2.1, (U.2.2.2.2.2.1, (U.2.2.2.2.2.2.1, (U.2.2.2.2.2.2.2.1, ((U.2.2.2.2.2.2.2.2.1 + (1 : Int32)), U.2.2.2.2.2.2.2.2.2)))))))))) else (if xi x2 7 = true then (if xi x2 7 = true then f_Mo_put_137 N n x1 (x2 + (1 : Int32)) (U.1, (U.2.1, (U.2.2.1, ((upd U.2.2.2.1 x2.toNatClampNeg ((U.2.2.2.1 x2.toNatClampNeg) &&& (((1 : Int32) <<< (x1 &&& 31)) ^^^ (-1 : Int32)))), U.2.2.2.2)))) else none) else none))
def f_Mo_put_98 (N : Nat) : Nat → Int32 → Int32 → K_Mo → Option (Unit × K_Mo)
  | 0, _, _, _ => none
  | n + 1, x1, x2, U => (if (40 : Int32) < x2 then (if xi x1 7 = true then f_Mo_put_137 N N x1 (0 : Int32) (U.1, (U.2.1, ((upd U.2.2.1 x1.toNatClampNeg (vp_nar .boolean (0 : Int32))), U.2.2.2))) else none) else (if x1 = (6 : Int32) then (if xi x2 41 = true then (if xi x2 41 = true then f_Mo_put_98 N n x1 (x2 + (1 : Int32)) (U.1, ((U.2.1.1, (U.2.1.2.1, (U.2.1.2.2.1, (upd U.2.1.2.2.2 x2.toNatClampNeg (U.1.2.2.2 x2.toNatClampNeg))))), U.2.2)) else none) else none) else (if xi x1 7 = true then f_Mo_put_137 N N x1 (0 : Int32) (U.1, (U.2.1, ((upd U.2.2.1 x1.toNatClampNeg (vp_nar .boolean (0 : Int32))), U.2.2.2))) else none)))
def f_Mo_put_37 (N : Nat) : Nat → Int32 → Int32 → K_Mo → Option (Unit × K_Mo)
  | 0, _, _, _ => none
  | n + 1, x1, x2, U => (if (15 : Int32) ≤ x2 then f_Mo_put_98 N N x1 (1 : Int32) U else ((f_Mo_pageOf N x2 ).bind fun z10 => (if z10 = x1 then (if xi x2 15 = true then (if xi x2 15 = true then (if xi x2 15 = true then (if xi x2 15 = true then (if xi x2 15 = true then (if xi x2 15 = true then f_Mo_put_37 N n x1 (x2 + (1 : Int32)) (U.1, (((upd U.2.1.1 x2.toNatClampNeg (U.1.1 x2.toNatClampNeg)), ((upd U.2.1.2.1 x2.toNatClampNeg (U.1.2.1 x2.toNatClampNeg)), ((upd U.2.1.2.2.1 x2.toNatClampNeg (U.1.2.2.1 x2.toNatClampNeg)), U.2.1.2.2.2))), U.2.2)) else none) else none) else none) else none) else none) else none) else f_Mo_put_37 N n x1 (x2 + (1 : Int32)) U)))
def f_Mo_put (N : Nat) (p0 : Int32) (U : K_Mo) : Option (Unit × K_Mo) := (if U.2.2.2.2.2.2.2.2.2.2.1 = (1 : Int32) then ((f_Mo_fall N  (U.1, (U.2.1, (U.2.2.1, (U.2.2.2.1, (U.2.2.2.2.1, (U.2.2.2.2.2.1, (U.2.2.2.2.2.2.1, (U.2.2.2.2.2.2.2.1, (U.2.2.2.2.2.2.2.2.1, (U.2.2.2.2.2.2.2.2.2.1, ((0 : Int32), U.2.2.2.2.2.2.2.2.2.2.2)))))))))))).bind fun z20 => some ((), z20.2)) else (if U.2.2.2.2.2.2.2.2.2.2.1 ≤ 0 then f_Mo_put_37 N N p0 (0 : Int32) U else f_Mo_put_37 N N p0 (0 : Int32) (U.1, (U.2.1, (U.2.2.1, (U.2.2.2.1, (U.2.2.2.2.1, (U.2.2.2.2.2.1, (U.2.2.2.2.2.2.1, (U.2.2.2.2.2.2.2.1, (U.2.2.2.2.2.2.2.2.1, (U.2.2.2.2.2.2.2.2.2.1, ((U.2.2.2.2.2.2.2.2.2.2.1 - (1 : Int32)), U.2.2.2.2.2.2.2.2.2.2.2)))))))))))))
def rm_Mo_put : Room := { frames := 1, cells := 0, slots := 0, locals := 21 }
def f_Mo_waitsFor_2 (N : Nat) : Nat → Int32 → Int32 → K_Mo → Option (Int32 × K_Mo)
  | 0, _, _, _ => none
  | n + 1, x1, x2, U => (if (7 : Int32) ≤ x2 then some ((-1 : Int32), U) else (if xi x1 7 = true then (if (((U.2.2.2.1 x1.toNatClampNeg) >>> (x2 &&& 31)) &&& (1 : Int32)) = 0 then f_Mo_waitsFor_2 N n x1 (x2 + (1 : Int32)) U else (if xi x2 7 = true then (if (U.2.2.1 x2.toNatClampNeg) = 0 then f_Mo_waitsFor_2 N n x1 (x2 + (1 : Int32)) U else some (x2, U)) else none)) else none))
def f_Mo_waitsFor (N : Nat) (p0 : Int32) (U : K_Mo) : Option (Int32 × K_Mo) := f_Mo_waitsFor_2 N N p0 (0 : Int32) U
def rm_Mo_waitsFor : Room := { frames := 0, cells := 0, slots := 0, locals := 0 }
def f_Mo_store_9 (N : Nat) : Nat → Int32 → K_Mo → Option (Unit × K_Mo)
  | 0, _, _ => none
  | n + 1, x2, U => (if x2 ≤ 0 then some ((), U) else (if U.2.2.2.2.2.2.2.2.2.2.2.1 = 0 then (if xi (x2 - (1 : Int32)) 8 = true then ((f_Mo_waitsFor N (U.2.2.2.2.2.2.1 (x2 - (1 : Int32)).toNatClampNeg) U).bind fun z2 => (if z2.1 < 0 then (if xi (x2 - (1 : Int32)) 8 = true then ((f_Mo_put N (z2.2.2.2.2.2.2.2.1 (x2 - (1 : Int32)).toNatClampNeg) z2.2).bind fun z4 => f_Mo_store_9 N n (x2 + (-1 : Int32)) z4.2) else none) else (if xi x2 8 = true then f_Mo_store_9 N n (x2 + (1 : Int32)) (z2.2.1, (z2.2.2.1, (z2.2.2.2.1, (z2.2.2.2.2.1, (z2.2.2.2.2.2.1, (z2.2.2.2.2.2.2.1, ((upd z2.2.2.2.2.2.2.2.1 x2.toNatClampNeg z2.1), z2.2.2.2.2.2.2.2.2))))))) else none))) else none) else some ((), U)))
def f_Mo_store (N : Nat) (p0 : Int32) (U : K_Mo) : Option (Unit × K_Mo) := f_Mo_store_9 N N (1 : Int32) (U.1, (U.2.1, (U.2.2.1, (U.2.2.2.1, (U.2.2.2.2.1, (U.2.2.2.2.2.1, ((upd U.2.2.2.2.2.2.1 (0 : Int32).toNatClampNeg p0), U.2.2.2.2.2.2.2)))))))
def rm_Mo_store : Room := { frames := 2, cells := 0, slots := 0, locals := 43 }
def f_Mo_before_18 (N : Nat) (k9 : Int32 → Int32 → K_Mo → Option (Int32 × K_Mo)) : Nat → Int32 → Int32 → Int32 → K_Mo → Option (Int32 × K_Mo)
  | 0, _, _, _, _ => none
  | n + 1, x2, x3, x4, U => (if (7 : Int32) ≤ x4 then k9 x2 (x3 + (1 : Int32)) U else (if ((x2 >>> (x4 &&& 31)) &&& (1 : Int32)) = 0 then f_Mo_before_18 N k9 n x2 x3 (x4 + (1 : Int32)) U else (if xi x4 7 = true then f_Mo_before_18 N k9 n (x2 ||| (U.2.2.2.1 x4.toNatClampNeg)) x3 (x4 + (1 : Int32)) U else none)))
def f_Mo_before_9 (N : Nat) : Nat → Int32 → Int32 → K_Mo → Option (Int32 × K_Mo)
  | 0, _, _, _ => none
  | n + 1, x2, x3, U => (if (7 : Int32) ≤ x3 then some (x2, U) else f_Mo_before_18 N (f_Mo_before_9 N n) N x2 x3 (0 : Int32) U)
def f_Mo_before (N : Nat) (p0 : Int32) (U : K_Mo) : Option (Int32 × K_Mo) := (if xi p0 7 = true then f_Mo_before_9 N N (U.2.2.2.1 p0.toNatClampNeg) (0 : Int32) U else none)
def rm_Mo_before : Room := { frames := 0, cells := 0, slots := 0, locals := 0 }
def f_Mo_note (N : Nat) (p0 : Int32) (p1 : Int32) (U : K_Mo) : Option (Unit × K_Mo) := (if U.2.2.2.2.2.2.2.2.2.2.2.1 = 0 then ((f_Mo_before N p0 U).bind fun z1 => (if ((z1.1 >>> (p1 &&& 31)) &&& (1 : Int32)) = 0 then (if z1.2.2.2.2.2.2.2.2.2.2.2.2.1 = 0 then (if p0 = p1 then some ((), z1.2) else (if xi p1 7 = true then (if xi p1 7 = true then some ((), (z1.2.1, (z1.2.2.1, (z1.2.2.2.1, ((upd z1.2.2.2.2.1 p1.toNatClampNeg ((z1.2.2.2.2.1 p1.toNatClampNeg) ||| ((1 : Int32) <<< (p0 &&& 31)))), z1.2.2.2.2.2))))) else none) else none)) else some ((), z1.2)) else ((f_Mo_store N p1 z1.2).bind fun z6 => (if z6.2.2.2.2.2.2.2.2.2.2.2.2.1 = 0 then (if p0 = p1 then some ((), z6.2) else (if xi p1 7 = true then (if xi p1 7 = true then some ((), (z6.2.1, (z6.2.2.1, (z6.2.2.2.1, ((upd z6.2.2.2.2.1 p1.toNatClampNeg ((z6.2.2.2.2.1 p1.toNatClampNeg) ||| ((1 : Int32) <<< (p0 &&& 31)))), z6.2.2.2.2.2))))) else none) else none)) else some ((), z6.2))))) else some ((), U))
def rm_Mo_note : Room := { frames := 3, cells := 0, slots := 0, locals := 66 }
def f_Mo_done (N : Nat) (p0 : Int32) (U : K_Mo) : Option (Int32 × K_Mo) := (if U.2.2.2.2.2.2.2.2.2.2.2.1 = 0 then some (p0, U) else some ((-9 : Int32), U))
def rm_Mo_done : Room := { frames := 0, cells := 0, slots := 0, locals := 0 }
def f_Mo_begun (N : Nat) (U : K_Mo) : Option (Unit × K_Mo) := some ((), (U.1, (U.2.1, (U.2.2.1, (U.2.2.2.1, (U.2.2.2.2.1, (U.2.2.2.2.2.1, (U.2.2.2.2.2.2.1, ((0 : Int32), (U.2.2.2.2.2.2.2.2.1, (U.2.2.2.2.2.2.2.2.2.1, (U.2.2.2.2.2.2.2.2.2.2.1, ((0 : Int32), (0 : Int32))))))))))))))
def rm_Mo_begun : Room := { frames := 0, cells := 0, slots := 0, locals := 0 }
def f_Mo_actives_4 (N : Nat) : Nat → Int32 → Int32 → K_Mo → Option (Int32 × K_Mo)
  | 0, _, _, _ => none
  | n + 1, x1, x2, U => (if (40 : Int32) < x2 then some (x1, U) else (if xi x2 41 = true then (if (U.1.2.2.2 x2.toNatClampNeg) = (1 : Int32) then f_Mo_actives_4 N n (x1 + (1 : Int32)) (x2 + (1 : Int32)) U else f_Mo_actives_4 N n x1 (x2 + (1 : Int32)) U) else none))
def f_Mo_actives (N : Nat) (U : K_Mo) : Option (Int32 × K_Mo) := f_Mo_actives_4 N N (0 : Int32) (1 : Int32) U
def rm_Mo_actives : Room := { frames := 0, cells := 0, slots := 0, locals := 0 }
def f_Mo_idle (N : Nat) (p0 : Int32) (U : K_Mo) : Option (Int32 × K_Mo) := ((f_Mo_in N p0 (1 : Int32) (40 : Int32) ).bind fun z1 => (if z1 = 0 then some ((1 : Int32), U) else (if xi p0 41 = true then (if (U.1.2.2.2 p0.toNatClampNeg) = (1 : Int32) then some ((0 : Int32), U) else some ((1 : Int32), U)) else none)))
def rm_Mo_idle : Room := { frames := 1, cells := 0, slots := 0, locals := 22 }
def f_Mo_begin_70 (N : Nat) : Nat → Int32 → Int32 → K_Mo → Option (Int32 × K_Mo)
  | 0, _, _, _ => none
  | n + 1, x1, x2, U => (if (40 : Int32) < x2 then ((f_Mo_store N (6 : Int32) (U.1, (U.2.1, ((upd U.2.2.1 (6 : Int32).toNatClampNeg (vp_nar .boolean (1 : Int32))), U.2.2.2)))).bind fun z7 => ((f_Mo_done N x1 z7.2).bind fun z8 => some (z8.1, z8.2))) else (if xi x2 41 = true then (if (U.1.2.2.2 x2.toNatClampNeg) = (2 : Int32) then (if xi x1 41 = true then (if xi x1 41 = true then f_Mo_begin_70 N n x1 (x2 + (1 : Int32)) (U.1, (U.2.1, (U.2.2.1, (U.2.2.2.1, (U.2.2.2.2.1, ((vp_updL U.2.2.2.2.2.1 x1.toNatClampNeg ((U.2.2.2.2.2.1 x1.toNatClampNeg) ||| ((1 : Int64) <<< (x2.toInt64 &&& 63)))), U.2.2.2.2.2.2)))))) else none) else none) else f_Mo_begin_70 N n x1 (x2 + (1 : Int32)) U) else none))
def f_Mo_begin_6 (N : Nat) : Nat → Int32 → K_Mo → Option (Int32 × K_Mo)
  | 0, _, _ => none
  | n + 1, x1, U => (if (40 : Int32) < x1 then (if (40 : Int32) < x1 then ((f_Mo_raise N (1 : Int32) U).bind fun z2 => some (z2.1, z2.2)) else ((f_Mo_actives N  U).bind fun z3 => (if z3.1 = (4 : Int32) then ((f_Mo_raise N (1 : Int32) z3.2).bind fun z14 => some (z14.1, z14.2)) else (if xi x1 41 = true then (if xi x1 41 = true then (if xi x1 41 = true then f_Mo_begin_70 N N x1 (1 : Int32) ((z3.2.1.1, (z3.2.1.2.1, (z3.2.1.2.2.1, (upd z3.2.1.2.2.2 x1.toNatClampNeg (1 : Int32))))), (z3.2.2.1, (z3.2.2.2.1, (z3.2.2.2.2.1, ((upd z3.2.2.2.2.2.1 x1.toNatClampNeg (0 : Int32)), ((vp_updL z3.2.2.2.2.2.2.1 x1.toNatClampNeg (0 : Int64)), z3.2.2.2.2.2.2.2)))))) else none) else none) else none)))) else (if xi x1 41 = true then (if (U.1.2.2.2 x1.toNatClampNeg) = 0 then (if (40 : Int32) < x1 then ((f_Mo_raise N (1 : Int32) U).bind fun z18 => some (z18.1, z18.2)) else ((f_Mo_actives N  U).bind fun z19 => (if z19.1 = (4 : Int32) then ((f_Mo_raise N (1 : Int32) z19.2).bind fun z23 => some (z23.1, z23.2)) else (if xi x1 41 = true then (if xi x1 41 = true then (if xi x1 41 = true then f_Mo_begin_70 N N x1 (1 : Int32) ((z19.2.1.1, (z19.2.1.2.1, (z19.2.1.2.2.1, (upd z19.2.1.2.2.2 x1.toNatClampNeg (1 : Int32))))), (z19.2.2.1, (z19.2.2.2.1, (z19.2.2.2.2.1, ((upd z19.2.2.2.2.2.1 x1.toNatClampNeg (0 : Int32)), ((vp_updL z19.2.2.2.2.2.2.1 x1.toNatClampNeg (0 : Int64)), z19.2.2.2.2.2.2.2)))))) else none) else none) else none)))) else f_Mo_begin_6 N n (x1 + (1 : Int32)) U) else none))
def f_Mo_begin (N : Nat) (U : K_Mo) : Option (Int32 × K_Mo) := ((f_Mo_begun N  U).bind fun z1 => f_Mo_begin_6 N N (1 : Int32) z1.2)
def rm_Mo_begin : Room := { frames := 3, cells := 0, slots := 0, locals := 66 }
def f_Mo_seen (N : Nat) (p0 : Int32) (p1 : Int32) (U : K_Mo) : Option (Int32 × K_Mo) := (if xi p1 15 = true then (if (U.1.1 p1.toNatClampNeg) = p0 then some ((1 : Int32), U) else (if xi p0 41 = true then (if xi p1 15 = true then (if (lg_cmp (((U.2.2.2.2.2.1 p0.toNatClampNeg) >>> ((U.1.1 p1.toNatClampNeg).toInt64 &&& 63)) &&& (1 : Int64)) (0 : Int64)) = 0 then some ((0 : Int32), U) else some ((1 : Int32), U)) else none) else none)) else none)
def rm_Mo_seen : Room := { frames := 0, cells := 0, slots := 0, locals := 0 }
def f_Mo_behind (N : Nat) (p0 : Int32) (U : K_Mo) : Option (Int32 × K_Mo) := (if xi p0 15 = true then (if (U.1.2.2.1 p0.toNatClampNeg) < 0 then some ((-1 : Int32), U) else (if xi p0 15 = true then (if xi ((6 : Int32) + (U.1.2.2.1 p0.toNatClampNeg)) 15 = true then (if (U.1.1 ((6 : Int32) + (U.1.2.2.1 p0.toNatClampNeg)).toNatClampNeg) = 0 then some ((-1 : Int32), U) else (if xi p0 15 = true then some (((6 : Int32) + (U.1.2.2.1 p0.toNatClampNeg)), U) else none)) else none) else none)) else none)
def rm_Mo_behind : Room := { frames := 0, cells := 0, slots := 0, locals := 0 }
def f_Mo_reads_13 (N : Nat) : Nat → Int32 → Int32 → K_Mo → Option (Int32 × K_Mo)
  | 0, _, _, _ => none
  | n + 1, x1, x3, U => (if x3 < 0 then some ((-1 : Int32), U) else ((f_Mo_seen N x1 x3 U).bind fun z2 => (if z2.1 = 0 then ((f_Mo_behind N x3 z2.2).bind fun z3 => f_Mo_reads_13 N n x1 z3.1 z3.2) else (if xi x3 15 = true then some ((z2.2.1.2.1 x3.toNatClampNeg), z2.2) else none))))
def f_Mo_reads (N : Nat) (p0 : Int32) (p1 : Int32) (U : K_Mo) : Option (Int32 × K_Mo) := (if xi p1 15 = true then (if (U.1.1 p1.toNatClampNeg) = 0 then some ((-1 : Int32), U) else f_Mo_reads_13 N N p0 p1 U) else none)
def rm_Mo_reads : Room := { frames := 1, cells := 0, slots := 0, locals := 22 }
def f_Mo_read (N : Nat) (p0 : Int32) (p1 : Int32) (U : K_Mo) : Option (Int32 × K_Mo) := ((f_Mo_begun N  U).bind fun z1 => ((f_Mo_in N p1 (0 : Int32) (5 : Int32) ).bind fun z2 => (if z2 = 0 then ((f_Mo_raise N (1 : Int32) z1.2).bind fun z9 => some (z9.1, z9.2)) else ((f_Mo_idle N p0 z1.2).bind fun z3 => (if z3.1 = 0 then ((f_Mo_reads N p0 p1 z3.2).bind fun z4 => (if 0 ≤ z4.1 then some (z4.1, z4.2) else ((f_Mo_raise N (3 : Int32) z4.2).bind fun z5 => some (z5.1, z5.2)))) else ((f_Mo_raise N (2 : Int32) z3.2).bind fun z7 => some (z7.1, z7.2)))))))
def rm_Mo_read : Room := { frames := 2, cells := 0, slots := 0, locals := 45 }
def f_Mo_free (N : Nat) (p0 : Int32) (U : K_Mo) : Option (Unit × K_Mo) := (if xi p0 15 = true then (if xi p0 15 = true then (if xi p0 15 = true then ((f_Mo_pageOf N p0 ).bind fun z4 => (if xi z4 7 = true then some ((), (((upd U.1.1 p0.toNatClampNeg (0 : Int32)), ((upd U.1.2.1 p0.toNatClampNeg (0 : Int32)), ((upd U.1.2.2.1 p0.toNatClampNeg (-1 : Int32)), U.1.2.2.2))), (U.2.1, ((upd U.2.2.1 z4.toNatClampNeg (vp_nar .boolean (1 : Int32))), U.2.2.2)))) else none)) else none) else none) else none)
def rm_Mo_free : Room := { frames := 1, cells := 0, slots := 0, locals := 20 }
def f_Mo_move (N : Nat) (p0 : Int32) (p1 : Int32) (U : K_Mo) : Option (Unit × K_Mo) := (if xi p0 15 = true then (if xi p1 15 = true then (if xi p0 15 = true then (if xi p1 15 = true then (if xi p0 15 = true then (if xi p1 15 = true then ((f_Mo_pageOf N p1 ).bind fun z7 => (if xi z7 7 = true then some ((), (((upd U.1.1 p1.toNatClampNeg (U.1.1 p0.toNatClampNeg)), ((upd U.1.2.1 p1.toNatClampNeg (U.1.2.1 p0.toNatClampNeg)), ((upd U.1.2.2.1 p1.toNatClampNeg (U.1.2.2.1 p0.toNatClampNeg)), U.1.2.2.2))), (U.2.1, ((upd U.2.2.1 z7.toNatClampNeg (vp_nar .boolean (1 : Int32))), U.2.2.2)))) else none)) else none) else none) else none) else none) else none) else none)
def rm_Mo_move : Room := { frames := 1, cells := 0, slots := 0, locals := 20 }
def f_Mo_clean_0 (N : Nat) : Nat → Int32 → K_Mo → Option (Unit × K_Mo)
  | 0, _, _ => none
  | n + 1, x1, U => (if U.2.2.2.2.2.2.2.2.2.2.2.1 = 0 then (if xi x1 15 = true then (if (U.1.1 x1.toNatClampNeg) = 0 then some ((), U) else (if xi x1 15 = true then (if xi (U.1.1 x1.toNatClampNeg) 41 = true then (if (U.1.2.2.2 (U.1.1 x1.toNatClampNeg).toNatClampNeg) = (3 : Int32) then ((f_Mo_behind N x1 U).bind fun z4 => (if 0 ≤ z4.1 then ((f_Mo_pageOf N x1 ).bind fun z5 => ((f_Mo_pageOf N z4.1 ).bind fun z6 => ((f_Mo_note N z5 z6 z4.2).bind fun z7 => (if z7.2.2.2.2.2.2.2.2.2.2.2.2.1 = 0 then ((f_Mo_move N z4.1 x1 z7.2).bind fun z8 => ((f_Mo_free N z4.1 z8.2).bind fun z9 => f_Mo_clean_0 N n x1 z9.2)) else some ((), z7.2))))) else ((f_Mo_free N x1 z4.2).bind fun z11 => f_Mo_clean_0 N n x1 z11.2))) else some ((), U)) else none) else none)) else none) else some ((), U))
def f_Mo_clean (N : Nat) (p0 : Int32) (U : K_Mo) : Option (Unit × K_Mo) := f_Mo_clean_0 N N p0 U
def rm_Mo_clean : Room := { frames := 4, cells := 0, slots := 0, locals := 88 }
def f_Mo_change_66 (N : Nat) : Nat → Int32 → Int32 → Int32 → Int32 → Int32 → K_Mo → Option (Unit × K_Mo)
  | 0, _, _, _, _, _, _ => none
  | n + 1, x1, x2, x3, x4, x5, U => (if (15 : Int32) ≤ x5 then (if x5 = (15 : Int32) then some ((), (U.1, (U.2.1, (U.2.2.1, (U.2.2.2.1, (U.2.2.2.2.1, (U.2.2.2.2.2.1, (U.2.2.2.2.2.2.1, (U.2.2.2.2.2.2.2.1, (U.2.2.2.2.2.2.2.2.1, (U.2.2.2.2.2.2.2.2.2.1, (U.2.2.2.2.2.2.2.2.2.2.1, (U.2.2.2.2.2.2.2.2.2.2.2.1, (2 : Int32)))))))))))))) else ((f_Mo_pageOf N x5 ).bind fun z32 => ((f_Mo_note N z32 x4 U).bind fun z33 => (if z33.2.2.2.2.2.2.2.2.2.2.2.2.1 = 0 then ((f_Mo_move N x2 x5 z33.2).bind fun z34 => (if xi x2 15 = true then (if xi x1 41 = true then ((f_Mo_pageOf N x5 ).bind fun z37 => (if xi x1 41 = true then (if xi x2 15 = true then (if xi x2 15 = true then (if xi x4 7 = true then (if xi x1 41 = true then (if xi x1 41 = true then some ((), (((upd z34.2.1.1 x2.toNatClampNeg x1), ((upd z34.2.1.2.1 x2.toNatClampNeg x3), ((upd z34.2.1.2.2.1 x2.toNatClampNeg (x5 - (6 : Int32))), z34.2.1.2.2.2))), (z34.2.2.1, ((upd z34.2.2.2.1 x4.toNatClampNeg (vp_nar .boolean (1 : Int32))), (z34.2.2.2.2.1, ((upd (upd z34.2.2.2.2.2.1 x1.toNatClampNeg ((z34.2.2.2.2.2.1 x1.toNatClampNeg) ||| ((1 : Int32) <<< (z37 &&& 31)))) x1.toNatClampNeg (((upd z34.2.2.2.2.2.1 x1.toNatClampNeg ((z34.2.2.2.2.2.1 x1.toNatClampNeg) ||| ((1 : Int32) <<< (z37 &&& 31)))) x1.toNatClampNeg) ||| ((1 : Int32) <<< (x4 &&& 31)))), z34.2.2.2.2.2.2)))))) else none) else none) else none) else none) else none) else none)) else none) else none)) else some ((), z33.2))))) else (if xi x5 15 = true then (if (U.1.1 x5.toNatClampNeg) = 0 then (if x5 = (15 : Int32) then some ((), (U.1, (U.2.1, (U.2.2.1, (U.2.2.2.1, (U.2.2.2.2.1, (U.2.2.2.2.2.1, (U.2.2.2.2.2.2.1, (U.2.2.2.2.2.2.2.1, (U.2.2.2.2.2.2.2.2.1, (U.2.2.2.2.2.2.2.2.2.1, (U.2.2.2.2.2.2.2.2.2.2.1, (U.2.2.2.2.2.2.2.2.2.2.2.1, (2 : Int32)))))))))))))) else ((f_Mo_pageOf N x5 ).bind fun z47 => ((f_Mo_note N z47 x4 U).bind fun z48 => (if z48.2.2.2.2.2.2.2.2.2.2.2.2.1 = 0 then ((f_Mo_move N x2 x5 z48.2).bind fun z49 => (if xi x2 15 = true then (if xi x1 41 = true then ((f_Mo_pageOf N x5 ).bind fun z52 => (if xi x1 41 = true then (if xi x2 15 = true then (if xi x2 15 = true then (if xi x4 7 = true then (if xi x1 41 = true then (if xi x1 41 = true then some ((), (((upd z49.2.1.1 x2.toNatClampNeg x1), ((upd z49.2.1.2.1 x2.toNatClampNeg x3), ((upd z49.2.1.2.2.1 x2.toNatClampNeg (x5 - (6 : Int32))), z49.2.1.2.2.2))), (z49.2.2.1, ((upd z49.2.2.2.1 x4.toNatClampNeg (vp_nar .boolean (1 : Int32))), (z49.2.2.2.2.1, ((upd (upd z49.2.2.2.2.2.1 x1.toNatClampNeg ((z49.2.2.2.2.2.1 x1.toNatClampNeg) ||| ((1 : Int32) <<< (z52 &&& 31)))) x1.toNatClampNeg (((upd z49.2.2.2.2.2.1 x1.toNatClampNeg ((z49.2.2.2.2.2.1 x1.toNatClampNeg) ||| ((1 : Int32) <<< (z52 &&& 31)))) x1.toNatClampNeg) ||| ((1 : Int32) <<< (x4 &&& 31)))), z49.2.2.2.2.2.2)))))) else none) else none) else none) else none) else none) else none)) else none) else none)) else some ((), z48.2))))) else f_Mo_change_66 N n x1 x2 x3 x4 (x5 + (1 : Int32)) U) else none))
def f_Mo_change (N : Nat) (p0 : Int32) (p1 : Int32) (p2 : Int32) (U : K_Mo) : Option (Unit × K_Mo) := ((f_Mo_clean N p1 U).bind fun z1 => (if z1.2.2.2.2.2.2.2.2.2.2.2.2.1 = 0 then (if xi p1 15 = true then (if (z1.2.1.1 p1.toNatClampNeg) = 0 then ((f_Mo_pageOf N p1 ).bind fun z3 => (if xi p1 15 = true then (if (z1.2.1.1 p1.toNatClampNeg) = p0 then (if xi p1 15 = true then (if (z1.2.1.1 p1.toNatClampNeg) = 0 then (if xi p1 15 = true then (if xi p1 15 = true then (if xi p1 15 = true then (if xi z3 7 = true then (if xi p0 41 = true then (if xi p0 41 = true then some ((), (((upd z1.2.1.1 p1.toNatClampNeg p0), ((upd z1.2.1.2.1 p1.toNatClampNeg p2), ((upd z1.2.1.2.2.1 p1.toNatClampNeg (-1 : Int32)), z1.2.1.2.2.2))), (z1.2.2.1, ((upd z1.2.2.2.1 z3.toNatClampNeg (vp_nar .boolean (1 : Int32))), (z1.2.2.2.2.1, ((upd z1.2.2.2.2.2.1 p0.toNatClampNeg ((z1.2.2.2.2.2.1 p0.toNatClampNeg) ||| ((1 : Int32) <<< (z3 &&& 31)))), z1.2.2.2.2.2.2)))))) else none) else none) else none) else none) else none) else none) else (if xi p1 15 = true then (if xi p1 15 = true then (if xi z3 7 = true then (if xi p0 41 = true then (if xi p0 41 = true then some ((), (((upd z1.2.1.1 p1.toNatClampNeg p0), ((upd z1.2.1.2.1 p1.toNatClampNeg p2), z1.2.1.2.2)), (z1.2.2.1, ((upd z1.2.2.2.1 z3.toNatClampNeg (vp_nar .boolean (1 : Int32))), (z1.2.2.2.2.1, ((upd z1.2.2.2.2.2.1 p0.toNatClampNeg ((z1.2.2.2.2.2.1 p0.toNatClampNeg) ||| ((1 : Int32) <<< (z3 &&& 31)))), z1.2.2.2.2.2.2)))))) else none) else none) else none) else none) else none)) else none) else (if xi p1 15 = true then (if (z1.2.1.1 p1.toNatClampNeg) = 0 then (if xi p1 15 = true then (if (z1.2.1.1 p1.toNatClampNeg) = 0 then (if xi p1 15 = true then (if xi p1 15 = true then (if xi p1 15 = true then (if xi z3 7 = true then (if xi p0 41 = true then (if xi p0 41 = true then some ((), (((upd z1.2.1.1 p1.toNatClampNeg p0), ((upd z1.2.1.2.1 p1.toNatClampNeg p2), ((upd z1.2.1.2.2.1 p1.toNatClampNeg (-1 : Int32)), z1.2.1.2.2.2))), (z1.2.2.1, ((upd z1.2.2.2.1 z3.toNatClampNeg (vp_nar .boolean (1 : Int32))), (z1.2.2.2.2.1, ((upd z1.2.2.2.2.2.1 p0.toNatClampNeg ((z1.2.2.2.2.2.1 p0.toNatClampNeg) ||| ((1 : Int32) <<< (z3 &&& 31)))), z1.2.2.2.2.2.2)))))) else none) else none) else none) else none) else none) else none) else (if xi p1 15 = true then (if xi p1 15 = true then (if xi z3 7 = true then (if xi p0 41 = true then (if xi p0 41 = true then some ((), (((upd z1.2.1.1 p1.toNatClampNeg p0), ((upd z1.2.1.2.1 p1.toNatClampNeg p2), z1.2.1.2.2)), (z1.2.2.1, ((upd z1.2.2.2.1 z3.toNatClampNeg (vp_nar .boolean (1 : Int32))), (z1.2.2.2.2.1, ((upd z1.2.2.2.2.2.1 p0.toNatClampNeg ((z1.2.2.2.2.2.1 p0.toNatClampNeg) ||| ((1 : Int32) <<< (z3 &&& 31)))), z1.2.2.2.2.2.2)))))) else none) else none) else none) else none) else none)) else none) else f_Mo_change_66 N N p0 p1 p2 z3 (6 : Int32) z1.2) else none)) else none)) else ((f_Mo_seen N p0 p1 z1.2).bind fun z65 => (if z65.1 = 0 then some ((), (z65.2.1, (z65.2.2.1, (z65.2.2.2.1, (z65.2.2.2.2.1, (z65.2.2.2.2.2.1, (z65.2.2.2.2.2.2.1, (z65.2.2.2.2.2.2.2.1, (z65.2.2.2.2.2.2.2.2.1, (z65.2.2.2.2.2.2.2.2.2.1, (z65.2.2.2.2.2.2.2.2.2.2.1, (z65.2.2.2.2.2.2.2.2.2.2.2.1, (z65.2.2.2.2.2.2.2.2.2.2.2.2.1, (1 : Int32)))))))))))))) else ((f_Mo_pageOf N p1 ).bind fun z66 => (if xi p1 15 = true then (if (z65.2.1.1 p1.toNatClampNeg) = p0 then (if xi p1 15 = true then (if (z65.2.1.1 p1.toNatClampNeg) = 0 then (if xi p1 15 = true then (if xi p1 15 = true then (if xi p1 15 = true then (if xi z66 7 = true then (if xi p0 41 = true then (if xi p0 41 = true then some ((), (((upd z65.2.1.1 p1.toNatClampNeg p0), ((upd z65.2.1.2.1 p1.toNatClampNeg p2), ((upd z65.2.1.2.2.1 p1.toNatClampNeg (-1 : Int32)), z65.2.1.2.2.2))), (z65.2.2.1, ((upd z65.2.2.2.1 z66.toNatClampNeg (vp_nar .boolean (1 : Int32))), (z65.2.2.2.2.1, ((upd z65.2.2.2.2.2.1 p0.toNatClampNeg ((z65.2.2.2.2.2.1 p0.toNatClampNeg) ||| ((1 : Int32) <<< (z66 &&& 31)))), z65.2.2.2.2.2.2)))))) else none) else none) else none) else none) else none) else none) else (if xi p1 15 = true then (if xi p1 15 = true then (if xi z66 7 = true then (if xi p0 41 = true then (if xi p0 41 = true then some ((), (((upd z65.2.1.1 p1.toNatClampNeg p0), ((upd z65.2.1.2.1 p1.toNatClampNeg p2), z65.2.1.2.2)), (z65.2.2.1, ((upd z65.2.2.2.1 z66.toNatClampNeg (vp_nar .boolean (1 : Int32))), (z65.2.2.2.2.1, ((upd z65.2.2.2.2.2.1 p0.toNatClampNeg ((z65.2.2.2.2.2.1 p0.toNatClampNeg) ||| ((1 : Int32) <<< (z66 &&& 31)))), z65.2.2.2.2.2.2)))))) else none) else none) else none) else none) else none)) else none) else (if xi p1 15 = true then (if (z65.2.1.1 p1.toNatClampNeg) = 0 then (if xi p1 15 = true then (if (z65.2.1.1 p1.toNatClampNeg) = 0 then (if xi p1 15 = true then (if xi p1 15 = true then (if xi p1 15 = true then (if xi z66 7 = true then (if xi p0 41 = true then (if xi p0 41 = true then some ((), (((upd z65.2.1.1 p1.toNatClampNeg p0), ((upd z65.2.1.2.1 p1.toNatClampNeg p2), ((upd z65.2.1.2.2.1 p1.toNatClampNeg (-1 : Int32)), z65.2.1.2.2.2))), (z65.2.2.1, ((upd z65.2.2.2.1 z66.toNatClampNeg (vp_nar .boolean (1 : Int32))), (z65.2.2.2.2.1, ((upd z65.2.2.2.2.2.1 p0.toNatClampNeg ((z65.2.2.2.2.2.1 p0.toNatClampNeg) ||| ((1 : Int32) <<< (z66 &&& 31)))), z65.2.2.2.2.2.2)))))) else none) else none) else none) else none) else none) else none) else (if xi p1 15 = true then (if xi p1 15 = true then (if xi z66 7 = true then (if xi p0 41 = true then (if xi p0 41 = true then some ((), (((upd z65.2.1.1 p1.toNatClampNeg p0), ((upd z65.2.1.2.1 p1.toNatClampNeg p2), z65.2.1.2.2)), (z65.2.2.1, ((upd z65.2.2.2.1 z66.toNatClampNeg (vp_nar .boolean (1 : Int32))), (z65.2.2.2.2.1, ((upd z65.2.2.2.2.2.1 p0.toNatClampNeg ((z65.2.2.2.2.2.1 p0.toNatClampNeg) ||| ((1 : Int32) <<< (z66 &&& 31)))), z65.2.2.2.2.2.2)))))) else none) else none) else none) else none) else none)) else none) else f_Mo_change_66 N N p0 p1 p2 z66 (6 : Int32) z65.2) else none)) else none))))) else none) else some ((), z1.2)))
def rm_Mo_change : Room := { frames := 5, cells := 0, slots := 0, locals := 110 }
def f_Mo_write (N : Nat) (p0 : Int32) (p1 : Int32) (p2 : Int32) (U : K_Mo) : Option (Int32 × K_Mo) := ((f_Mo_begun N  U).bind fun z1 => ((f_Mo_in N p1 (0 : Int32) (5 : Int32) ).bind fun z2 => (if z2 = 0 then ((f_Mo_raise N (1 : Int32) z1.2).bind fun z3 => some (z3.1, z3.2)) else ((f_Mo_in N p2 (0 : Int32) (1000000 : Int32) ).bind fun z4 => (if z4 = 0 then ((f_Mo_raise N (1 : Int32) z1.2).bind fun z12 => some (z12.1, z12.2)) else ((f_Mo_idle N p0 z1.2).bind fun z5 => (if z5.1 = 0 then ((f_Mo_change N p0 p1 p2 z5.2).bind fun z6 => (if z6.2.2.2.2.2.2.2.2.2.2.2.2.2 ≤ 0 then ((f_Mo_done N (1 : Int32) z6.2).bind fun z7 => some (z7.1, z7.2)) else ((f_Mo_raise N ((2 : Int32) + z6.2.2.2.2.2.2.2.2.2.2.2.2.2) z6.2).bind fun z8 => some (z8.1, z8.2)))) else ((f_Mo_raise N (2 : Int32) z5.2).bind fun z10 => some (z10.1, z10.2)))))))))
def rm_Mo_write : Room := { frames := 6, cells := 0, slots := 0, locals := 135 }
def f_Mo_erase (N : Nat) (p0 : Int32) (p1 : Int32) (U : K_Mo) : Option (Int32 × K_Mo) := ((f_Mo_begun N  U).bind fun z1 => ((f_Mo_in N p1 (0 : Int32) (5 : Int32) ).bind fun z2 => (if z2 = 0 then ((f_Mo_raise N (1 : Int32) z1.2).bind fun z13 => some (z13.1, z13.2)) else ((f_Mo_idle N p0 z1.2).bind fun z3 => (if z3.1 = 0 then ((f_Mo_reads N p0 p1 z3.2).bind fun z4 => (if 0 ≤ z4.1 then ((f_Mo_change N p0 p1 (-1 : Int32) z4.2).bind fun z5 => (if z5.2.2.2.2.2.2.2.2.2.2.2.2.2 ≤ 0 then ((f_Mo_done N (1 : Int32) z5.2).bind fun z6 => some (z6.1, z6.2)) else ((f_Mo_raise N ((3 : Int32) + z5.2.2.2.2.2.2.2.2.2.2.2.2.2) z5.2).bind fun z7 => some (z7.1, z7.2)))) else ((f_Mo_raise N (3 : Int32) z4.2).bind fun z9 => some (z9.1, z9.2)))) else ((f_Mo_raise N (2 : Int32) z3.2).bind fun z11 => some (z11.1, z11.2)))))))
def rm_Mo_erase : Room := { frames := 6, cells := 0, slots := 0, locals := 135 }
def f_Mo_commit_25 (N : Nat) : Nat → Int32 → Int32 → Int32 → K_Mo → Option (Int32 × K_Mo)
  | 0, _, _, _, _ => none
  | n + 1, x1, x2, x3, U => (if (6 : Int32) ≤ x3 then (if U.2.2.2.2.2.2.2.2.2.2.2.1 = 0 then (if xi x1 41 = true then ((f_Mo_store N (6 : Int32) ((U.1.1, (U.1.2.1, (U.1.2.2.1, (upd U.1.2.2.2 x1.toNatClampNeg (2 : Int32))))), (U.2.1, ((upd U.2.2.1 (6 : Int32).toNatClampNeg (vp_nar .boolean (1 : Int32))), U.2.2.2)))).bind fun z4 => ((f_Mo_done N (z4.2.2.2.2.2.2.2.2.2.1 - x2) z4.2).bind fun z5 => some (z5.1, z5.2))) else none) else some ((-9 : Int32), U)) else (if U.2.2.2.2.2.2.2.2.2.2.2.1 = 0 then (if xi x1 41 = true then (if (((U.2.2.2.2.1 x1.toNatClampNeg) >>> (x3 &&& 31)) &&& (1 : Int32)) = 0 then f_Mo_commit_25 N n x1 x2 (x3 + (1 : Int32)) U else (if xi x3 7 = true then (if (U.2.2.1 x3.toNatClampNeg) = 0 then f_Mo_commit_25 N n x1 x2 (x3 + (1 : Int32)) U else ((f_Mo_store N x3 U).bind fun z13 => f_Mo_commit_25 N n x1 x2 (x3 + (1 : Int32)) z13.2)) else none)) else none) else (if U.2.2.2.2.2.2.2.2.2.2.2.1 = 0 then (if xi x1 41 = true then ((f_Mo_store N (6 : Int32) ((U.1.1, (U.1.2.1, (U.1.2.2.1, (upd U.1.2.2.2 x1.toNatClampNeg (2 : Int32))))), (U.2.1, ((upd U.2.2.1 (6 : Int32).toNatClampNeg (vp_nar .boolean (1 : Int32))), U.2.2.2)))).bind fun z8 => ((f_Mo_done N (z8.2.2.2.2.2.2.2.2.2.1 - x2) z8.2).bind fun z9 => some (z9.1, z9.2))) else none) else some ((-9 : Int32), U))))
def f_Mo_commit (N : Nat) (p0 : Int32) (U : K_Mo) : Option (Int32 × K_Mo) := ((f_Mo_begun N  U).bind fun z1 => ((f_Mo_idle N p0 z1.2).bind fun z2 => (if z2.1 = 0 then f_Mo_commit_25 N N p0 z2.2.2.2.2.2.2.2.2.2.1 (0 : Int32) z2.2 else ((f_Mo_raise N (1 : Int32) z2.2).bind fun z18 => some (z18.1, z18.2)))))
def rm_Mo_commit : Room := { frames := 3, cells := 0, slots := 0, locals := 66 }
def f_Mo_rollback (N : Nat) (p0 : Int32) (U : K_Mo) : Option (Int32 × K_Mo) := ((f_Mo_begun N  U).bind fun z1 => ((f_Mo_idle N p0 z1.2).bind fun z2 => (if z2.1 = 0 then (if xi p0 41 = true then some ((1 : Int32), ((z2.2.1.1, (z2.2.1.2.1, (z2.2.1.2.2.1, (upd z2.2.1.2.2.2 p0.toNatClampNeg (3 : Int32))))), (z2.2.2.1, ((upd z2.2.2.2.1 (6 : Int32).toNatClampNeg (vp_nar .boolean (1 : Int32))), z2.2.2.2.2)))) else none) else ((f_Mo_raise N (1 : Int32) z2.2).bind fun z4 => some (z4.1, z4.2)))))
def rm_Mo_rollback : Room := { frames := 2, cells := 0, slots := 0, locals := 43 }
def f_Mo_settled_19 (N : Nat) : Nat → Int32 → Int32 → K_Mo → Option (Int32 × K_Mo)
  | 0, _, _, _ => none
  | n + 1, x1, x2, U => (if (40 : Int32) < x2 then some ((1 : Int32), U) else (if xi x2 41 = true then (if (U.1.2.2.2 x2.toNatClampNeg) = (1 : Int32) then ((f_Mo_seen N x2 x1 U).bind fun z4 => (if z4.1 = 0 then some ((0 : Int32), z4.2) else f_Mo_settled_19 N n x1 (x2 + (1 : Int32)) z4.2)) else f_Mo_settled_19 N n x1 (x2 + (1 : Int32)) U) else none))
def f_Mo_settled (N : Nat) (p0 : Int32) (U : K_Mo) : Option (Int32 × K_Mo) := (if xi p0 15 = true then (if xi (U.1.1 p0.toNatClampNeg) 41 = true then (if (U.1.2.2.2 (U.1.1 p0.toNatClampNeg).toNatClampNeg) = (2 : Int32) then f_Mo_settled_19 N N p0 (1 : Int32) U else some ((0 : Int32), U)) else none) else none)
def rm_Mo_settled : Room := { frames := 1, cells := 0, slots := 0, locals := 22 }
def f_Mo_sweepOne_87 (N : Nat) : Nat → Int32 → Int32 → Int32 → Int32 → K_Mo → Option (Int32 × K_Mo)
  | 0, _, _, _, _, _ => none
  | n + 1, x1, x2, x3, x4, U => (if x4 < 0 then (if x2 = x1 then (if xi x2 15 = true then (if 0 ≤ (U.1.2.1 x2.toNatClampNeg) then some (x3, U) else ((f_Mo_free N x1 U).bind fun z6 => some (x3, z6.2))) else none) else some (x3, U)) else ((f_Mo_behind N x4 U).bind fun z9 => ((f_Mo_pageOf N x1 ).bind fun z10 => ((f_Mo_pageOf N x4 ).bind fun z11 => ((f_Mo_note N z10 z11 z9.2).bind fun z12 => ((f_Mo_pageOf N x2 ).bind fun z13 => ((f_Mo_pageOf N x4 ).bind fun z14 => ((f_Mo_note N z13 z14 z12.2).bind fun z15 => (if z15.2.2.2.2.2.2.2.2.2.2.2.2.1 = 0 then ((f_Mo_free N x4 z15.2).bind fun z16 => f_Mo_sweepOne_87 N n x1 x2 (x3 + (1 : Int32)) z9.1 z16.2) else some ((0 : Int32), z15.2))))))))))
def f_Mo_sweepOne_25 (N : Nat) : Nat → Int32 → Int32 → K_Mo → Option (Int32 × K_Mo)
  | 0, _, _, _ => none
  | n + 1, x1, x2, U => (if x2 < 0 then (if 0 ≤ x2 then ((f_Mo_behind N x2 U).bind fun z3 => (if xi x2 15 = true then (if (z3.2.1.2.2.1 x2.toNatClampNeg) < 0 then f_Mo_sweepOne_87 N N x1 x2 (0 : Int32) z3.1 z3.2 else (if xi x2 15 = true then ((f_Mo_pageOf N x2 ).bind fun z20 => (if xi z20 7 = true then f_Mo_sweepOne_87 N N x1 x2 (0 : Int32) z3.1 ((z3.2.1.1, (z3.2.1.2.1, ((upd z3.2.1.2.2.1 x2.toNatClampNeg (-1 : Int32)), z3.2.1.2.2.2))), (z3.2.2.1, ((upd z3.2.2.2.1 z20.toNatClampNeg (vp_nar .boolean (1 : Int32))), z3.2.2.2.2))) else none)) else none)) else none)) else some ((0 : Int32), U)) else ((f_Mo_settled N x2 U).bind fun z24 => (if z24.1 = 0 then ((f_Mo_behind N x2 z24.2).bind fun z32 => f_Mo_sweepOne_25 N n x1 z32.1 z32.2) else (if 0 ≤ x2 then ((f_Mo_behind N x2 z24.2).bind fun z25 => (if xi x2 15 = true then (if (z25.2.1.2.2.1 x2.toNatClampNeg) < 0 then f_Mo_sweepOne_87 N N x1 x2 (0 : Int32) z25.1 z25.2 else (if xi x2 15 = true then ((f_Mo_pageOf N x2 ).bind fun z28 => (if xi z28 7 = true then f_Mo_sweepOne_87 N N x1 x2 (0 : Int32) z25.1 ((z25.2.1.1, (z25.2.1.2.1, ((upd z25.2.1.2.2.1 x2.toNatClampNeg (-1 : Int32)), z25.2.1.2.2.2))), (z25.2.2.1, ((upd z25.2.2.2.1 z28.toNatClampNeg (vp_nar .boolean (1 : Int32))), z25.2.2.2.2))) else none)) else none)) else none)) else some ((0 : Int32), z24.2)))))
def f_Mo_sweepOne (N : Nat) (p0 : Int32) (U : K_Mo) : Option (Int32 × K_Mo) := ((f_Mo_clean N p0 U).bind fun z1 => (if z1.2.2.2.2.2.2.2.2.2.2.2.2.1 = 0 then (if xi p0 15 = true then (if (z1.2.1.1 p0.toNatClampNeg) = 0 then some ((0 : Int32), z1.2) else f_Mo_sweepOne_25 N N p0 p0 z1.2) else none) else some ((0 : Int32), z1.2)))
def rm_Mo_sweepOne : Room := { frames := 5, cells := 0, slots := 0, locals := 110 }
def f_Mo_sweep_8 (N : Nat) : Nat → Int32 → Int32 → K_Mo → Option (Int32 × K_Mo)
  | 0, _, _, _ => none
  | n + 1, x1, x2, U => (if (6 : Int32) ≤ x2 then ((f_Mo_done N x1 U).bind fun z2 => some (z2.1, z2.2)) else (if U.2.2.2.2.2.2.2.2.2.2.2.1 = 0 then ((f_Mo_sweepOne N x2 U).bind fun z4 => f_Mo_sweep_8 N n (x1 + z4.1) (x2 + (1 : Int32)) z4.2) else ((f_Mo_done N x1 U).bind fun z3 => some (z3.1, z3.2))))
def f_Mo_sweep (N : Nat) (U : K_Mo) : Option (Int32 × K_Mo) := ((f_Mo_begun N  U).bind fun z1 => f_Mo_sweep_8 N N (0 : Int32) (0 : Int32) z1.2)
def rm_Mo_sweep : Room := { frames := 6, cells := 0, slots := 0, locals := 135 }
def f_Mo_flush_11 (N : Nat) : Nat → Int32 → Int32 → K_Mo → Option (Int32 × K_Mo)
  | 0, _, _, _ => none
  | n + 1, x1, x2, U => (if (7 : Int32) ≤ x2 then ((f_Mo_done N (U.2.2.2.2.2.2.2.2.1 - x1) U).bind fun z2 => some (z2.1, z2.2)) else (if U.2.2.2.2.2.2.2.2.2.2.2.1 = 0 then (if xi x2 7 = true then (if (U.2.2.1 x2.toNatClampNeg) = 0 then f_Mo_flush_11 N n x1 (x2 + (1 : Int32)) U else ((f_Mo_store N x2 U).bind fun z5 => f_Mo_flush_11 N n x1 (x2 + (1 : Int32)) z5.2)) else none) else ((f_Mo_done N (U.2.2.2.2.2.2.2.2.1 - x1) U).bind fun z3 => some (z3.1, z3.2))))
def f_Mo_flush (N : Nat) (U : K_Mo) : Option (Int32 × K_Mo) := ((f_Mo_begun N  U).bind fun z1 => f_Mo_flush_11 N N z1.2.2.2.2.2.2.2.2.2.1 (0 : Int32) z1.2)
def rm_Mo_flush : Room := { frames := 3, cells := 0, slots := 0, locals := 66 }
def f_Mo_fail (N : Nat) (p0 : Int32) (U : K_Mo) : Option (Int32 × K_Mo) := ((f_Mo_begun N  U).bind fun z1 => ((f_Mo_in N p0 (0 : Int32) (50 : Int32) ).bind fun z2 => (if z2 = 0 then ((f_Mo_raise N (1 : Int32) z1.2).bind fun z3 => some (z3.1, z3.2)) else some (z1.2.2.2.2.2.2.2.2.2.2.2.1, (z1.2.1, (z1.2.2.1, (z1.2.2.2.1, (z1.2.2.2.2.1, (z1.2.2.2.2.2.1, (z1.2.2.2.2.2.2.1, (z1.2.2.2.2.2.2.2.1, (z1.2.2.2.2.2.2.2.2.1, (z1.2.2.2.2.2.2.2.2.2.1, (z1.2.2.2.2.2.2.2.2.2.2.1, (p0, z1.2.2.2.2.2.2.2.2.2.2.2.2)))))))))))))))
def rm_Mo_fail : Room := { frames := 1, cells := 0, slots := 0, locals := 22 }
def f_Mo_crash (N : Nat) (U : K_Mo) : Option (Int32 × K_Mo) := ((f_Mo_begun N  U).bind fun z1 => ((f_Mo_actives N  z1.2).bind fun z2 => ((f_Mo_fall N  z2.2).bind fun z3 => some (z2.1, z3.2))))
def rm_Mo_crash : Room := { frames := 1, cells := 0, slots := 0, locals := 22 }
def f_Mo_image_23 (N : Nat) : Nat → Int32 → Int32 → K_Mo → Option (Int32 × K_Mo)
  | 0, _, _, _ => none
  | n + 1, x2, x3, U => (if (16 : Int32) ≤ x3 then ((f_Mo_raise N (2 : Int32) U).bind fun z3 => some (z3.1, z3.2)) else (if x2 < 0 then ((f_Mo_raise N (2 : Int32) U).bind fun z4 => some (z4.1, z4.2)) else (if xi x2 15 = true then (if (U.2.1.1 x2.toNatClampNeg) = 0 then ((f_Mo_raise N (2 : Int32) U).bind fun z6 => some (z6.1, z6.2)) else (if xi x2 15 = true then (if xi (U.2.1.1 x2.toNatClampNeg) 41 = true then (if (U.2.1.2.2.2 (U.2.1.1 x2.toNatClampNeg).toNatClampNeg) = (2 : Int32) then (if xi x2 15 = true then (if 0 ≤ (U.2.1.2.1 x2.toNatClampNeg) then (if xi x2 15 = true then some ((U.2.1.2.1 x2.toNatClampNeg), U) else none) else ((f_Mo_raise N (2 : Int32) U).bind fun z14 => some (z14.1, z14.2))) else none) else (if xi x2 15 = true then (if 0 ≤ (U.2.1.2.2.1 x2.toNatClampNeg) then (if xi x2 15 = true then f_Mo_image_23 N n ((6 : Int32) + (U.2.1.2.2.1 x2.toNatClampNeg)) (x3 + (1 : Int32)) U else none) else f_Mo_image_23 N n (-1 : Int32) (x3 + (1 : Int32)) U) else none)) else none) else none)) else none)))
def f_Mo_image (N : Nat) (p0 : Int32) (U : K_Mo) : Option (Int32 × K_Mo) := ((f_Mo_begun N  U).bind fun z1 => ((f_Mo_in N p0 (0 : Int32) (5 : Int32) ).bind fun z2 => (if z2 = 0 then ((f_Mo_raise N (1 : Int32) z1.2).bind fun z20 => some (z20.1, z20.2)) else f_Mo_image_23 N N p0 (0 : Int32) z1.2)))
def rm_Mo_image : Room := { frames := 1, cells := 0, slots := 0, locals := 22 }
def f_Mo_state (N : Nat) (p0 : Int32) (U : K_Mo) : Option (Int32 × K_Mo) := ((f_Mo_begun N  U).bind fun z1 => ((f_Mo_in N p0 (1 : Int32) (40 : Int32) ).bind fun z2 => (if z2 = 0 then ((f_Mo_raise N (1 : Int32) z1.2).bind fun z3 => some (z3.1, z3.2)) else (if xi p0 41 = true then some ((z1.2.1.2.2.2 p0.toNatClampNeg), z1.2) else none))))
def rm_Mo_state : Room := { frames := 1, cells := 0, slots := 0, locals := 22 }
def f_Mo_version_51 (N : Nat) : Nat → Int32 → Int32 → Int32 → Int32 → K_Mo → Option (Int32 × K_Mo)
  | 0, _, _, _, _, _ => none
  | n + 1, x2, x3, x4, x5, U => (if x2 ≤ x5 then (if 0 ≤ x4 then (if x3 = 0 then (if xi x4 15 = true then some ((U.1.1 x4.toNatClampNeg), U) else none) else (if x3 = (1 : Int32) then (if xi x4 15 = true then some ((U.1.2.1 x4.toNatClampNeg), U) else none) else (if (6 : Int32) ≤ x4 then some ((x4 - (6 : Int32)), U) else some ((-1 : Int32), U)))) else ((f_Mo_raise N (2 : Int32) U).bind fun z10 => some (z10.1, z10.2))) else (if x4 < 0 then (if 0 ≤ x4 then (if x3 = 0 then (if xi x4 15 = true then some ((U.1.1 x4.toNatClampNeg), U) else none) else (if x3 = (1 : Int32) then (if xi x4 15 = true then some ((U.1.2.1 x4.toNatClampNeg), U) else none) else (if (6 : Int32) ≤ x4 then some ((x4 - (6 : Int32)), U) else some ((-1 : Int32), U)))) else ((f_Mo_raise N (2 : Int32) U).bind fun z17 => some (z17.1, z17.2))) else ((f_Mo_behind N x4 U).bind fun z19 => f_Mo_version_51 N n x2 x3 z19.1 (x5 + (1 : Int32)) z19.2)))
def f_Mo_version (N : Nat) (p0 : Int32) (p1 : Int32) (p2 : Int32) (U : K_Mo) : Option (Int32 × K_Mo) := ((f_Mo_begun N  U).bind fun z1 => ((f_Mo_in N p0 (0 : Int32) (5 : Int32) ).bind fun z2 => (if z2 = 0 then ((f_Mo_raise N (1 : Int32) z1.2).bind fun z3 => some (z3.1, z3.2)) else ((f_Mo_in N p2 (0 : Int32) (2 : Int32) ).bind fun z4 => (if z4 = 0 then ((f_Mo_raise N (1 : Int32) z1.2).bind fun z25 => some (z25.1, z25.2)) else (if p1 < 0 then f_Mo_version_51 N N p1 p2 (-1 : Int32) (0 : Int32) z1.2 else (if xi p0 15 = true then (if (z1.2.1.1 p0.toNatClampNeg) = 0 then f_Mo_version_51 N N p1 p2 (-1 : Int32) (0 : Int32) z1.2 else f_Mo_version_51 N N p1 p2 p0 (0 : Int32) z1.2) else none)))))))
def rm_Mo_version : Room := { frames := 1, cells := 0, slots := 0, locals := 22 }
def f_Mo_page (N : Nat) (p0 : Int32) (U : K_Mo) : Option (Int32 × K_Mo) := ((f_Mo_begun N  U).bind fun z1 => ((f_Mo_in N p0 (0 : Int32) (6 : Int32) ).bind fun z2 => (if z2 = 0 then ((f_Mo_in N p0 (10 : Int32) (16 : Int32) ).bind fun z3 => (if z3 = 0 then ((f_Mo_raise N (1 : Int32) z1.2).bind fun z4 => some (z4.1, z4.2)) else (if xi (p0 - (10 : Int32)) 7 = true then (if (z1.2.2.2.1 (p0 - (10 : Int32)).toNatClampNeg) = 0 then some ((0 : Int32), z1.2) else some ((1 : Int32), z1.2)) else none))) else (if xi p0 7 = true then some ((z1.2.2.2.2.1 p0.toNatClampNeg), z1.2) else none))))
def rm_Mo_page : Room := { frames := 1, cells := 0, slots := 0, locals := 22 }
def f_Mo_count_43 (N : Nat) : Nat → Int32 → Int32 → K_Mo → Option (Int32 × K_Mo)
  | 0, _, _, _ => none
  | n + 1, x2, x3, U => (if (15 : Int32) ≤ x3 then some (x2, U) else (if xi x3 15 = true then (if (U.1.1 x3.toNatClampNeg) = 0 then f_Mo_count_43 N n (x2 + (1 : Int32)) (x3 + (1 : Int32)) U else f_Mo_count_43 N n x2 (x3 + (1 : Int32)) U) else none))
def f_Mo_count_86 (N : Nat) : Nat → Int32 → Int32 → K_Mo → Option (Int32 × K_Mo)
  | 0, _, _, _ => none
  | n + 1, x2, x3, U => (if (7 : Int32) ≤ x3 then some (x2, U) else (if xi x3 7 = true then (if (U.2.2.1 x3.toNatClampNeg) = 0 then f_Mo_count_86 N n x2 (x3 + (1 : Int32)) U else f_Mo_count_86 N n (x2 + (1 : Int32)) (x3 + (1 : Int32)) U) else none))
def f_Mo_count (N : Nat) (p0 : Int32) (U : K_Mo) : Option (Int32 × K_Mo) := ((f_Mo_begun N  U).bind fun z1 => (if p0 = (0 : Int32) then f_Mo_count_43 N N (0 : Int32) (6 : Int32) z1.2 else (if p0 = (1 : Int32) then ((f_Mo_actives N  z1.2).bind fun z7 => some (z7.1, z7.2)) else (if p0 = (2 : Int32) then some (z1.2.2.2.2.2.2.2.2.2.1, z1.2) else (if p0 = (3 : Int32) then some (z1.2.2.2.2.2.2.2.2.2.2.1, z1.2) else (if p0 = (4 : Int32) then f_Mo_count_86 N N (0 : Int32) (0 : Int32) z1.2 else ((f_Mo_raise N (1 : Int32) z1.2).bind fun z14 => some (z14.1, z14.2))))))))
def rm_Mo_count : Room := { frames := 1, cells := 0, slots := 0, locals := 22 }
end
section
set_option maxHeartbeats 4000000 in
set_option maxRecDepth 100000 in
theorem c_Co_init (l : Launch) (D : va_G) (cI cJ cZ : ClassId) (mh : Nat) (N : Nat) (r : K_Co) (hf : f_Co_init N = some r) : Cxe l y_Co_init ws_Co_init rm_Co_init D vwCl (tyL cI cJ cZ) [.ref mh] [(mh, .inr (0, [.null, .null, .null, .null]))] (fun a : Nat → Nat => (w_Co cI cJ cZ mh (a 0) (a 1) (a 2) (a 3) r)) := by
  unfold f_Co_init at hf
  refine Cxe.ofW (cc := b_Co_init) (maxL := 2) (ret := none) (by decide) rfl ?_
  intro p e s m below meth c A C0 hP hK hD hA hns hZ
  obtain ⟨hx, hb, hml, hown, hts0, hr, hlocks, hnm, hno⟩ := C0
  have hown : s.vm.findClass R_Co = some m.cls := hown
  have hts : ∀ w ∈ tb, w.before [.ref mh].toArray s = true := fun w h => hts0 w (List.mem_cons_of_mem _ h)
  have hS : va_S A s.heap s.heap [] := va_S.rf
  have hl := lv_entry ([.ref mh]) (n := 2) (Nat.le_of_ble_eq_true rfl)
  rw [lg_entry_eq]
  generalize (lg_sl ([.ref mh]) ++ List.replicate (2 - (lg_sl ([.ref mh])).length) Slot.unset).toArray = ls at hl ⊢
  have hl : lv_has ls 2 [(0, .ref mh)] := hl
  refine lv_aload_n hx hb d_Co_init_0 rfl (lv_at hl 0 rfl) ?_
  refine W.objInit hx hb hown (hts _ k_0) (hts _ k_1) (hts _ k_2) rfl (by rw [hml]; exact hl.1) rfl d_Co_init_1 (Nat.le_of_ble_eq_true rfl) (Nat.le_of_ble_eq_true rfl) ?_
  refine W.eq (g2 := F0 m 4 ls []) rfl ?_
  refine lv_aload_n hx hb d_Co_init_4 rfl (lv_at hl 0 rfl) ?_
  refine lv_bipush (v := (15 : Int32)) hx hb d_Co_init_5 (by decide) ?_
  refine x_newI (N := 15) hx hb (hts _ k_3) hK hP hD hS hA (by decide) (by decide) (by decide) (Nat.le_of_ble_eq_true rfl) (Nat.le_of_ble_eq_true rfl) d_Co_init_7 (fun q1 H hP hD hS => ?_)
  have hP : va_P D vwCl [(mh, .inr (0, [.null, .null, .null, .null])), (q1, .inl (cI, 15, .inl (fun _ => 0)))] H := hP
  have hD : va_D A [(mh, .inr (0, [.null, .null, .null, .null])), (q1, .inl (cI, 15, .inl (fun _ => 0)))] := hD
  refine va_putF (D := D) (ci := 0) (v := .ref q1) (ty := .array .int) (C := R_Co) (T := F_Co) (N := 4) hx hb hts i_Co t_Co t_Co_ok n_Co hown hK hP hD hS 0 rfl rfl 0 (by decide) (hts _ k_4) (fun _ h9 => h9) rfl hnm rfl (by decide +kernel) rfl rfl (Nat.le_of_ble_eq_true rfl) d_Co_init_9 (fun H locs hP hD hS => ?_)
  have hP : va_P D vwCl [(mh, .inr (0, [.ref q1, .null, .null, .null])), (q1, .inl (cI, 15, .inl (fun _ => 0)))] H := hP
  have hD : va_D A [(mh, .inr (0, [.ref q1, .null, .null, .null])), (q1, .inl (cI, 15, .inl (fun _ => 0)))] := hD
  refine lv_aload_n hx hb d_Co_init_12 rfl (lv_at hl 0 rfl) ?_
  refine lv_bipush (v := (15 : Int32)) hx hb d_Co_init_13 (by decide) ?_
  refine x_newI (N := 15) hx hb (hts _ k_3) hK hP hD hS hA (by decide) (by decide) (by decide) (Nat.le_of_ble_eq_true rfl) (Nat.le_of_ble_eq_true rfl) d_Co_init_15 (fun q2 H hP hD hS => ?_)
  have hP : va_P D vwCl [(mh, .inr (0, [.ref q1, .null, .null, .null])), (q1, .inl (cI, 15, .inl (fun _ => 0))), (q2, .inl (cI, 15, .inl (fun _ => 0)))] H := hP
  have hD : va_D A [(mh, .inr (0, [.ref q1, .null, .null, .null])), (q1, .inl (cI, 15, .inl (fun _ => 0))), (q2, .inl (cI, 15, .inl (fun _ => 0)))] := hD
  refine va_putF (D := D) (ci := 0) (v := .ref q2) (ty := .array .int) (C := R_Co) (T := F_Co) (N := 4) hx hb hts i_Co t_Co t_Co_ok n_Co hown hK hP hD hS 0 rfl rfl 1 (by decide) (hts _ k_5) (fun _ h9 => h9) rfl hnm rfl (by decide +kernel) rfl rfl (Nat.le_of_ble_eq_true rfl) d_Co_init_17 (fun H locs hP hD hS => ?_)
  have hP : va_P D vwCl [(mh, .inr (0, [.ref q1, .ref q2, .null, .null])), (q1, .inl (cI, 15, .inl (fun _ => 0))), (q2, .inl (cI, 15, .inl (fun _ => 0)))] H := hP
  have hD : va_D A [(mh, .inr (0, [.ref q1, .ref q2, .null, .null])), (q1, .inl (cI, 15, .inl (fun _ => 0))), (q2, .inl (cI, 15, .inl (fun _ => 0)))] := hD
  refine lv_aload_n hx hb d_Co_init_20 rfl (lv_at hl 0 rfl) ?_
  refine lv_bipush (v := (15 : Int32)) hx hb d_Co_init_21 (by decide) ?_
  refine x_newI (N := 15) hx hb (hts _ k_3) hK hP hD hS hA (by decide) (by decide) (by decide) (Nat.le_of_ble_eq_true rfl) (Nat.le_of_ble_eq_true rfl) d_Co_init_23 (fun q3 H hP hD hS => ?_)
  have hP : va_P D vwCl [(mh, .inr (0, [.ref q1, .ref q2, .null, .null])), (q1, .inl (cI, 15, .inl (fun _ => 0))), (q2, .inl (cI, 15, .inl (fun _ => 0))), (q3, .inl (cI, 15, .inl (fun _ => 0)))] H := hP
  have hD : va_D A [(mh, .inr (0, [.ref q1, .ref q2, .null, .null])), (q1, .inl (cI, 15, .inl (fun _ => 0))), (q2, .inl (cI, 15, .inl (fun _ => 0))), (q3, .inl (cI, 15, .inl (fun _ => 0)))] := hD
  refine va_putF (D := D) (ci := 0) (v := .ref q3) (ty := .array .int) (C := R_Co) (T := F_Co) (N := 4) hx hb hts i_Co t_Co t_Co_ok n_Co hown hK hP hD hS 0 rfl rfl 2 (by decide) (hts _ k_6) (fun _ h9 => h9) rfl hnm rfl (by decide +kernel) rfl rfl (Nat.le_of_ble_eq_true rfl) d_Co_init_25 (fun H locs hP hD hS => ?_)
  have hP : va_P D vwCl [(mh, .inr (0, [.ref q1, .ref q2, .ref q3, .null])), (q1, .inl (cI, 15, .inl (fun _ => 0))), (q2, .inl (cI, 15, .inl (fun _ => 0))), (q3, .inl (cI, 15, .inl (fun _ => 0)))] H := hP
  have hD : va_D A [(mh, .inr (0, [.ref q1, .ref q2, .ref q3, .null])), (q1, .inl (cI, 15, .inl (fun _ => 0))), (q2, .inl (cI, 15, .inl (fun _ => 0))), (q3, .inl (cI, 15, .inl (fun _ => 0)))] := hD
  refine lv_aload_n hx hb d_Co_init_28 rfl (lv_at hl 0 rfl) ?_
  refine lv_bipush (v := (41 : Int32)) hx hb d_Co_init_29 (by decide) ?_
  refine x_newI (N := 41) hx hb (hts _ k_3) hK hP hD hS hA (by decide) (by decide) (by decide) (Nat.le_of_ble_eq_true rfl) (Nat.le_of_ble_eq_true rfl) d_Co_init_31 (fun q4 H hP hD hS => ?_)
  have hP : va_P D vwCl [(mh, .inr (0, [.ref q1, .ref q2, .ref q3, .null])), (q1, .inl (cI, 15, .inl (fun _ => 0))), (q2, .inl (cI, 15, .inl (fun _ => 0))), (q3, .inl (cI, 15, .inl (fun _ => 0))), (q4, .inl (cI, 41, .inl (fun _ => 0)))] H := hP
  have hD : va_D A [(mh, .inr (0, [.ref q1, .ref q2, .ref q3, .null])), (q1, .inl (cI, 15, .inl (fun _ => 0))), (q2, .inl (cI, 15, .inl (fun _ => 0))), (q3, .inl (cI, 15, .inl (fun _ => 0))), (q4, .inl (cI, 41, .inl (fun _ => 0)))] := hD
  refine va_putF (D := D) (ci := 0) (v := .ref q4) (ty := .array .int) (C := R_Co) (T := F_Co) (N := 4) hx hb hts i_Co t_Co t_Co_ok n_Co hown hK hP hD hS 0 rfl rfl 3 (by decide) (hts _ k_7) (fun _ h9 => h9) rfl hnm rfl (by decide +kernel) rfl rfl (Nat.le_of_ble_eq_true rfl) d_Co_init_33 (fun H locs hP hD hS => ?_)
  have hP : va_P D vwCl [(mh, .inr (0, [.ref q1, .ref q2, .ref q3, .ref q4])), (q1, .inl (cI, 15, .inl (fun _ => 0))), (q2, .inl (cI, 15, .inl (fun _ => 0))), (q3, .inl (cI, 15, .inl (fun _ => 0))), (q4, .inl (cI, 41, .inl (fun _ => 0)))] H := hP
  have hD : va_D A [(mh, .inr (0, [.ref q1, .ref q2, .ref q3, .ref q4])), (q1, .inl (cI, 15, .inl (fun _ => 0))), (q2, .inl (cI, 15, .inl (fun _ => 0))), (q3, .inl (cI, 15, .inl (fun _ => 0))), (q4, .inl (cI, 41, .inl (fun _ => 0)))] := hD
  have hP : va_P D vwCl (w_Co cI cJ cZ mh q1 q2 q3 q4 ((fun _ => 0), ((fun _ => 0), ((fun _ => 0), (fun _ => 0))))) H := hP.sub [0, 1, 2, 3, 4] rfl
  have hD : va_D A (w_Co cI cJ cZ mh q1 q2 q3 q4 ((fun _ => 0), ((fun _ => 0), ((fun _ => 0), (fun _ => 0))))) := hD.sub [0, 1, 2, 3, 4] (by decide) rfl
  have L_38 : ∀ n : Nat, ∀ (x1 : Int32) (U : K_Co), f_Co_init_38 N n x1 U = some r → ∀ (H : Heap) (locs : List Loc) (ls : Array Slot), va_P D vwCl (w_Co cI cJ cZ mh q1 q2 q3 q4 U) H → va_D A (w_Co cI cJ cZ mh q1 q2 q3 q4 U) → va_S A s.heap H locs → lv_has ls 2 [(0, .ref mh), (1, .int x1)] → W p l e (rm_Co_init) s m [.ref mh].toArray below meth c H locs 4 86 (xQe D vwCl (tyL cI cJ cZ) below s A (fun a : Nat → Nat => (w_Co cI cJ cZ mh (a 0) (a 1) (a 2) (a 3) r)) (rm_Co_init).cells (rm_Co_init).slots) (F0 m 38 ls []) := by
    intro n
    induction n with
    | zero =>
      intro x1 U hf
      have hf : (none : Option K_Co) = some r := hf
      cases hf
    | succ n ih =>
      intro x1 U hf H locs ls hP hD hS hl
      rw [f_Co_init_38] at hf
      refine lv_iload_n hx hb d_Co_init_38 rfl (lv_at hl 1 rfl) ?_
      refine lv_bipush (v := (15 : Int32)) hx hb d_Co_init_39 (by decide) ?_
      refine lv_icmp_ge (tgt := 57) hx hb d_Co_init_41 (by decide) (fun c2 => ?_) (fun c2 => ?_)
      · have hf := x_ifp c2 hf
        obtain rfl := Option.some.inj hf
        exact x_vretE (fun k => match k with | 0 => q1 | 1 => q2 | 2 => q3 | _ => q4) hx hb hr hlocks hK hP hD hS (Nat.le_of_ble_eq_true rfl) (Nat.le_of_ble_eq_true rfl) d_Co_init_57
      · have hf := x_ifn c2 hf
        refine lv_aload_n hx hb d_Co_init_44 rfl (lv_at hl 0 rfl) ?_
        refine va_get (D := D) (ci := 0) (v := .ref q3) (C := R_Co) (T := F_Co) (N := 4) hx hb hts i_Co hown hK hP 0 rfl rfl 2 (by decide) (hts _ k_6) (fun _ h9 => h9) rfl d_Co_init_45 ?_
        refine lv_iload_n hx hb d_Co_init_48 rfl (lv_at hl 1 rfl) ?_
        refine lv_iconst (v := (-1 : Int32)) hx hb d_Co_init_49 (by decide) ?_
        obtain ⟨g1, hf⟩ := x_if hf
        refine va_iast hx hb hK hP hD hS 3 0 rfl rfl (xi_in g1) d_Co_init_50 (fun H locs hP hD hS => ?_)
        have hP : va_P D vwCl (w_Co cI cJ cZ mh q1 q2 q3 q4 (U.1, (U.2.1, ((upd U.2.2.1 x1.toNatClampNeg (-1 : Int32)), U.2.2.2)))) H := hP
        have hD : va_D A (w_Co cI cJ cZ mh q1 q2 q3 q4 (U.1, (U.2.1, ((upd U.2.2.1 x1.toNatClampNeg (-1 : Int32)), U.2.2.2)))) := hD
        refine lv_iinc (v := (x1 + (1 : Int32))) (lv' := [(1, .int (x1 + (1 : Int32))), (0, .ref mh)]) hx hb d_Co_init_51 hl (k := 1) rfl rfl (by decide) rfl (fun ls hl => ?_)
        refine lv_goto (tgt := 38) hx hb d_Co_init_54 (by decide) ?_
        exact ih _ _ hf _ _ _ hP hD hS (lv_sub hl [1, 0] rfl)
  refine lv_iconst (v := (0 : Int32)) hx hb d_Co_init_36 (by decide) ?_
  refine lv_istore_n (lv' := [(1, .int (0 : Int32)), (0, .ref mh)]) hx hb d_Co_init_37 rfl hl (by decide) rfl (fun ls hl => ?_)
  exact L_38 _ _ _ hf _ _ _ hP hD hS (lv_sub hl [1, 0] rfl)
set_option maxHeartbeats 4000000 in
set_option maxRecDepth 100000 in
theorem c_Co_fill (l : Launch) (D : va_G) (cI cJ cZ : ClassId) (mh m0 m1 m2 m3 : Nat) (N : Nat) (p0 : Int32) (p1 : Int32) (p2 : Int32) (p3 : Int32) (U : K_Co) (r : (Unit × K_Co)) (hf : f_Co_fill N p0 p1 p2 p3 U = some r) : Cx l y_Co_fill ws_Co_fill rm_Co_fill D vwCl (tyL cI cJ cZ) [.ref mh, .int p0, .int p1, .int p2, .int p3] (w_Co cI cJ cZ mh m0 m1 m2 m3 U) (oV r.1) (w_Co cI cJ cZ mh m0 m1 m2 m3 r.2) := by
  unfold f_Co_fill at hf
  refine Cx.ofW (cc := b_Co_fill) (maxL := 5) (ret := none) (by decide) rfl ?_
  intro p e s m below meth c A C0 hP hK hD hA hns hZ
  obtain ⟨hx, hb, hml, hown, hts0, hr, hlocks, hnm, hno⟩ := C0
  have hown : s.vm.findClass R_Co = some m.cls := hown
  have hts : ∀ w ∈ tb, w.before [.ref mh, .int p0, .int p1, .int p2, .int p3].toArray s = true := fun w h => hts0 w (List.mem_cons_of_mem _ h)
  have hS : va_S A s.heap s.heap [] := va_S.rf
  have hl := lv_entry ([.ref mh, .int p0, .int p1, .int p2, .int p3]) (n := 5) (Nat.le_of_ble_eq_true rfl)
  rw [lg_entry_eq]
  generalize (lg_sl ([.ref mh, .int p0, .int p1, .int p2, .int p3]) ++ List.replicate (5 - (lg_sl ([.ref mh, .int p0, .int p1, .int p2, .int p3])).length) Slot.unset).toArray = ls at hl ⊢
  have hl : lv_has ls 5 [(0, .ref mh), (1, .int p0), (2, .int p1), (3, .int p2), (4, .int p3)] := hl
  refine lv_aload_n hx hb d_Co_fill_0 rfl (lv_at hl 0 rfl) ?_
  refine va_get (D := D) (ci := 0) (v := .ref m0) (C := R_Co) (T := F_Co) (N := 4) hx hb hts i_Co hown hK hP 0 rfl rfl 0 (by decide) (hts _ k_4) (fun _ h9 => h9) rfl d_Co_fill_1 ?_
  refine lv_iload_n hx hb d_Co_fill_4 rfl (lv_at hl 1 rfl) ?_
  refine lv_iload_n hx hb d_Co_fill_5 rfl (lv_at hl 2 rfl) ?_
  obtain ⟨g1, hf⟩ := x_if hf
  refine va_iast hx hb hK hP hD hS 1 0 rfl rfl (xi_in g1) d_Co_fill_6 (fun H locs hP hD hS => ?_)
  have hP : va_P D vwCl (w_Co cI cJ cZ mh m0 m1 m2 m3 ((upd U.1 p0.toNatClampNeg p1), U.2)) H := hP
  have hD : va_D A (w_Co cI cJ cZ mh m0 m1 m2 m3 ((upd U.1 p0.toNatClampNeg p1), U.2)) := hD
  refine lv_aload_n hx hb d_Co_fill_7 rfl (lv_at hl 0 rfl) ?_
  refine va_get (D := D) (ci := 0) (v := .ref m1) (C := R_Co) (T := F_Co) (N := 4) hx hb hts i_Co hown hK hP 0 rfl rfl 1 (by decide) (hts _ k_5) (fun _ h9 => h9) rfl d_Co_fill_8 ?_
  refine lv_iload_n hx hb d_Co_fill_11 rfl (lv_at hl 1 rfl) ?_
  refine lv_iload_n hx hb d_Co_fill_12 rfl (lv_at hl 3 rfl) ?_
  obtain ⟨g2, hf⟩ := x_if hf
  refine va_iast hx hb hK hP hD hS 2 0 rfl rfl (xi_in g2) d_Co_fill_13 (fun H locs hP hD hS => ?_)
  have hP : va_P D vwCl (w_Co cI cJ cZ mh m0 m1 m2 m3 ((upd U.1 p0.toNatClampNeg p1), ((upd U.2.1 p0.toNatClampNeg p2), U.2.2))) H := hP
  have hD : va_D A (w_Co cI cJ cZ mh m0 m1 m2 m3 ((upd U.1 p0.toNatClampNeg p1), ((upd U.2.1 p0.toNatClampNeg p2), U.2.2))) := hD
  refine lv_aload_n hx hb d_Co_fill_14 rfl (lv_at hl 0 rfl) ?_
  refine va_get (D := D) (ci := 0) (v := .ref m2) (C := R_Co) (T := F_Co) (N := 4) hx hb hts i_Co hown hK hP 0 rfl rfl 2 (by decide) (hts _ k_6) (fun _ h9 => h9) rfl d_Co_fill_15 ?_
  refine lv_iload_n hx hb d_Co_fill_18 rfl (lv_at hl 1 rfl) ?_
  refine lv_iload hx hb d_Co_fill_19 (lv_at hl 4 rfl) ?_
  obtain ⟨g3, hf⟩ := x_if hf
  refine va_iast hx hb hK hP hD hS 3 0 rfl rfl (xi_in g3) d_Co_fill_21 (fun H locs hP hD hS => ?_)
  have hP : va_P D vwCl (w_Co cI cJ cZ mh m0 m1 m2 m3 ((upd U.1 p0.toNatClampNeg p1), ((upd U.2.1 p0.toNatClampNeg p2), ((upd U.2.2.1 p0.toNatClampNeg p3), U.2.2.2)))) H := hP
  have hD : va_D A (w_Co cI cJ cZ mh m0 m1 m2 m3 ((upd U.1 p0.toNatClampNeg p1), ((upd U.2.1 p0.toNatClampNeg p2), ((upd U.2.2.1 p0.toNatClampNeg p3), U.2.2.2)))) := hD
  obtain rfl := Option.some.inj hf
  exact x_vret hx hb hr hlocks hK hP hD hS (Nat.le_of_ble_eq_true rfl) (Nat.le_of_ble_eq_true rfl) d_Co_fill_22
set_option maxHeartbeats 4000000 in
set_option maxRecDepth 100000 in
theorem c_Co_empty (l : Launch) (D : va_G) (cI cJ cZ : ClassId) (mh m0 m1 m2 m3 : Nat) (N : Nat) (p0 : Int32) (U : K_Co) (r : (Unit × K_Co)) (hf : f_Co_empty N p0 U = some r) : Cx l y_Co_empty ws_Co_empty rm_Co_empty D vwCl (tyL cI cJ cZ) [.ref mh, .int p0] (w_Co cI cJ cZ mh m0 m1 m2 m3 U) (oV r.1) (w_Co cI cJ cZ mh m0 m1 m2 m3 r.2) := by
  unfold f_Co_empty at hf
  refine Cx.ofW (cc := b_Co_empty) (maxL := 2) (ret := none) (by decide) rfl ?_
  intro p e s m below meth c A C0 hP hK hD hA hns hZ
  obtain ⟨hx, hb, hml, hown, hts0, hr, hlocks, hnm, hno⟩ := C0
  have hown : s.vm.findClass R_Co = some m.cls := hown
  have hts : ∀ w ∈ tb, w.before [.ref mh, .int p0].toArray s = true := fun w h => hts0 w (List.mem_cons_of_mem _ h)
  have hS : va_S A s.heap s.heap [] := va_S.rf
  have hl := lv_entry ([.ref mh, .int p0]) (n := 2) (Nat.le_of_ble_eq_true rfl)
  rw [lg_entry_eq]
  generalize (lg_sl ([.ref mh, .int p0]) ++ List.replicate (2 - (lg_sl ([.ref mh, .int p0])).length) Slot.unset).toArray = ls at hl ⊢
  have hl : lv_has ls 2 [(0, .ref mh), (1, .int p0)] := hl
  refine lv_aload_n hx hb d_Co_empty_0 rfl (lv_at hl 0 rfl) ?_
  refine lv_iload_n hx hb d_Co_empty_1 rfl (lv_at hl 1 rfl) ?_
  refine lv_iconst (v := (0 : Int32)) hx hb d_Co_empty_2 (by decide) ?_
  refine lv_iconst (v := (0 : Int32)) hx hb d_Co_empty_3 (by decide) ?_
  refine lv_iconst (v := (-1 : Int32)) hx hb d_Co_empty_4 (by decide) ?_
  obtain ⟨z1, hz1, hf⟩ := x_bind hf
  refine x_callV (w2 := (w_Co cI cJ cZ mh m0 m1 m2 m3 z1.2)) ⟨hx, hb, hml, hown, hts⟩ (c_Co_fill l D cI cJ cZ mh m0 m1 m2 m3 N p0 (0 : Int32) (0 : Int32) (-1 : Int32) U z1 hz1) (x_cwV 4 hts rfl k_8 k_9 k_10 k_11 k_12 (by decide +kernel) ⟨(Nat.le_of_ble_eq_true rfl), (Nat.le_of_ble_eq_true rfl)⟩) hK hP hD hS hA hZ [0, 1, 2, 3, 4] [] [0, 1, 2, 3, 4] (by decide) rfl rfl (by decide) (by decide) (by decide) rfl (ci := 0) rfl rfl rfl hl.1 rfl (Nat.le_of_ble_eq_true rfl) d_Co_empty_5 ⟨(Nat.le_of_ble_eq_true rfl), (Nat.le_of_ble_eq_true rfl)⟩ (fun H locs hP hD hS => ?_)
  refine W.eq (g2 := F0 m 8 ls []) rfl ?_
  obtain rfl := Option.some.inj hf
  exact x_vret hx hb hr hlocks hK hP hD hS (Nat.le_of_ble_eq_true rfl) (Nat.le_of_ble_eq_true rfl) d_Co_empty_8
set_option maxHeartbeats 4000000 in
set_option maxRecDepth 100000 in
theorem c_Co_move (l : Launch) (D : va_G) (cI cJ cZ : ClassId) (mh m0 m1 m2 m3 : Nat) (N : Nat) (p0 : Int32) (p1 : Int32) (U : K_Co) (r : (Unit × K_Co)) (hf : f_Co_move N p0 p1 U = some r) : Cx l y_Co_move ws_Co_move rm_Co_move D vwCl (tyL cI cJ cZ) [.ref mh, .int p0, .int p1] (w_Co cI cJ cZ mh m0 m1 m2 m3 U) (oV r.1) (w_Co cI cJ cZ mh m0 m1 m2 m3 r.2) := by
  unfold f_Co_move at hf
  refine Cx.ofW (cc := b_Co_move) (maxL := 3) (ret := none) (by decide) rfl ?_
  intro p e s m below meth c A C0 hP hK hD hA hns hZ
  obtain ⟨hx, hb, hml, hown, hts0, hr, hlocks, hnm, hno⟩ := C0
  have hown : s.vm.findClass R_Co = some m.cls := hown
  have hts : ∀ w ∈ tb, w.before [.ref mh, .int p0, .int p1].toArray s = true := fun w h => hts0 w (List.mem_cons_of_mem _ h)
  have hS : va_S A s.heap s.heap [] := va_S.rf
  have hl := lv_entry ([.ref mh, .int p0, .int p1]) (n := 3) (Nat.le_of_ble_eq_true rfl)
  rw [lg_entry_eq]
  generalize (lg_sl ([.ref mh, .int p0, .int p1]) ++ List.replicate (3 - (lg_sl ([.ref mh, .int p0, .int p1])).length) Slot.unset).toArray = ls at hl ⊢
  have hl : lv_has ls 3 [(0, .ref mh), (1, .int p0), (2, .int p1)] := hl
  refine lv_aload_n hx hb d_Co_move_0 rfl (lv_at hl 0 rfl) ?_
  refine lv_iload_n hx hb d_Co_move_1 rfl (lv_at hl 2 rfl) ?_
  refine lv_aload_n hx hb d_Co_move_2 rfl (lv_at hl 0 rfl) ?_
  refine va_get (D := D) (ci := 0) (v := .ref m0) (C := R_Co) (T := F_Co) (N := 4) hx hb hts i_Co hown hK hP 0 rfl rfl 0 (by decide) (hts _ k_4) (fun _ h9 => h9) rfl d_Co_move_3 ?_
  refine lv_iload_n hx hb d_Co_move_6 rfl (lv_at hl 1 rfl) ?_
  obtain ⟨g1, hf⟩ := x_if hf
  refine va_iald hx hb hK hP 1 0 rfl rfl (xi_in g1) d_Co_move_7 ?_
  refine lv_aload_n hx hb d_Co_move_8 rfl (lv_at hl 0 rfl) ?_
  refine va_get (D := D) (ci := 0) (v := .ref m1) (C := R_Co) (T := F_Co) (N := 4) hx hb hts i_Co hown hK hP 0 rfl rfl 1 (by decide) (hts _ k_5) (fun _ h9 => h9) rfl d_Co_move_9 ?_
  refine lv_iload_n hx hb d_Co_move_12 rfl (lv_at hl 1 rfl) ?_
  obtain ⟨g2, hf⟩ := x_if hf
  refine va_iald hx hb hK hP 2 0 rfl rfl (xi_in g2) d_Co_move_13 ?_
  refine lv_aload_n hx hb d_Co_move_14 rfl (lv_at hl 0 rfl) ?_
  refine va_get (D := D) (ci := 0) (v := .ref m2) (C := R_Co) (T := F_Co) (N := 4) hx hb hts i_Co hown hK hP 0 rfl rfl 2 (by decide) (hts _ k_6) (fun _ h9 => h9) rfl d_Co_move_15 ?_
  refine lv_iload_n hx hb d_Co_move_18 rfl (lv_at hl 1 rfl) ?_
  obtain ⟨g3, hf⟩ := x_if hf
  refine va_iald hx hb hK hP 3 0 rfl rfl (xi_in g3) d_Co_move_19 ?_
  obtain ⟨z4, hz4, hf⟩ := x_bind hf
  refine x_callV (w2 := (w_Co cI cJ cZ mh m0 m1 m2 m3 z4.2)) ⟨hx, hb, hml, hown, hts⟩ (c_Co_fill l D cI cJ cZ mh m0 m1 m2 m3 N p1 (U.1 p0.toNatClampNeg) (U.2.1 p0.toNatClampNeg) (U.2.2.1 p0.toNatClampNeg) U z4 hz4) (x_cwV 4 hts rfl k_8 k_9 k_10 k_11 k_12 (by decide +kernel) ⟨(Nat.le_of_ble_eq_true rfl), (Nat.le_of_ble_eq_true rfl)⟩) hK hP hD hS hA hZ [0, 1, 2, 3, 4] [] [0, 1, 2, 3, 4] (by decide) rfl rfl (by decide) (by decide) (by decide) rfl (ci := 0) rfl rfl rfl hl.1 rfl (Nat.le_of_ble_eq_true rfl) d_Co_move_20 ⟨(Nat.le_of_ble_eq_true rfl), (Nat.le_of_ble_eq_true rfl)⟩ (fun H locs hP hD hS => ?_)
  refine W.eq (g2 := F0 m 23 ls []) rfl ?_
  obtain rfl := Option.some.inj hf
  exact x_vret hx hb hr hlocks hK hP hD hS (Nat.le_of_ble_eq_true rfl) (Nat.le_of_ble_eq_true rfl) d_Co_move_23
set_option maxHeartbeats 4000000 in
set_option maxRecDepth 100000 in
theorem c_Co_takePage (l : Launch) (D : va_G) (cI cJ cZ : ClassId) (mh m0 m1 m2 m3 dh d0 d1 d2 d3 : Nat) (N : Nat) (p1 : Int32) (U : K_CC) (r : (Unit × K_CC)) (hf : f_Co_takePage N p1 U = some r) : Cx l y_Co_takePage ws_Co_takePage rm_Co_takePage D vwCl (tyL cI cJ cZ) [.ref mh, .ref dh, .int p1] (w_CC cI cJ cZ mh m0 m1 m2 m3 dh d0 d1 d2 d3 U) (oV r.1) (w_CC cI cJ cZ mh m0 m1 m2 m3 dh d0 d1 d2 d3 r.2) := by
  unfold f_Co_takePage at hf
  refine Cx.ofW (cc := b_Co_takePage) (maxL := 5) (ret := none) (by decide) rfl ?_
  intro p e s m below meth c A C0 hP hK hD hA hns hZ
  obtain ⟨hx, hb, hml, hown, hts0, hr, hlocks, hnm, hno⟩ := C0
  have hown : s.vm.findClass R_Co = some m.cls := hown
  have hts : ∀ w ∈ tb, w.before [.ref mh, .ref dh, .int p1].toArray s = true := fun w h => hts0 w (List.mem_cons_of_mem _ h)
  have hS : va_S A s.heap s.heap [] := va_S.rf
  have hl := lv_entry ([.ref mh, .ref dh, .int p1]) (n := 5) (Nat.le_of_ble_eq_true rfl)
  rw [lg_entry_eq]
  generalize (lg_sl ([.ref mh, .ref dh, .int p1]) ++ List.replicate (5 - (lg_sl ([.ref mh, .ref dh, .int p1])).length) Slot.unset).toArray = ls at hl ⊢
  have hl : lv_has ls 5 [(0, .ref mh), (1, .ref dh), (2, .int p1)] := hl
  refine lv_iload_n hx hb d_Co_takePage_0 rfl (lv_at hl 2 rfl) ?_
  refine lv_bipush (v := (6 : Int32)) hx hb d_Co_takePage_1 (by decide) ?_
  refine lv_icmp_ne (tgt := 22) hx hb d_Co_takePage_3 (by decide) (fun c17 => ?_) (fun c17 => ?_)
  · have hf := x_ifn c17 hf
    refine lv_iload_n hx hb d_Co_takePage_22 rfl (lv_at hl 2 rfl) ?_
    refine lv_iconst (v := (3 : Int32)) hx hb d_Co_takePage_23 (by decide) ?_
    refine lv_icmp_ge (tgt := 33) hx hb d_Co_takePage_24 (by decide) (fun c15 => ?_) (fun c15 => ?_)
    · have hf := x_ifp c15 hf
      refine lv_bipush (v := (6 : Int32)) hx hb d_Co_takePage_33 (by decide) ?_
      refine lv_iload_n hx hb d_Co_takePage_35 rfl (lv_at hl 2 rfl) ?_
      refine lv_iconst (v := (3 : Int32)) hx hb d_Co_takePage_36 (by decide) ?_
      refine lv_isub hx hb d_Co_takePage_37 ?_
      refine lv_iconst (v := (3 : Int32)) hx hb d_Co_takePage_38 (by decide) ?_
      refine lv_imul hx hb d_Co_takePage_39 ?_
      refine lv_iadd hx hb d_Co_takePage_40 ?_
      refine lv_istore_n (lv' := [(3, .int ((6 : Int32) + ((p1 - (3 : Int32)) * (3 : Int32)))), (0, .ref mh), (1, .ref dh), (2, .int p1)]) hx hb d_Co_takePage_41 rfl hl (by decide) rfl (fun ls hl => ?_)
      refine lv_iload_n hx hb d_Co_takePage_42 rfl (lv_at hl 3 rfl) ?_
      refine lv_iconst (v := (3 : Int32)) hx hb d_Co_takePage_43 (by decide) ?_
      refine lv_icmp_ge (tgt := 51) hx hb d_Co_takePage_44 (by decide) (fun c7 => ?_) (fun c7 => ?_)
      · have hf := x_ifp c7 hf
        refine lv_iconst (v := (3 : Int32)) hx hb d_Co_takePage_51 (by decide) ?_
        refine lv_istore (lv' := [(4, .int (3 : Int32)), (3, .int ((6 : Int32) + ((p1 - (3 : Int32)) * (3 : Int32)))), (0, .ref mh), (1, .ref dh), (2, .int p1)]) hx hb d_Co_takePage_52 hl (by decide) rfl (fun ls hl => ?_)
        refine lv_aload_n hx hb d_Co_takePage_54 rfl (lv_at hl 3 rfl) ?_
        refine va_get (D := D) (ci := 0) (v := .ref d0) (C := R_Co) (T := F_Co) (N := 4) hx hb hts i_Co hown hK hP 5 rfl rfl 0 (by decide) (hts _ k_4) (fun _ h9 => h9) rfl d_Co_takePage_55 ?_
        refine lv_iload_n hx hb d_Co_takePage_58 rfl (lv_at hl 1 rfl) ?_
        refine lv_aload_n hx hb d_Co_takePage_59 rfl (lv_at hl 2 rfl) ?_
        refine va_get (D := D) (ci := 0) (v := .ref m0) (C := R_Co) (T := F_Co) (N := 4) hx hb hts i_Co hown hK hP 0 rfl rfl 0 (by decide) (hts _ k_4) (fun _ h9 => h9) rfl d_Co_takePage_60 ?_
        refine lv_iload_n hx hb d_Co_takePage_63 rfl (lv_at hl 1 rfl) ?_
        refine lv_iload hx hb d_Co_takePage_64 (lv_at hl 0 rfl) ?_
        obtain ⟨⟨g3a, g3b, g3c, g3d, g3e⟩, hf⟩ := x_if hf
        refine va_copyi hx hb (hml.trans hl.1.symm) hown (hts _ k_13) (hts _ k_14) (hts _ k_15) (hts _ k_16) hK hP hD hS 6 1 0 0 rfl rfl rfl rfl rfl g3a g3b g3c g3d g3e (fun _ _ => rfl) (Nat.le_of_ble_eq_true rfl) (by simp only [rm_Co_takePage]; decide) d_Co_takePage_66 (fun H locs hP hD hS => ?_)
        have hP : va_P D vwCl (w_CC cI cJ cZ mh m0 m1 m2 m3 dh d0 d1 d2 d3 (((va_cpy U.2.1 U.1.1 ((6 : Int32) + ((p1 - (3 : Int32)) * (3 : Int32))).toNatClampNeg ((6 : Int32) + ((p1 - (3 : Int32)) * (3 : Int32))).toNatClampNeg (3 : Int32).toNatClampNeg), U.1.2), U.2)) H := hP
        have hD : va_D A (w_CC cI cJ cZ mh m0 m1 m2 m3 dh d0 d1 d2 d3 (((va_cpy U.2.1 U.1.1 ((6 : Int32) + ((p1 - (3 : Int32)) * (3 : Int32))).toNatClampNeg ((6 : Int32) + ((p1 - (3 : Int32)) * (3 : Int32))).toNatClampNeg (3 : Int32).toNatClampNeg), U.1.2), U.2)) := hD
        refine lv_aload_n hx hb d_Co_takePage_69 rfl (lv_at hl 3 rfl) ?_
        refine va_get (D := D) (ci := 0) (v := .ref d1) (C := R_Co) (T := F_Co) (N := 4) hx hb hts i_Co hown hK hP 5 rfl rfl 1 (by decide) (hts _ k_5) (fun _ h9 => h9) rfl d_Co_takePage_70 ?_
        refine lv_iload_n hx hb d_Co_takePage_73 rfl (lv_at hl 1 rfl) ?_
        refine lv_aload_n hx hb d_Co_takePage_74 rfl (lv_at hl 2 rfl) ?_
        refine va_get (D := D) (ci := 0) (v := .ref m1) (C := R_Co) (T := F_Co) (N := 4) hx hb hts i_Co hown hK hP 0 rfl rfl 1 (by decide) (hts _ k_5) (fun _ h9 => h9) rfl d_Co_takePage_75 ?_
        refine lv_iload_n hx hb d_Co_takePage_78 rfl (lv_at hl 1 rfl) ?_
        refine lv_iload hx hb d_Co_takePage_79 (lv_at hl 0 rfl) ?_
        obtain ⟨⟨g2a, g2b, g2c, g2d, g2e⟩, hf⟩ := x_if hf
        refine va_copyi hx hb (hml.trans hl.1.symm) hown (hts _ k_13) (hts _ k_14) (hts _ k_15) (hts _ k_16) hK hP hD hS 7 2 0 0 rfl rfl rfl rfl rfl g2a g2b g2c g2d g2e (fun _ _ => rfl) (Nat.le_of_ble_eq_true rfl) (by simp only [rm_Co_takePage]; decide) d_Co_takePage_81 (fun H locs hP hD hS => ?_)
        have hP : va_P D vwCl (w_CC cI cJ cZ mh m0 m1 m2 m3 dh d0 d1 d2 d3 (((va_cpy U.2.1 U.1.1 ((6 : Int32) + ((p1 - (3 : Int32)) * (3 : Int32))).toNatClampNeg ((6 : Int32) + ((p1 - (3 : Int32)) * (3 : Int32))).toNatClampNeg (3 : Int32).toNatClampNeg), ((va_cpy U.2.2.1 U.1.2.1 ((6 : Int32) + ((p1 - (3 : Int32)) * (3 : Int32))).toNatClampNeg ((6 : Int32) + ((p1 - (3 : Int32)) * (3 : Int32))).toNatClampNeg (3 : Int32).toNatClampNeg), U.1.2.2)), U.2)) H := hP
        have hD : va_D A (w_CC cI cJ cZ mh m0 m1 m2 m3 dh d0 d1 d2 d3 (((va_cpy U.2.1 U.1.1 ((6 : Int32) + ((p1 - (3 : Int32)) * (3 : Int32))).toNatClampNeg ((6 : Int32) + ((p1 - (3 : Int32)) * (3 : Int32))).toNatClampNeg (3 : Int32).toNatClampNeg), ((va_cpy U.2.2.1 U.1.2.1 ((6 : Int32) + ((p1 - (3 : Int32)) * (3 : Int32))).toNatClampNeg ((6 : Int32) + ((p1 - (3 : Int32)) * (3 : Int32))).toNatClampNeg (3 : Int32).toNatClampNeg), U.1.2.2)), U.2)) := hD
        refine lv_aload_n hx hb d_Co_takePage_84 rfl (lv_at hl 3 rfl) ?_
        refine va_get (D := D) (ci := 0) (v := .ref d2) (C := R_Co) (T := F_Co) (N := 4) hx hb hts i_Co hown hK hP 5 rfl rfl 2 (by decide) (hts _ k_6) (fun _ h9 => h9) rfl d_Co_takePage_85 ?_
        refine lv_iload_n hx hb d_Co_takePage_88 rfl (lv_at hl 1 rfl) ?_
        refine lv_aload_n hx hb d_Co_takePage_89 rfl (lv_at hl 2 rfl) ?_
        refine va_get (D := D) (ci := 0) (v := .ref m2) (C := R_Co) (T := F_Co) (N := 4) hx hb hts i_Co hown hK hP 0 rfl rfl 2 (by decide) (hts _ k_6) (fun _ h9 => h9) rfl d_Co_takePage_90 ?_
        refine lv_iload_n hx hb d_Co_takePage_93 rfl (lv_at hl 1 rfl) ?_
        refine lv_iload hx hb d_Co_takePage_94 (lv_at hl 0 rfl) ?_
        obtain ⟨⟨g1a, g1b, g1c, g1d, g1e⟩, hf⟩ := x_if hf
        refine va_copyi hx hb (hml.trans hl.1.symm) hown (hts _ k_13) (hts _ k_14) (hts _ k_15) (hts _ k_16) hK hP hD hS 8 3 0 0 rfl rfl rfl rfl rfl g1a g1b g1c g1d g1e (fun _ _ => rfl) (Nat.le_of_ble_eq_true rfl) (by simp only [rm_Co_takePage]; decide) d_Co_takePage_96 (fun H locs hP hD hS => ?_)
        have hP : va_P D vwCl (w_CC cI cJ cZ mh m0 m1 m2 m3 dh d0 d1 d2 d3 (((va_cpy U.2.1 U.1.1 ((6 : Int32) + ((p1 - (3 : Int32)) * (3 : Int32))).toNatClampNeg ((6 : Int32) + ((p1 - (3 : Int32)) * (3 : Int32))).toNatClampNeg (3 : Int32).toNatClampNeg), ((va_cpy U.2.2.1 U.1.2.1 ((6 : Int32) + ((p1 - (3 : Int32)) * (3 : Int32))).toNatClampNeg ((6 : Int32) + ((p1 - (3 : Int32)) * (3 : Int32))).toNatClampNeg (3 : Int32).toNatClampNeg), ((va_cpy U.2.2.2.1 U.1.2.2.1 ((6 : Int32) + ((p1 - (3 : Int32)) * (3 : Int32))).toNatClampNeg ((6 : Int32) + ((p1 - (3 : Int32)) * (3 : Int32))).toNatClampNeg (3 : Int32).toNatClampNeg), U.1.2.2.2))), U.2)) H := hP
        have hD : va_D A (w_CC cI cJ cZ mh m0 m1 m2 m3 dh d0 d1 d2 d3 (((va_cpy U.2.1 U.1.1 ((6 : Int32) + ((p1 - (3 : Int32)) * (3 : Int32))).toNatClampNeg ((6 : Int32) + ((p1 - (3 : Int32)) * (3 : Int32))).toNatClampNeg (3 : Int32).toNatClampNeg), ((va_cpy U.2.2.1 U.1.2.1 ((6 : Int32) + ((p1 - (3 : Int32)) * (3 : Int32))).toNatClampNeg ((6 : Int32) + ((p1 - (3 : Int32)) * (3 : Int32))).toNatClampNeg (3 : Int32).toNatClampNeg), ((va_cpy U.2.2.2.1 U.1.2.2.1 ((6 : Int32) + ((p1 - (3 : Int32)) * (3 : Int32))).toNatClampNeg ((6 : Int32) + ((p1 - (3 : Int32)) * (3 : Int32))).toNatClampNeg (3 : Int32).toNatClampNeg), U.1.2.2.2))), U.2)) := hD
        obtain rfl := Option.some.inj hf
        exact x_vret hx hb hr hlocks hK hP hD hS (Nat.le_of_ble_eq_true rfl) (Nat.le_of_ble_eq_true rfl) d_Co_takePage_99
      · have hf := x_ifn c7 hf
        refine lv_iconst (v := (2 : Int32)) hx hb d_Co_takePage_47 (by decide) ?_
        refine lv_goto (tgt := 52) hx hb d_Co_takePage_48 (by decide) ?_
        refine lv_istore (lv' := [(4, .int (2 : Int32)), (3, .int ((6 : Int32) + ((p1 - (3 : Int32)) * (3 : Int32)))), (0, .ref mh), (1, .ref dh), (2, .int p1)]) hx hb d_Co_takePage_52 hl (by decide) rfl (fun ls hl => ?_)
        refine lv_aload_n hx hb d_Co_takePage_54 rfl (lv_at hl 3 rfl) ?_
        refine va_get (D := D) (ci := 0) (v := .ref d0) (C := R_Co) (T := F_Co) (N := 4) hx hb hts i_Co hown hK hP 5 rfl rfl 0 (by decide) (hts _ k_4) (fun _ h9 => h9) rfl d_Co_takePage_55 ?_
        refine lv_iload_n hx hb d_Co_takePage_58 rfl (lv_at hl 1 rfl) ?_
        refine lv_aload_n hx hb d_Co_takePage_59 rfl (lv_at hl 2 rfl) ?_
        refine va_get (D := D) (ci := 0) (v := .ref m0) (C := R_Co) (T := F_Co) (N := 4) hx hb hts i_Co hown hK hP 0 rfl rfl 0 (by decide) (hts _ k_4) (fun _ h9 => h9) rfl d_Co_takePage_60 ?_
        refine lv_iload_n hx hb d_Co_takePage_63 rfl (lv_at hl 1 rfl) ?_
        refine lv_iload hx hb d_Co_takePage_64 (lv_at hl 0 rfl) ?_
        obtain ⟨⟨g6a, g6b, g6c, g6d, g6e⟩, hf⟩ := x_if hf
        refine va_copyi hx hb (hml.trans hl.1.symm) hown (hts _ k_13) (hts _ k_14) (hts _ k_15) (hts _ k_16) hK hP hD hS 6 1 0 0 rfl rfl rfl rfl rfl g6a g6b g6c g6d g6e (fun _ _ => rfl) (Nat.le_of_ble_eq_true rfl) (by simp only [rm_Co_takePage]; decide) d_Co_takePage_66 (fun H locs hP hD hS => ?_)
        have hP : va_P D vwCl (w_CC cI cJ cZ mh m0 m1 m2 m3 dh d0 d1 d2 d3 (((va_cpy U.2.1 U.1.1 ((6 : Int32) + ((p1 - (3 : Int32)) * (3 : Int32))).toNatClampNeg ((6 : Int32) + ((p1 - (3 : Int32)) * (3 : Int32))).toNatClampNeg (2 : Int32).toNatClampNeg), U.1.2), U.2)) H := hP
        have hD : va_D A (w_CC cI cJ cZ mh m0 m1 m2 m3 dh d0 d1 d2 d3 (((va_cpy U.2.1 U.1.1 ((6 : Int32) + ((p1 - (3 : Int32)) * (3 : Int32))).toNatClampNeg ((6 : Int32) + ((p1 - (3 : Int32)) * (3 : Int32))).toNatClampNeg (2 : Int32).toNatClampNeg), U.1.2), U.2)) := hD
        refine lv_aload_n hx hb d_Co_takePage_69 rfl (lv_at hl 3 rfl) ?_
        refine va_get (D := D) (ci := 0) (v := .ref d1) (C := R_Co) (T := F_Co) (N := 4) hx hb hts i_Co hown hK hP 5 rfl rfl 1 (by decide) (hts _ k_5) (fun _ h9 => h9) rfl d_Co_takePage_70 ?_
        refine lv_iload_n hx hb d_Co_takePage_73 rfl (lv_at hl 1 rfl) ?_
        refine lv_aload_n hx hb d_Co_takePage_74 rfl (lv_at hl 2 rfl) ?_
        refine va_get (D := D) (ci := 0) (v := .ref m1) (C := R_Co) (T := F_Co) (N := 4) hx hb hts i_Co hown hK hP 0 rfl rfl 1 (by decide) (hts _ k_5) (fun _ h9 => h9) rfl d_Co_takePage_75 ?_
        refine lv_iload_n hx hb d_Co_takePage_78 rfl (lv_at hl 1 rfl) ?_
        refine lv_iload hx hb d_Co_takePage_79 (lv_at hl 0 rfl) ?_
        obtain ⟨⟨g5a, g5b, g5c, g5d, g5e⟩, hf⟩ := x_if hf
        refine va_copyi hx hb (hml.trans hl.1.symm) hown (hts _ k_13) (hts _ k_14) (hts _ k_15) (hts _ k_16) hK hP hD hS 7 2 0 0 rfl rfl rfl rfl rfl g5a g5b g5c g5d g5e (fun _ _ => rfl) (Nat.le_of_ble_eq_true rfl) (by simp only [rm_Co_takePage]; decide) d_Co_takePage_81 (fun H locs hP hD hS => ?_)
        have hP : va_P D vwCl (w_CC cI cJ cZ mh m0 m1 m2 m3 dh d0 d1 d2 d3 (((va_cpy U.2.1 U.1.1 ((6 : Int32) + ((p1 - (3 : Int32)) * (3 : Int32))).toNatClampNeg ((6 : Int32) + ((p1 - (3 : Int32)) * (3 : Int32))).toNatClampNeg (2 : Int32).toNatClampNeg), ((va_cpy U.2.2.1 U.1.2.1 ((6 : Int32) + ((p1 - (3 : Int32)) * (3 : Int32))).toNatClampNeg ((6 : Int32) + ((p1 - (3 : Int32)) * (3 : Int32))).toNatClampNeg (2 : Int32).toNatClampNeg), U.1.2.2)), U.2)) H := hP
        have hD : va_D A (w_CC cI cJ cZ mh m0 m1 m2 m3 dh d0 d1 d2 d3 (((va_cpy U.2.1 U.1.1 ((6 : Int32) + ((p1 - (3 : Int32)) * (3 : Int32))).toNatClampNeg ((6 : Int32) + ((p1 - (3 : Int32)) * (3 : Int32))).toNatClampNeg (2 : Int32).toNatClampNeg), ((va_cpy U.2.2.1 U.1.2.1 ((6 : Int32) + ((p1 - (3 : Int32)) * (3 : Int32))).toNatClampNeg ((6 : Int32) + ((p1 - (3 : Int32)) * (3 : Int32))).toNatClampNeg (2 : Int32).toNatClampNeg), U.1.2.2)), U.2)) := hD
        refine lv_aload_n hx hb d_Co_takePage_84 rfl (lv_at hl 3 rfl) ?_
        refine va_get (D := D) (ci := 0) (v := .ref d2) (C := R_Co) (T := F_Co) (N := 4) hx hb hts i_Co hown hK hP 5 rfl rfl 2 (by decide) (hts _ k_6) (fun _ h9 => h9) rfl d_Co_takePage_85 ?_
        refine lv_iload_n hx hb d_Co_takePage_88 rfl (lv_at hl 1 rfl) ?_
        refine lv_aload_n hx hb d_Co_takePage_89 rfl (lv_at hl 2 rfl) ?_
        refine va_get (D := D) (ci := 0) (v := .ref m2) (C := R_Co) (T := F_Co) (N := 4) hx hb hts i_Co hown hK hP 0 rfl rfl 2 (by decide) (hts _ k_6) (fun _ h9 => h9) rfl d_Co_takePage_90 ?_
        refine lv_iload_n hx hb d_Co_takePage_93 rfl (lv_at hl 1 rfl) ?_
        refine lv_iload hx hb d_Co_takePage_94 (lv_at hl 0 rfl) ?_
        obtain ⟨⟨g4a, g4b, g4c, g4d, g4e⟩, hf⟩ := x_if hf
        refine va_copyi hx hb (hml.trans hl.1.symm) hown (hts _ k_13) (hts _ k_14) (hts _ k_15) (hts _ k_16) hK hP hD hS 8 3 0 0 rfl rfl rfl rfl rfl g4a g4b g4c g4d g4e (fun _ _ => rfl) (Nat.le_of_ble_eq_true rfl) (by simp only [rm_Co_takePage]; decide) d_Co_takePage_96 (fun H locs hP hD hS => ?_)
        have hP : va_P D vwCl (w_CC cI cJ cZ mh m0 m1 m2 m3 dh d0 d1 d2 d3 (((va_cpy U.2.1 U.1.1 ((6 : Int32) + ((p1 - (3 : Int32)) * (3 : Int32))).toNatClampNeg ((6 : Int32) + ((p1 - (3 : Int32)) * (3 : Int32))).toNatClampNeg (2 : Int32).toNatClampNeg), ((va_cpy U.2.2.1 U.1.2.1 ((6 : Int32) + ((p1 - (3 : Int32)) * (3 : Int32))).toNatClampNeg ((6 : Int32) + ((p1 - (3 : Int32)) * (3 : Int32))).toNatClampNeg (2 : Int32).toNatClampNeg), ((va_cpy U.2.2.2.1 U.1.2.2.1 ((6 : Int32) + ((p1 - (3 : Int32)) * (3 : Int32))).toNatClampNeg ((6 : Int32) + ((p1 - (3 : Int32)) * (3 : Int32))).toNatClampNeg (2 : Int32).toNatClampNeg), U.1.2.2.2))), U.2)) H := hP
        have hD : va_D A (w_CC cI cJ cZ mh m0 m1 m2 m3 dh d0 d1 d2 d3 (((va_cpy U.2.1 U.1.1 ((6 : Int32) + ((p1 - (3 : Int32)) * (3 : Int32))).toNatClampNeg ((6 : Int32) + ((p1 - (3 : Int32)) * (3 : Int32))).toNatClampNeg (2 : Int32).toNatClampNeg), ((va_cpy U.2.2.1 U.1.2.1 ((6 : Int32) + ((p1 - (3 : Int32)) * (3 : Int32))).toNatClampNeg ((6 : Int32) + ((p1 - (3 : Int32)) * (3 : Int32))).toNatClampNeg (2 : Int32).toNatClampNeg), ((va_cpy U.2.2.2.1 U.1.2.2.1 ((6 : Int32) + ((p1 - (3 : Int32)) * (3 : Int32))).toNatClampNeg ((6 : Int32) + ((p1 - (3 : Int32)) * (3 : Int32))).toNatClampNeg (2 : Int32).toNatClampNeg), U.1.2.2.2))), U.2)) := hD
        obtain rfl := Option.some.inj hf
        exact x_vret hx hb hr hlocks hK hP hD hS (Nat.le_of_ble_eq_true rfl) (Nat.le_of_ble_eq_true rfl) d_Co_takePage_99
    · have hf := x_ifn c15 hf
      refine lv_iload_n hx hb d_Co_takePage_27 rfl (lv_at hl 2 rfl) ?_
      refine lv_iconst (v := (2 : Int32)) hx hb d_Co_takePage_28 (by decide) ?_
      refine lv_imul hx hb d_Co_takePage_29 ?_
      refine lv_goto (tgt := 41) hx hb d_Co_takePage_30 (by decide) ?_
      refine lv_istore_n (lv' := [(3, .int (p1 * (2 : Int32))), (0, .ref mh), (1, .ref dh), (2, .int p1)]) hx hb d_Co_takePage_41 rfl hl (by decide) rfl (fun ls hl => ?_)
      refine lv_iload_n hx hb d_Co_takePage_42 rfl (lv_at hl 3 rfl) ?_
      refine lv_iconst (v := (3 : Int32)) hx hb d_Co_takePage_43 (by decide) ?_
      refine lv_icmp_ge (tgt := 51) hx hb d_Co_takePage_44 (by decide) (fun c14 => ?_) (fun c14 => ?_)
      · have hf := x_ifp c14 hf
        refine lv_iconst (v := (3 : Int32)) hx hb d_Co_takePage_51 (by decide) ?_
        refine lv_istore (lv' := [(4, .int (3 : Int32)), (3, .int (p1 * (2 : Int32))), (0, .ref mh), (1, .ref dh), (2, .int p1)]) hx hb d_Co_takePage_52 hl (by decide) rfl (fun ls hl => ?_)
        refine lv_aload_n hx hb d_Co_takePage_54 rfl (lv_at hl 3 rfl) ?_
        refine va_get (D := D) (ci := 0) (v := .ref d0) (C := R_Co) (T := F_Co) (N := 4) hx hb hts i_Co hown hK hP 5 rfl rfl 0 (by decide) (hts _ k_4) (fun _ h9 => h9) rfl d_Co_takePage_55 ?_
        refine lv_iload_n hx hb d_Co_takePage_58 rfl (lv_at hl 1 rfl) ?_
        refine lv_aload_n hx hb d_Co_takePage_59 rfl (lv_at hl 2 rfl) ?_
        refine va_get (D := D) (ci := 0) (v := .ref m0) (C := R_Co) (T := F_Co) (N := 4) hx hb hts i_Co hown hK hP 0 rfl rfl 0 (by decide) (hts _ k_4) (fun _ h9 => h9) rfl d_Co_takePage_60 ?_
        refine lv_iload_n hx hb d_Co_takePage_63 rfl (lv_at hl 1 rfl) ?_
        refine lv_iload hx hb d_Co_takePage_64 (lv_at hl 0 rfl) ?_
        obtain ⟨⟨g10a, g10b, g10c, g10d, g10e⟩, hf⟩ := x_if hf
        refine va_copyi hx hb (hml.trans hl.1.symm) hown (hts _ k_13) (hts _ k_14) (hts _ k_15) (hts _ k_16) hK hP hD hS 6 1 0 0 rfl rfl rfl rfl rfl g10a g10b g10c g10d g10e (fun _ _ => rfl) (Nat.le_of_ble_eq_true rfl) (by simp only [rm_Co_takePage]; decide) d_Co_takePage_66 (fun H locs hP hD hS => ?_)
        have hP : va_P D vwCl (w_CC cI cJ cZ mh m0 m1 m2 m3 dh d0 d1 d2 d3 (((va_cpy U.2.1 U.1.1 (p1 * (2 : Int32)).toNatClampNeg (p1 * (2 : Int32)).toNatClampNeg (3 : Int32).toNatClampNeg), U.1.2), U.2)) H := hP
        have hD : va_D A (w_CC cI cJ cZ mh m0 m1 m2 m3 dh d0 d1 d2 d3 (((va_cpy U.2.1 U.1.1 (p1 * (2 : Int32)).toNatClampNeg (p1 * (2 : Int32)).toNatClampNeg (3 : Int32).toNatClampNeg), U.1.2), U.2)) := hD
        refine lv_aload_n hx hb d_Co_takePage_69 rfl (lv_at hl 3 rfl) ?_
        refine va_get (D := D) (ci := 0) (v := .ref d1) (C := R_Co) (T := F_Co) (N := 4) hx hb hts i_Co hown hK hP 5 rfl rfl 1 (by decide) (hts _ k_5) (fun _ h9 => h9) rfl d_Co_takePage_70 ?_
        refine lv_iload_n hx hb d_Co_takePage_73 rfl (lv_at hl 1 rfl) ?_
        refine lv_aload_n hx hb d_Co_takePage_74 rfl (lv_at hl 2 rfl) ?_
        refine va_get (D := D) (ci := 0) (v := .ref m1) (C := R_Co) (T := F_Co) (N := 4) hx hb hts i_Co hown hK hP 0 rfl rfl 1 (by decide) (hts _ k_5) (fun _ h9 => h9) rfl d_Co_takePage_75 ?_
        refine lv_iload_n hx hb d_Co_takePage_78 rfl (lv_at hl 1 rfl) ?_
        refine lv_iload hx hb d_Co_takePage_79 (lv_at hl 0 rfl) ?_
        obtain ⟨⟨g9a, g9b, g9c, g9d, g9e⟩, hf⟩ := x_if hf
        refine va_copyi hx hb (hml.trans hl.1.symm) hown (hts _ k_13) (hts _ k_14) (hts _ k_15) (hts _ k_16) hK hP hD hS 7 2 0 0 rfl rfl rfl rfl rfl g9a g9b g9c g9d g9e (fun _ _ => rfl) (Nat.le_of_ble_eq_true rfl) (by simp only [rm_Co_takePage]; decide) d_Co_takePage_81 (fun H locs hP hD hS => ?_)
        have hP : va_P D vwCl (w_CC cI cJ cZ mh m0 m1 m2 m3 dh d0 d1 d2 d3 (((va_cpy U.2.1 U.1.1 (p1 * (2 : Int32)).toNatClampNeg (p1 * (2 : Int32)).toNatClampNeg (3 : Int32).toNatClampNeg), ((va_cpy U.2.2.1 U.1.2.1 (p1 * (2 : Int32)).toNatClampNeg (p1 * (2 : Int32)).toNatClampNeg (3 : Int32).toNatClampNeg), U.1.2.2)), U.2)) H := hP
        have hD : va_D A (w_CC cI cJ cZ mh m0 m1 m2 m3 dh d0 d1 d2 d3 (((va_cpy U.2.1 U.1.1 (p1 * (2 : Int32)).toNatClampNeg (p1 * (2 : Int32)).toNatClampNeg (3 : Int32).toNatClampNeg), ((va_cpy U.2.2.1 U.1.2.1 (p1 * (2 : Int32)).toNatClampNeg (p1 * (2 : Int32)).toNatClampNeg (3 : Int32).toNatClampNeg), U.1.2.2)), U.2)) := hD
        refine lv_aload_n hx hb d_Co_takePage_84 rfl (lv_at hl 3 rfl) ?_
        refine va_get (D := D) (ci := 0) (v := .ref d2) (C := R_Co) (T := F_Co) (N := 4) hx hb hts i_Co hown hK hP 5 rfl rfl 2 (by decide) (hts _ k_6) (fun _ h9 => h9) rfl d_Co_takePage_85 ?_
        refine lv_iload_n hx hb d_Co_takePage_88 rfl (lv_at hl 1 rfl) ?_
        refine lv_aload_n hx hb d_Co_takePage_89 rfl (lv_at hl 2 rfl) ?_
        refine va_get (D := D) (ci := 0) (v := .ref m2) (C := R_Co) (T := F_Co) (N := 4) hx hb hts i_Co hown hK hP 0 rfl rfl 2 (by decide) (hts _ k_6) (fun _ h9 => h9) rfl d_Co_takePage_90 ?_
        refine lv_iload_n hx hb d_Co_takePage_93 rfl (lv_at hl 1 rfl) ?_
        refine lv_iload hx hb d_Co_takePage_94 (lv_at hl 0 rfl) ?_
        obtain ⟨⟨g8a, g8b, g8c, g8d, g8e⟩, hf⟩ := x_if hf
        refine va_copyi hx hb (hml.trans hl.1.symm) hown (hts _ k_13) (hts _ k_14) (hts _ k_15) (hts _ k_16) hK hP hD hS 8 3 0 0 rfl rfl rfl rfl rfl g8a g8b g8c g8d g8e (fun _ _ => rfl) (Nat.le_of_ble_eq_true rfl) (by simp only [rm_Co_takePage]; decide) d_Co_takePage_96 (fun H locs hP hD hS => ?_)
        have hP : va_P D vwCl (w_CC cI cJ cZ mh m0 m1 m2 m3 dh d0 d1 d2 d3 (((va_cpy U.2.1 U.1.1 (p1 * (2 : Int32)).toNatClampNeg (p1 * (2 : Int32)).toNatClampNeg (3 : Int32).toNatClampNeg), ((va_cpy U.2.2.1 U.1.2.1 (p1 * (2 : Int32)).toNatClampNeg (p1 * (2 : Int32)).toNatClampNeg (3 : Int32).toNatClampNeg), ((va_cpy U.2.2.2.1 U.1.2.2.1 (p1 * (2 : Int32)).toNatClampNeg (p1 * (2 : Int32)).toNatClampNeg (3 : Int32).toNatClampNeg), U.1.2.2.2))), U.2)) H := hP
        have hD : va_D A (w_CC cI cJ cZ mh m0 m1 m2 m3 dh d0 d1 d2 d3 (((va_cpy U.2.1 U.1.1 (p1 * (2 : Int32)).toNatClampNeg (p1 * (2 : Int32)).toNatClampNeg (3 : Int32).toNatClampNeg), ((va_cpy U.2.2.1 U.1.2.1 (p1 * (2 : Int32)).toNatClampNeg (p1 * (2 : Int32)).toNatClampNeg (3 : Int32).toNatClampNeg), ((va_cpy U.2.2.2.1 U.1.2.2.1 (p1 * (2 : Int32)).toNatClampNeg (p1 * (2 : Int32)).toNatClampNeg (3 : Int32).toNatClampNeg), U.1.2.2.2))), U.2)) := hD
        obtain rfl := Option.some.inj hf
        exact x_vret hx hb hr hlocks hK hP hD hS (Nat.le_of_ble_eq_true rfl) (Nat.le_of_ble_eq_true rfl) d_Co_takePage_99
      · have hf := x_ifn c14 hf
        refine lv_iconst (v := (2 : Int32)) hx hb d_Co_takePage_47 (by decide) ?_
        refine lv_goto (tgt := 52) hx hb d_Co_takePage_48 (by decide) ?_
        refine lv_istore (lv' := [(4, .int (2 : Int32)), (3, .int (p1 * (2 : Int32))), (0, .ref mh), (1, .ref dh), (2, .int p1)]) hx hb d_Co_takePage_52 hl (by decide) rfl (fun ls hl => ?_)
        refine lv_aload_n hx hb d_Co_takePage_54 rfl (lv_at hl 3 rfl) ?_
        refine va_get (D := D) (ci := 0) (v := .ref d0) (C := R_Co) (T := F_Co) (N := 4) hx hb hts i_Co hown hK hP 5 rfl rfl 0 (by decide) (hts _ k_4) (fun _ h9 => h9) rfl d_Co_takePage_55 ?_
        refine lv_iload_n hx hb d_Co_takePage_58 rfl (lv_at hl 1 rfl) ?_
        refine lv_aload_n hx hb d_Co_takePage_59 rfl (lv_at hl 2 rfl) ?_
        refine va_get (D := D) (ci := 0) (v := .ref m0) (C := R_Co) (T := F_Co) (N := 4) hx hb hts i_Co hown hK hP 0 rfl rfl 0 (by decide) (hts _ k_4) (fun _ h9 => h9) rfl d_Co_takePage_60 ?_
        refine lv_iload_n hx hb d_Co_takePage_63 rfl (lv_at hl 1 rfl) ?_
        refine lv_iload hx hb d_Co_takePage_64 (lv_at hl 0 rfl) ?_
        obtain ⟨⟨g13a, g13b, g13c, g13d, g13e⟩, hf⟩ := x_if hf
        refine va_copyi hx hb (hml.trans hl.1.symm) hown (hts _ k_13) (hts _ k_14) (hts _ k_15) (hts _ k_16) hK hP hD hS 6 1 0 0 rfl rfl rfl rfl rfl g13a g13b g13c g13d g13e (fun _ _ => rfl) (Nat.le_of_ble_eq_true rfl) (by simp only [rm_Co_takePage]; decide) d_Co_takePage_66 (fun H locs hP hD hS => ?_)
        have hP : va_P D vwCl (w_CC cI cJ cZ mh m0 m1 m2 m3 dh d0 d1 d2 d3 (((va_cpy U.2.1 U.1.1 (p1 * (2 : Int32)).toNatClampNeg (p1 * (2 : Int32)).toNatClampNeg (2 : Int32).toNatClampNeg), U.1.2), U.2)) H := hP
        have hD : va_D A (w_CC cI cJ cZ mh m0 m1 m2 m3 dh d0 d1 d2 d3 (((va_cpy U.2.1 U.1.1 (p1 * (2 : Int32)).toNatClampNeg (p1 * (2 : Int32)).toNatClampNeg (2 : Int32).toNatClampNeg), U.1.2), U.2)) := hD
        refine lv_aload_n hx hb d_Co_takePage_69 rfl (lv_at hl 3 rfl) ?_
        refine va_get (D := D) (ci := 0) (v := .ref d1) (C := R_Co) (T := F_Co) (N := 4) hx hb hts i_Co hown hK hP 5 rfl rfl 1 (by decide) (hts _ k_5) (fun _ h9 => h9) rfl d_Co_takePage_70 ?_
        refine lv_iload_n hx hb d_Co_takePage_73 rfl (lv_at hl 1 rfl) ?_
        refine lv_aload_n hx hb d_Co_takePage_74 rfl (lv_at hl 2 rfl) ?_
        refine va_get (D := D) (ci := 0) (v := .ref m1) (C := R_Co) (T := F_Co) (N := 4) hx hb hts i_Co hown hK hP 0 rfl rfl 1 (by decide) (hts _ k_5) (fun _ h9 => h9) rfl d_Co_takePage_75 ?_
        refine lv_iload_n hx hb d_Co_takePage_78 rfl (lv_at hl 1 rfl) ?_
        refine lv_iload hx hb d_Co_takePage_79 (lv_at hl 0 rfl) ?_
        obtain ⟨⟨g12a, g12b, g12c, g12d, g12e⟩, hf⟩ := x_if hf
        refine va_copyi hx hb (hml.trans hl.1.symm) hown (hts _ k_13) (hts _ k_14) (hts _ k_15) (hts _ k_16) hK hP hD hS 7 2 0 0 rfl rfl rfl rfl rfl g12a g12b g12c g12d g12e (fun _ _ => rfl) (Nat.le_of_ble_eq_true rfl) (by simp only [rm_Co_takePage]; decide) d_Co_takePage_81 (fun H locs hP hD hS => ?_)
        have hP : va_P D vwCl (w_CC cI cJ cZ mh m0 m1 m2 m3 dh d0 d1 d2 d3 (((va_cpy U.2.1 U.1.1 (p1 * (2 : Int32)).toNatClampNeg (p1 * (2 : Int32)).toNatClampNeg (2 : Int32).toNatClampNeg), ((va_cpy U.2.2.1 U.1.2.1 (p1 * (2 : Int32)).toNatClampNeg (p1 * (2 : Int32)).toNatClampNeg (2 : Int32).toNatClampNeg), U.1.2.2)), U.2)) H := hP
        have hD : va_D A (w_CC cI cJ cZ mh m0 m1 m2 m3 dh d0 d1 d2 d3 (((va_cpy U.2.1 U.1.1 (p1 * (2 : Int32)).toNatClampNeg (p1 * (2 : Int32)).toNatClampNeg (2 : Int32).toNatClampNeg), ((va_cpy U.2.2.1 U.1.2.1 (p1 * (2 : Int32)).toNatClampNeg (p1 * (2 : Int32)).toNatClampNeg (2 : Int32).toNatClampNeg), U.1.2.2)), U.2)) := hD
        refine lv_aload_n hx hb d_Co_takePage_84 rfl (lv_at hl 3 rfl) ?_
        refine va_get (D := D) (ci := 0) (v := .ref d2) (C := R_Co) (T := F_Co) (N := 4) hx hb hts i_Co hown hK hP 5 rfl rfl 2 (by decide) (hts _ k_6) (fun _ h9 => h9) rfl d_Co_takePage_85 ?_
        refine lv_iload_n hx hb d_Co_takePage_88 rfl (lv_at hl 1 rfl) ?_
        refine lv_aload_n hx hb d_Co_takePage_89 rfl (lv_at hl 2 rfl) ?_
        refine va_get (D := D) (ci := 0) (v := .ref m2) (C := R_Co) (T := F_Co) (N := 4) hx hb hts i_Co hown hK hP 0 rfl rfl 2 (by decide) (hts _ k_6) (fun _ h9 => h9) rfl d_Co_takePage_90 ?_
        refine lv_iload_n hx hb d_Co_takePage_93 rfl (lv_at hl 1 rfl) ?_
        refine lv_iload hx hb d_Co_takePage_94 (lv_at hl 0 rfl) ?_
        obtain ⟨⟨g11a, g11b, g11c, g11d, g11e⟩, hf⟩ := x_if hf
        refine va_copyi hx hb (hml.trans hl.1.symm) hown (hts _ k_13) (hts _ k_14) (hts _ k_15) (hts _ k_16) hK hP hD hS 8 3 0 0 rfl rfl rfl rfl rfl g11a g11b g11c g11d g11e (fun _ _ => rfl) (Nat.le_of_ble_eq_true rfl) (by simp only [rm_Co_takePage]; decide) d_Co_takePage_96 (fun H locs hP hD hS => ?_)
        have hP : va_P D vwCl (w_CC cI cJ cZ mh m0 m1 m2 m3 dh d0 d1 d2 d3 (((va_cpy U.2.1 U.1.1 (p1 * (2 : Int32)).toNatClampNeg (p1 * (2 : Int32)).toNatClampNeg (2 : Int32).toNatClampNeg), ((va_cpy U.2.2.1 U.1.2.1 (p1 * (2 : Int32)).toNatClampNeg (p1 * (2 : Int32)).toNatClampNeg (2 : Int32).toNatClampNeg), ((va_cpy U.2.2.2.1 U.1.2.2.1 (p1 * (2 : Int32)).toNatClampNeg (p1 * (2 : Int32)).toNatClampNeg (2 : Int32).toNatClampNeg), U.1.2.2.2))), U.2)) H := hP
        have hD : va_D A (w_CC cI cJ cZ mh m0 m1 m2 m3 dh d0 d1 d2 d3 (((va_cpy U.2.1 U.1.1 (p1 * (2 : Int32)).toNatClampNeg (p1 * (2 : Int32)).toNatClampNeg (2 : Int32).toNatClampNeg), ((va_cpy U.2.2.1 U.1.2.1 (p1 * (2 : Int32)).toNatClampNeg (p1 * (2 : Int32)).toNatClampNeg (2 : Int32).toNatClampNeg), ((va_cpy U.2.2.2.1 U.1.2.2.1 (p1 * (2 : Int32)).toNatClampNeg (p1 * (2 : Int32)).toNatClampNeg (2 : Int32).toNatClampNeg), U.1.2.2.2))), U.2)) := hD
        obtain rfl := Option.some.inj hf
        exact x_vret hx hb hr hlocks hK hP hD hS (Nat.le_of_ble_eq_true rfl) (Nat.le_of_ble_eq_true rfl) d_Co_takePage_99
  · have hf := x_ifp c17 hf
    refine lv_aload_n hx hb d_Co_takePage_6 rfl (lv_at hl 1 rfl) ?_
    refine va_get (D := D) (ci := 0) (v := .ref d3) (C := R_Co) (T := F_Co) (N := 4) hx hb hts i_Co hown hK hP 5 rfl rfl 3 (by decide) (hts _ k_7) (fun _ h9 => h9) rfl d_Co_takePage_7 ?_
    refine lv_iconst (v := (0 : Int32)) hx hb d_Co_takePage_10 (by decide) ?_
    refine lv_aload_n hx hb d_Co_takePage_11 rfl (lv_at hl 0 rfl) ?_
    refine va_get (D := D) (ci := 0) (v := .ref m3) (C := R_Co) (T := F_Co) (N := 4) hx hb hts i_Co hown hK hP 0 rfl rfl 3 (by decide) (hts _ k_7) (fun _ h9 => h9) rfl d_Co_takePage_12 ?_
    refine lv_iconst (v := (0 : Int32)) hx hb d_Co_takePage_15 (by decide) ?_
    refine lv_bipush (v := (41 : Int32)) hx hb d_Co_takePage_16 (by decide) ?_
    refine va_copyi hx hb (hml.trans hl.1.symm) hown (hts _ k_13) (hts _ k_14) (hts _ k_15) (hts _ k_16) hK hP hD hS 9 4 0 0 rfl rfl rfl rfl rfl (by decide) (by decide) (by decide) (by decide) (by decide) (fun _ _ => rfl) (Nat.le_of_ble_eq_true rfl) (by simp only [rm_Co_takePage]; decide) d_Co_takePage_18 (fun H locs hP hD hS => ?_)
    have hP : va_P D vwCl (w_CC cI cJ cZ mh m0 m1 m2 m3 dh d0 d1 d2 d3 ((U.1.1, (U.1.2.1, (U.1.2.2.1, (va_cpy U.2.2.2.2 U.1.2.2.2 (0 : Int32).toNatClampNeg (0 : Int32).toNatClampNeg (41 : Int32).toNatClampNeg)))), U.2)) H := hP
    have hD : va_D A (w_CC cI cJ cZ mh m0 m1 m2 m3 dh d0 d1 d2 d3 ((U.1.1, (U.1.2.1, (U.1.2.2.1, (va_cpy U.2.2.2.2 U.1.2.2.2 (0 : Int32).toNatClampNeg (0 : Int32).toNatClampNeg (41 : Int32).toNatClampNeg)))), U.2)) := hD
    obtain rfl := Option.some.inj hf
    exact x_vret hx hb hr hlocks hK hP hD hS (Nat.le_of_ble_eq_true rfl) (Nat.le_of_ble_eq_true rfl) d_Co_takePage_21
set_option maxHeartbeats 4000000 in
set_option maxRecDepth 100000 in
theorem c_Co_isRolled (l : Launch) (D : va_G) (cI cJ cZ : ClassId) (mh m0 m1 m2 m3 : Nat) (N : Nat) (p0 : Int32) (U : K_Co) (r : (Int32 × K_Co)) (hf : f_Co_isRolled N p0 U = some r) : Cx l y_Co_isRolled ws_Co_isRolled rm_Co_isRolled D vwCl (tyL cI cJ cZ) [.ref mh, .int p0] (w_Co cI cJ cZ mh m0 m1 m2 m3 U) (oI r.1) (w_Co cI cJ cZ mh m0 m1 m2 m3 r.2) := by
  unfold f_Co_isRolled at hf
  refine Cx.ofW (cc := b_Co_isRolled) (maxL := 2) (ret := (some .boolean)) (by decide) rfl ?_
  intro p e s m below meth c A C0 hP hK hD hA hns hZ
  obtain ⟨hx, hb, hml, hown, hts0, hr, hlocks, hnm, hno⟩ := C0
  have hown : s.vm.findClass R_Co = some m.cls := hown
  have hts : ∀ w ∈ tb, w.before [.ref mh, .int p0].toArray s = true := fun w h => hts0 w (List.mem_cons_of_mem _ h)
  have hS : va_S A s.heap s.heap [] := va_S.rf
  have hl := lv_entry ([.ref mh, .int p0]) (n := 2) (Nat.le_of_ble_eq_true rfl)
  rw [lg_entry_eq]
  generalize (lg_sl ([.ref mh, .int p0]) ++ List.replicate (2 - (lg_sl ([.ref mh, .int p0])).length) Slot.unset).toArray = ls at hl ⊢
  have hl : lv_has ls 2 [(0, .ref mh), (1, .int p0)] := hl
  refine lv_aload_n hx hb d_Co_isRolled_0 rfl (lv_at hl 0 rfl) ?_
  refine va_get (D := D) (ci := 0) (v := .ref m0) (C := R_Co) (T := F_Co) (N := 4) hx hb hts i_Co hown hK hP 0 rfl rfl 0 (by decide) (hts _ k_4) (fun _ h9 => h9) rfl d_Co_isRolled_1 ?_
  refine lv_iload_n hx hb d_Co_isRolled_4 rfl (lv_at hl 1 rfl) ?_
  obtain ⟨g1, hf⟩ := x_if hf
  refine va_iald hx hb hK hP 1 0 rfl rfl (xi_in g1) d_Co_isRolled_5 ?_
  refine lv_if_eq (tgt := 28) hx hb d_Co_isRolled_6 (by decide) (fun c5 => ?_) (fun c5 => ?_)
  · have hf := x_ifp c5 hf
    refine lv_iconst (v := (0 : Int32)) hx hb d_Co_isRolled_28 (by decide) ?_
    obtain rfl := Option.some.inj hf
    exact x_zret hx hb hr hlocks (x_nb (Or.inl rfl)) hK hP hD hS (Nat.le_of_ble_eq_true rfl) (Nat.le_of_ble_eq_true rfl) d_Co_isRolled_29
  · have hf := x_ifn c5 hf
    refine lv_aload_n hx hb d_Co_isRolled_9 rfl (lv_at hl 0 rfl) ?_
    refine va_get (D := D) (ci := 0) (v := .ref m3) (C := R_Co) (T := F_Co) (N := 4) hx hb hts i_Co hown hK hP 0 rfl rfl 3 (by decide) (hts _ k_7) (fun _ h9 => h9) rfl d_Co_isRolled_10 ?_
    refine lv_aload_n hx hb d_Co_isRolled_13 rfl (lv_at hl 0 rfl) ?_
    refine va_get (D := D) (ci := 0) (v := .ref m0) (C := R_Co) (T := F_Co) (N := 4) hx hb hts i_Co hown hK hP 0 rfl rfl 0 (by decide) (hts _ k_4) (fun _ h9 => h9) rfl d_Co_isRolled_14 ?_
    refine lv_iload_n hx hb d_Co_isRolled_17 rfl (lv_at hl 1 rfl) ?_
    obtain ⟨g2, hf⟩ := x_if hf
    refine va_iald hx hb hK hP 1 0 rfl rfl (xi_in g2) d_Co_isRolled_18 ?_
    obtain ⟨g3, hf⟩ := x_if hf
    refine va_iald hx hb hK hP 4 0 rfl rfl (xi_in g3) d_Co_isRolled_19 ?_
    refine lv_iconst (v := (3 : Int32)) hx hb d_Co_isRolled_20 (by decide) ?_
    refine lv_icmp_ne (tgt := 28) hx hb d_Co_isRolled_21 (by decide) (fun c4 => ?_) (fun c4 => ?_)
    · have hf := x_ifn c4 hf
      refine lv_iconst (v := (0 : Int32)) hx hb d_Co_isRolled_28 (by decide) ?_
      obtain rfl := Option.some.inj hf
      exact x_zret hx hb hr hlocks (x_nb (Or.inl rfl)) hK hP hD hS (Nat.le_of_ble_eq_true rfl) (Nat.le_of_ble_eq_true rfl) d_Co_isRolled_29
    · have hf := x_ifp c4 hf
      refine lv_iconst (v := (1 : Int32)) hx hb d_Co_isRolled_24 (by decide) ?_
      refine lv_goto (tgt := 29) hx hb d_Co_isRolled_25 (by decide) ?_
      obtain rfl := Option.some.inj hf
      exact x_zret hx hb hr hlocks (x_nb (Or.inr rfl)) hK hP hD hS (Nat.le_of_ble_eq_true rfl) (Nat.le_of_ble_eq_true rfl) d_Co_isRolled_29
set_option maxHeartbeats 4000000 in
set_option maxRecDepth 100000 in
theorem c_Co_next (l : Launch) (D : va_G) (cI cJ cZ : ClassId) (mh m0 m1 m2 m3 : Nat) (N : Nat) (p0 : Int32) (U : K_Co) (r : (Int32 × K_Co)) (hf : f_Co_next N p0 U = some r) : Cx l y_Co_next ws_Co_next rm_Co_next D vwCl (tyL cI cJ cZ) [.ref mh, .int p0] (w_Co cI cJ cZ mh m0 m1 m2 m3 U) (oI r.1) (w_Co cI cJ cZ mh m0 m1 m2 m3 r.2) := by
  unfold f_Co_next at hf
  refine Cx.ofW (cc := b_Co_next) (maxL := 3) (ret := (some .int)) (by decide) rfl ?_
  intro p e s m below meth c A C0 hP hK hD hA hns hZ
  obtain ⟨hx, hb, hml, hown, hts0, hr, hlocks, hnm, hno⟩ := C0
  have hown : s.vm.findClass R_Co = some m.cls := hown
  have hts : ∀ w ∈ tb, w.before [.ref mh, .int p0].toArray s = true := fun w h => hts0 w (List.mem_cons_of_mem _ h)
  have hS : va_S A s.heap s.heap [] := va_S.rf
  have hl := lv_entry ([.ref mh, .int p0]) (n := 3) (Nat.le_of_ble_eq_true rfl)
  rw [lg_entry_eq]
  generalize (lg_sl ([.ref mh, .int p0]) ++ List.replicate (3 - (lg_sl ([.ref mh, .int p0])).length) Slot.unset).toArray = ls at hl ⊢
  have hl : lv_has ls 3 [(0, .ref mh), (1, .int p0)] := hl
  refine lv_aload_n hx hb d_Co_next_0 rfl (lv_at hl 0 rfl) ?_
  refine va_get (D := D) (ci := 0) (v := .ref m2) (C := R_Co) (T := F_Co) (N := 4) hx hb hts i_Co hown hK hP 0 rfl rfl 2 (by decide) (hts _ k_6) (fun _ h9 => h9) rfl d_Co_next_1 ?_
  refine lv_iload_n hx hb d_Co_next_4 rfl (lv_at hl 1 rfl) ?_
  obtain ⟨g1, hf⟩ := x_if hf
  refine va_iald hx hb hK hP 3 0 rfl rfl (xi_in g1) d_Co_next_5 ?_
  refine lv_istore_n (lv' := [(2, .int (U.2.2.1 p0.toNatClampNeg)), (0, .ref mh), (1, .int p0)]) hx hb d_Co_next_6 rfl hl (by decide) rfl (fun ls hl => ?_)
  refine lv_iload_n hx hb d_Co_next_7 rfl (lv_at hl 0 rfl) ?_
  refine lv_iconst (v := (-1 : Int32)) hx hb d_Co_next_8 (by decide) ?_
  refine lv_icmp_eq (tgt := 21) hx hb d_Co_next_9 (by decide) (fun c4 => ?_) (fun c4 => ?_)
  · have hf := x_ifp c4 hf
    refine lv_iconst (v := (-1 : Int32)) hx hb d_Co_next_21 (by decide) ?_
    refine lv_goto (tgt := 26) hx hb d_Co_next_22 (by decide) ?_
    obtain rfl := Option.some.inj hf
    exact x_iret hx hb hr hlocks hK hP hD hS (Nat.le_of_ble_eq_true rfl) (Nat.le_of_ble_eq_true rfl) d_Co_next_26
  · have hf := x_ifn c4 hf
    refine lv_aload_n hx hb d_Co_next_12 rfl (lv_at hl 1 rfl) ?_
    refine va_get (D := D) (ci := 0) (v := .ref m0) (C := R_Co) (T := F_Co) (N := 4) hx hb hts i_Co hown hK hP 0 rfl rfl 0 (by decide) (hts _ k_4) (fun _ h9 => h9) rfl d_Co_next_13 ?_
    refine lv_iload_n hx hb d_Co_next_16 rfl (lv_at hl 0 rfl) ?_
    obtain ⟨g2, hf⟩ := x_if hf
    refine va_iald hx hb hK hP 1 0 rfl rfl (xi_in g2) d_Co_next_17 ?_
    refine lv_if_ne (tgt := 25) hx hb d_Co_next_18 (by decide) (fun c3 => ?_) (fun c3 => ?_)
    · have hf := x_ifn c3 hf
      refine lv_iload_n hx hb d_Co_next_25 rfl (lv_at hl 0 rfl) ?_
      obtain rfl := Option.some.inj hf
      exact x_iret hx hb hr hlocks hK hP hD hS (Nat.le_of_ble_eq_true rfl) (Nat.le_of_ble_eq_true rfl) d_Co_next_26
    · have hf := x_ifp c3 hf
      refine lv_iconst (v := (-1 : Int32)) hx hb d_Co_next_21 (by decide) ?_
      refine lv_goto (tgt := 26) hx hb d_Co_next_22 (by decide) ?_
      obtain rfl := Option.some.inj hf
      exact x_iret hx hb hr hlocks hK hP hD hS (Nat.le_of_ble_eq_true rfl) (Nat.le_of_ble_eq_true rfl) d_Co_next_26
end
section
set_option maxHeartbeats 4000000 in
set_option maxRecDepth 100000 in
theorem c_Co_placeAt (l : Launch) (D : va_G) (cI cJ cZ : ClassId) (mh m0 m1 m2 m3 : Nat) (N : Nat) (p0 : Int32) (p1 : Int32) (U : K_Co) (r : (Int32 × K_Co)) (hf : f_Co_placeAt N p0 p1 U = some r) : Cx l y_Co_placeAt ws_Co_placeAt rm_Co_placeAt D vwCl (tyL cI cJ cZ) [.ref mh, .int p0, .int p1] (w_Co cI cJ cZ mh m0 m1 m2 m3 U) (oI r.1) (w_Co cI cJ cZ mh m0 m1 m2 m3 r.2) := by
  unfold f_Co_placeAt at hf
  refine Cx.ofW (cc := b_Co_placeAt) (maxL := 5) (ret := (some .int)) (by decide) rfl ?_
  intro p e s m below meth c A C0 hP hK hD hA hns hZ
  obtain ⟨hx, hb, hml, hown, hts0, hr, hlocks, hnm, hno⟩ := C0
  have hown : s.vm.findClass R_Co = some m.cls := hown
  have hts : ∀ w ∈ tb, w.before [.ref mh, .int p0, .int p1].toArray s = true := fun w h => hts0 w (List.mem_cons_of_mem _ h)
  have hS : va_S A s.heap s.heap [] := va_S.rf
  have hl := lv_entry ([.ref mh, .int p0, .int p1]) (n := 5) (Nat.le_of_ble_eq_true rfl)
  rw [lg_entry_eq]
  generalize (lg_sl ([.ref mh, .int p0, .int p1]) ++ List.replicate (5 - (lg_sl ([.ref mh, .int p0, .int p1])).length) Slot.unset).toArray = ls at hl ⊢
  have hl : lv_has ls 5 [(0, .ref mh), (1, .int p0), (2, .int p1)] := hl
  have L_26 : ∀ n : Nat, ∀ (x2 : Int32) (x3 : Int32) (x4 : Int32) (U : K_Co), f_Co_placeAt_26 N n x2 x3 x4 U = some r → ∀ (H : Heap) (locs : List Loc) (ls : Array Slot), va_P D vwCl (w_Co cI cJ cZ mh m0 m1 m2 m3 U) H → va_D A (w_Co cI cJ cZ mh m0 m1 m2 m3 U) → va_S A s.heap H locs → lv_has ls 5 [(0, .ref mh), (2, .int x2), (3, .int x3), (4, .int x4)] → W p l e (rm_Co_placeAt) s m [.ref mh, .int p0, .int p1].toArray below meth c H locs 0 0 (xQ D vwCl (tyL cI cJ cZ) below s A (oI r.1) (w_Co cI cJ cZ mh m0 m1 m2 m3 r.2) (rm_Co_placeAt).cells (rm_Co_placeAt).slots) (F0 m 26 ls []) := by
    intro n
    induction n with
    | zero =>
      intro x2 x3 x4 U hf
      have hf : (none : Option (Int32 × K_Co)) = some r := hf
      cases hf
    | succ n ih =>
      intro x2 x3 x4 U hf H locs ls hP hD hS hl
      rw [f_Co_placeAt_26] at hf
      refine lv_iload hx hb d_Co_placeAt_26 (lv_at hl 3 rfl) ?_
      refine lv_iload_n hx hb d_Co_placeAt_28 rfl (lv_at hl 1 rfl) ?_
      refine lv_icmp_ge (tgt := 49) hx hb d_Co_placeAt_29 (by decide) (fun c4 => ?_) (fun c4 => ?_)
      · have hf := x_ifp c4 hf
        refine lv_iload_n hx hb d_Co_placeAt_49 rfl (lv_at hl 2 rfl) ?_
        obtain rfl := Option.some.inj hf
        exact x_iret hx hb hr hlocks hK hP hD hS (Nat.le_of_ble_eq_true rfl) (Nat.le_of_ble_eq_true rfl) d_Co_placeAt_50
      · have hf := x_ifn c4 hf
        refine lv_iload_n hx hb d_Co_placeAt_32 rfl (lv_at hl 2 rfl) ?_
        refine lv_iconst (v := (-1 : Int32)) hx hb d_Co_placeAt_33 (by decide) ?_
        refine lv_icmp_eq (tgt := 49) hx hb d_Co_placeAt_34 (by decide) (fun c3 => ?_) (fun c3 => ?_)
        · have hf := x_ifp c3 hf
          refine lv_iload_n hx hb d_Co_placeAt_49 rfl (lv_at hl 2 rfl) ?_
          obtain rfl := Option.some.inj hf
          exact x_iret hx hb hr hlocks hK hP hD hS (Nat.le_of_ble_eq_true rfl) (Nat.le_of_ble_eq_true rfl) d_Co_placeAt_50
        · have hf := x_ifn c3 hf
          refine lv_aload_n hx hb d_Co_placeAt_37 rfl (lv_at hl 0 rfl) ?_
          refine lv_iload_n hx hb d_Co_placeAt_38 rfl (lv_at hl 2 rfl) ?_
          obtain ⟨z2, hz2, hf⟩ := x_bind hf
          refine x_callV (w2 := (w_Co cI cJ cZ mh m0 m1 m2 m3 z2.2)) ⟨hx, hb, hml, hown, hts⟩ (c_Co_next l D cI cJ cZ mh m0 m1 m2 m3 N x3 U z2 hz2) (x_cwV 1 hts rfl k_17 k_18 k_19 k_11 k_20 (by decide +kernel) ⟨(Nat.le_of_ble_eq_true rfl), (Nat.le_of_ble_eq_true rfl)⟩) hK hP hD hS hA hZ [0, 1, 2, 3, 4] [] [0, 1, 2, 3, 4] (by decide) rfl rfl (by decide) (by decide) (by decide) rfl (ci := 0) rfl rfl rfl hl.1 rfl (Nat.le_of_ble_eq_true rfl) d_Co_placeAt_39 ⟨(Nat.le_of_ble_eq_true rfl), (Nat.le_of_ble_eq_true rfl)⟩ (fun H locs hP hD hS => ?_)
          refine W.eq (g2 := F0 m 42 ls [.int z2.1]) rfl ?_
          refine lv_istore_n (lv' := [(3, .int z2.1), (0, .ref mh), (2, .int x2), (4, .int x4)]) hx hb d_Co_placeAt_42 rfl hl (by decide) rfl (fun ls hl => ?_)
          refine lv_iinc (v := (x4 + (1 : Int32))) (lv' := [(4, .int (x4 + (1 : Int32))), (3, .int z2.1), (0, .ref mh), (2, .int x2)]) hx hb d_Co_placeAt_43 hl (k := 3) rfl rfl (by decide) rfl (fun ls hl => ?_)
          refine lv_goto (tgt := 26) hx hb d_Co_placeAt_46 (by decide) ?_
          exact ih _ _ _ _ hf _ _ _ hP hD hS (lv_sub hl [2, 3, 1, 0] rfl)
  refine lv_iload_n hx hb d_Co_placeAt_0 rfl (lv_at hl 2 rfl) ?_
  refine lv_if_lt (tgt := 19) hx hb d_Co_placeAt_1 (by decide) (fun c7 => ?_) (fun c7 => ?_)
  · have hf := x_ifp c7 hf
    refine lv_iconst (v := (-1 : Int32)) hx hb d_Co_placeAt_19 (by decide) ?_
    obtain rfl := Option.some.inj hf
    exact x_iret hx hb hr hlocks hK hP hD hS (Nat.le_of_ble_eq_true rfl) (Nat.le_of_ble_eq_true rfl) d_Co_placeAt_20
  · have hf := x_ifn c7 hf
    refine lv_iload_n hx hb d_Co_placeAt_4 rfl (lv_at hl 2 rfl) ?_
    refine lv_bipush (v := (15 : Int32)) hx hb d_Co_placeAt_5 (by decide) ?_
    refine lv_icmp_ge (tgt := 19) hx hb d_Co_placeAt_7 (by decide) (fun c6 => ?_) (fun c6 => ?_)
    · have hf := x_ifp c6 hf
      refine lv_iconst (v := (-1 : Int32)) hx hb d_Co_placeAt_19 (by decide) ?_
      obtain rfl := Option.some.inj hf
      exact x_iret hx hb hr hlocks hK hP hD hS (Nat.le_of_ble_eq_true rfl) (Nat.le_of_ble_eq_true rfl) d_Co_placeAt_20
    · have hf := x_ifn c6 hf
      refine lv_aload_n hx hb d_Co_placeAt_10 rfl (lv_at hl 0 rfl) ?_
      refine va_get (D := D) (ci := 0) (v := .ref m0) (C := R_Co) (T := F_Co) (N := 4) hx hb hts i_Co hown hK hP 0 rfl rfl 0 (by decide) (hts _ k_4) (fun _ h9 => h9) rfl d_Co_placeAt_11 ?_
      refine lv_iload_n hx hb d_Co_placeAt_14 rfl (lv_at hl 1 rfl) ?_
      obtain ⟨g1, hf⟩ := x_if hf
      refine va_iald hx hb hK hP 1 0 rfl rfl (xi_in g1) d_Co_placeAt_15 ?_
      refine lv_if_ne (tgt := 21) hx hb d_Co_placeAt_16 (by decide) (fun c5 => ?_) (fun c5 => ?_)
      · have hf := x_ifn c5 hf
        refine lv_iload_n hx hb d_Co_placeAt_21 rfl (lv_at hl 1 rfl) ?_
        refine lv_istore_n (lv' := [(3, .int p0), (0, .ref mh), (1, .int p0), (2, .int p1)]) hx hb d_Co_placeAt_22 rfl hl (by decide) rfl (fun ls hl => ?_)
        refine lv_iconst (v := (0 : Int32)) hx hb d_Co_placeAt_23 (by decide) ?_
        refine lv_istore (lv' := [(4, .int (0 : Int32)), (3, .int p0), (0, .ref mh), (1, .int p0), (2, .int p1)]) hx hb d_Co_placeAt_24 hl (by decide) rfl (fun ls hl => ?_)
        exact L_26 _ _ _ _ _ hf _ _ _ hP hD hS (lv_sub hl [2, 4, 1, 0] rfl)
      · have hf := x_ifp c5 hf
        refine lv_iconst (v := (-1 : Int32)) hx hb d_Co_placeAt_19 (by decide) ?_
        obtain rfl := Option.some.inj hf
        exact x_iret hx hb hr hlocks hK hP hD hS (Nat.le_of_ble_eq_true rfl) (Nat.le_of_ble_eq_true rfl) d_Co_placeAt_20
set_option maxHeartbeats 4000000 in
set_option maxRecDepth 100000 in
theorem c_Rv_has (l : Launch) (D : va_G) (cI cJ cZ : ClassId) (N : Nat) (p0 : Int64) (p1 : Int32) (r : Int32) (hf : f_Rv_has N p0 p1 = some r) : Cx l y_Rv_has ws_Rv_has rm_Rv_has D vwCl (tyL cI cJ cZ) [.long p0, .int p1] [] (oI r) [] := by
  unfold f_Rv_has at hf
  refine Cx.ofW (cc := b_Rv_has) (maxL := 3) (ret := (some .boolean)) (by decide) rfl ?_
  intro p e s m below meth c A C0 hP hK hD hA hns hZ
  obtain ⟨hx, hb, hml, hown, hts0, hr, hlocks, hnm, hno⟩ := C0
  have hown : s.vm.findClass R_Rv = some m.cls := hown
  have hts : ∀ w ∈ tb, w.before [.long p0, .int p1].toArray s = true := fun w h => hts0 w (List.mem_cons_of_mem _ h)
  have hS : va_S A s.heap s.heap [] := va_S.rf
  have hl := lv_entry ([.long p0, .int p1]) (n := 3) (Nat.le_of_ble_eq_true rfl)
  rw [lg_entry_eq]
  generalize (lg_sl ([.long p0, .int p1]) ++ List.replicate (3 - (lg_sl ([.long p0, .int p1])).length) Slot.unset).toArray = ls at hl ⊢
  have hl : lv_has ls 3 [(0, .long p0), (2, .int p1)] := hl
  refine lv_lload_n hx hb d_Rv_has_0 rfl (lv_at hl 0 rfl) ?_
  refine lv_iload_n hx hb d_Rv_has_1 rfl (lv_at hl 1 rfl) ?_
  refine lv_lshr (v := (p0 >>> (p1.toInt64 &&& 63))) hx hb d_Rv_has_2 rfl ?_
  refine lv_lconst (v := (1 : Int64)) hx hb d_Rv_has_3 (by decide) ?_
  refine lv_land hx hb d_Rv_has_4 ?_
  refine lv_lconst (v := (0 : Int64)) hx hb d_Rv_has_5 (by decide) ?_
  refine W.lcmp hx hb d_Rv_has_6 ?_
  refine lv_if_eq (tgt := 14) hx hb d_Rv_has_7 (by decide) (fun c1 => ?_) (fun c1 => ?_)
  · have hf := x_ifp c1 hf
    refine lv_iconst (v := (0 : Int32)) hx hb d_Rv_has_14 (by decide) ?_
    obtain rfl := Option.some.inj hf
    exact x_zret hx hb hr hlocks (x_nb (Or.inl rfl)) hK hP hD hS (Nat.le_of_ble_eq_true rfl) (Nat.le_of_ble_eq_true rfl) d_Rv_has_15
  · have hf := x_ifn c1 hf
    refine lv_iconst (v := (1 : Int32)) hx hb d_Rv_has_10 (by decide) ?_
    refine lv_goto (tgt := 15) hx hb d_Rv_has_11 (by decide) ?_
    obtain rfl := Option.some.inj hf
    exact x_zret hx hb hr hlocks (x_nb (Or.inr rfl)) hK hP hD hS (Nat.le_of_ble_eq_true rfl) (Nat.le_of_ble_eq_true rfl) d_Rv_has_15
set_option maxHeartbeats 4000000 in
set_option maxRecDepth 100000 in
theorem c_Co_firstOf (l : Launch) (D : va_G) (cI cJ cZ : ClassId) (mh m0 m1 m2 m3 : Nat) (N : Nat) (p0 : Int64) (p1 : Int32) (U : K_Co) (r : (Int32 × K_Co)) (hf : f_Co_firstOf N p0 p1 U = some r) : Cx l y_Co_firstOf ws_Co_firstOf rm_Co_firstOf D vwCl (tyL cI cJ cZ) [.ref mh, .long p0, .int p1] (w_Co cI cJ cZ mh m0 m1 m2 m3 U) (oI r.1) (w_Co cI cJ cZ mh m0 m1 m2 m3 r.2) := by
  unfold f_Co_firstOf at hf
  refine Cx.ofW (cc := b_Co_firstOf) (maxL := 6) (ret := (some .int)) (by decide) rfl ?_
  intro p e s m below meth c A C0 hP hK hD hA hns hZ
  obtain ⟨hx, hb, hml, hown, hts0, hr, hlocks, hnm, hno⟩ := C0
  have hown : s.vm.findClass R_Co = some m.cls := hown
  have hts : ∀ w ∈ tb, w.before [.ref mh, .long p0, .int p1].toArray s = true := fun w h => hts0 w (List.mem_cons_of_mem _ h)
  have hS : va_S A s.heap s.heap [] := va_S.rf
  have hl := lv_entry ([.ref mh, .long p0, .int p1]) (n := 6) (Nat.le_of_ble_eq_true rfl)
  rw [lg_entry_eq]
  generalize (lg_sl ([.ref mh, .long p0, .int p1]) ++ List.replicate (6 - (lg_sl ([.ref mh, .long p0, .int p1])).length) Slot.unset).toArray = ls at hl ⊢
  have hl : lv_has ls 6 [(0, .ref mh), (1, .long p0), (3, .int p1)] := hl
  have L_11 : ∀ n : Nat, ∀ (x1 : Int64) (x4 : Int32) (x5 : Int32) (U : K_Co), f_Co_firstOf_11 N n x1 x4 x5 U = some r → ∀ (H : Heap) (locs : List Loc) (ls : Array Slot), va_P D vwCl (w_Co cI cJ cZ mh m0 m1 m2 m3 U) H → va_D A (w_Co cI cJ cZ mh m0 m1 m2 m3 U) → va_S A s.heap H locs → lv_has ls 6 [(0, .ref mh), (1, .long x1), (4, .int x4), (5, .int x5)] → W p l e (rm_Co_firstOf) s m [.ref mh, .long p0, .int p1].toArray below meth c H locs 0 0 (xQ D vwCl (tyL cI cJ cZ) below s A (oI r.1) (w_Co cI cJ cZ mh m0 m1 m2 m3 r.2) (rm_Co_firstOf).cells (rm_Co_firstOf).slots) (F0 m 11 ls []) := by
    intro n
    induction n with
    | zero =>
      intro x1 x4 x5 U hf
      have hf : (none : Option (Int32 × K_Co)) = some r := hf
      cases hf
    | succ n ih =>
      intro x1 x4 x5 U hf H locs ls hP hD hS hl
      rw [f_Co_firstOf_11] at hf
      refine lv_iload hx hb d_Co_firstOf_11 (lv_at hl 3 rfl) ?_
      refine lv_bipush (v := (15 : Int32)) hx hb d_Co_firstOf_13 (by decide) ?_
      refine lv_icmp_ge (tgt := 55) hx hb d_Co_firstOf_15 (by decide) (fun c7 => ?_) (fun c7 => ?_)
      · have hf := x_ifp c7 hf
        refine lv_iconst (v := (-1 : Int32)) hx hb d_Co_firstOf_55 (by decide) ?_
        obtain rfl := Option.some.inj hf
        exact x_iret hx hb hr hlocks hK hP hD hS (Nat.le_of_ble_eq_true rfl) (Nat.le_of_ble_eq_true rfl) d_Co_firstOf_56
      · have hf := x_ifn c7 hf
        refine lv_iload hx hb d_Co_firstOf_18 (lv_at hl 2 rfl) ?_
        refine lv_iconst (v := (-1 : Int32)) hx hb d_Co_firstOf_20 (by decide) ?_
        refine lv_icmp_eq (tgt := 55) hx hb d_Co_firstOf_21 (by decide) (fun c6 => ?_) (fun c6 => ?_)
        · have hf := x_ifp c6 hf
          refine lv_iconst (v := (-1 : Int32)) hx hb d_Co_firstOf_55 (by decide) ?_
          obtain rfl := Option.some.inj hf
          exact x_iret hx hb hr hlocks hK hP hD hS (Nat.le_of_ble_eq_true rfl) (Nat.le_of_ble_eq_true rfl) d_Co_firstOf_56
        · have hf := x_ifn c6 hf
          refine lv_lload_n hx hb d_Co_firstOf_24 rfl (lv_at hl 1 rfl) ?_
          refine lv_aload_n hx hb d_Co_firstOf_25 rfl (lv_at hl 0 rfl) ?_
          refine va_get (D := D) (ci := 0) (v := .ref m0) (C := R_Co) (T := F_Co) (N := 4) hx hb hts i_Co hown hK hP 0 rfl rfl 0 (by decide) (hts _ k_4) (fun _ h9 => h9) rfl d_Co_firstOf_26 ?_
          refine lv_iload hx hb d_Co_firstOf_29 (lv_at hl 2 rfl) ?_
          obtain ⟨g2, hf⟩ := x_if hf
          refine va_iald hx hb hK hP 1 0 rfl rfl (xi_in g2) d_Co_firstOf_31 ?_
          obtain ⟨z3, hz3, hf⟩ := x_bind hf
          refine x_callSN (w2 := (w_Co cI cJ cZ mh m0 m1 m2 m3 U)) ⟨hx, hb, hml, hown, hts⟩ (c_Rv_has l D cI cJ cZ  N x1 (U.1 x4.toNatClampNeg)  z3 hz3) (x_cwSN 2 hts rfl k_21 k_22 k_23 k_24 (by decide +kernel) ⟨(Nat.le_of_ble_eq_true rfl), (Nat.le_of_ble_eq_true rfl)⟩) hK hP hD hS hA hZ [] [0, 1, 2, 3, 4] [0, 1, 2, 3, 4] (by decide) rfl rfl (by decide) (by decide) (by decide) rfl rfl hl.1 rfl (Nat.le_of_ble_eq_true rfl) d_Co_firstOf_32 ⟨(Nat.le_of_ble_eq_true rfl), (Nat.le_of_ble_eq_true rfl)⟩ (fun H locs hP hD hS => ?_)
          refine W.eq (g2 := F0 m 35 ls [.int z3]) rfl ?_
          refine lv_if_eq (tgt := 41) hx hb d_Co_firstOf_35 (by decide) (fun c5 => ?_) (fun c5 => ?_)
          · have hf := x_ifp c5 hf
            refine lv_aload_n hx hb d_Co_firstOf_41 rfl (lv_at hl 0 rfl) ?_
            refine lv_iload hx hb d_Co_firstOf_42 (lv_at hl 2 rfl) ?_
            obtain ⟨z4, hz4, hf⟩ := x_bind hf
            refine x_callV (w2 := (w_Co cI cJ cZ mh m0 m1 m2 m3 z4.2)) ⟨hx, hb, hml, hown, hts⟩ (c_Co_next l D cI cJ cZ mh m0 m1 m2 m3 N x4 U z4 hz4) (x_cwV 1 hts rfl k_17 k_18 k_19 k_11 k_20 (by decide +kernel) ⟨(Nat.le_of_ble_eq_true rfl), (Nat.le_of_ble_eq_true rfl)⟩) hK hP hD hS hA hZ [0, 1, 2, 3, 4] [] [0, 1, 2, 3, 4] (by decide) rfl rfl (by decide) (by decide) (by decide) rfl (ci := 0) rfl rfl rfl hl.1 rfl (Nat.le_of_ble_eq_true rfl) d_Co_firstOf_44 ⟨(Nat.le_of_ble_eq_true rfl), (Nat.le_of_ble_eq_true rfl)⟩ (fun H locs hP hD hS => ?_)
            refine W.eq (g2 := F0 m 47 ls [.int z4.1]) rfl ?_
            refine lv_istore (lv' := [(4, .int z4.1), (0, .ref mh), (1, .long x1), (5, .int x5)]) hx hb d_Co_firstOf_47 hl (by decide) rfl (fun ls hl => ?_)
            refine lv_iinc (v := (x5 + (1 : Int32))) (lv' := [(5, .int (x5 + (1 : Int32))), (4, .int z4.1), (0, .ref mh), (1, .long x1)]) hx hb d_Co_firstOf_49 hl (k := 3) rfl rfl (by decide) rfl (fun ls hl => ?_)
            refine lv_goto (tgt := 11) hx hb d_Co_firstOf_52 (by decide) ?_
            exact ih _ _ _ _ hf _ _ _ hP hD hS (lv_sub hl [2, 3, 1, 0] rfl)
          · have hf := x_ifn c5 hf
            refine lv_iload hx hb d_Co_firstOf_38 (lv_at hl 2 rfl) ?_
            obtain rfl := Option.some.inj hf
            exact x_iret hx hb hr hlocks hK hP hD hS (Nat.le_of_ble_eq_true rfl) (Nat.le_of_ble_eq_true rfl) d_Co_firstOf_40
  refine lv_aload_n hx hb d_Co_firstOf_0 rfl (lv_at hl 0 rfl) ?_
  refine lv_iload_n hx hb d_Co_firstOf_1 rfl (lv_at hl 2 rfl) ?_
  refine lv_iconst (v := (0 : Int32)) hx hb d_Co_firstOf_2 (by decide) ?_
  obtain ⟨z1, hz1, hf⟩ := x_bind hf
  refine x_callV (w2 := (w_Co cI cJ cZ mh m0 m1 m2 m3 z1.2)) ⟨hx, hb, hml, hown, hts⟩ (c_Co_placeAt l D cI cJ cZ mh m0 m1 m2 m3 N p1 (0 : Int32) U z1 hz1) (x_cwV 2 hts rfl k_25 k_26 k_27 k_11 k_28 (by decide +kernel) ⟨(Nat.le_of_ble_eq_true rfl), (Nat.le_of_ble_eq_true rfl)⟩) hK hP hD hS hA hZ [0, 1, 2, 3, 4] [] [0, 1, 2, 3, 4] (by decide) rfl rfl (by decide) (by decide) (by decide) rfl (ci := 0) rfl rfl rfl hl.1 rfl (Nat.le_of_ble_eq_true rfl) d_Co_firstOf_3 ⟨(Nat.le_of_ble_eq_true rfl), (Nat.le_of_ble_eq_true rfl)⟩ (fun H locs hP hD hS => ?_)
  refine W.eq (g2 := F0 m 6 ls [.int z1.1]) rfl ?_
  refine lv_istore (lv' := [(4, .int z1.1), (0, .ref mh), (1, .long p0), (3, .int p1)]) hx hb d_Co_firstOf_6 hl (by decide) rfl (fun ls hl => ?_)
  refine lv_iconst (v := (0 : Int32)) hx hb d_Co_firstOf_8 (by decide) ?_
  refine lv_istore (lv' := [(5, .int (0 : Int32)), (4, .int z1.1), (0, .ref mh), (1, .long p0), (3, .int p1)]) hx hb d_Co_firstOf_9 hl (by decide) rfl (fun ls hl => ?_)
  exact L_11 _ _ _ _ _ hf _ _ _ hP hD hS (lv_sub hl [2, 3, 1, 0] rfl)
set_option maxHeartbeats 4000000 in
set_option maxRecDepth 100000 in
theorem c_Co_chainBehind (l : Launch) (D : va_G) (cI cJ cZ : ClassId) (mh m0 m1 m2 m3 be : Nat) (N : Nat) (p0 : Int32) (U : K_CR) (r : (Int32 × K_CR)) (hf : f_Co_chainBehind N p0 U = some r) : Cx l y_Co_chainBehind ws_Co_chainBehind rm_Co_chainBehind D vwCl (tyL cI cJ cZ) [.ref mh, .int p0, .ref be] (w_CR cI cJ cZ mh m0 m1 m2 m3 be U) (oI r.1) (w_CR cI cJ cZ mh m0 m1 m2 m3 be r.2) := by
  unfold f_Co_chainBehind at hf
  refine Cx.ofW (cc := b_Co_chainBehind) (maxL := 5) (ret := (some .int)) (by decide) rfl ?_
  intro p e s m below meth c A C0 hP hK hD hA hns hZ
  obtain ⟨hx, hb, hml, hown, hts0, hr, hlocks, hnm, hno⟩ := C0
  have hown : s.vm.findClass R_Co = some m.cls := hown
  have hts : ∀ w ∈ tb, w.before [.ref mh, .int p0, .ref be].toArray s = true := fun w h => hts0 w (List.mem_cons_of_mem _ h)
  have hS : va_S A s.heap s.heap [] := va_S.rf
  have hl := lv_entry ([.ref mh, .int p0, .ref be]) (n := 5) (Nat.le_of_ble_eq_true rfl)
  rw [lg_entry_eq]
  generalize (lg_sl ([.ref mh, .int p0, .ref be]) ++ List.replicate (5 - (lg_sl ([.ref mh, .int p0, .ref be])).length) Slot.unset).toArray = ls at hl ⊢
  have hl : lv_has ls 5 [(0, .ref mh), (1, .int p0), (2, .ref be)] := hl
  have L_9 : ∀ n : Nat, ∀ (x3 : Int32) (x4 : Int32) (U : K_CR), f_Co_chainBehind_9 N n x3 x4 U = some r → ∀ (H : Heap) (locs : List Loc) (ls : Array Slot), va_P D vwCl (w_CR cI cJ cZ mh m0 m1 m2 m3 be U) H → va_D A (w_CR cI cJ cZ mh m0 m1 m2 m3 be U) → va_S A s.heap H locs → lv_has ls 5 [(0, .ref mh), (2, .ref be), (3, .int x3), (4, .int x4)] → W p l e (rm_Co_chainBehind) s m [.ref mh, .int p0, .ref be].toArray below meth c H locs 0 0 (xQ D vwCl (tyL cI cJ cZ) below s A (oI r.1) (w_CR cI cJ cZ mh m0 m1 m2 m3 be r.2) (rm_Co_chainBehind).cells (rm_Co_chainBehind).slots) (F0 m 9 ls []) := by
    intro n
    induction n with
    | zero =>
      intro x3 x4 U hf
      have hf : (none : Option (Int32 × K_CR)) = some r := hf
      cases hf
    | succ n ih =>
      intro x3 x4 U hf H locs ls hP hD hS hl
      rw [f_Co_chainBehind_9] at hf
      refine lv_iload hx hb d_Co_chainBehind_9 (lv_at hl 3 rfl) ?_
      refine lv_iconst (v := (-1 : Int32)) hx hb d_Co_chainBehind_11 (by decide) ?_
      refine lv_icmp_eq (tgt := 40) hx hb d_Co_chainBehind_12 (by decide) (fun c5 => ?_) (fun c5 => ?_)
      · have hf := x_ifp c5 hf
        refine lv_iload_n hx hb d_Co_chainBehind_40 rfl (lv_at hl 2 rfl) ?_
        obtain rfl := Option.some.inj hf
        exact x_iret hx hb hr hlocks hK hP hD hS (Nat.le_of_ble_eq_true rfl) (Nat.le_of_ble_eq_true rfl) d_Co_chainBehind_41
      · have hf := x_ifn c5 hf
        refine lv_iload_n hx hb d_Co_chainBehind_15 rfl (lv_at hl 2 rfl) ?_
        refine lv_aload_n hx hb d_Co_chainBehind_16 rfl (lv_at hl 1 rfl) ?_
        refine va_alen hx hb hK hP 5 0 (v := (9 : Int32)) rfl rfl rfl d_Co_chainBehind_17 ?_
        refine lv_icmp_ge (tgt := 40) hx hb d_Co_chainBehind_18 (by decide) (fun c4 => ?_) (fun c4 => ?_)
        · have hf := x_ifp c4 hf
          refine lv_iload_n hx hb d_Co_chainBehind_40 rfl (lv_at hl 2 rfl) ?_
          obtain rfl := Option.some.inj hf
          exact x_iret hx hb hr hlocks hK hP hD hS (Nat.le_of_ble_eq_true rfl) (Nat.le_of_ble_eq_true rfl) d_Co_chainBehind_41
        · have hf := x_ifn c4 hf
          refine lv_aload_n hx hb d_Co_chainBehind_21 rfl (lv_at hl 1 rfl) ?_
          refine lv_iload_n hx hb d_Co_chainBehind_22 rfl (lv_at hl 2 rfl) ?_
          refine lv_iload hx hb d_Co_chainBehind_23 (lv_at hl 3 rfl) ?_
          obtain ⟨g2, hf⟩ := x_if hf
          refine va_iast hx hb hK hP hD hS 5 0 rfl rfl (xi_in g2) d_Co_chainBehind_25 (fun H locs hP hD hS => ?_)
          have hP : va_P D vwCl (w_CR cI cJ cZ mh m0 m1 m2 m3 be (U.1, (upd U.2 x3.toNatClampNeg x4))) H := hP
          have hD : va_D A (w_CR cI cJ cZ mh m0 m1 m2 m3 be (U.1, (upd U.2 x3.toNatClampNeg x4))) := hD
          refine lv_iinc (v := (x3 + (1 : Int32))) (lv' := [(3, .int (x3 + (1 : Int32))), (0, .ref mh), (2, .ref be), (4, .int x4)]) hx hb d_Co_chainBehind_26 hl (k := 2) rfl rfl (by decide) rfl (fun ls hl => ?_)
          refine lv_aload_n hx hb d_Co_chainBehind_29 rfl (lv_at hl 1 rfl) ?_
          refine lv_iload hx hb d_Co_chainBehind_30 (lv_at hl 3 rfl) ?_
          obtain ⟨z3, hz3, hf⟩ := x_bind hf
          refine x_callV (w2 := (w_CR cI cJ cZ mh m0 m1 m2 m3 be (z3.2, (upd U.2 x3.toNatClampNeg x4)))) ⟨hx, hb, hml, hown, hts⟩ (c_Co_next l D cI cJ cZ mh m0 m1 m2 m3 N x4 U.1 z3 hz3) (x_cwV 1 hts rfl k_17 k_18 k_19 k_11 k_20 (by decide +kernel) ⟨(Nat.le_of_ble_eq_true rfl), (Nat.le_of_ble_eq_true rfl)⟩) hK hP hD hS hA hZ [0, 1, 2, 3, 4] [5] [1, 2, 3, 4, 5, 0] (by decide) rfl rfl (by decide) (by decide) (by decide) rfl (ci := 0) rfl rfl rfl hl.1 rfl (Nat.le_of_ble_eq_true rfl) d_Co_chainBehind_32 ⟨(Nat.le_of_ble_eq_true rfl), (Nat.le_of_ble_eq_true rfl)⟩ (fun H locs hP hD hS => ?_)
          refine W.eq (g2 := F0 m 35 ls [.int z3.1]) rfl ?_
          refine lv_istore (lv' := [(4, .int z3.1), (3, .int (x3 + (1 : Int32))), (0, .ref mh), (2, .ref be)]) hx hb d_Co_chainBehind_35 hl (by decide) rfl (fun ls hl => ?_)
          refine lv_goto (tgt := 9) hx hb d_Co_chainBehind_37 (by decide) ?_
          exact ih _ _ _ hf _ _ _ hP hD hS (lv_sub hl [2, 3, 1, 0] rfl)
  refine lv_iconst (v := (0 : Int32)) hx hb d_Co_chainBehind_0 (by decide) ?_
  refine lv_istore_n (lv' := [(3, .int (0 : Int32)), (0, .ref mh), (1, .int p0), (2, .ref be)]) hx hb d_Co_chainBehind_1 rfl hl (by decide) rfl (fun ls hl => ?_)
  refine lv_aload_n hx hb d_Co_chainBehind_2 rfl (lv_at hl 1 rfl) ?_
  refine lv_iload_n hx hb d_Co_chainBehind_3 rfl (lv_at hl 2 rfl) ?_
  obtain ⟨z1, hz1, hf⟩ := x_bind hf
  refine x_callV (w2 := (w_CR cI cJ cZ mh m0 m1 m2 m3 be (z1.2, U.2))) ⟨hx, hb, hml, hown, hts⟩ (c_Co_next l D cI cJ cZ mh m0 m1 m2 m3 N p0 U.1 z1 hz1) (x_cwV 1 hts rfl k_17 k_18 k_19 k_11 k_20 (by decide +kernel) ⟨(Nat.le_of_ble_eq_true rfl), (Nat.le_of_ble_eq_true rfl)⟩) hK hP hD hS hA hZ [0, 1, 2, 3, 4] [5] [1, 2, 3, 4, 5, 0] (by decide) rfl rfl (by decide) (by decide) (by decide) rfl (ci := 0) rfl rfl rfl hl.1 rfl (Nat.le_of_ble_eq_true rfl) d_Co_chainBehind_4 ⟨(Nat.le_of_ble_eq_true rfl), (Nat.le_of_ble_eq_true rfl)⟩ (fun H locs hP hD hS => ?_)
  refine W.eq (g2 := F0 m 7 ls [.int z1.1]) rfl ?_
  refine lv_istore (lv' := [(4, .int z1.1), (3, .int (0 : Int32)), (0, .ref mh), (1, .int p0), (2, .ref be)]) hx hb d_Co_chainBehind_7 hl (by decide) rfl (fun ls hl => ?_)
  exact L_9 _ _ _ _ hf _ _ _ hP hD hS (lv_sub hl [2, 4, 1, 0] rfl)
set_option maxHeartbeats 4000000 in
set_option maxRecDepth 100000 in
theorem c_Co_leastFree (l : Launch) (D : va_G) (cI cJ cZ : ClassId) (mh m0 m1 m2 m3 : Nat) (N : Nat) (U : K_Co) (r : (Int32 × K_Co)) (hf : f_Co_leastFree N U = some r) : Cx l y_Co_leastFree ws_Co_leastFree rm_Co_leastFree D vwCl (tyL cI cJ cZ) [.ref mh] (w_Co cI cJ cZ mh m0 m1 m2 m3 U) (oI r.1) (w_Co cI cJ cZ mh m0 m1 m2 m3 r.2) := by
  unfold f_Co_leastFree at hf
  refine Cx.ofW (cc := b_Co_leastFree) (maxL := 2) (ret := (some .int)) (by decide) rfl ?_
  intro p e s m below meth c A C0 hP hK hD hA hns hZ
  obtain ⟨hx, hb, hml, hown, hts0, hr, hlocks, hnm, hno⟩ := C0
  have hown : s.vm.findClass R_Co = some m.cls := hown
  have hts : ∀ w ∈ tb, w.before [.ref mh].toArray s = true := fun w h => hts0 w (List.mem_cons_of_mem _ h)
  have hS : va_S A s.heap s.heap [] := va_S.rf
  have hl := lv_entry ([.ref mh]) (n := 2) (Nat.le_of_ble_eq_true rfl)
  rw [lg_entry_eq]
  generalize (lg_sl ([.ref mh]) ++ List.replicate (2 - (lg_sl ([.ref mh])).length) Slot.unset).toArray = ls at hl ⊢
  have hl : lv_has ls 2 [(0, .ref mh)] := hl
  have L_3 : ∀ n : Nat, ∀ (x1 : Int32) (U : K_Co), f_Co_leastFree_3 N n x1 U = some r → ∀ (H : Heap) (locs : List Loc) (ls : Array Slot), va_P D vwCl (w_Co cI cJ cZ mh m0 m1 m2 m3 U) H → va_D A (w_Co cI cJ cZ mh m0 m1 m2 m3 U) → va_S A s.heap H locs → lv_has ls 2 [(0, .ref mh), (1, .int x1)] → W p l e (rm_Co_leastFree) s m [.ref mh].toArray below meth c H locs 0 0 (xQ D vwCl (tyL cI cJ cZ) below s A (oI r.1) (w_Co cI cJ cZ mh m0 m1 m2 m3 r.2) (rm_Co_leastFree).cells (rm_Co_leastFree).slots) (F0 m 3 ls []) := by
    intro n
    induction n with
    | zero =>
      intro x1 U hf
      have hf : (none : Option (Int32 × K_Co)) = some r := hf
      cases hf
    | succ n ih =>
      intro x1 U hf H locs ls hP hD hS hl
      rw [f_Co_leastFree_3] at hf
      refine lv_iload_n hx hb d_Co_leastFree_3 rfl (lv_at hl 1 rfl) ?_
      refine lv_bipush (v := (15 : Int32)) hx hb d_Co_leastFree_4 (by decide) ?_
      refine lv_icmp_ge (tgt := 26) hx hb d_Co_leastFree_6 (by decide) (fun c3 => ?_) (fun c3 => ?_)
      · have hf := x_ifp c3 hf
        refine lv_iconst (v := (-1 : Int32)) hx hb d_Co_leastFree_26 (by decide) ?_
        obtain rfl := Option.some.inj hf
        exact x_iret hx hb hr hlocks hK hP hD hS (Nat.le_of_ble_eq_true rfl) (Nat.le_of_ble_eq_true rfl) d_Co_leastFree_27
      · have hf := x_ifn c3 hf
        refine lv_aload_n hx hb d_Co_leastFree_9 rfl (lv_at hl 0 rfl) ?_
        refine va_get (D := D) (ci := 0) (v := .ref m0) (C := R_Co) (T := F_Co) (N := 4) hx hb hts i_Co hown hK hP 0 rfl rfl 0 (by decide) (hts _ k_4) (fun _ h9 => h9) rfl d_Co_leastFree_10 ?_
        refine lv_iload_n hx hb d_Co_leastFree_13 rfl (lv_at hl 1 rfl) ?_
        obtain ⟨g1, hf⟩ := x_if hf
        refine va_iald hx hb hK hP 1 0 rfl rfl (xi_in g1) d_Co_leastFree_14 ?_
        refine lv_if_ne (tgt := 20) hx hb d_Co_leastFree_15 (by decide) (fun c2 => ?_) (fun c2 => ?_)
        · have hf := x_ifn c2 hf
          refine lv_iinc (v := (x1 + (1 : Int32))) (lv' := [(1, .int (x1 + (1 : Int32))), (0, .ref mh)]) hx hb d_Co_leastFree_20 hl (k := 1) rfl rfl (by decide) rfl (fun ls hl => ?_)
          refine lv_goto (tgt := 3) hx hb d_Co_leastFree_23 (by decide) ?_
          exact ih _ _ hf _ _ _ hP hD hS (lv_sub hl [1, 0] rfl)
        · have hf := x_ifp c2 hf
          refine lv_iload_n hx hb d_Co_leastFree_18 rfl (lv_at hl 1 rfl) ?_
          obtain rfl := Option.some.inj hf
          exact x_iret hx hb hr hlocks hK hP hD hS (Nat.le_of_ble_eq_true rfl) (Nat.le_of_ble_eq_true rfl) d_Co_leastFree_19
  refine lv_bipush (v := (6 : Int32)) hx hb d_Co_leastFree_0 (by decide) ?_
  refine lv_istore_n (lv' := [(1, .int (6 : Int32)), (0, .ref mh)]) hx hb d_Co_leastFree_2 rfl hl (by decide) rfl (fun ls hl => ?_)
  exact L_3 _ _ _ hf _ _ _ hP hD hS (lv_sub hl [1, 0] rfl)
set_option maxHeartbeats 4000000 in
set_option maxRecDepth 100000 in
theorem c_Co_freeSlots (l : Launch) (D : va_G) (cI cJ cZ : ClassId) (mh m0 m1 m2 m3 : Nat) (N : Nat) (U : K_Co) (r : (Int32 × K_Co)) (hf : f_Co_freeSlots N U = some r) : Cx l y_Co_freeSlots ws_Co_freeSlots rm_Co_freeSlots D vwCl (tyL cI cJ cZ) [.ref mh] (w_Co cI cJ cZ mh m0 m1 m2 m3 U) (oI r.1) (w_Co cI cJ cZ mh m0 m1 m2 m3 r.2) := by
  unfold f_Co_freeSlots at hf
  refine Cx.ofW (cc := b_Co_freeSlots) (maxL := 3) (ret := (some .int)) (by decide) rfl ?_
  intro p e s m below meth c A C0 hP hK hD hA hns hZ
  obtain ⟨hx, hb, hml, hown, hts0, hr, hlocks, hnm, hno⟩ := C0
  have hown : s.vm.findClass R_Co = some m.cls := hown
  have hts : ∀ w ∈ tb, w.before [.ref mh].toArray s = true := fun w h => hts0 w (List.mem_cons_of_mem _ h)
  have hS : va_S A s.heap s.heap [] := va_S.rf
  have hl := lv_entry ([.ref mh]) (n := 3) (Nat.le_of_ble_eq_true rfl)
  rw [lg_entry_eq]
  generalize (lg_sl ([.ref mh]) ++ List.replicate (3 - (lg_sl ([.ref mh])).length) Slot.unset).toArray = ls at hl ⊢
  have hl : lv_has ls 3 [(0, .ref mh)] := hl
  have L_5 : ∀ n : Nat, ∀ (x1 : Int32) (x2 : Int32) (U : K_Co), f_Co_freeSlots_5 N n x1 x2 U = some r → ∀ (H : Heap) (locs : List Loc) (ls : Array Slot), va_P D vwCl (w_Co cI cJ cZ mh m0 m1 m2 m3 U) H → va_D A (w_Co cI cJ cZ mh m0 m1 m2 m3 U) → va_S A s.heap H locs → lv_has ls 3 [(0, .ref mh), (1, .int x1), (2, .int x2)] → W p l e (rm_Co_freeSlots) s m [.ref mh].toArray below meth c H locs 0 0 (xQ D vwCl (tyL cI cJ cZ) below s A (oI r.1) (w_Co cI cJ cZ mh m0 m1 m2 m3 r.2) (rm_Co_freeSlots).cells (rm_Co_freeSlots).slots) (F0 m 5 ls []) := by
    intro n
    induction n with
    | zero =>
      intro x1 x2 U hf
      have hf : (none : Option (Int32 × K_Co)) = some r := hf
      cases hf
    | succ n ih =>
      intro x1 x2 U hf H locs ls hP hD hS hl
      rw [f_Co_freeSlots_5] at hf
      refine lv_iload_n hx hb d_Co_freeSlots_5 rfl (lv_at hl 2 rfl) ?_
      refine lv_bipush (v := (15 : Int32)) hx hb d_Co_freeSlots_6 (by decide) ?_
      refine lv_icmp_ge (tgt := 34) hx hb d_Co_freeSlots_8 (by decide) (fun c3 => ?_) (fun c3 => ?_)
      · have hf := x_ifp c3 hf
        refine lv_iload_n hx hb d_Co_freeSlots_34 rfl (lv_at hl 1 rfl) ?_
        obtain rfl := Option.some.inj hf
        exact x_iret hx hb hr hlocks hK hP hD hS (Nat.le_of_ble_eq_true rfl) (Nat.le_of_ble_eq_true rfl) d_Co_freeSlots_35
      · have hf := x_ifn c3 hf
        refine lv_iload_n hx hb d_Co_freeSlots_11 rfl (lv_at hl 1 rfl) ?_
        refine lv_aload_n hx hb d_Co_freeSlots_12 rfl (lv_at hl 0 rfl) ?_
        refine va_get (D := D) (ci := 0) (v := .ref m0) (C := R_Co) (T := F_Co) (N := 4) hx hb hts i_Co hown hK hP 0 rfl rfl 0 (by decide) (hts _ k_4) (fun _ h9 => h9) rfl d_Co_freeSlots_13 ?_
        refine lv_iload_n hx hb d_Co_freeSlots_16 rfl (lv_at hl 2 rfl) ?_
        obtain ⟨g1, hf⟩ := x_if hf
        refine va_iald hx hb hK hP 1 0 rfl rfl (xi_in g1) d_Co_freeSlots_17 ?_
        refine lv_if_ne (tgt := 25) hx hb d_Co_freeSlots_18 (by decide) (fun c2 => ?_) (fun c2 => ?_)
        · have hf := x_ifn c2 hf
          refine lv_iconst (v := (0 : Int32)) hx hb d_Co_freeSlots_25 (by decide) ?_
          refine lv_iadd hx hb d_Co_freeSlots_26 ?_
          refine lv_istore_n (lv' := [(1, .int (x1 + (0 : Int32))), (0, .ref mh), (2, .int x2)]) hx hb d_Co_freeSlots_27 rfl hl (by decide) rfl (fun ls hl => ?_)
          refine lv_iinc (v := (x2 + (1 : Int32))) (lv' := [(2, .int (x2 + (1 : Int32))), (1, .int (x1 + (0 : Int32))), (0, .ref mh)]) hx hb d_Co_freeSlots_28 hl (k := 2) rfl rfl (by decide) rfl (fun ls hl => ?_)
          refine lv_goto (tgt := 5) hx hb d_Co_freeSlots_31 (by decide) ?_
          exact ih _ _ _ hf _ _ _ hP hD hS (lv_sub hl [2, 1, 0] rfl)
        · have hf := x_ifp c2 hf
          refine lv_iconst (v := (1 : Int32)) hx hb d_Co_freeSlots_21 (by decide) ?_
          refine lv_goto (tgt := 26) hx hb d_Co_freeSlots_22 (by decide) ?_
          refine lv_iadd hx hb d_Co_freeSlots_26 ?_
          refine lv_istore_n (lv' := [(1, .int (x1 + (1 : Int32))), (0, .ref mh), (2, .int x2)]) hx hb d_Co_freeSlots_27 rfl hl (by decide) rfl (fun ls hl => ?_)
          refine lv_iinc (v := (x2 + (1 : Int32))) (lv' := [(2, .int (x2 + (1 : Int32))), (1, .int (x1 + (1 : Int32))), (0, .ref mh)]) hx hb d_Co_freeSlots_28 hl (k := 2) rfl rfl (by decide) rfl (fun ls hl => ?_)
          refine lv_goto (tgt := 5) hx hb d_Co_freeSlots_31 (by decide) ?_
          exact ih _ _ _ hf _ _ _ hP hD hS (lv_sub hl [2, 1, 0] rfl)
  refine lv_iconst (v := (0 : Int32)) hx hb d_Co_freeSlots_0 (by decide) ?_
  refine lv_istore_n (lv' := [(1, .int (0 : Int32)), (0, .ref mh)]) hx hb d_Co_freeSlots_1 rfl hl (by decide) rfl (fun ls hl => ?_)
  refine lv_bipush (v := (6 : Int32)) hx hb d_Co_freeSlots_2 (by decide) ?_
  refine lv_istore_n (lv' := [(2, .int (6 : Int32)), (1, .int (0 : Int32)), (0, .ref mh)]) hx hb d_Co_freeSlots_4 rfl hl (by decide) rfl (fun ls hl => ?_)
  exact L_5 _ _ _ _ hf _ _ _ hP hD hS (lv_sub hl [2, 1, 0] rfl)
set_option maxHeartbeats 4000000 in
set_option maxRecDepth 100000 in
theorem c_Co_leastUnused (l : Launch) (D : va_G) (cI cJ cZ : ClassId) (mh m0 m1 m2 m3 : Nat) (N : Nat) (U : K_Co) (r : (Int32 × K_Co)) (hf : f_Co_leastUnused N U = some r) : Cx l y_Co_leastUnused ws_Co_leastUnused rm_Co_leastUnused D vwCl (tyL cI cJ cZ) [.ref mh] (w_Co cI cJ cZ mh m0 m1 m2 m3 U) (oI r.1) (w_Co cI cJ cZ mh m0 m1 m2 m3 r.2) := by
  unfold f_Co_leastUnused at hf
  refine Cx.ofW (cc := b_Co_leastUnused) (maxL := 2) (ret := (some .int)) (by decide) rfl ?_
  intro p e s m below meth c A C0 hP hK hD hA hns hZ
  obtain ⟨hx, hb, hml, hown, hts0, hr, hlocks, hnm, hno⟩ := C0
  have hown : s.vm.findClass R_Co = some m.cls := hown
  have hts : ∀ w ∈ tb, w.before [.ref mh].toArray s = true := fun w h => hts0 w (List.mem_cons_of_mem _ h)
  have hS : va_S A s.heap s.heap [] := va_S.rf
  have hl := lv_entry ([.ref mh]) (n := 2) (Nat.le_of_ble_eq_true rfl)
  rw [lg_entry_eq]
  generalize (lg_sl ([.ref mh]) ++ List.replicate (2 - (lg_sl ([.ref mh])).length) Slot.unset).toArray = ls at hl ⊢
  have hl : lv_has ls 2 [(0, .ref mh)] := hl
  have L_2 : ∀ n : Nat, ∀ (x1 : Int32) (U : K_Co), f_Co_leastUnused_2 N n x1 U = some r → ∀ (H : Heap) (locs : List Loc) (ls : Array Slot), va_P D vwCl (w_Co cI cJ cZ mh m0 m1 m2 m3 U) H → va_D A (w_Co cI cJ cZ mh m0 m1 m2 m3 U) → va_S A s.heap H locs → lv_has ls 2 [(0, .ref mh), (1, .int x1)] → W p l e (rm_Co_leastUnused) s m [.ref mh].toArray below meth c H locs 0 0 (xQ D vwCl (tyL cI cJ cZ) below s A (oI r.1) (w_Co cI cJ cZ mh m0 m1 m2 m3 r.2) (rm_Co_leastUnused).cells (rm_Co_leastUnused).slots) (F0 m 2 ls []) := by
    intro n
    induction n with
    | zero =>
      intro x1 U hf
      have hf : (none : Option (Int32 × K_Co)) = some r := hf
      cases hf
    | succ n ih =>
      intro x1 U hf H locs ls hP hD hS hl
      rw [f_Co_leastUnused_2] at hf
      refine lv_iload_n hx hb d_Co_leastUnused_2 rfl (lv_at hl 1 rfl) ?_
      refine lv_bipush (v := (40 : Int32)) hx hb d_Co_leastUnused_3 (by decide) ?_
      refine lv_icmp_gt (tgt := 25) hx hb d_Co_leastUnused_5 (by decide) (fun c3 => ?_) (fun c3 => ?_)
      · have hf := x_ifp c3 hf
        refine lv_iconst (v := (0 : Int32)) hx hb d_Co_leastUnused_25 (by decide) ?_
        obtain rfl := Option.some.inj hf
        exact x_iret hx hb hr hlocks hK hP hD hS (Nat.le_of_ble_eq_true rfl) (Nat.le_of_ble_eq_true rfl) d_Co_leastUnused_26
      · have hf := x_ifn c3 hf
        refine lv_aload_n hx hb d_Co_leastUnused_8 rfl (lv_at hl 0 rfl) ?_
        refine va_get (D := D) (ci := 0) (v := .ref m3) (C := R_Co) (T := F_Co) (N := 4) hx hb hts i_Co hown hK hP 0 rfl rfl 3 (by decide) (hts _ k_7) (fun _ h9 => h9) rfl d_Co_leastUnused_9 ?_
        refine lv_iload_n hx hb d_Co_leastUnused_12 rfl (lv_at hl 1 rfl) ?_
        obtain ⟨g1, hf⟩ := x_if hf
        refine va_iald hx hb hK hP 4 0 rfl rfl (xi_in g1) d_Co_leastUnused_13 ?_
        refine lv_if_ne (tgt := 19) hx hb d_Co_leastUnused_14 (by decide) (fun c2 => ?_) (fun c2 => ?_)
        · have hf := x_ifn c2 hf
          refine lv_iinc (v := (x1 + (1 : Int32))) (lv' := [(1, .int (x1 + (1 : Int32))), (0, .ref mh)]) hx hb d_Co_leastUnused_19 hl (k := 1) rfl rfl (by decide) rfl (fun ls hl => ?_)
          refine lv_goto (tgt := 2) hx hb d_Co_leastUnused_22 (by decide) ?_
          exact ih _ _ hf _ _ _ hP hD hS (lv_sub hl [1, 0] rfl)
        · have hf := x_ifp c2 hf
          refine lv_iload_n hx hb d_Co_leastUnused_17 rfl (lv_at hl 1 rfl) ?_
          obtain rfl := Option.some.inj hf
          exact x_iret hx hb hr hlocks hK hP hD hS (Nat.le_of_ble_eq_true rfl) (Nat.le_of_ble_eq_true rfl) d_Co_leastUnused_18
  refine lv_iconst (v := (1 : Int32)) hx hb d_Co_leastUnused_0 (by decide) ?_
  refine lv_istore_n (lv' := [(1, .int (1 : Int32)), (0, .ref mh)]) hx hb d_Co_leastUnused_1 rfl hl (by decide) rfl (fun ls hl => ?_)
  exact L_2 _ _ _ hf _ _ _ hP hD hS (lv_sub hl [1, 0] rfl)
set_option maxHeartbeats 4000000 in
set_option maxRecDepth 100000 in
theorem c_Co_setIn (l : Launch) (D : va_G) (cI cJ cZ : ClassId) (mh m0 m1 m2 m3 : Nat) (N : Nat) (p0 : Int32) (U : K_Co) (r : (Int64 × K_Co)) (hf : f_Co_setIn N p0 U = some r) : Cx l y_Co_setIn ws_Co_setIn rm_Co_setIn D vwCl (tyL cI cJ cZ) [.ref mh, .int p0] (w_Co cI cJ cZ mh m0 m1 m2 m3 U) (oL r.1) (w_Co cI cJ cZ mh m0 m1 m2 m3 r.2) := by
  unfold f_Co_setIn at hf
  refine Cx.ofW (cc := b_Co_setIn) (maxL := 5) (ret := (some .long)) (by decide) rfl ?_
  intro p e s m below meth c A C0 hP hK hD hA hns hZ
  obtain ⟨hx, hb, hml, hown, hts0, hr, hlocks, hnm, hno⟩ := C0
  have hown : s.vm.findClass R_Co = some m.cls := hown
  have hts : ∀ w ∈ tb, w.before [.ref mh, .int p0].toArray s = true := fun w h => hts0 w (List.mem_cons_of_mem _ h)
  have hS : va_S A s.heap s.heap [] := va_S.rf
  have hl := lv_entry ([.ref mh, .int p0]) (n := 5) (Nat.le_of_ble_eq_true rfl)
  rw [lg_entry_eq]
  generalize (lg_sl ([.ref mh, .int p0]) ++ List.replicate (5 - (lg_sl ([.ref mh, .int p0])).length) Slot.unset).toArray = ls at hl ⊢
  have hl : lv_has ls 5 [(0, .ref mh), (1, .int p0)] := hl
  have L_5 : ∀ n : Nat, ∀ (x1 : Int32) (x2 : Int64) (x4 : Int32) (U : K_Co), f_Co_setIn_5 N n x1 x2 x4 U = some r → ∀ (H : Heap) (locs : List Loc) (ls : Array Slot), va_P D vwCl (w_Co cI cJ cZ mh m0 m1 m2 m3 U) H → va_D A (w_Co cI cJ cZ mh m0 m1 m2 m3 U) → va_S A s.heap H locs → lv_has ls 5 [(0, .ref mh), (1, .int x1), (2, .long x2), (4, .int x4)] → W p l e (rm_Co_setIn) s m [.ref mh, .int p0].toArray below meth c H locs 0 0 (xQ D vwCl (tyL cI cJ cZ) below s A (oL r.1) (w_Co cI cJ cZ mh m0 m1 m2 m3 r.2) (rm_Co_setIn).cells (rm_Co_setIn).slots) (F0 m 5 ls []) := by
    intro n
    induction n with
    | zero =>
      intro x1 x2 x4 U hf
      have hf : (none : Option (Int64 × K_Co)) = some r := hf
      cases hf
    | succ n ih =>
      intro x1 x2 x4 U hf H locs ls hP hD hS hl
      rw [f_Co_setIn_5] at hf
      refine lv_iload hx hb d_Co_setIn_5 (lv_at hl 3 rfl) ?_
      refine lv_bipush (v := (40 : Int32)) hx hb d_Co_setIn_7 (by decide) ?_
      refine lv_icmp_gt (tgt := 36) hx hb d_Co_setIn_9 (by decide) (fun c3 => ?_) (fun c3 => ?_)
      · have hf := x_ifp c3 hf
        refine lv_lload_n hx hb d_Co_setIn_36 rfl (lv_at hl 2 rfl) ?_
        obtain rfl := Option.some.inj hf
        exact x_lret hx hb hr hlocks hK hP hD hS (Nat.le_of_ble_eq_true rfl) (Nat.le_of_ble_eq_true rfl) d_Co_setIn_37
      · have hf := x_ifn c3 hf
        refine lv_aload_n hx hb d_Co_setIn_12 rfl (lv_at hl 0 rfl) ?_
        refine va_get (D := D) (ci := 0) (v := .ref m3) (C := R_Co) (T := F_Co) (N := 4) hx hb hts i_Co hown hK hP 0 rfl rfl 3 (by decide) (hts _ k_7) (fun _ h9 => h9) rfl d_Co_setIn_13 ?_
        refine lv_iload hx hb d_Co_setIn_16 (lv_at hl 3 rfl) ?_
        obtain ⟨g1, hf⟩ := x_if hf
        refine va_iald hx hb hK hP 4 0 rfl rfl (xi_in g1) d_Co_setIn_18 ?_
        refine lv_iload_n hx hb d_Co_setIn_19 rfl (lv_at hl 1 rfl) ?_
        refine lv_icmp_ne (tgt := 30) hx hb d_Co_setIn_20 (by decide) (fun c2 => ?_) (fun c2 => ?_)
        · have hf := x_ifn c2 hf
          refine lv_iinc (v := (x4 + (1 : Int32))) (lv' := [(4, .int (x4 + (1 : Int32))), (0, .ref mh), (1, .int x1), (2, .long x2)]) hx hb d_Co_setIn_30 hl (k := 3) rfl rfl (by decide) rfl (fun ls hl => ?_)
          refine lv_goto (tgt := 5) hx hb d_Co_setIn_33 (by decide) ?_
          exact ih _ _ _ _ hf _ _ _ hP hD hS (lv_sub hl [1, 2, 3, 0] rfl)
        · have hf := x_ifp c2 hf
          refine lv_lload_n hx hb d_Co_setIn_23 rfl (lv_at hl 2 rfl) ?_
          refine lv_lconst (v := (1 : Int64)) hx hb d_Co_setIn_24 (by decide) ?_
          refine lv_iload hx hb d_Co_setIn_25 (lv_at hl 3 rfl) ?_
          refine lv_lshl (v := ((1 : Int64) <<< (x4.toInt64 &&& 63))) hx hb d_Co_setIn_27 rfl ?_
          refine lv_lor hx hb d_Co_setIn_28 ?_
          refine lv_lstore_n (lv' := [(2, .long (x2 ||| ((1 : Int64) <<< (x4.toInt64 &&& 63)))), (0, .ref mh), (1, .int x1), (4, .int x4)]) hx hb d_Co_setIn_29 rfl hl (by decide) rfl (fun ls hl => ?_)
          refine lv_iinc (v := (x4 + (1 : Int32))) (lv' := [(4, .int (x4 + (1 : Int32))), (2, .long (x2 ||| ((1 : Int64) <<< (x4.toInt64 &&& 63)))), (0, .ref mh), (1, .int x1)]) hx hb d_Co_setIn_30 hl (k := 3) rfl rfl (by decide) rfl (fun ls hl => ?_)
          refine lv_goto (tgt := 5) hx hb d_Co_setIn_33 (by decide) ?_
          exact ih _ _ _ _ hf _ _ _ hP hD hS (lv_sub hl [2, 3, 1, 0] rfl)
  refine lv_lconst (v := (0 : Int64)) hx hb d_Co_setIn_0 (by decide) ?_
  refine lv_lstore_n (lv' := [(2, .long (0 : Int64)), (0, .ref mh), (1, .int p0)]) hx hb d_Co_setIn_1 rfl hl (by decide) rfl (fun ls hl => ?_)
  refine lv_iconst (v := (1 : Int32)) hx hb d_Co_setIn_2 (by decide) ?_
  refine lv_istore (lv' := [(4, .int (1 : Int32)), (2, .long (0 : Int64)), (0, .ref mh), (1, .int p0)]) hx hb d_Co_setIn_3 hl (by decide) rfl (fun ls hl => ?_)
  exact L_5 _ _ _ _ _ hf _ _ _ hP hD hS (lv_sub hl [2, 3, 1, 0] rfl)
set_option maxHeartbeats 4000000 in
set_option maxRecDepth 100000 in
theorem c_JL_bitCount (l : Launch) (D : va_G) (cI cJ cZ : ClassId) (N : Nat) (p0 : Int64) (r : Int32) (hf : f_JL_bitCount N p0 = some r) : Cx l y_JL_bitCount ws_JL_bitCount rm_JL_bitCount D vwCl (tyL cI cJ cZ) [.long p0] [] (oI r) [] := by
  unfold f_JL_bitCount at hf
  refine Cx.ofW (cc := b_JL_bitCount) (maxL := 2) (ret := (some .int)) (by decide) rfl ?_
  intro p e s m below meth c A C0 hP hK hD hA hns hZ
  obtain ⟨hx, hb, hml, hown, hts0, hr, hlocks, hnm, hno⟩ := C0
  have hown : s.vm.findClass R_JL = some m.cls := hown
  have hts : ∀ w ∈ tb, w.before [.long p0].toArray s = true := fun w h => hts0 w (List.mem_cons_of_mem _ h)
  have hS : va_S A s.heap s.heap [] := va_S.rf
  have hl := lv_entry ([.long p0]) (n := 2) (Nat.le_of_ble_eq_true rfl)
  rw [lg_entry_eq]
  generalize (lg_sl ([.long p0]) ++ List.replicate (2 - (lg_sl ([.long p0])).length) Slot.unset).toArray = ls at hl ⊢
  have hl : lv_has ls 2 [(0, .long p0)] := hl
  refine lv_lload_n hx hb d_JL_bitCount_0 rfl (lv_at hl 0 rfl) ?_
  refine lv_lload_n hx hb d_JL_bitCount_1 rfl (lv_at hl 0 rfl) ?_
  refine lv_iconst (v := (1 : Int32)) hx hb d_JL_bitCount_2 (by decide) ?_
  refine lv_lushr (v := ((p0).toUInt64 >>> (((1 : Int32)).toInt64.toUInt64 &&& Int64.toUInt64 63)).toInt64) hx hb d_JL_bitCount_3 rfl ?_
  refine lv_ldc2 hx hb hown (hts _ k_29) d_JL_bitCount_4 ?_
  refine lv_land hx hb d_JL_bitCount_7 ?_
  refine lv_lsub hx hb d_JL_bitCount_8 ?_
  refine lv_topl (fun y1 ey1 => ?_)
  have hf := x_let ey1 hf
  refine lv_lstore_n (lv' := [(0, .long y1)]) hx hb d_JL_bitCount_9 rfl hl (by decide) rfl (fun ls hl => ?_)
  refine lv_lload_n hx hb d_JL_bitCount_10 rfl (lv_at hl 0 rfl) ?_
  refine lv_ldc2 hx hb hown (hts _ k_30) d_JL_bitCount_11 ?_
  refine lv_land hx hb d_JL_bitCount_14 ?_
  refine lv_lload_n hx hb d_JL_bitCount_15 rfl (lv_at hl 0 rfl) ?_
  refine lv_iconst (v := (2 : Int32)) hx hb d_JL_bitCount_16 (by decide) ?_
  refine lv_lushr (v := ((y1).toUInt64 >>> (((2 : Int32)).toInt64.toUInt64 &&& Int64.toUInt64 63)).toInt64) hx hb d_JL_bitCount_17 rfl ?_
  refine lv_ldc2 hx hb hown (hts _ k_30) d_JL_bitCount_18 ?_
  refine lv_land hx hb d_JL_bitCount_21 ?_
  refine lv_ladd hx hb d_JL_bitCount_22 ?_
  refine lv_topl (fun y2 ey2 => ?_)
  have hf := x_let ey2 hf
  refine lv_lstore_n (lv' := [(0, .long y2)]) hx hb d_JL_bitCount_23 rfl hl (by decide) rfl (fun ls hl => ?_)
  refine lv_lload_n hx hb d_JL_bitCount_24 rfl (lv_at hl 0 rfl) ?_
  refine lv_lload_n hx hb d_JL_bitCount_25 rfl (lv_at hl 0 rfl) ?_
  refine lv_iconst (v := (4 : Int32)) hx hb d_JL_bitCount_26 (by decide) ?_
  refine lv_lushr (v := ((y2).toUInt64 >>> (((4 : Int32)).toInt64.toUInt64 &&& Int64.toUInt64 63)).toInt64) hx hb d_JL_bitCount_27 rfl ?_
  refine lv_ladd hx hb d_JL_bitCount_28 ?_
  refine lv_ldc2 hx hb hown (hts _ k_31) d_JL_bitCount_29 ?_
  refine lv_land hx hb d_JL_bitCount_32 ?_
  refine lv_topl (fun y3 ey3 => ?_)
  have hf := x_let ey3 hf
  refine lv_lstore_n (lv' := [(0, .long y3)]) hx hb d_JL_bitCount_33 rfl hl (by decide) rfl (fun ls hl => ?_)
  refine lv_lload_n hx hb d_JL_bitCount_34 rfl (lv_at hl 0 rfl) ?_
  refine lv_lload_n hx hb d_JL_bitCount_35 rfl (lv_at hl 0 rfl) ?_
  refine lv_bipush (v := (8 : Int32)) hx hb d_JL_bitCount_36 (by decide) ?_
  refine lv_lushr (v := ((y3).toUInt64 >>> (((8 : Int32)).toInt64.toUInt64 &&& Int64.toUInt64 63)).toInt64) hx hb d_JL_bitCount_38 rfl ?_
  refine lv_ladd hx hb d_JL_bitCount_39 ?_
  refine lv_topl (fun y4 ey4 => ?_)
  have hf := x_let ey4 hf
  refine lv_lstore_n (lv' := [(0, .long y4)]) hx hb d_JL_bitCount_40 rfl hl (by decide) rfl (fun ls hl => ?_)
  refine lv_lload_n hx hb d_JL_bitCount_41 rfl (lv_at hl 0 rfl) ?_
  refine lv_lload_n hx hb d_JL_bitCount_42 rfl (lv_at hl 0 rfl) ?_
  refine lv_bipush (v := (16 : Int32)) hx hb d_JL_bitCount_43 (by decide) ?_
  refine lv_lushr (v := ((y4).toUInt64 >>> (((16 : Int32)).toInt64.toUInt64 &&& Int64.toUInt64 63)).toInt64) hx hb d_JL_bitCount_45 rfl ?_
  refine lv_ladd hx hb d_JL_bitCount_46 ?_
  refine lv_topl (fun y5 ey5 => ?_)
  have hf := x_let ey5 hf
  refine lv_lstore_n (lv' := [(0, .long y5)]) hx hb d_JL_bitCount_47 rfl hl (by decide) rfl (fun ls hl => ?_)
  refine lv_lload_n hx hb d_JL_bitCount_48 rfl (lv_at hl 0 rfl) ?_
  refine lv_lload_n hx hb d_JL_bitCount_49 rfl (lv_at hl 0 rfl) ?_
  refine lv_bipush (v := (32 : Int32)) hx hb d_JL_bitCount_50 (by decide) ?_
  refine lv_lushr (v := ((y5).toUInt64 >>> (((32 : Int32)).toInt64.toUInt64 &&& Int64.toUInt64 63)).toInt64) hx hb d_JL_bitCount_52 rfl ?_
  refine lv_ladd hx hb d_JL_bitCount_53 ?_
  refine lv_topl (fun y6 ey6 => ?_)
  have hf := x_let ey6 hf
  refine lv_lstore_n (lv' := [(0, .long y6)]) hx hb d_JL_bitCount_54 rfl hl (by decide) rfl (fun ls hl => ?_)
  refine lv_lload_n hx hb d_JL_bitCount_55 rfl (lv_at hl 0 rfl) ?_
  refine lv_l2i (v := (y6).toInt32) hx hb d_JL_bitCount_56 rfl ?_
  refine lv_bipush (v := (127 : Int32)) hx hb d_JL_bitCount_57 (by decide) ?_
  refine lv_iand hx hb d_JL_bitCount_59 ?_
  obtain rfl := Option.some.inj hf
  exact x_iret hx hb hr hlocks hK hP hD hS (Nat.le_of_ble_eq_true rfl) (Nat.le_of_ble_eq_true rfl) d_JL_bitCount_60
set_option maxHeartbeats 4000000 in
set_option maxRecDepth 100000 in
theorem c_Co_active (l : Launch) (D : va_G) (cI cJ cZ : ClassId) (mh m0 m1 m2 m3 : Nat) (N : Nat) (U : K_Co) (r : (Int32 × K_Co)) (hf : f_Co_active N U = some r) : Cx l y_Co_active ws_Co_active rm_Co_active D vwCl (tyL cI cJ cZ) [.ref mh] (w_Co cI cJ cZ mh m0 m1 m2 m3 U) (oI r.1) (w_Co cI cJ cZ mh m0 m1 m2 m3 r.2) := by
  unfold f_Co_active at hf
  refine Cx.ofW (cc := b_Co_active) (maxL := 1) (ret := (some .int)) (by decide) rfl ?_
  intro p e s m below meth c A C0 hP hK hD hA hns hZ
  obtain ⟨hx, hb, hml, hown, hts0, hr, hlocks, hnm, hno⟩ := C0
  have hown : s.vm.findClass R_Co = some m.cls := hown
  have hts : ∀ w ∈ tb, w.before [.ref mh].toArray s = true := fun w h => hts0 w (List.mem_cons_of_mem _ h)
  have hS : va_S A s.heap s.heap [] := va_S.rf
  have hl := lv_entry ([.ref mh]) (n := 1) (Nat.le_of_ble_eq_true rfl)
  rw [lg_entry_eq]
  generalize (lg_sl ([.ref mh]) ++ List.replicate (1 - (lg_sl ([.ref mh])).length) Slot.unset).toArray = ls at hl ⊢
  have hl : lv_has ls 1 [(0, .ref mh)] := hl
  refine lv_aload_n hx hb d_Co_active_0 rfl (lv_at hl 0 rfl) ?_
  refine lv_iconst (v := (1 : Int32)) hx hb d_Co_active_1 (by decide) ?_
  obtain ⟨z1, hz1, hf⟩ := x_bind hf
  refine x_callV (w2 := (w_Co cI cJ cZ mh m0 m1 m2 m3 z1.2)) ⟨hx, hb, hml, hown, hts⟩ (c_Co_setIn l D cI cJ cZ mh m0 m1 m2 m3 N (1 : Int32) U z1 hz1) (x_cwV 1 hts rfl k_36 k_37 k_38 k_11 k_39 (by decide +kernel) ⟨(Nat.le_of_ble_eq_true rfl), (Nat.le_of_ble_eq_true rfl)⟩) hK hP hD hS hA hZ [0, 1, 2, 3, 4] [] [0, 1, 2, 3, 4] (by decide) rfl rfl (by decide) (by decide) (by decide) rfl (ci := 0) rfl rfl rfl hl.1 rfl (Nat.le_of_ble_eq_true rfl) d_Co_active_2 ⟨(Nat.le_of_ble_eq_true rfl), (Nat.le_of_ble_eq_true rfl)⟩ (fun H locs hP hD hS => ?_)
  refine W.eq (g2 := F0 m 5 ls [.long z1.1]) rfl ?_
  obtain ⟨z2, hz2, hf⟩ := x_bind hf
  refine x_callS (w2 := (w_Co cI cJ cZ mh m0 m1 m2 m3 z1.2)) ⟨hx, hb, hml, hown, hts⟩ (c_JL_bitCount l D cI cJ cZ  N z1.1  z2 hz2) (x_cwS 1 hts rfl k_32 k_33 k_34 k_35 (by decide +kernel) ⟨(Nat.le_of_ble_eq_true rfl), (Nat.le_of_ble_eq_true rfl)⟩) hK hP hD hS hA hZ [] [0, 1, 2, 3, 4] [0, 1, 2, 3, 4] (by decide) rfl rfl (by decide) (by decide) (by decide) rfl rfl hl.1 rfl (Nat.le_of_ble_eq_true rfl) d_Co_active_5 ⟨(Nat.le_of_ble_eq_true rfl), (Nat.le_of_ble_eq_true rfl)⟩ (fun H locs hP hD hS => ?_)
  refine W.eq (g2 := F0 m 8 ls [.int z2]) rfl ?_
  obtain rfl := Option.some.inj hf
  exact x_iret hx hb hr hlocks hK hP hD hS (Nat.le_of_ble_eq_true rfl) (Nat.le_of_ble_eq_true rfl) d_Co_active_8
set_option maxHeartbeats 4000000 in
set_option maxRecDepth 100000 in
theorem c_Co_committed (l : Launch) (D : va_G) (cI cJ cZ : ClassId) (mh m0 m1 m2 m3 : Nat) (N : Nat) (U : K_Co) (r : (Int64 × K_Co)) (hf : f_Co_committed N U = some r) : Cx l y_Co_committed ws_Co_committed rm_Co_committed D vwCl (tyL cI cJ cZ) [.ref mh] (w_Co cI cJ cZ mh m0 m1 m2 m3 U) (oL r.1) (w_Co cI cJ cZ mh m0 m1 m2 m3 r.2) := by
  unfold f_Co_committed at hf
  refine Cx.ofW (cc := b_Co_committed) (maxL := 1) (ret := (some .long)) (by decide) rfl ?_
  intro p e s m below meth c A C0 hP hK hD hA hns hZ
  obtain ⟨hx, hb, hml, hown, hts0, hr, hlocks, hnm, hno⟩ := C0
  have hown : s.vm.findClass R_Co = some m.cls := hown
  have hts : ∀ w ∈ tb, w.before [.ref mh].toArray s = true := fun w h => hts0 w (List.mem_cons_of_mem _ h)
  have hS : va_S A s.heap s.heap [] := va_S.rf
  have hl := lv_entry ([.ref mh]) (n := 1) (Nat.le_of_ble_eq_true rfl)
  rw [lg_entry_eq]
  generalize (lg_sl ([.ref mh]) ++ List.replicate (1 - (lg_sl ([.ref mh])).length) Slot.unset).toArray = ls at hl ⊢
  have hl : lv_has ls 1 [(0, .ref mh)] := hl
  refine lv_aload_n hx hb d_Co_committed_0 rfl (lv_at hl 0 rfl) ?_
  refine lv_iconst (v := (2 : Int32)) hx hb d_Co_committed_1 (by decide) ?_
  obtain ⟨z1, hz1, hf⟩ := x_bind hf
  refine x_callV (w2 := (w_Co cI cJ cZ mh m0 m1 m2 m3 z1.2)) ⟨hx, hb, hml, hown, hts⟩ (c_Co_setIn l D cI cJ cZ mh m0 m1 m2 m3 N (2 : Int32) U z1 hz1) (x_cwV 1 hts rfl k_36 k_37 k_38 k_11 k_39 (by decide +kernel) ⟨(Nat.le_of_ble_eq_true rfl), (Nat.le_of_ble_eq_true rfl)⟩) hK hP hD hS hA hZ [0, 1, 2, 3, 4] [] [0, 1, 2, 3, 4] (by decide) rfl rfl (by decide) (by decide) (by decide) rfl (ci := 0) rfl rfl rfl hl.1 rfl (Nat.le_of_ble_eq_true rfl) d_Co_committed_2 ⟨(Nat.le_of_ble_eq_true rfl), (Nat.le_of_ble_eq_true rfl)⟩ (fun H locs hP hD hS => ?_)
  refine W.eq (g2 := F0 m 5 ls [.long z1.1]) rfl ?_
  obtain rfl := Option.some.inj hf
  exact x_lret hx hb hr hlocks hK hP hD hS (Nat.le_of_ble_eq_true rfl) (Nat.le_of_ble_eq_true rfl) d_Co_committed_5
end
section
set_option maxHeartbeats 4000000 in
set_option maxRecDepth 100000 in
theorem c_St_init (l : Launch) (D : va_G) (cI cJ cZ : ClassId) (sh : Nat) (N : Nat) (r : K_St) (hf : f_St_init N = some r) : Cxe l y_St_init ws_St_init rm_St_init D vwCl (tyL cI cJ cZ) [.ref sh] [(sh, .inr (1, [.null, .null, .null, .int 0, .int 0, .int 0, .int 0]))] (fun a : Nat → Nat => (w_St cI cJ cZ sh (a 0) (a 1) (a 2) (a 3) (a 4) (a 5) (a 6) (a 7) (a 8) (a 9) (a 10) r)) := by
  unfold f_St_init at hf
  refine Cxe.ofW (cc := b_St_init) (maxL := 1) (ret := none) (by decide) rfl ?_
  intro p e s m below meth c A C0 hP hK hD hA hns hZ
  obtain ⟨hx, hb, hml, hown, hts0, hr, hlocks, hnm, hno⟩ := C0
  have hown : s.vm.findClass R_St = some m.cls := hown
  have hts : ∀ w ∈ tb, w.before [.ref sh].toArray s = true := fun w h => hts0 w (List.mem_cons_of_mem _ h)
  have hS : va_S A s.heap s.heap [] := va_S.rf
  have hl := lv_entry ([.ref sh]) (n := 1) (Nat.le_of_ble_eq_true rfl)
  rw [lg_entry_eq]
  generalize (lg_sl ([.ref sh]) ++ List.replicate (1 - (lg_sl ([.ref sh])).length) Slot.unset).toArray = ls at hl ⊢
  have hl : lv_has ls 1 [(0, .ref sh)] := hl
  refine lv_aload_n hx hb d_St_init_0 rfl (lv_at hl 0 rfl) ?_
  refine W.objInit hx hb hown (hts _ k_40) (hts _ k_1) (hts _ k_2) rfl (by rw [hml]; exact hl.1) rfl d_St_init_1 (Nat.le_of_ble_eq_true rfl) (Nat.le_of_ble_eq_true rfl) ?_
  refine W.eq (g2 := F0 m 4 ls []) rfl ?_
  refine lv_aload_n hx hb d_St_init_4 rfl (lv_at hl 0 rfl) ?_
  refine va_new (ci := 0) (fs := [.null, .null, .null, .null]) (C := R_Co) (T := F_Co) (N := 4) hx hb hts i_Co t_Co t_Co_ok hown (hts _ k_41) (hts _ k_42) (hts _ k_11) hK hP hD hS hA rfl (fun j hj => x_fs_Co j hj) (Nat.le_of_ble_eq_true rfl) (Nat.le_of_ble_eq_true rfl) d_St_init_5 (fun q1 H hP hD hS => ?_)
  have hP : va_P D vwCl [(sh, .inr (1, [.null, .null, .null, .int 0, .int 0, .int 0, .int 0])), (q1, .inr (0, [.null, .null, .null, .null]))] H := hP
  have hD : va_D A [(sh, .inr (1, [.null, .null, .null, .int 0, .int 0, .int 0, .int 0])), (q1, .inr (0, [.null, .null, .null, .null]))] := hD
  refine lv_dup hx hb d_St_init_8 rfl ?_
  obtain ⟨z2, hz2, hf⟩ := x_bind hf
  refine x_callE ⟨hx, hb, hml, hown, hts⟩ (c_Co_init l D cI cJ cZ q1 N z2 hz2) (x_cwI 0 hts rfl k_43 k_44 k_11 k_45 rfl (by decide +kernel) ⟨(Nat.le_of_ble_eq_true rfl), (Nat.le_of_ble_eq_true rfl)⟩) hK hP hD hS hA hZ [1] [0] (by decide) rfl rfl (by decide) (by decide) rfl hl.1 rfl (Nat.le_of_ble_eq_true rfl) d_St_init_9 ⟨(Nat.le_of_ble_eq_true rfl), (Nat.le_of_ble_eq_true rfl)⟩ (fun q3 H locs hP hD hS => ?_)
  refine W.eq (g2 := F0 m 12 ls [.ref q1, .ref sh]) rfl ?_
  have hP : va_P D vwCl [(sh, .inr (1, [.null, .null, .null, .int 0, .int 0, .int 0, .int 0])), (q1, .inr (0, [.ref (q3 0), .ref (q3 1), .ref (q3 2), .ref (q3 3)])), ((q3 0), .inl (cI, 15, .inl z2.1)), ((q3 1), .inl (cI, 15, .inl z2.2.1)), ((q3 2), .inl (cI, 15, .inl z2.2.2.1)), ((q3 3), .inl (cI, 41, .inl z2.2.2.2))] H := hP
  have hD : va_D A [(sh, .inr (1, [.null, .null, .null, .int 0, .int 0, .int 0, .int 0])), (q1, .inr (0, [.ref (q3 0), .ref (q3 1), .ref (q3 2), .ref (q3 3)])), ((q3 0), .inl (cI, 15, .inl z2.1)), ((q3 1), .inl (cI, 15, .inl z2.2.1)), ((q3 2), .inl (cI, 15, .inl z2.2.2.1)), ((q3 3), .inl (cI, 41, .inl z2.2.2.2))] := hD
  refine va_putF (D := D) (ci := 1) (v := .ref q1) (ty := .object "RecordVersions$Content") (C := R_St) (T := F_St) (N := 7) hx hb hts i_St t_St t_St_ok n_St hown hK hP hD hS 0 rfl rfl 0 (by decide) (hts _ k_46) (fun _ h9 => h9) rfl hnm rfl (by decide +kernel) rfl rfl (Nat.le_of_ble_eq_true rfl) d_St_init_12 (fun H locs hP hD hS => ?_)
  have hP : va_P D vwCl [(sh, .inr (1, [.ref q1, .null, .null, .int 0, .int 0, .int 0, .int 0])), (q1, .inr (0, [.ref (q3 0), .ref (q3 1), .ref (q3 2), .ref (q3 3)])), ((q3 0), .inl (cI, 15, .inl z2.1)), ((q3 1), .inl (cI, 15, .inl z2.2.1)), ((q3 2), .inl (cI, 15, .inl z2.2.2.1)), ((q3 3), .inl (cI, 41, .inl z2.2.2.2))] H := hP
  have hD : va_D A [(sh, .inr (1, [.ref q1, .null, .null, .int 0, .int 0, .int 0, .int 0])), (q1, .inr (0, [.ref (q3 0), .ref (q3 1), .ref (q3 2), .ref (q3 3)])), ((q3 0), .inl (cI, 15, .inl z2.1)), ((q3 1), .inl (cI, 15, .inl z2.2.1)), ((q3 2), .inl (cI, 15, .inl z2.2.2.1)), ((q3 3), .inl (cI, 41, .inl z2.2.2.2))] := hD
  refine lv_aload_n hx hb d_St_init_15 rfl (lv_at hl 0 rfl) ?_
  refine va_new (ci := 0) (fs := [.null, .null, .null, .null]) (C := R_Co) (T := F_Co) (N := 4) hx hb hts i_Co t_Co t_Co_ok hown (hts _ k_41) (hts _ k_42) (hts _ k_11) hK hP hD hS hA rfl (fun j hj => x_fs_Co j hj) (Nat.le_of_ble_eq_true rfl) (Nat.le_of_ble_eq_true rfl) d_St_init_16 (fun q4 H hP hD hS => ?_)
  have hP : va_P D vwCl [(sh, .inr (1, [.ref q1, .null, .null, .int 0, .int 0, .int 0, .int 0])), (q1, .inr (0, [.ref (q3 0), .ref (q3 1), .ref (q3 2), .ref (q3 3)])), ((q3 0), .inl (cI, 15, .inl z2.1)), ((q3 1), .inl (cI, 15, .inl z2.2.1)), ((q3 2), .inl (cI, 15, .inl z2.2.2.1)), ((q3 3), .inl (cI, 41, .inl z2.2.2.2)), (q4, .inr (0, [.null, .null, .null, .null]))] H := hP
  have hD : va_D A [(sh, .inr (1, [.ref q1, .null, .null, .int 0, .int 0, .int 0, .int 0])), (q1, .inr (0, [.ref (q3 0), .ref (q3 1), .ref (q3 2), .ref (q3 3)])), ((q3 0), .inl (cI, 15, .inl z2.1)), ((q3 1), .inl (cI, 15, .inl z2.2.1)), ((q3 2), .inl (cI, 15, .inl z2.2.2.1)), ((q3 3), .inl (cI, 41, .inl z2.2.2.2)), (q4, .inr (0, [.null, .null, .null, .null]))] := hD
  refine lv_dup hx hb d_St_init_19 rfl ?_
  obtain ⟨z5, hz5, hf⟩ := x_bind hf
  refine x_callE ⟨hx, hb, hml, hown, hts⟩ (c_Co_init l D cI cJ cZ q4 N z5 hz5) (x_cwI 0 hts rfl k_43 k_44 k_11 k_45 rfl (by decide +kernel) ⟨(Nat.le_of_ble_eq_true rfl), (Nat.le_of_ble_eq_true rfl)⟩) hK hP hD hS hA hZ [6] [0, 1, 2, 3, 4, 5] (by decide) rfl rfl (by decide) (by decide) rfl hl.1 rfl (Nat.le_of_ble_eq_true rfl) d_St_init_20 ⟨(Nat.le_of_ble_eq_true rfl), (Nat.le_of_ble_eq_true rfl)⟩ (fun q6 H locs hP hD hS => ?_)
  refine W.eq (g2 := F0 m 23 ls [.ref q4, .ref sh]) rfl ?_
  have hP : va_P D vwCl [(sh, .inr (1, [.ref q1, .null, .null, .int 0, .int 0, .int 0, .int 0])), (q1, .inr (0, [.ref (q3 0), .ref (q3 1), .ref (q3 2), .ref (q3 3)])), ((q3 0), .inl (cI, 15, .inl z2.1)), ((q3 1), .inl (cI, 15, .inl z2.2.1)), ((q3 2), .inl (cI, 15, .inl z2.2.2.1)), ((q3 3), .inl (cI, 41, .inl z2.2.2.2)), (q4, .inr (0, [.ref (q6 0), .ref (q6 1), .ref (q6 2), .ref (q6 3)])), ((q6 0), .inl (cI, 15, .inl z5.1)), ((q6 1), .inl (cI, 15, .inl z5.2.1)), ((q6 2), .inl (cI, 15, .inl z5.2.2.1)), ((q6 3), .inl (cI, 41, .inl z5.2.2.2))] H := hP
  have hD : va_D A [(sh, .inr (1, [.ref q1, .null, .null, .int 0, .int 0, .int 0, .int 0])), (q1, .inr (0, [.ref (q3 0), .ref (q3 1), .ref (q3 2), .ref (q3 3)])), ((q3 0), .inl (cI, 15, .inl z2.1)), ((q3 1), .inl (cI, 15, .inl z2.2.1)), ((q3 2), .inl (cI, 15, .inl z2.2.2.1)), ((q3 3), .inl (cI, 41, .inl z2.2.2.2)), (q4, .inr (0, [.ref (q6 0), .ref (q6 1), .ref (q6 2), .ref (q6 3)])), ((q6 0), .inl (cI, 15, .inl z5.1)), ((q6 1), .inl (cI, 15, .inl z5.2.1)), ((q6 2), .inl (cI, 15, .inl z5.2.2.1)), ((q6 3), .inl (cI, 41, .inl z5.2.2.2))] := hD
  refine va_putF (D := D) (ci := 1) (v := .ref q4) (ty := .object "RecordVersions$Content") (C := R_St) (T := F_St) (N := 7) hx hb hts i_St t_St t_St_ok n_St hown hK hP hD hS 0 rfl rfl 1 (by decide) (hts _ k_47) (fun _ h9 => h9) rfl hnm rfl (by decide +kernel) rfl rfl (Nat.le_of_ble_eq_true rfl) d_St_init_23 (fun H locs hP hD hS => ?_)
  have hP : va_P D vwCl [(sh, .inr (1, [.ref q1, .ref q4, .null, .int 0, .int 0, .int 0, .int 0])), (q1, .inr (0, [.ref (q3 0), .ref (q3 1), .ref (q3 2), .ref (q3 3)])), ((q3 0), .inl (cI, 15, .inl z2.1)), ((q3 1), .inl (cI, 15, .inl z2.2.1)), ((q3 2), .inl (cI, 15, .inl z2.2.2.1)), ((q3 3), .inl (cI, 41, .inl z2.2.2.2)), (q4, .inr (0, [.ref (q6 0), .ref (q6 1), .ref (q6 2), .ref (q6 3)])), ((q6 0), .inl (cI, 15, .inl z5.1)), ((q6 1), .inl (cI, 15, .inl z5.2.1)), ((q6 2), .inl (cI, 15, .inl z5.2.2.1)), ((q6 3), .inl (cI, 41, .inl z5.2.2.2))] H := hP
  have hD : va_D A [(sh, .inr (1, [.ref q1, .ref q4, .null, .int 0, .int 0, .int 0, .int 0])), (q1, .inr (0, [.ref (q3 0), .ref (q3 1), .ref (q3 2), .ref (q3 3)])), ((q3 0), .inl (cI, 15, .inl z2.1)), ((q3 1), .inl (cI, 15, .inl z2.2.1)), ((q3 2), .inl (cI, 15, .inl z2.2.2.1)), ((q3 3), .inl (cI, 41, .inl z2.2.2.2)), (q4, .inr (0, [.ref (q6 0), .ref (q6 1), .ref (q6 2), .ref (q6 3)])), ((q6 0), .inl (cI, 15, .inl z5.1)), ((q6 1), .inl (cI, 15, .inl z5.2.1)), ((q6 2), .inl (cI, 15, .inl z5.2.2.1)), ((q6 3), .inl (cI, 41, .inl z5.2.2.2))] := hD
  refine lv_aload_n hx hb d_St_init_26 rfl (lv_at hl 0 rfl) ?_
  refine lv_bipush (v := (7 : Int32)) hx hb d_St_init_27 (by decide) ?_
  refine x_newI (N := 7) hx hb (hts _ k_3) hK hP hD hS hA (by decide) (by decide) (by decide) (Nat.le_of_ble_eq_true rfl) (Nat.le_of_ble_eq_true rfl) d_St_init_29 (fun q7 H hP hD hS => ?_)
  have hP : va_P D vwCl [(sh, .inr (1, [.ref q1, .ref q4, .null, .int 0, .int 0, .int 0, .int 0])), (q1, .inr (0, [.ref (q3 0), .ref (q3 1), .ref (q3 2), .ref (q3 3)])), ((q3 0), .inl (cI, 15, .inl z2.1)), ((q3 1), .inl (cI, 15, .inl z2.2.1)), ((q3 2), .inl (cI, 15, .inl z2.2.2.1)), ((q3 3), .inl (cI, 41, .inl z2.2.2.2)), (q4, .inr (0, [.ref (q6 0), .ref (q6 1), .ref (q6 2), .ref (q6 3)])), ((q6 0), .inl (cI, 15, .inl z5.1)), ((q6 1), .inl (cI, 15, .inl z5.2.1)), ((q6 2), .inl (cI, 15, .inl z5.2.2.1)), ((q6 3), .inl (cI, 41, .inl z5.2.2.2)), (q7, .inl (cI, 7, .inl (fun _ => 0)))] H := hP
  have hD : va_D A [(sh, .inr (1, [.ref q1, .ref q4, .null, .int 0, .int 0, .int 0, .int 0])), (q1, .inr (0, [.ref (q3 0), .ref (q3 1), .ref (q3 2), .ref (q3 3)])), ((q3 0), .inl (cI, 15, .inl z2.1)), ((q3 1), .inl (cI, 15, .inl z2.2.1)), ((q3 2), .inl (cI, 15, .inl z2.2.2.1)), ((q3 3), .inl (cI, 41, .inl z2.2.2.2)), (q4, .inr (0, [.ref (q6 0), .ref (q6 1), .ref (q6 2), .ref (q6 3)])), ((q6 0), .inl (cI, 15, .inl z5.1)), ((q6 1), .inl (cI, 15, .inl z5.2.1)), ((q6 2), .inl (cI, 15, .inl z5.2.2.1)), ((q6 3), .inl (cI, 41, .inl z5.2.2.2)), (q7, .inl (cI, 7, .inl (fun _ => 0)))] := hD
  refine va_putF (D := D) (ci := 1) (v := .ref q7) (ty := .array .int) (C := R_St) (T := F_St) (N := 7) hx hb hts i_St t_St t_St_ok n_St hown hK hP hD hS 0 rfl rfl 2 (by decide) (hts _ k_48) (fun _ h9 => h9) rfl hnm rfl (by decide +kernel) rfl rfl (Nat.le_of_ble_eq_true rfl) d_St_init_31 (fun H locs hP hD hS => ?_)
  have hP : va_P D vwCl [(sh, .inr (1, [.ref q1, .ref q4, .ref q7, .int 0, .int 0, .int 0, .int 0])), (q1, .inr (0, [.ref (q3 0), .ref (q3 1), .ref (q3 2), .ref (q3 3)])), ((q3 0), .inl (cI, 15, .inl z2.1)), ((q3 1), .inl (cI, 15, .inl z2.2.1)), ((q3 2), .inl (cI, 15, .inl z2.2.2.1)), ((q3 3), .inl (cI, 41, .inl z2.2.2.2)), (q4, .inr (0, [.ref (q6 0), .ref (q6 1), .ref (q6 2), .ref (q6 3)])), ((q6 0), .inl (cI, 15, .inl z5.1)), ((q6 1), .inl (cI, 15, .inl z5.2.1)), ((q6 2), .inl (cI, 15, .inl z5.2.2.1)), ((q6 3), .inl (cI, 41, .inl z5.2.2.2)), (q7, .inl (cI, 7, .inl (fun _ => 0)))] H := hP
  have hD : va_D A [(sh, .inr (1, [.ref q1, .ref q4, .ref q7, .int 0, .int 0, .int 0, .int 0])), (q1, .inr (0, [.ref (q3 0), .ref (q3 1), .ref (q3 2), .ref (q3 3)])), ((q3 0), .inl (cI, 15, .inl z2.1)), ((q3 1), .inl (cI, 15, .inl z2.2.1)), ((q3 2), .inl (cI, 15, .inl z2.2.2.1)), ((q3 3), .inl (cI, 41, .inl z2.2.2.2)), (q4, .inr (0, [.ref (q6 0), .ref (q6 1), .ref (q6 2), .ref (q6 3)])), ((q6 0), .inl (cI, 15, .inl z5.1)), ((q6 1), .inl (cI, 15, .inl z5.2.1)), ((q6 2), .inl (cI, 15, .inl z5.2.2.1)), ((q6 3), .inl (cI, 41, .inl z5.2.2.2)), (q7, .inl (cI, 7, .inl (fun _ => 0)))] := hD
  have hP : va_P D vwCl (w_St cI cJ cZ sh q1 (q3 0) (q3 1) (q3 2) (q3 3) q4 (q6 0) (q6 1) (q6 2) (q6 3) q7 (z2, (z5, ((fun _ => 0), ((0 : Int32), ((0 : Int32), ((0 : Int32), (0 : Int32)))))))) H := hP.sub [0, 1, 2, 3, 4, 5, 6, 7, 8, 9, 10, 11] rfl
  have hD : va_D A (w_St cI cJ cZ sh q1 (q3 0) (q3 1) (q3 2) (q3 3) q4 (q6 0) (q6 1) (q6 2) (q6 3) q7 (z2, (z5, ((fun _ => 0), ((0 : Int32), ((0 : Int32), ((0 : Int32), (0 : Int32)))))))) := hD.sub [0, 1, 2, 3, 4, 5, 6, 7, 8, 9, 10, 11] (by decide) rfl
  obtain rfl := Option.some.inj hf
  exact x_vretE (fun k => match k with | 0 => q1 | 1 => (q3 0) | 2 => (q3 1) | 3 => (q3 2) | 4 => (q3 3) | 5 => q4 | 6 => (q6 0) | 7 => (q6 1) | 8 => (q6 2) | 9 => (q6 3) | _ => q7) hx hb hr hlocks hK hP hD hS (Nat.le_of_ble_eq_true rfl) (Nat.le_of_ble_eq_true rfl) d_St_init_34
set_option maxHeartbeats 4000000 in
set_option maxRecDepth 100000 in
theorem c_St_changed (l : Launch) (D : va_G) (cI cJ cZ : ClassId) (sh mh m0 m1 m2 m3 dh d0 d1 d2 d3 ea : Nat) (N : Nat) (p0 : Int32) (U : K_St) (r : (Unit × K_St)) (hf : f_St_changed N p0 U = some r) : Cx l y_St_changed ws_St_changed rm_St_changed D vwCl (tyL cI cJ cZ) [.ref sh, .int p0] (w_St cI cJ cZ sh mh m0 m1 m2 m3 dh d0 d1 d2 d3 ea U) (oV r.1) (w_St cI cJ cZ sh mh m0 m1 m2 m3 dh d0 d1 d2 d3 ea r.2) := by
  unfold f_St_changed at hf
  refine Cx.ofW (cc := b_St_changed) (maxL := 2) (ret := none) (by decide) rfl ?_
  intro p e s m below meth c A C0 hP hK hD hA hns hZ
  obtain ⟨hx, hb, hml, hown, hts0, hr, hlocks, hnm, hno⟩ := C0
  have hown : s.vm.findClass R_St = some m.cls := hown
  have hts : ∀ w ∈ tb, w.before [.ref sh, .int p0].toArray s = true := fun w h => hts0 w (List.mem_cons_of_mem _ h)
  have hS : va_S A s.heap s.heap [] := va_S.rf
  have hl := lv_entry ([.ref sh, .int p0]) (n := 2) (Nat.le_of_ble_eq_true rfl)
  rw [lg_entry_eq]
  generalize (lg_sl ([.ref sh, .int p0]) ++ List.replicate (2 - (lg_sl ([.ref sh, .int p0])).length) Slot.unset).toArray = ls at hl ⊢
  have hl : lv_has ls 2 [(0, .ref sh), (1, .int p0)] := hl
  refine lv_aload_n hx hb d_St_changed_0 rfl (lv_at hl 0 rfl) ?_
  refine lv_dup hx hb d_St_changed_1 rfl ?_
  refine va_get (D := D) (ci := 1) (v := .int U.2.2.2.1) (C := R_St) (T := F_St) (N := 7) hx hb hts i_St hown hK hP 0 rfl rfl 3 (by decide) (hts _ k_49) (fun _ h9 => h9) rfl d_St_changed_2 ?_
  refine lv_iconst (v := (1 : Int32)) hx hb d_St_changed_5 (by decide) ?_
  refine lv_iload_n hx hb d_St_changed_6 rfl (lv_at hl 1 rfl) ?_
  refine lv_ishl hx hb d_St_changed_7 ?_
  refine lv_ior hx hb d_St_changed_8 ?_
  refine va_put (D := D) (ci := 1) (v := .int (U.2.2.2.1 ||| ((1 : Int32) <<< (p0 &&& 31)))) (ty := .int) (C := R_St) (T := F_St) (N := 7) hx hb hts i_St t_St t_St_ok n_St hown hK hP hD hS 0 rfl rfl 3 (by decide) (hts _ k_49) (fun _ h9 => h9) rfl (by decide +kernel) rfl rfl (Nat.le_of_ble_eq_true rfl) d_St_changed_9 (fun H locs hP hD hS => ?_)
  have hP : va_P D vwCl (w_St cI cJ cZ sh mh m0 m1 m2 m3 dh d0 d1 d2 d3 ea (U.1, (U.2.1, (U.2.2.1, ((U.2.2.2.1 ||| ((1 : Int32) <<< (p0 &&& 31))), U.2.2.2.2))))) H := hP
  have hD : va_D A (w_St cI cJ cZ sh mh m0 m1 m2 m3 dh d0 d1 d2 d3 ea (U.1, (U.2.1, (U.2.2.1, ((U.2.2.2.1 ||| ((1 : Int32) <<< (p0 &&& 31))), U.2.2.2.2))))) := hD
  obtain rfl := Option.some.inj hf
  exact x_vret hx hb hr hlocks hK hP hD hS (Nat.le_of_ble_eq_true rfl) (Nat.le_of_ble_eq_true rfl) d_St_changed_12
set_option maxHeartbeats 4000000 in
set_option maxRecDepth 100000 in
theorem c_St_failsNow (l : Launch) (D : va_G) (cI cJ cZ : ClassId) (sh mh m0 m1 m2 m3 dh d0 d1 d2 d3 ea : Nat) (N : Nat) (U : K_St) (r : (Int32 × K_St)) (hf : f_St_failsNow N U = some r) : Cx l y_St_failsNow ws_St_failsNow rm_St_failsNow D vwCl (tyL cI cJ cZ) [.ref sh] (w_St cI cJ cZ sh mh m0 m1 m2 m3 dh d0 d1 d2 d3 ea U) (oI r.1) (w_St cI cJ cZ sh mh m0 m1 m2 m3 dh d0 d1 d2 d3 ea r.2) := by
  unfold f_St_failsNow at hf
  refine Cx.ofW (cc := b_St_failsNow) (maxL := 1) (ret := (some .boolean)) (by decide) rfl ?_
  intro p e s m below meth c A C0 hP hK hD hA hns hZ
  obtain ⟨hx, hb, hml, hown, hts0, hr, hlocks, hnm, hno⟩ := C0
  have hown : s.vm.findClass R_St = some m.cls := hown
  have hts : ∀ w ∈ tb, w.before [.ref sh].toArray s = true := fun w h => hts0 w (List.mem_cons_of_mem _ h)
  have hS : va_S A s.heap s.heap [] := va_S.rf
  have hl := lv_entry ([.ref sh]) (n := 1) (Nat.le_of_ble_eq_true rfl)
  rw [lg_entry_eq]
  generalize (lg_sl ([.ref sh]) ++ List.replicate (1 - (lg_sl ([.ref sh])).length) Slot.unset).toArray = ls at hl ⊢
  have hl : lv_has ls 1 [(0, .ref sh)] := hl
  refine lv_aload_n hx hb d_St_failsNow_0 rfl (lv_at hl 0 rfl) ?_
  refine va_get (D := D) (ci := 1) (v := .int U.2.2.2.2.2.2) (C := R_St) (T := F_St) (N := 7) hx hb hts i_St hown hK hP 0 rfl rfl 6 (by decide) (hts _ k_50) (fun _ h9 => h9) rfl d_St_failsNow_1 ?_
  refine lv_if_ne (tgt := 9) hx hb d_St_failsNow_4 (by decide) (fun c2 => ?_) (fun c2 => ?_)
  · have hf := x_ifn c2 hf
    refine lv_aload_n hx hb d_St_failsNow_9 rfl (lv_at hl 0 rfl) ?_
    refine lv_dup hx hb d_St_failsNow_10 rfl ?_
    refine va_get (D := D) (ci := 1) (v := .int U.2.2.2.2.2.2) (C := R_St) (T := F_St) (N := 7) hx hb hts i_St hown hK hP 0 rfl rfl 6 (by decide) (hts _ k_50) (fun _ h9 => h9) rfl d_St_failsNow_11 ?_
    refine lv_iconst (v := (1 : Int32)) hx hb d_St_failsNow_14 (by decide) ?_
    refine lv_isub hx hb d_St_failsNow_15 ?_
    refine va_put (D := D) (ci := 1) (v := .int (U.2.2.2.2.2.2 - (1 : Int32))) (ty := .int) (C := R_St) (T := F_St) (N := 7) hx hb hts i_St t_St t_St_ok n_St hown hK hP hD hS 0 rfl rfl 6 (by decide) (hts _ k_50) (fun _ h9 => h9) rfl (by decide +kernel) rfl rfl (Nat.le_of_ble_eq_true rfl) d_St_failsNow_16 (fun H locs hP hD hS => ?_)
    have hP : va_P D vwCl (w_St cI cJ cZ sh mh m0 m1 m2 m3 dh d0 d1 d2 d3 ea (U.1, (U.2.1, (U.2.2.1, (U.2.2.2.1, (U.2.2.2.2.1, (U.2.2.2.2.2.1, (U.2.2.2.2.2.2 - (1 : Int32))))))))) H := hP
    have hD : va_D A (w_St cI cJ cZ sh mh m0 m1 m2 m3 dh d0 d1 d2 d3 ea (U.1, (U.2.1, (U.2.2.1, (U.2.2.2.1, (U.2.2.2.2.1, (U.2.2.2.2.2.1, (U.2.2.2.2.2.2 - (1 : Int32))))))))) := hD
    refine lv_aload_n hx hb d_St_failsNow_19 rfl (lv_at hl 0 rfl) ?_
    refine va_get (D := D) (ci := 1) (v := .int (U.2.2.2.2.2.2 - (1 : Int32))) (C := R_St) (T := F_St) (N := 7) hx hb hts i_St hown hK hP 0 rfl rfl 6 (by decide) (hts _ k_50) (fun _ h9 => h9) rfl d_St_failsNow_20 ?_
    refine lv_if_ne (tgt := 30) hx hb d_St_failsNow_23 (by decide) (fun c1 => ?_) (fun c1 => ?_)
    · have hf := x_ifn c1 hf
      refine lv_iconst (v := (0 : Int32)) hx hb d_St_failsNow_30 (by decide) ?_
      obtain rfl := Option.some.inj hf
      exact x_zret hx hb hr hlocks (x_nb (Or.inl rfl)) hK hP hD hS (Nat.le_of_ble_eq_true rfl) (Nat.le_of_ble_eq_true rfl) d_St_failsNow_31
    · have hf := x_ifp c1 hf
      refine lv_iconst (v := (1 : Int32)) hx hb d_St_failsNow_26 (by decide) ?_
      refine lv_goto (tgt := 31) hx hb d_St_failsNow_27 (by decide) ?_
      obtain rfl := Option.some.inj hf
      exact x_zret hx hb hr hlocks (x_nb (Or.inr rfl)) hK hP hD hS (Nat.le_of_ble_eq_true rfl) (Nat.le_of_ble_eq_true rfl) d_St_failsNow_31
  · have hf := x_ifp c2 hf
    refine lv_iconst (v := (0 : Int32)) hx hb d_St_failsNow_7 (by decide) ?_
    obtain rfl := Option.some.inj hf
    exact x_zret hx hb hr hlocks (x_nb (Or.inl rfl)) hK hP hD hS (Nat.le_of_ble_eq_true rfl) (Nat.le_of_ble_eq_true rfl) d_St_failsNow_8
set_option maxHeartbeats 4000000 in
set_option maxRecDepth 100000 in
theorem c_St_settle (l : Launch) (D : va_G) (cI cJ cZ : ClassId) (sh mh m0 m1 m2 m3 dh d0 d1 d2 d3 ea : Nat) (N : Nat) (p0 : Int32) (U : K_St) (r : (Unit × K_St)) (hf : f_St_settle N p0 U = some r) : Cx l y_St_settle ws_St_settle rm_St_settle D vwCl (tyL cI cJ cZ) [.ref sh, .int p0] (w_St cI cJ cZ sh mh m0 m1 m2 m3 dh d0 d1 d2 d3 ea U) (oV r.1) (w_St cI cJ cZ sh mh m0 m1 m2 m3 dh d0 d1 d2 d3 ea r.2) := by
  unfold f_St_settle at hf
  refine Cx.ofW (cc := b_St_settle) (maxL := 3) (ret := none) (by decide) rfl ?_
  intro p e s m below meth c A C0 hP hK hD hA hns hZ
  obtain ⟨hx, hb, hml, hown, hts0, hr, hlocks, hnm, hno⟩ := C0
  have hown : s.vm.findClass R_St = some m.cls := hown
  have hts : ∀ w ∈ tb, w.before [.ref sh, .int p0].toArray s = true := fun w h => hts0 w (List.mem_cons_of_mem _ h)
  have hS : va_S A s.heap s.heap [] := va_S.rf
  have hl := lv_entry ([.ref sh, .int p0]) (n := 3) (Nat.le_of_ble_eq_true rfl)
  rw [lg_entry_eq]
  generalize (lg_sl ([.ref sh, .int p0]) ++ List.replicate (3 - (lg_sl ([.ref sh, .int p0])).length) Slot.unset).toArray = ls at hl ⊢
  have hl : lv_has ls 3 [(0, .ref sh), (1, .int p0)] := hl
  have L_16 : ∀ n : Nat, ∀ (x1 : Int32) (x2 : Int32) (U : K_St), f_St_settle_16 N n x1 x2 U = some r → ∀ (H : Heap) (locs : List Loc) (ls : Array Slot), va_P D vwCl (w_St cI cJ cZ sh mh m0 m1 m2 m3 dh d0 d1 d2 d3 ea U) H → va_D A (w_St cI cJ cZ sh mh m0 m1 m2 m3 dh d0 d1 d2 d3 ea U) → va_S A s.heap H locs → lv_has ls 3 [(0, .ref sh), (1, .int x1), (2, .int x2)] → W p l e (rm_St_settle) s m [.ref sh, .int p0].toArray below meth c H locs 0 0 (xQ D vwCl (tyL cI cJ cZ) below s A (oV r.1) (w_St cI cJ cZ sh mh m0 m1 m2 m3 dh d0 d1 d2 d3 ea r.2) (rm_St_settle).cells (rm_St_settle).slots) (F0 m 16 ls []) := by
    intro n
    induction n with
    | zero =>
      intro x1 x2 U hf
      have hf : (none : Option (Unit × K_St)) = some r := hf
      cases hf
    | succ n ih =>
      intro x1 x2 U hf H locs ls hP hD hS hl
      rw [f_St_settle_16] at hf
      refine lv_iload_n hx hb d_St_settle_16 rfl (lv_at hl 2 rfl) ?_
      refine lv_bipush (v := (7 : Int32)) hx hb d_St_settle_17 (by decide) ?_
      refine lv_icmp_ge (tgt := 42) hx hb d_St_settle_19 (by decide) (fun c3 => ?_) (fun c3 => ?_)
      · have hf := x_ifp c3 hf
        refine lv_aload_n hx hb d_St_settle_42 rfl (lv_at hl 0 rfl) ?_
        refine lv_dup hx hb d_St_settle_43 rfl ?_
        refine va_get (D := D) (ci := 1) (v := .int U.2.2.2.2.1) (C := R_St) (T := F_St) (N := 7) hx hb hts i_St hown hK hP 0 rfl rfl 4 (by decide) (hts _ k_51) (fun _ h9 => h9) rfl d_St_settle_44 ?_
        refine lv_iconst (v := (1 : Int32)) hx hb d_St_settle_47 (by decide) ?_
        refine lv_iadd hx hb d_St_settle_48 ?_
        refine va_put (D := D) (ci := 1) (v := .int (U.2.2.2.2.1 + (1 : Int32))) (ty := .int) (C := R_St) (T := F_St) (N := 7) hx hb hts i_St t_St t_St_ok n_St hown hK hP hD hS 0 rfl rfl 4 (by decide) (hts _ k_51) (fun _ h9 => h9) rfl (by decide +kernel) rfl rfl (Nat.le_of_ble_eq_true rfl) d_St_settle_49 (fun H locs hP hD hS => ?_)
        have hP : va_P D vwCl (w_St cI cJ cZ sh mh m0 m1 m2 m3 dh d0 d1 d2 d3 ea (U.1, (U.2.1, (U.2.2.1, (U.2.2.2.1, ((U.2.2.2.2.1 + (1 : Int32)), U.2.2.2.2.2)))))) H := hP
        have hD : va_D A (w_St cI cJ cZ sh mh m0 m1 m2 m3 dh d0 d1 d2 d3 ea (U.1, (U.2.1, (U.2.2.1, (U.2.2.2.1, ((U.2.2.2.2.1 + (1 : Int32)), U.2.2.2.2.2)))))) := hD
        obtain rfl := Option.some.inj hf
        exact x_vret hx hb hr hlocks hK hP hD hS (Nat.le_of_ble_eq_true rfl) (Nat.le_of_ble_eq_true rfl) d_St_settle_52
      · have hf := x_ifn c3 hf
        refine lv_aload_n hx hb d_St_settle_22 rfl (lv_at hl 0 rfl) ?_
        refine va_get (D := D) (ci := 1) (v := .ref ea) (C := R_St) (T := F_St) (N := 7) hx hb hts i_St hown hK hP 0 rfl rfl 2 (by decide) (hts _ k_48) (fun _ h9 => h9) rfl d_St_settle_23 ?_
        refine lv_iload_n hx hb d_St_settle_26 rfl (lv_at hl 2 rfl) ?_
        refine lv_dup2_11 hx hb d_St_settle_27 rfl rfl ?_
        obtain ⟨g1, hf⟩ := x_if hf
        refine va_iald hx hb hK hP 11 0 rfl rfl (xi_in g1) d_St_settle_28 ?_
        refine lv_iconst (v := (1 : Int32)) hx hb d_St_settle_29 (by decide) ?_
        refine lv_iload_n hx hb d_St_settle_30 rfl (lv_at hl 1 rfl) ?_
        refine lv_ishl hx hb d_St_settle_31 ?_
        refine lv_iconst (v := (-1 : Int32)) hx hb d_St_settle_32 (by decide) ?_
        refine lv_ixor hx hb d_St_settle_33 ?_
        refine lv_iand hx hb d_St_settle_34 ?_
        obtain ⟨g2, hf⟩ := x_if hf
        refine va_iast hx hb hK hP hD hS 11 0 rfl rfl (xi_in g2) d_St_settle_35 (fun H locs hP hD hS => ?_)
        have hP : va_P D vwCl (w_St cI cJ cZ sh mh m0 m1 m2 m3 dh d0 d1 d2 d3 ea (U.1, (U.2.1, ((upd U.2.2.1 x2.toNatClampNeg ((U.2.2.1 x2.toNatClampNeg) &&& (((1 : Int32) <<< (x1 &&& 31)) ^^^ (-1 : Int32)))), U.2.2.2)))) H := hP
        have hD : va_D A (w_St cI cJ cZ sh mh m0 m1 m2 m3 dh d0 d1 d2 d3 ea (U.1, (U.2.1, ((upd U.2.2.1 x2.toNatClampNeg ((U.2.2.1 x2.toNatClampNeg) &&& (((1 : Int32) <<< (x1 &&& 31)) ^^^ (-1 : Int32)))), U.2.2.2)))) := hD
        refine lv_iinc (v := (x2 + (1 : Int32))) (lv' := [(2, .int (x2 + (1 : Int32))), (0, .ref sh), (1, .int x1)]) hx hb d_St_settle_36 hl (k := 2) rfl rfl (by decide) rfl (fun ls hl => ?_)
        refine lv_goto (tgt := 16) hx hb d_St_settle_39 (by decide) ?_
        exact ih _ _ _ hf _ _ _ hP hD hS (lv_sub hl [1, 2, 0] rfl)
  refine lv_aload_n hx hb d_St_settle_0 rfl (lv_at hl 0 rfl) ?_
  refine lv_dup hx hb d_St_settle_1 rfl ?_
  refine va_get (D := D) (ci := 1) (v := .int U.2.2.2.1) (C := R_St) (T := F_St) (N := 7) hx hb hts i_St hown hK hP 0 rfl rfl 3 (by decide) (hts _ k_49) (fun _ h9 => h9) rfl d_St_settle_2 ?_
  refine lv_iconst (v := (1 : Int32)) hx hb d_St_settle_5 (by decide) ?_
  refine lv_iload_n hx hb d_St_settle_6 rfl (lv_at hl 1 rfl) ?_
  refine lv_ishl hx hb d_St_settle_7 ?_
  refine lv_iconst (v := (-1 : Int32)) hx hb d_St_settle_8 (by decide) ?_
  refine lv_ixor hx hb d_St_settle_9 ?_
  refine lv_iand hx hb d_St_settle_10 ?_
  refine va_put (D := D) (ci := 1) (v := .int (U.2.2.2.1 &&& (((1 : Int32) <<< (p0 &&& 31)) ^^^ (-1 : Int32)))) (ty := .int) (C := R_St) (T := F_St) (N := 7) hx hb hts i_St t_St t_St_ok n_St hown hK hP hD hS 0 rfl rfl 3 (by decide) (hts _ k_49) (fun _ h9 => h9) rfl (by decide +kernel) rfl rfl (Nat.le_of_ble_eq_true rfl) d_St_settle_11 (fun H locs hP hD hS => ?_)
  have hP : va_P D vwCl (w_St cI cJ cZ sh mh m0 m1 m2 m3 dh d0 d1 d2 d3 ea (U.1, (U.2.1, (U.2.2.1, ((U.2.2.2.1 &&& (((1 : Int32) <<< (p0 &&& 31)) ^^^ (-1 : Int32))), U.2.2.2.2))))) H := hP
  have hD : va_D A (w_St cI cJ cZ sh mh m0 m1 m2 m3 dh d0 d1 d2 d3 ea (U.1, (U.2.1, (U.2.2.1, ((U.2.2.2.1 &&& (((1 : Int32) <<< (p0 &&& 31)) ^^^ (-1 : Int32))), U.2.2.2.2))))) := hD
  refine lv_iconst (v := (0 : Int32)) hx hb d_St_settle_14 (by decide) ?_
  refine lv_istore_n (lv' := [(2, .int (0 : Int32)), (0, .ref sh), (1, .int p0)]) hx hb d_St_settle_15 rfl hl (by decide) rfl (fun ls hl => ?_)
  exact L_16 _ _ _ _ hf _ _ _ hP hD hS (lv_sub hl [1, 2, 0] rfl)
set_option maxHeartbeats 4000000 in
set_option maxRecDepth 100000 in
theorem c_St_fall (l : Launch) (D : va_G) (cI cJ cZ : ClassId) (sh mh m0 m1 m2 m3 dh d0 d1 d2 d3 ea : Nat) (N : Nat) (U : K_St) (r : (Unit × K_St)) (hf : f_St_fall N U = some r) : Cx l y_St_fall ws_St_fall rm_St_fall D vwCl (tyL cI cJ cZ) [.ref sh] (w_St cI cJ cZ sh mh m0 m1 m2 m3 dh d0 d1 d2 d3 ea U) (oV r.1) (w_St cI cJ cZ sh mh m0 m1 m2 m3 dh d0 d1 d2 d3 ea r.2) := by
  unfold f_St_fall at hf
  refine Cx.ofW (cc := b_St_fall) (maxL := 2) (ret := none) (by decide) rfl ?_
  intro p e s m below meth c A C0 hP hK hD hA hns hZ
  obtain ⟨hx, hb, hml, hown, hts0, hr, hlocks, hnm, hno⟩ := C0
  have hown : s.vm.findClass R_St = some m.cls := hown
  have hts : ∀ w ∈ tb, w.before [.ref sh].toArray s = true := fun w h => hts0 w (List.mem_cons_of_mem _ h)
  have hS : va_S A s.heap s.heap [] := va_S.rf
  have hl := lv_entry ([.ref sh]) (n := 2) (Nat.le_of_ble_eq_true rfl)
  rw [lg_entry_eq]
  generalize (lg_sl ([.ref sh]) ++ List.replicate (2 - (lg_sl ([.ref sh])).length) Slot.unset).toArray = ls at hl ⊢
  have hl : lv_has ls 2 [(0, .ref sh)] := hl
  have L_50 : ∀ n : Nat, ∀ (x1 : Int32) (U : K_St), f_St_fall_50 N n x1 U = some r → ∀ (H : Heap) (locs : List Loc) (ls : Array Slot), va_P D vwCl (w_St cI cJ cZ sh mh m0 m1 m2 m3 dh d0 d1 d2 d3 ea U) H → va_D A (w_St cI cJ cZ sh mh m0 m1 m2 m3 dh d0 d1 d2 d3 ea U) → va_S A s.heap H locs → lv_has ls 2 [(0, .ref sh), (1, .int x1)] → W p l e (rm_St_fall) s m [.ref sh].toArray below meth c H locs 0 0 (xQ D vwCl (tyL cI cJ cZ) below s A (oV r.1) (w_St cI cJ cZ sh mh m0 m1 m2 m3 dh d0 d1 d2 d3 ea r.2) (rm_St_fall).cells (rm_St_fall).slots) (F0 m 50 ls []) := by
    intro n
    induction n with
    | zero =>
      intro x1 U hf
      have hf : (none : Option (Unit × K_St)) = some r := hf
      cases hf
    | succ n ih =>
      intro x1 U hf H locs ls hP hD hS hl
      rw [f_St_fall_50] at hf
      refine lv_iload_n hx hb d_St_fall_50 rfl (lv_at hl 1 rfl) ?_
      refine lv_bipush (v := (40 : Int32)) hx hb d_St_fall_51 (by decide) ?_
      refine lv_icmp_gt (tgt := 91) hx hb d_St_fall_53 (by decide) (fun c5 => ?_) (fun c5 => ?_)
      · have hf := x_ifp c5 hf
        obtain rfl := Option.some.inj hf
        exact x_vret hx hb hr hlocks hK hP hD hS (Nat.le_of_ble_eq_true rfl) (Nat.le_of_ble_eq_true rfl) d_St_fall_91
      · have hf := x_ifn c5 hf
        refine lv_aload_n hx hb d_St_fall_56 rfl (lv_at hl 0 rfl) ?_
        refine va_get (D := D) (ci := 1) (v := .ref mh) (C := R_St) (T := F_St) (N := 7) hx hb hts i_St hown hK hP 0 rfl rfl 0 (by decide) (hts _ k_46) (fun _ h9 => h9) rfl d_St_fall_57 ?_
        refine va_get (D := D) (ci := 0) (v := .ref m3) (C := R_Co) (T := F_Co) (N := 4) hx hb hts i_Co hown hK hP 1 rfl rfl 3 (by decide) (hts _ k_62) (fun _ h9 => h9) rfl d_St_fall_60 ?_
        refine lv_iload_n hx hb d_St_fall_63 rfl (lv_at hl 1 rfl) ?_
        obtain ⟨g1, hf⟩ := x_if hf
        refine va_iald hx hb hK hP 5 0 rfl rfl (xi_in g1) d_St_fall_64 ?_
        refine lv_iconst (v := (1 : Int32)) hx hb d_St_fall_65 (by decide) ?_
        refine lv_icmp_ne (tgt := 85) hx hb d_St_fall_66 (by decide) (fun c4 => ?_) (fun c4 => ?_)
        · have hf := x_ifn c4 hf
          refine lv_iinc (v := (x1 + (1 : Int32))) (lv' := [(1, .int (x1 + (1 : Int32))), (0, .ref sh)]) hx hb d_St_fall_85 hl (k := 1) rfl rfl (by decide) rfl (fun ls hl => ?_)
          refine lv_goto (tgt := 50) hx hb d_St_fall_88 (by decide) ?_
          exact ih _ _ hf _ _ _ hP hD hS (lv_sub hl [1, 0] rfl)
        · have hf := x_ifp c4 hf
          refine lv_aload_n hx hb d_St_fall_69 rfl (lv_at hl 0 rfl) ?_
          refine va_get (D := D) (ci := 1) (v := .ref mh) (C := R_St) (T := F_St) (N := 7) hx hb hts i_St hown hK hP 0 rfl rfl 0 (by decide) (hts _ k_46) (fun _ h9 => h9) rfl d_St_fall_70 ?_
          refine va_get (D := D) (ci := 0) (v := .ref m3) (C := R_Co) (T := F_Co) (N := 4) hx hb hts i_Co hown hK hP 1 rfl rfl 3 (by decide) (hts _ k_62) (fun _ h9 => h9) rfl d_St_fall_73 ?_
          refine lv_iload_n hx hb d_St_fall_76 rfl (lv_at hl 1 rfl) ?_
          refine lv_iconst (v := (3 : Int32)) hx hb d_St_fall_77 (by decide) ?_
          obtain ⟨g2, hf⟩ := x_if hf
          refine va_iast hx hb hK hP hD hS 5 0 rfl rfl (xi_in g2) d_St_fall_78 (fun H locs hP hD hS => ?_)
          have hP : va_P D vwCl (w_St cI cJ cZ sh mh m0 m1 m2 m3 dh d0 d1 d2 d3 ea ((U.1.1, (U.1.2.1, (U.1.2.2.1, (upd U.1.2.2.2 x1.toNatClampNeg (3 : Int32))))), U.2)) H := hP
          have hD : va_D A (w_St cI cJ cZ sh mh m0 m1 m2 m3 dh d0 d1 d2 d3 ea ((U.1.1, (U.1.2.1, (U.1.2.2.1, (upd U.1.2.2.2 x1.toNatClampNeg (3 : Int32))))), U.2)) := hD
          refine lv_aload_n hx hb d_St_fall_79 rfl (lv_at hl 0 rfl) ?_
          refine lv_bipush (v := (6 : Int32)) hx hb d_St_fall_80 (by decide) ?_
          obtain ⟨z3, hz3, hf⟩ := x_bind hf
          refine x_callV (w2 := (w_St cI cJ cZ sh mh m0 m1 m2 m3 dh d0 d1 d2 d3 ea z3.2)) ⟨hx, hb, hml, hown, hts⟩ (c_St_changed l D cI cJ cZ sh mh m0 m1 m2 m3 dh d0 d1 d2 d3 ea N (6 : Int32) ((U.1.1, (U.1.2.1, (U.1.2.2.1, (upd U.1.2.2.2 x1.toNatClampNeg (3 : Int32))))), U.2) z3 hz3) (x_cwV 1 hts rfl k_63 k_64 k_65 k_55 k_66 (by decide +kernel) ⟨(Nat.le_of_ble_eq_true rfl), (Nat.le_of_ble_eq_true rfl)⟩) hK hP hD hS hA hZ [0, 1, 2, 3, 4, 5, 6, 7, 8, 9, 10, 11] [] [0, 1, 2, 3, 4, 5, 6, 7, 8, 9, 10, 11] (by decide) rfl rfl (by decide) (by decide) (by decide) rfl (ci := 1) rfl rfl rfl hl.1 rfl (Nat.le_of_ble_eq_true rfl) d_St_fall_82 ⟨(Nat.le_of_ble_eq_true rfl), (Nat.le_of_ble_eq_true rfl)⟩ (fun H locs hP hD hS => ?_)
          refine W.eq (g2 := F0 m 85 ls []) rfl ?_
          refine lv_iinc (v := (x1 + (1 : Int32))) (lv' := [(1, .int (x1 + (1 : Int32))), (0, .ref sh)]) hx hb d_St_fall_85 hl (k := 1) rfl rfl (by decide) rfl (fun ls hl => ?_)
          refine lv_goto (tgt := 50) hx hb d_St_fall_88 (by decide) ?_
          exact ih _ _ hf _ _ _ hP hD hS (lv_sub hl [1, 0] rfl)
  have L_2 : ∀ n : Nat, ∀ (x1 : Int32) (U : K_St), f_St_fall_2 N n x1 U = some r → ∀ (H : Heap) (locs : List Loc) (ls : Array Slot), va_P D vwCl (w_St cI cJ cZ sh mh m0 m1 m2 m3 dh d0 d1 d2 d3 ea U) H → va_D A (w_St cI cJ cZ sh mh m0 m1 m2 m3 dh d0 d1 d2 d3 ea U) → va_S A s.heap H locs → lv_has ls 2 [(0, .ref sh), (1, .int x1)] → W p l e (rm_St_fall) s m [.ref sh].toArray below meth c H locs 0 0 (xQ D vwCl (tyL cI cJ cZ) below s A (oV r.1) (w_St cI cJ cZ sh mh m0 m1 m2 m3 dh d0 d1 d2 d3 ea r.2) (rm_St_fall).cells (rm_St_fall).slots) (F0 m 2 ls []) := by
    intro n
    induction n with
    | zero =>
      intro x1 U hf
      have hf : (none : Option (Unit × K_St)) = some r := hf
      cases hf
    | succ n ih =>
      intro x1 U hf H locs ls hP hD hS hl
      rw [f_St_fall_2] at hf
      refine lv_iload_n hx hb d_St_fall_2 rfl (lv_at hl 1 rfl) ?_
      refine lv_bipush (v := (7 : Int32)) hx hb d_St_fall_3 (by decide) ?_
      refine lv_icmp_ge (tgt := 33) hx hb d_St_fall_5 (by decide) (fun c8 => ?_) (fun c8 => ?_)
      · have hf := x_ifp c8 hf
        refine lv_aload_n hx hb d_St_fall_33 rfl (lv_at hl 0 rfl) ?_
        refine lv_iconst (v := (0 : Int32)) hx hb d_St_fall_34 (by decide) ?_
        refine va_put (D := D) (ci := 1) (v := .int (0 : Int32)) (ty := .int) (C := R_St) (T := F_St) (N := 7) hx hb hts i_St t_St t_St_ok n_St hown hK hP hD hS 0 rfl rfl 3 (by decide) (hts _ k_49) (fun _ h9 => h9) rfl (by decide +kernel) rfl rfl (Nat.le_of_ble_eq_true rfl) d_St_fall_35 (fun H locs hP hD hS => ?_)
        have hP : va_P D vwCl (w_St cI cJ cZ sh mh m0 m1 m2 m3 dh d0 d1 d2 d3 ea (U.1, (U.2.1, (U.2.2.1, ((0 : Int32), U.2.2.2.2))))) H := hP
        have hD : va_D A (w_St cI cJ cZ sh mh m0 m1 m2 m3 dh d0 d1 d2 d3 ea (U.1, (U.2.1, (U.2.2.1, ((0 : Int32), U.2.2.2.2))))) := hD
        refine lv_aload_n hx hb d_St_fall_38 rfl (lv_at hl 0 rfl) ?_
        refine lv_dup hx hb d_St_fall_39 rfl ?_
        refine va_get (D := D) (ci := 1) (v := .int U.2.2.2.2.2.1) (C := R_St) (T := F_St) (N := 7) hx hb hts i_St hown hK hP 0 rfl rfl 5 (by decide) (hts _ k_61) (fun _ h9 => h9) rfl d_St_fall_40 ?_
        refine lv_iconst (v := (1 : Int32)) hx hb d_St_fall_43 (by decide) ?_
        refine lv_iadd hx hb d_St_fall_44 ?_
        refine va_put (D := D) (ci := 1) (v := .int (U.2.2.2.2.2.1 + (1 : Int32))) (ty := .int) (C := R_St) (T := F_St) (N := 7) hx hb hts i_St t_St t_St_ok n_St hown hK hP hD hS 0 rfl rfl 5 (by decide) (hts _ k_61) (fun _ h9 => h9) rfl (by decide +kernel) rfl rfl (Nat.le_of_ble_eq_true rfl) d_St_fall_45 (fun H locs hP hD hS => ?_)
        have hP : va_P D vwCl (w_St cI cJ cZ sh mh m0 m1 m2 m3 dh d0 d1 d2 d3 ea (U.1, (U.2.1, (U.2.2.1, ((0 : Int32), (U.2.2.2.2.1, ((U.2.2.2.2.2.1 + (1 : Int32)), U.2.2.2.2.2.2))))))) H := hP
        have hD : va_D A (w_St cI cJ cZ sh mh m0 m1 m2 m3 dh d0 d1 d2 d3 ea (U.1, (U.2.1, (U.2.2.1, ((0 : Int32), (U.2.2.2.2.1, ((U.2.2.2.2.2.1 + (1 : Int32)), U.2.2.2.2.2.2))))))) := hD
        refine lv_iconst (v := (1 : Int32)) hx hb d_St_fall_48 (by decide) ?_
        refine lv_istore_n (lv' := [(1, .int (1 : Int32)), (0, .ref sh)]) hx hb d_St_fall_49 rfl hl (by decide) rfl (fun ls hl => ?_)
        exact L_50 _ _ _ hf _ _ _ hP hD hS (lv_sub hl [1, 0] rfl)
      · have hf := x_ifn c8 hf
        refine lv_aload_n hx hb d_St_fall_8 rfl (lv_at hl 0 rfl) ?_
        refine va_get (D := D) (ci := 1) (v := .ref mh) (C := R_St) (T := F_St) (N := 7) hx hb hts i_St hown hK hP 0 rfl rfl 0 (by decide) (hts _ k_46) (fun _ h9 => h9) rfl d_St_fall_9 ?_
        refine lv_aload_n hx hb d_St_fall_12 rfl (lv_at hl 0 rfl) ?_
        refine va_get (D := D) (ci := 1) (v := .ref dh) (C := R_St) (T := F_St) (N := 7) hx hb hts i_St hown hK hP 0 rfl rfl 1 (by decide) (hts _ k_47) (fun _ h9 => h9) rfl d_St_fall_13 ?_
        refine lv_iload_n hx hb d_St_fall_16 rfl (lv_at hl 1 rfl) ?_
        obtain ⟨z6, hz6, hf⟩ := x_bind hf
        refine x_callV (w2 := (w_St cI cJ cZ sh mh m0 m1 m2 m3 dh d0 d1 d2 d3 ea (z6.2.1, (z6.2.2, U.2.2)))) ⟨hx, hb, hml, hown, hts⟩ (c_Co_takePage l D cI cJ cZ mh m0 m1 m2 m3 dh d0 d1 d2 d3 N x1 (U.1, U.2.1) z6 hz6) (x_cwV 2 hts rfl k_57 k_58 k_59 k_11 k_60 (by decide +kernel) ⟨(Nat.le_of_ble_eq_true rfl), (Nat.le_of_ble_eq_true rfl)⟩) hK hP hD hS hA hZ [1, 2, 3, 4, 5, 6, 7, 8, 9, 10] [0, 11] [0, 2, 3, 4, 5, 6, 7, 8, 9, 10, 11, 1] (by decide) rfl rfl (by decide) (by decide) (by decide) rfl (ci := 0) rfl rfl rfl hl.1 rfl (Nat.le_of_ble_eq_true rfl) d_St_fall_17 ⟨(Nat.le_of_ble_eq_true rfl), (Nat.le_of_ble_eq_true rfl)⟩ (fun H locs hP hD hS => ?_)
        refine W.eq (g2 := F0 m 20 ls []) rfl ?_
        refine lv_aload_n hx hb d_St_fall_20 rfl (lv_at hl 0 rfl) ?_
        refine va_get (D := D) (ci := 1) (v := .ref ea) (C := R_St) (T := F_St) (N := 7) hx hb hts i_St hown hK hP 0 rfl rfl 2 (by decide) (hts _ k_48) (fun _ h9 => h9) rfl d_St_fall_21 ?_
        refine lv_iload_n hx hb d_St_fall_24 rfl (lv_at hl 1 rfl) ?_
        refine lv_iconst (v := (0 : Int32)) hx hb d_St_fall_25 (by decide) ?_
        obtain ⟨g7, hf⟩ := x_if hf
        refine va_iast hx hb hK hP hD hS 11 0 rfl rfl (xi_in g7) d_St_fall_26 (fun H locs hP hD hS => ?_)
        have hP : va_P D vwCl (w_St cI cJ cZ sh mh m0 m1 m2 m3 dh d0 d1 d2 d3 ea (z6.2.1, (z6.2.2, ((upd U.2.2.1 x1.toNatClampNeg (0 : Int32)), U.2.2.2)))) H := hP
        have hD : va_D A (w_St cI cJ cZ sh mh m0 m1 m2 m3 dh d0 d1 d2 d3 ea (z6.2.1, (z6.2.2, ((upd U.2.2.1 x1.toNatClampNeg (0 : Int32)), U.2.2.2)))) := hD
        refine lv_iinc (v := (x1 + (1 : Int32))) (lv' := [(1, .int (x1 + (1 : Int32))), (0, .ref sh)]) hx hb d_St_fall_27 hl (k := 1) rfl rfl (by decide) rfl (fun ls hl => ?_)
        refine lv_goto (tgt := 2) hx hb d_St_fall_30 (by decide) ?_
        exact ih _ _ hf _ _ _ hP hD hS (lv_sub hl [1, 0] rfl)
  refine lv_iconst (v := (0 : Int32)) hx hb d_St_fall_0 (by decide) ?_
  refine lv_istore_n (lv' := [(1, .int (0 : Int32)), (0, .ref sh)]) hx hb d_St_fall_1 rfl hl (by decide) rfl (fun ls hl => ?_)
  exact L_2 _ _ _ hf _ _ _ hP hD hS (lv_sub hl [1, 0] rfl)
set_option maxHeartbeats 4000000 in
set_option maxRecDepth 100000 in
theorem c_St_put (l : Launch) (D : va_G) (cI cJ cZ : ClassId) (sh mh m0 m1 m2 m3 dh d0 d1 d2 d3 ea : Nat) (N : Nat) : ∀ (d : Nat) (p0 : Int32) (p1 : Int32) (U : K_St) (r : (Int32 × K_St)) (hf : f_St_put N d p0 p1 U = some r), Cx l y_St_put ws_St_put (rm_St_put d) D vwCl (tyL cI cJ cZ) [.ref sh, .int p0, .int p1] (w_St cI cJ cZ sh mh m0 m1 m2 m3 dh d0 d1 d2 d3 ea U) (oI r.1) (w_St cI cJ cZ sh mh m0 m1 m2 m3 dh d0 d1 d2 d3 ea r.2) := by
  intro d
  induction d with
  | zero =>
    intro p0 p1 U r hf
    have hf : (none : Option (Int32 × K_St)) = some r := hf
    cases hf
  | succ d ihd =>
    intro p0 p1 U r hf
    rw [f_St_put] at hf
    dsimp only at hf
    refine Cx.ofW (cc := b_St_put) (maxL := 4) (ret := (some .boolean)) (by decide) rfl ?_
    intro p e s m below meth c A C0 hP hK hD hA hns hZ
    obtain ⟨hx, hb, hml, hown, hts0, hr, hlocks, hnm, hno⟩ := C0
    have hown : s.vm.findClass R_St = some m.cls := hown
    have hts : ∀ w ∈ tb, w.before [.ref sh, .int p0, .int p1].toArray s = true := fun w h => hts0 w (List.mem_cons_of_mem _ h)
    have hS : va_S A s.heap s.heap [] := va_S.rf
    have hl := lv_entry ([.ref sh, .int p0, .int p1]) (n := 4) (Nat.le_of_ble_eq_true rfl)
    rw [lg_entry_eq]
    generalize (lg_sl ([.ref sh, .int p0, .int p1]) ++ List.replicate (4 - (lg_sl ([.ref sh, .int p0, .int p1])).length) Slot.unset).toArray = ls at hl ⊢
    have hl : lv_has ls 4 [(0, .ref sh), (1, .int p0), (2, .int p1)] := hl
    have L_10 : ∀ n : Nat, ∀ (x1 : Int32) (x2 : Int32) (x3 : Int32) (U : K_St), f_St_put_10 N (f_St_put N d) n x1 x2 x3 U = some r → ∀ (H : Heap) (locs : List Loc) (ls : Array Slot), va_P D vwCl (w_St cI cJ cZ sh mh m0 m1 m2 m3 dh d0 d1 d2 d3 ea U) H → va_D A (w_St cI cJ cZ sh mh m0 m1 m2 m3 dh d0 d1 d2 d3 ea U) → va_S A s.heap H locs → lv_has ls 4 [(0, .ref sh), (1, .int x1), (2, .int x2), (3, .int x3)] → W p l e (rm_St_put (d + 1)) s m [.ref sh, .int p0, .int p1].toArray below meth c H locs 0 0 (xQ D vwCl (tyL cI cJ cZ) below s A (oI r.1) (w_St cI cJ cZ sh mh m0 m1 m2 m3 dh d0 d1 d2 d3 ea r.2) (rm_St_put (d + 1)).cells (rm_St_put (d + 1)).slots) (F0 m 10 ls []) := by
      intro n
      induction n with
      | zero =>
        intro x1 x2 x3 U hf
        have hf : (none : Option (Int32 × K_St)) = some r := hf
        cases hf
      | succ n ih =>
        intro x1 x2 x3 U hf H locs ls hP hD hS hl
        rw [f_St_put_10] at hf
        refine lv_iload_n hx hb d_St_put_10 rfl (lv_at hl 3 rfl) ?_
        refine lv_bipush (v := (7 : Int32)) hx hb d_St_put_11 (by decide) ?_
        refine lv_icmp_ge (tgt := 54) hx hb d_St_put_13 (by decide) (fun c11 => ?_) (fun c11 => ?_)
        · have hf := x_ifp c11 hf
          refine lv_aload_n hx hb d_St_put_54 rfl (lv_at hl 0 rfl) ?_
          obtain ⟨z1, hz1, hf⟩ := x_bind hf
          refine x_callV (w2 := (w_St cI cJ cZ sh mh m0 m1 m2 m3 dh d0 d1 d2 d3 ea z1.2)) ⟨hx, hb, hml, hown, hts⟩ (c_St_failsNow l D cI cJ cZ sh mh m0 m1 m2 m3 dh d0 d1 d2 d3 ea N  U z1 hz1) (x_cwV 0 hts rfl k_71 k_72 k_73 k_55 k_74 (by decide +kernel) ⟨(by simp only [rm_St_put, rm_Co_takePage, rm_St_failsNow, rm_St_fall, rm_St_settle] <;> omega), (by simp only [rm_St_put, rm_Co_takePage, rm_St_failsNow, rm_St_fall, rm_St_settle] <;> omega)⟩) hK hP hD hS hA hZ [0, 1, 2, 3, 4, 5, 6, 7, 8, 9, 10, 11] [] [0, 1, 2, 3, 4, 5, 6, 7, 8, 9, 10, 11] (by decide) rfl rfl (by decide) (by decide) (by decide) rfl (ci := 1) rfl rfl rfl hl.1 rfl (Nat.le_of_ble_eq_true rfl) d_St_put_55 ⟨(by simp only [rm_St_put, rm_Co_takePage, rm_St_failsNow, rm_St_fall, rm_St_settle] <;> omega), (by simp only [rm_St_put, rm_Co_takePage, rm_St_failsNow, rm_St_fall, rm_St_settle] <;> omega)⟩ (fun H locs hP hD hS => ?_)
          refine W.eq (g2 := F0 m 58 ls [.int z1.1]) rfl ?_
          refine lv_if_eq (tgt := 67) hx hb d_St_put_58 (by decide) (fun c5 => ?_) (fun c5 => ?_)
          · have hf := x_ifp c5 hf
            refine lv_aload_n hx hb d_St_put_67 rfl (lv_at hl 0 rfl) ?_
            refine va_get (D := D) (ci := 1) (v := .ref dh) (C := R_St) (T := F_St) (N := 7) hx hb hts i_St hown hK hP 0 rfl rfl 1 (by decide) (hts _ k_47) (fun _ h9 => h9) rfl d_St_put_68 ?_
            refine lv_aload_n hx hb d_St_put_71 rfl (lv_at hl 0 rfl) ?_
            refine va_get (D := D) (ci := 1) (v := .ref mh) (C := R_St) (T := F_St) (N := 7) hx hb hts i_St hown hK hP 0 rfl rfl 0 (by decide) (hts _ k_46) (fun _ h9 => h9) rfl d_St_put_72 ?_
            refine lv_iload_n hx hb d_St_put_75 rfl (lv_at hl 1 rfl) ?_
            obtain ⟨z2, hz2, hf⟩ := x_bind hf
            refine x_callV (w2 := (w_St cI cJ cZ sh mh m0 m1 m2 m3 dh d0 d1 d2 d3 ea (z2.2.2, (z2.2.1, z1.2.2.2)))) ⟨hx, hb, hml, hown, hts⟩ (c_Co_takePage l D cI cJ cZ dh d0 d1 d2 d3 mh m0 m1 m2 m3 N x1 (z1.2.2.1, z1.2.1) z2 hz2) (x_cwV 2 hts rfl k_57 k_58 k_59 k_11 k_60 (by decide +kernel) ⟨(by simp only [rm_St_put, rm_Co_takePage, rm_St_failsNow, rm_St_settle] <;> omega), (by simp only [rm_St_put, rm_Co_takePage, rm_St_failsNow, rm_St_settle] <;> omega)⟩) hK hP hD hS hA hZ [6, 7, 8, 9, 10, 1, 2, 3, 4, 5] [0, 11] [0, 7, 8, 9, 10, 11, 2, 3, 4, 5, 6, 1] (by decide) rfl rfl (by decide) (by decide) (by decide) rfl (ci := 0) rfl rfl rfl hl.1 rfl (Nat.le_of_ble_eq_true rfl) d_St_put_76 ⟨(by simp only [rm_St_put, rm_Co_takePage, rm_St_failsNow, rm_St_settle] <;> omega), (by simp only [rm_St_put, rm_Co_takePage, rm_St_failsNow, rm_St_settle] <;> omega)⟩ (fun H locs hP hD hS => ?_)
            refine W.eq (g2 := F0 m 79 ls []) rfl ?_
            refine lv_aload_n hx hb d_St_put_79 rfl (lv_at hl 0 rfl) ?_
            refine lv_iload_n hx hb d_St_put_80 rfl (lv_at hl 1 rfl) ?_
            obtain ⟨z3, hz3, hf⟩ := x_bind hf
            refine x_callV (w2 := (w_St cI cJ cZ sh mh m0 m1 m2 m3 dh d0 d1 d2 d3 ea z3.2)) ⟨hx, hb, hml, hown, hts⟩ (c_St_settle l D cI cJ cZ sh mh m0 m1 m2 m3 dh d0 d1 d2 d3 ea N x1 (z2.2.2, (z2.2.1, z1.2.2.2)) z3 hz3) (x_cwV 1 hts rfl k_52 k_53 k_54 k_55 k_56 (by decide +kernel) ⟨(by simp only [rm_St_put, rm_Co_takePage, rm_St_failsNow, rm_St_settle] <;> omega), (by simp only [rm_St_put, rm_Co_takePage, rm_St_failsNow, rm_St_settle] <;> omega)⟩) hK hP hD hS hA hZ [0, 1, 2, 3, 4, 5, 6, 7, 8, 9, 10, 11] [] [0, 1, 2, 3, 4, 5, 6, 7, 8, 9, 10, 11] (by decide) rfl rfl (by decide) (by decide) (by decide) rfl (ci := 1) rfl rfl rfl hl.1 rfl (Nat.le_of_ble_eq_true rfl) d_St_put_81 ⟨(by simp only [rm_St_put, rm_Co_takePage, rm_St_failsNow, rm_St_settle] <;> omega), (by simp only [rm_St_put, rm_Co_takePage, rm_St_failsNow, rm_St_settle] <;> omega)⟩ (fun H locs hP hD hS => ?_)
            refine W.eq (g2 := F0 m 84 ls []) rfl ?_
            refine lv_iconst (v := (1 : Int32)) hx hb d_St_put_84 (by decide) ?_
            obtain rfl := Option.some.inj hf
            exact x_zret hx hb hr hlocks (x_nb (Or.inr rfl)) hK hP hD hS (Nat.le_of_ble_eq_true rfl) (Nat.le_of_ble_eq_true rfl) d_St_put_85
          · have hf := x_ifn c5 hf
            refine lv_aload_n hx hb d_St_put_61 rfl (lv_at hl 0 rfl) ?_
            obtain ⟨z4, hz4, hf⟩ := x_bind hf
            refine x_callV (w2 := (w_St cI cJ cZ sh mh m0 m1 m2 m3 dh d0 d1 d2 d3 ea z4.2)) ⟨hx, hb, hml, hown, hts⟩ (c_St_fall l D cI cJ cZ sh mh m0 m1 m2 m3 dh d0 d1 d2 d3 ea N  z1.2 z4 hz4) (x_cwV 0 hts rfl k_67 k_68 k_69 k_55 k_70 (by decide +kernel) ⟨(by simp only [rm_St_put, rm_Co_takePage, rm_St_failsNow, rm_St_fall, rm_St_settle] <;> omega), (by simp only [rm_St_put, rm_Co_takePage, rm_St_failsNow, rm_St_fall, rm_St_settle] <;> omega)⟩) hK hP hD hS hA hZ [0, 1, 2, 3, 4, 5, 6, 7, 8, 9, 10, 11] [] [0, 1, 2, 3, 4, 5, 6, 7, 8, 9, 10, 11] (by decide) rfl rfl (by decide) (by decide) (by decide) rfl (ci := 1) rfl rfl rfl hl.1 rfl (Nat.le_of_ble_eq_true rfl) d_St_put_62 ⟨(by simp only [rm_St_put, rm_Co_takePage, rm_St_failsNow, rm_St_fall, rm_St_settle] <;> omega), (by simp only [rm_St_put, rm_Co_takePage, rm_St_failsNow, rm_St_fall, rm_St_settle] <;> omega)⟩ (fun H locs hP hD hS => ?_)
            refine W.eq (g2 := F0 m 65 ls []) rfl ?_
            refine lv_iconst (v := (0 : Int32)) hx hb d_St_put_65 (by decide) ?_
            obtain rfl := Option.some.inj hf
            exact x_zret hx hb hr hlocks (x_nb (Or.inl rfl)) hK hP hD hS (Nat.le_of_ble_eq_true rfl) (Nat.le_of_ble_eq_true rfl) d_St_put_66
        · have hf := x_ifn c11 hf
          refine lv_aload_n hx hb d_St_put_16 rfl (lv_at hl 0 rfl) ?_
          refine va_get (D := D) (ci := 1) (v := .ref ea) (C := R_St) (T := F_St) (N := 7) hx hb hts i_St hown hK hP 0 rfl rfl 2 (by decide) (hts _ k_48) (fun _ h9 => h9) rfl d_St_put_17 ?_
          refine lv_iload_n hx hb d_St_put_20 rfl (lv_at hl 1 rfl) ?_
          obtain ⟨g6, hf⟩ := x_if hf
          refine va_iald hx hb hK hP 11 0 rfl rfl (xi_in g6) d_St_put_21 ?_
          refine lv_aload_n hx hb d_St_put_22 rfl (lv_at hl 0 rfl) ?_
          refine va_get (D := D) (ci := 1) (v := .int U.2.2.2.1) (C := R_St) (T := F_St) (N := 7) hx hb hts i_St hown hK hP 0 rfl rfl 3 (by decide) (hts _ k_49) (fun _ h9 => h9) rfl d_St_put_23 ?_
          refine lv_iand hx hb d_St_put_26 ?_
          refine lv_i2l (v := ((U.2.2.1 x1.toNatClampNeg) &&& U.2.2.2.1).toInt64) hx hb d_St_put_27 rfl ?_
          refine lv_iload_n hx hb d_St_put_28 rfl (lv_at hl 3 rfl) ?_
          obtain ⟨z7, hz7, hf⟩ := x_bind hf
          refine x_callSN (w2 := (w_St cI cJ cZ sh mh m0 m1 m2 m3 dh d0 d1 d2 d3 ea U)) ⟨hx, hb, hml, hown, hts⟩ (c_Rv_has l D cI cJ cZ  N ((U.2.2.1 x1.toNatClampNeg) &&& U.2.2.2.1).toInt64 x3  z7 hz7) (x_cwSN 2 hts rfl k_79 k_22 k_23 k_24 (by decide +kernel) ⟨(by simp only [rm_St_put, rm_Co_takePage, rm_Rv_has, rm_St_failsNow, rm_St_fall, rm_St_put, rm_St_settle] <;> omega), (by simp only [rm_St_put, rm_Co_takePage, rm_Rv_has, rm_St_failsNow, rm_St_fall, rm_St_put, rm_St_settle] <;> omega)⟩) hK hP hD hS hA hZ [] [0, 1, 2, 3, 4, 5, 6, 7, 8, 9, 10, 11] [0, 1, 2, 3, 4, 5, 6, 7, 8, 9, 10, 11] (by decide) rfl rfl (by decide) (by decide) (by decide) rfl rfl hl.1 rfl (Nat.le_of_ble_eq_true rfl) d_St_put_29 ⟨(by simp only [rm_St_put, rm_Co_takePage, rm_Rv_has, rm_St_failsNow, rm_St_fall, rm_St_put, rm_St_settle] <;> omega), (by simp only [rm_St_put, rm_Co_takePage, rm_Rv_has, rm_St_failsNow, rm_St_fall, rm_St_put, rm_St_settle] <;> omega)⟩ (fun H locs hP hD hS => ?_)
          refine W.eq (g2 := F0 m 32 ls [.int z7]) rfl ?_
          refine lv_if_eq (tgt := 48) hx hb d_St_put_32 (by decide) (fun c10 => ?_) (fun c10 => ?_)
          · have hf := x_ifp c10 hf
            refine lv_iinc (v := (x3 + (1 : Int32))) (lv' := [(3, .int (x3 + (1 : Int32))), (0, .ref sh), (1, .int x1), (2, .int x2)]) hx hb d_St_put_48 hl (k := 3) rfl rfl (by decide) rfl (fun ls hl => ?_)
            refine lv_goto (tgt := 10) hx hb d_St_put_51 (by decide) ?_
            exact ih _ _ _ _ hf _ _ _ hP hD hS (lv_sub hl [1, 2, 3, 0] rfl)
          · have hf := x_ifn c10 hf
            refine lv_aload_n hx hb d_St_put_35 rfl (lv_at hl 0 rfl) ?_
            refine lv_iload_n hx hb d_St_put_36 rfl (lv_at hl 3 rfl) ?_
            refine lv_iload_n hx hb d_St_put_37 rfl (lv_at hl 2 rfl) ?_
            refine lv_iconst (v := (1 : Int32)) hx hb d_St_put_38 (by decide) ?_
            refine lv_iadd hx hb d_St_put_39 ?_
            obtain ⟨z8, hz8, hf⟩ := x_bind hf
            refine x_callV (w2 := (w_St cI cJ cZ sh mh m0 m1 m2 m3 dh d0 d1 d2 d3 ea z8.2)) ⟨hx, hb, hml, hown, hts⟩ (ihd x3 (x2 + (1 : Int32)) U z8 hz8) (x_cwV 2 hts rfl k_75 k_76 k_77 k_55 k_78 (by decide +kernel) ⟨(by simp only [rm_St_put, rm_Co_takePage, rm_Rv_has, rm_St_failsNow, rm_St_fall, rm_St_put, rm_St_settle] <;> omega), (by simp only [rm_St_put, rm_Co_takePage, rm_Rv_has, rm_St_failsNow, rm_St_fall, rm_St_put, rm_St_settle] <;> omega)⟩) hK hP hD hS hA hZ [0, 1, 2, 3, 4, 5, 6, 7, 8, 9, 10, 11] [] [0, 1, 2, 3, 4, 5, 6, 7, 8, 9, 10, 11] (by decide) rfl rfl (by decide) (by decide) (by decide) rfl (ci := 1) rfl rfl rfl hl.1 rfl (Nat.le_of_ble_eq_true rfl) d_St_put_40 ⟨(by simp only [rm_St_put, rm_Co_takePage, rm_Rv_has, rm_St_failsNow, rm_St_fall, rm_St_put, rm_St_settle] <;> omega), (by simp only [rm_St_put, rm_Co_takePage, rm_Rv_has, rm_St_failsNow, rm_St_fall, rm_St_put, rm_St_settle] <;> omega)⟩ (fun H locs hP hD hS => ?_)
            refine W.eq (g2 := F0 m 43 ls [.int z8.1]) rfl ?_
            refine lv_if_ne (tgt := 48) hx hb d_St_put_43 (by decide) (fun c9 => ?_) (fun c9 => ?_)
            · have hf := x_ifn c9 hf
              refine lv_iinc (v := (x3 + (1 : Int32))) (lv' := [(3, .int (x3 + (1 : Int32))), (0, .ref sh), (1, .int x1), (2, .int x2)]) hx hb d_St_put_48 hl (k := 3) rfl rfl (by decide) rfl (fun ls hl => ?_)
              refine lv_goto (tgt := 10) hx hb d_St_put_51 (by decide) ?_
              exact ih _ _ _ _ hf _ _ _ hP hD hS (lv_sub hl [1, 2, 3, 0] rfl)
            · have hf := x_ifp c9 hf
              refine lv_iconst (v := (0 : Int32)) hx hb d_St_put_46 (by decide) ?_
              obtain rfl := Option.some.inj hf
              exact x_zret hx hb hr hlocks (x_nb (Or.inl rfl)) hK hP hD hS (Nat.le_of_ble_eq_true rfl) (Nat.le_of_ble_eq_true rfl) d_St_put_47
    refine lv_iload_n hx hb d_St_put_0 rfl (lv_at hl 2 rfl) ?_
    refine lv_bipush (v := (7 : Int32)) hx hb d_St_put_1 (by decide) ?_
    refine lv_icmp_lt (tgt := 8) hx hb d_St_put_3 (by decide) (fun c12 => ?_) (fun c12 => ?_)
    · have hf := x_ifp c12 hf
      refine lv_iconst (v := (0 : Int32)) hx hb d_St_put_8 (by decide) ?_
      refine lv_istore_n (lv' := [(3, .int (0 : Int32)), (0, .ref sh), (1, .int p0), (2, .int p1)]) hx hb d_St_put_9 rfl hl (by decide) rfl (fun ls hl => ?_)
      exact L_10 _ _ _ _ _ hf _ _ _ hP hD hS (lv_sub hl [1, 2, 3, 0] rfl)
    · have hf := x_ifn c12 hf
      refine lv_iconst (v := (1 : Int32)) hx hb d_St_put_6 (by decide) ?_
      obtain rfl := Option.some.inj hf
      exact x_zret hx hb hr hlocks (x_nb (Or.inr rfl)) hK hP hD hS (Nat.le_of_ble_eq_true rfl) (Nat.le_of_ble_eq_true rfl) d_St_put_7
set_option maxHeartbeats 4000000 in
set_option maxRecDepth 100000 in
theorem c_St_putDirty (l : Launch) (D : va_G) (cI cJ cZ : ClassId) (sh mh m0 m1 m2 m3 dh d0 d1 d2 d3 ea : Nat) (N : Nat) (p0 : Int32) (U : K_St) (r : (Int32 × K_St)) (hf : f_St_putDirty N p0 U = some r) : Cx l y_St_putDirty ws_St_putDirty rm_St_putDirty D vwCl (tyL cI cJ cZ) [.ref sh, .int p0] (w_St cI cJ cZ sh mh m0 m1 m2 m3 dh d0 d1 d2 d3 ea U) (oI r.1) (w_St cI cJ cZ sh mh m0 m1 m2 m3 dh d0 d1 d2 d3 ea r.2) := by
  unfold f_St_putDirty at hf
  refine Cx.ofW (cc := b_St_putDirty) (maxL := 3) (ret := (some .boolean)) (by decide) rfl ?_
  intro p e s m below meth c A C0 hP hK hD hA hns hZ
  obtain ⟨hx, hb, hml, hown, hts0, hr, hlocks, hnm, hno⟩ := C0
  have hown : s.vm.findClass R_St = some m.cls := hown
  have hts : ∀ w ∈ tb, w.before [.ref sh, .int p0].toArray s = true := fun w h => hts0 w (List.mem_cons_of_mem _ h)
  have hS : va_S A s.heap s.heap [] := va_S.rf
  have hl := lv_entry ([.ref sh, .int p0]) (n := 3) (Nat.le_of_ble_eq_true rfl)
  rw [lg_entry_eq]
  generalize (lg_sl ([.ref sh, .int p0]) ++ List.replicate (3 - (lg_sl ([.ref sh, .int p0])).length) Slot.unset).toArray = ls at hl ⊢
  have hl : lv_has ls 3 [(0, .ref sh), (1, .int p0)] := hl
  have L_2 : ∀ n : Nat, ∀ (x1 : Int32) (x2 : Int32) (U : K_St), f_St_putDirty_2 N n x1 x2 U = some r → ∀ (H : Heap) (locs : List Loc) (ls : Array Slot), va_P D vwCl (w_St cI cJ cZ sh mh m0 m1 m2 m3 dh d0 d1 d2 d3 ea U) H → va_D A (w_St cI cJ cZ sh mh m0 m1 m2 m3 dh d0 d1 d2 d3 ea U) → va_S A s.heap H locs → lv_has ls 3 [(0, .ref sh), (1, .int x1), (2, .int x2)] → W p l e (rm_St_putDirty) s m [.ref sh, .int p0].toArray below meth c H locs 0 0 (xQ D vwCl (tyL cI cJ cZ) below s A (oI r.1) (w_St cI cJ cZ sh mh m0 m1 m2 m3 dh d0 d1 d2 d3 ea r.2) (rm_St_putDirty).cells (rm_St_putDirty).slots) (F0 m 2 ls []) := by
    intro n
    induction n with
    | zero =>
      intro x1 x2 U hf
      have hf : (none : Option (Int32 × K_St)) = some r := hf
      cases hf
    | succ n ih =>
      intro x1 x2 U hf H locs ls hP hD hS hl
      rw [f_St_putDirty_2] at hf
      refine lv_iload_n hx hb d_St_putDirty_2 rfl (lv_at hl 2 rfl) ?_
      refine lv_bipush (v := (7 : Int32)) hx hb d_St_putDirty_3 (by decide) ?_
      refine lv_icmp_ge (tgt := 39) hx hb d_St_putDirty_5 (by decide) (fun c5 => ?_) (fun c5 => ?_)
      · have hf := x_ifp c5 hf
        refine lv_iconst (v := (1 : Int32)) hx hb d_St_putDirty_39 (by decide) ?_
        obtain rfl := Option.some.inj hf
        exact x_zret hx hb hr hlocks (x_nb (Or.inr rfl)) hK hP hD hS (Nat.le_of_ble_eq_true rfl) (Nat.le_of_ble_eq_true rfl) d_St_putDirty_40
      · have hf := x_ifn c5 hf
        refine lv_iload_n hx hb d_St_putDirty_8 rfl (lv_at hl 1 rfl) ?_
        refine lv_aload_n hx hb d_St_putDirty_9 rfl (lv_at hl 0 rfl) ?_
        refine va_get (D := D) (ci := 1) (v := .int U.2.2.2.1) (C := R_St) (T := F_St) (N := 7) hx hb hts i_St hown hK hP 0 rfl rfl 3 (by decide) (hts _ k_49) (fun _ h9 => h9) rfl d_St_putDirty_10 ?_
        refine lv_iand hx hb d_St_putDirty_13 ?_
        refine lv_i2l (v := (x1 &&& U.2.2.2.1).toInt64) hx hb d_St_putDirty_14 rfl ?_
        refine lv_iload_n hx hb d_St_putDirty_15 rfl (lv_at hl 2 rfl) ?_
        obtain ⟨z1, hz1, hf⟩ := x_bind hf
        refine x_callSN (w2 := (w_St cI cJ cZ sh mh m0 m1 m2 m3 dh d0 d1 d2 d3 ea U)) ⟨hx, hb, hml, hown, hts⟩ (c_Rv_has l D cI cJ cZ  N (x1 &&& U.2.2.2.1).toInt64 x2  z1 hz1) (x_cwSN 2 hts rfl k_79 k_22 k_23 k_24 (by decide +kernel) ⟨(Nat.le_of_ble_eq_true rfl), (Nat.le_of_ble_eq_true rfl)⟩) hK hP hD hS hA hZ [] [0, 1, 2, 3, 4, 5, 6, 7, 8, 9, 10, 11] [0, 1, 2, 3, 4, 5, 6, 7, 8, 9, 10, 11] (by decide) rfl rfl (by decide) (by decide) (by decide) rfl rfl hl.1 rfl (Nat.le_of_ble_eq_true rfl) d_St_putDirty_16 ⟨(Nat.le_of_ble_eq_true rfl), (Nat.le_of_ble_eq_true rfl)⟩ (fun H locs hP hD hS => ?_)
        refine W.eq (g2 := F0 m 19 ls [.int z1]) rfl ?_
        refine lv_if_eq (tgt := 33) hx hb d_St_putDirty_19 (by decide) (fun c4 => ?_) (fun c4 => ?_)
        · have hf := x_ifp c4 hf
          refine lv_iinc (v := (x2 + (1 : Int32))) (lv' := [(2, .int (x2 + (1 : Int32))), (0, .ref sh), (1, .int x1)]) hx hb d_St_putDirty_33 hl (k := 2) rfl rfl (by decide) rfl (fun ls hl => ?_)
          refine lv_goto (tgt := 2) hx hb d_St_putDirty_36 (by decide) ?_
          exact ih _ _ _ hf _ _ _ hP hD hS (lv_sub hl [1, 2, 0] rfl)
        · have hf := x_ifn c4 hf
          refine lv_aload_n hx hb d_St_putDirty_22 rfl (lv_at hl 0 rfl) ?_
          refine lv_iload_n hx hb d_St_putDirty_23 rfl (lv_at hl 2 rfl) ?_
          refine lv_iconst (v := (0 : Int32)) hx hb d_St_putDirty_24 (by decide) ?_
          obtain ⟨z2, hz2, hf⟩ := x_bind hf
          refine x_callV (w2 := (w_St cI cJ cZ sh mh m0 m1 m2 m3 dh d0 d1 d2 d3 ea z2.2)) ⟨hx, hb, hml, hown, hts⟩ (c_St_put l D cI cJ cZ sh mh m0 m1 m2 m3 dh d0 d1 d2 d3 ea N 9 x2 (0 : Int32) U z2 hz2) (x_cwV 2 hts rfl k_75 k_76 k_77 k_55 k_78 (by decide +kernel) ⟨(Nat.le_of_ble_eq_true rfl), (Nat.le_of_ble_eq_true rfl)⟩) hK hP hD hS hA hZ [0, 1, 2, 3, 4, 5, 6, 7, 8, 9, 10, 11] [] [0, 1, 2, 3, 4, 5, 6, 7, 8, 9, 10, 11] (by decide) rfl rfl (by decide) (by decide) (by decide) rfl (ci := 1) rfl rfl rfl hl.1 rfl (Nat.le_of_ble_eq_true rfl) d_St_putDirty_25 ⟨(Nat.le_of_ble_eq_true rfl), (Nat.le_of_ble_eq_true rfl)⟩ (fun H locs hP hD hS => ?_)
          refine W.eq (g2 := F0 m 28 ls [.int z2.1]) rfl ?_
          refine lv_if_ne (tgt := 33) hx hb d_St_putDirty_28 (by decide) (fun c3 => ?_) (fun c3 => ?_)
          · have hf := x_ifn c3 hf
            refine lv_iinc (v := (x2 + (1 : Int32))) (lv' := [(2, .int (x2 + (1 : Int32))), (0, .ref sh), (1, .int x1)]) hx hb d_St_putDirty_33 hl (k := 2) rfl rfl (by decide) rfl (fun ls hl => ?_)
            refine lv_goto (tgt := 2) hx hb d_St_putDirty_36 (by decide) ?_
            exact ih _ _ _ hf _ _ _ hP hD hS (lv_sub hl [1, 2, 0] rfl)
          · have hf := x_ifp c3 hf
            refine lv_iconst (v := (0 : Int32)) hx hb d_St_putDirty_31 (by decide) ?_
            obtain rfl := Option.some.inj hf
            exact x_zret hx hb hr hlocks (x_nb (Or.inl rfl)) hK hP hD hS (Nat.le_of_ble_eq_true rfl) (Nat.le_of_ble_eq_true rfl) d_St_putDirty_32
  refine lv_iconst (v := (0 : Int32)) hx hb d_St_putDirty_0 (by decide) ?_
  refine lv_istore_n (lv' := [(2, .int (0 : Int32)), (0, .ref sh), (1, .int p0)]) hx hb d_St_putDirty_1 rfl hl (by decide) rfl (fun ls hl => ?_)
  exact L_2 _ _ _ _ hf _ _ _ hP hD hS (lv_sub hl [1, 2, 0] rfl)
end
section
set_option maxHeartbeats 4000000 in
set_option maxRecDepth 100000 in
theorem c_St_mustPrecede (l : Launch) (D : va_G) (cI cJ cZ : ClassId) (sh mh m0 m1 m2 m3 dh d0 d1 d2 d3 ea : Nat) (N : Nat) (p0 : Int32) (p1 : Int32) (U : K_St) (r : (Int32 × K_St)) (hf : f_St_mustPrecede N p0 p1 U = some r) : Cx l y_St_mustPrecede ws_St_mustPrecede rm_St_mustPrecede D vwCl (tyL cI cJ cZ) [.ref sh, .int p0, .int p1] (w_St cI cJ cZ sh mh m0 m1 m2 m3 dh d0 d1 d2 d3 ea U) (oI r.1) (w_St cI cJ cZ sh mh m0 m1 m2 m3 dh d0 d1 d2 d3 ea r.2) := by
  unfold f_St_mustPrecede at hf
  refine Cx.ofW (cc := b_St_mustPrecede) (maxL := 6) (ret := (some .boolean)) (by decide) rfl ?_
  intro p e s m below meth c A C0 hP hK hD hA hns hZ
  obtain ⟨hx, hb, hml, hown, hts0, hr, hlocks, hnm, hno⟩ := C0
  have hown : s.vm.findClass R_St = some m.cls := hown
  have hts : ∀ w ∈ tb, w.before [.ref sh, .int p0, .int p1].toArray s = true := fun w h => hts0 w (List.mem_cons_of_mem _ h)
  have hS : va_S A s.heap s.heap [] := va_S.rf
  have hl := lv_entry ([.ref sh, .int p0, .int p1]) (n := 6) (Nat.le_of_ble_eq_true rfl)
  rw [lg_entry_eq]
  generalize (lg_sl ([.ref sh, .int p0, .int p1]) ++ List.replicate (6 - (lg_sl ([.ref sh, .int p0, .int p1])).length) Slot.unset).toArray = ls at hl ⊢
  have hl : lv_has ls 6 [(0, .ref sh), (1, .int p0), (2, .int p1)] := hl
  have L_20 : ∀ (k10 : Int32 → Int32 → Int32 → K_St → Option (Int32 × K_St)), (∀ (x1 : Int32) (x3 : Int32) (x4 : Int32) (U : K_St), k10 x1 x3 x4 U = some r → ∀ (H : Heap) (locs : List Loc) (ls : Array Slot), va_P D vwCl (w_St cI cJ cZ sh mh m0 m1 m2 m3 dh d0 d1 d2 d3 ea U) H → va_D A (w_St cI cJ cZ sh mh m0 m1 m2 m3 dh d0 d1 d2 d3 ea U) → va_S A s.heap H locs → lv_has ls 6 [(0, .ref sh), (1, .int x1), (3, .int x3), (4, .int x4)] → W p l e (rm_St_mustPrecede) s m [.ref sh, .int p0, .int p1].toArray below meth c H locs 0 0 (xQ D vwCl (tyL cI cJ cZ) below s A (oI r.1) (w_St cI cJ cZ sh mh m0 m1 m2 m3 dh d0 d1 d2 d3 ea r.2) (rm_St_mustPrecede).cells (rm_St_mustPrecede).slots) (F0 m 10 ls [])) → ∀ n : Nat, ∀ (x1 : Int32) (x3 : Int32) (x4 : Int32) (x5 : Int32) (U : K_St), f_St_mustPrecede_20 N k10 n x1 x3 x4 x5 U = some r → ∀ (H : Heap) (locs : List Loc) (ls : Array Slot), va_P D vwCl (w_St cI cJ cZ sh mh m0 m1 m2 m3 dh d0 d1 d2 d3 ea U) H → va_D A (w_St cI cJ cZ sh mh m0 m1 m2 m3 dh d0 d1 d2 d3 ea U) → va_S A s.heap H locs → lv_has ls 6 [(0, .ref sh), (1, .int x1), (3, .int x3), (4, .int x4), (5, .int x5)] → W p l e (rm_St_mustPrecede) s m [.ref sh, .int p0, .int p1].toArray below meth c H locs 0 0 (xQ D vwCl (tyL cI cJ cZ) below s A (oI r.1) (w_St cI cJ cZ sh mh m0 m1 m2 m3 dh d0 d1 d2 d3 ea r.2) (rm_St_mustPrecede).cells (rm_St_mustPrecede).slots) (F0 m 20 ls []) := by
    intro k10 hk10 n
    induction n with
    | zero =>
      intro x1 x3 x4 x5 U hf
      have hf : (none : Option (Int32 × K_St)) = some r := hf
      cases hf
    | succ n ih =>
      intro x1 x3 x4 x5 U hf H locs ls hP hD hS hl
      rw [f_St_mustPrecede_20] at hf
      refine lv_iload hx hb d_St_mustPrecede_20 (lv_at hl 4 rfl) ?_
      refine lv_bipush (v := (7 : Int32)) hx hb d_St_mustPrecede_22 (by decide) ?_
      refine lv_icmp_ge (tgt := 53) hx hb d_St_mustPrecede_24 (by decide) (fun c7 => ?_) (fun c7 => ?_)
      · have hf := x_ifp c7 hf
        refine lv_iinc (v := (x4 + (1 : Int32))) (lv' := [(4, .int (x4 + (1 : Int32))), (0, .ref sh), (1, .int x1), (3, .int x3), (5, .int x5)]) hx hb d_St_mustPrecede_53 hl (k := 3) rfl rfl (by decide) rfl (fun ls hl => ?_)
        refine lv_goto (tgt := 10) hx hb d_St_mustPrecede_56 (by decide) ?_
        exact hk10 _ _ _ _ hf _ _ _ hP hD hS (lv_sub hl [1, 2, 3, 0] rfl)
      · have hf := x_ifn c7 hf
        refine lv_iload_n hx hb d_St_mustPrecede_27 rfl (lv_at hl 2 rfl) ?_
        refine lv_i2l (v := (x3).toInt64) hx hb d_St_mustPrecede_28 rfl ?_
        refine lv_iload hx hb d_St_mustPrecede_29 (lv_at hl 4 rfl) ?_
        obtain ⟨z4, hz4, hf⟩ := x_bind hf
        refine x_callSN (w2 := (w_St cI cJ cZ sh mh m0 m1 m2 m3 dh d0 d1 d2 d3 ea U)) ⟨hx, hb, hml, hown, hts⟩ (c_Rv_has l D cI cJ cZ  N (x3).toInt64 x5  z4 hz4) (x_cwSN 2 hts rfl k_79 k_22 k_23 k_24 (by decide +kernel) ⟨(Nat.le_of_ble_eq_true rfl), (Nat.le_of_ble_eq_true rfl)⟩) hK hP hD hS hA hZ [] [0, 1, 2, 3, 4, 5, 6, 7, 8, 9, 10, 11] [0, 1, 2, 3, 4, 5, 6, 7, 8, 9, 10, 11] (by decide) rfl rfl (by decide) (by decide) (by decide) rfl rfl hl.1 rfl (Nat.le_of_ble_eq_true rfl) d_St_mustPrecede_31 ⟨(Nat.le_of_ble_eq_true rfl), (Nat.le_of_ble_eq_true rfl)⟩ (fun H locs hP hD hS => ?_)
        refine W.eq (g2 := F0 m 34 ls [.int z4]) rfl ?_
        refine lv_if_eq (tgt := 47) hx hb d_St_mustPrecede_34 (by decide) (fun c6 => ?_) (fun c6 => ?_)
        · have hf := x_ifp c6 hf
          refine lv_iinc (v := (x5 + (1 : Int32))) (lv' := [(5, .int (x5 + (1 : Int32))), (0, .ref sh), (1, .int x1), (3, .int x3), (4, .int x4)]) hx hb d_St_mustPrecede_47 hl (k := 4) rfl rfl (by decide) rfl (fun ls hl => ?_)
          refine lv_goto (tgt := 20) hx hb d_St_mustPrecede_50 (by decide) ?_
          exact ih _ _ _ _ _ hf _ _ _ hP hD hS (lv_sub hl [1, 2, 3, 4, 0] rfl)
        · have hf := x_ifn c6 hf
          refine lv_iload_n hx hb d_St_mustPrecede_37 rfl (lv_at hl 2 rfl) ?_
          refine lv_aload_n hx hb d_St_mustPrecede_38 rfl (lv_at hl 0 rfl) ?_
          refine va_get (D := D) (ci := 1) (v := .ref ea) (C := R_St) (T := F_St) (N := 7) hx hb hts i_St hown hK hP 0 rfl rfl 2 (by decide) (hts _ k_48) (fun _ h9 => h9) rfl d_St_mustPrecede_39 ?_
          refine lv_iload hx hb d_St_mustPrecede_42 (lv_at hl 4 rfl) ?_
          obtain ⟨g5, hf⟩ := x_if hf
          refine va_iald hx hb hK hP 11 0 rfl rfl (xi_in g5) d_St_mustPrecede_44 ?_
          refine lv_ior hx hb d_St_mustPrecede_45 ?_
          refine lv_istore_n (lv' := [(3, .int (x3 ||| (U.2.2.1 x5.toNatClampNeg))), (0, .ref sh), (1, .int x1), (4, .int x4), (5, .int x5)]) hx hb d_St_mustPrecede_46 rfl hl (by decide) rfl (fun ls hl => ?_)
          refine lv_iinc (v := (x5 + (1 : Int32))) (lv' := [(5, .int (x5 + (1 : Int32))), (3, .int (x3 ||| (U.2.2.1 x5.toNatClampNeg))), (0, .ref sh), (1, .int x1), (4, .int x4)]) hx hb d_St_mustPrecede_47 hl (k := 4) rfl rfl (by decide) rfl (fun ls hl => ?_)
          refine lv_goto (tgt := 20) hx hb d_St_mustPrecede_50 (by decide) ?_
          exact ih _ _ _ _ _ hf _ _ _ hP hD hS (lv_sub hl [2, 3, 1, 4, 0] rfl)
  have L_10 : ∀ n : Nat, ∀ (x1 : Int32) (x3 : Int32) (x4 : Int32) (U : K_St), f_St_mustPrecede_10 N n x1 x3 x4 U = some r → ∀ (H : Heap) (locs : List Loc) (ls : Array Slot), va_P D vwCl (w_St cI cJ cZ sh mh m0 m1 m2 m3 dh d0 d1 d2 d3 ea U) H → va_D A (w_St cI cJ cZ sh mh m0 m1 m2 m3 dh d0 d1 d2 d3 ea U) → va_S A s.heap H locs → lv_has ls 6 [(0, .ref sh), (1, .int x1), (3, .int x3), (4, .int x4)] → W p l e (rm_St_mustPrecede) s m [.ref sh, .int p0, .int p1].toArray below meth c H locs 0 0 (xQ D vwCl (tyL cI cJ cZ) below s A (oI r.1) (w_St cI cJ cZ sh mh m0 m1 m2 m3 dh d0 d1 d2 d3 ea r.2) (rm_St_mustPrecede).cells (rm_St_mustPrecede).slots) (F0 m 10 ls []) := by
    intro n
    induction n with
    | zero =>
      intro x1 x3 x4 U hf
      have hf : (none : Option (Int32 × K_St)) = some r := hf
      cases hf
    | succ n ih =>
      intro x1 x3 x4 U hf H locs ls hP hD hS hl
      rw [f_St_mustPrecede_10] at hf
      refine lv_iload hx hb d_St_mustPrecede_10 (lv_at hl 3 rfl) ?_
      refine lv_bipush (v := (7 : Int32)) hx hb d_St_mustPrecede_12 (by decide) ?_
      refine lv_icmp_ge (tgt := 59) hx hb d_St_mustPrecede_14 (by decide) (fun c8 => ?_) (fun c8 => ?_)
      · have hf := x_ifp c8 hf
        refine lv_iload_n hx hb d_St_mustPrecede_59 rfl (lv_at hl 2 rfl) ?_
        refine lv_i2l (v := (x3).toInt64) hx hb d_St_mustPrecede_60 rfl ?_
        refine lv_iload_n hx hb d_St_mustPrecede_61 rfl (lv_at hl 1 rfl) ?_
        obtain ⟨z2, hz2, hf⟩ := x_bind hf
        refine x_callSN (w2 := (w_St cI cJ cZ sh mh m0 m1 m2 m3 dh d0 d1 d2 d3 ea U)) ⟨hx, hb, hml, hown, hts⟩ (c_Rv_has l D cI cJ cZ  N (x3).toInt64 x1  z2 hz2) (x_cwSN 2 hts rfl k_79 k_22 k_23 k_24 (by decide +kernel) ⟨(Nat.le_of_ble_eq_true rfl), (Nat.le_of_ble_eq_true rfl)⟩) hK hP hD hS hA hZ [] [0, 1, 2, 3, 4, 5, 6, 7, 8, 9, 10, 11] [0, 1, 2, 3, 4, 5, 6, 7, 8, 9, 10, 11] (by decide) rfl rfl (by decide) (by decide) (by decide) rfl rfl hl.1 rfl (Nat.le_of_ble_eq_true rfl) d_St_mustPrecede_62 ⟨(Nat.le_of_ble_eq_true rfl), (Nat.le_of_ble_eq_true rfl)⟩ (fun H locs hP hD hS => ?_)
        refine W.eq (g2 := F0 m 65 ls [.int z2]) rfl ?_
        obtain ⟨g3, hf⟩ := x_if hf
        obtain rfl := Option.some.inj hf
        exact x_zret hx hb hr hlocks (x_nb g3) hK hP hD hS (Nat.le_of_ble_eq_true rfl) (Nat.le_of_ble_eq_true rfl) d_St_mustPrecede_65
      · have hf := x_ifn c8 hf
        refine lv_iconst (v := (0 : Int32)) hx hb d_St_mustPrecede_17 (by decide) ?_
        refine lv_istore (lv' := [(5, .int (0 : Int32)), (0, .ref sh), (1, .int x1), (3, .int x3), (4, .int x4)]) hx hb d_St_mustPrecede_18 hl (by decide) rfl (fun ls hl => ?_)
        exact L_20 (f_St_mustPrecede_10 N n) ih _ _ _ _ _ _ hf _ _ _ hP hD hS (lv_sub hl [1, 2, 3, 4, 0] rfl)
  refine lv_aload_n hx hb d_St_mustPrecede_0 rfl (lv_at hl 0 rfl) ?_
  refine va_get (D := D) (ci := 1) (v := .ref ea) (C := R_St) (T := F_St) (N := 7) hx hb hts i_St hown hK hP 0 rfl rfl 2 (by decide) (hts _ k_48) (fun _ h9 => h9) rfl d_St_mustPrecede_1 ?_
  refine lv_iload_n hx hb d_St_mustPrecede_4 rfl (lv_at hl 2 rfl) ?_
  obtain ⟨g1, hf⟩ := x_if hf
  refine va_iald hx hb hK hP 11 0 rfl rfl (xi_in g1) d_St_mustPrecede_5 ?_
  refine lv_istore_n (lv' := [(3, .int (U.2.2.1 p1.toNatClampNeg)), (0, .ref sh), (1, .int p0), (2, .int p1)]) hx hb d_St_mustPrecede_6 rfl hl (by decide) rfl (fun ls hl => ?_)
  refine lv_iconst (v := (0 : Int32)) hx hb d_St_mustPrecede_7 (by decide) ?_
  refine lv_istore (lv' := [(4, .int (0 : Int32)), (3, .int (U.2.2.1 p1.toNatClampNeg)), (0, .ref sh), (1, .int p0), (2, .int p1)]) hx hb d_St_mustPrecede_8 hl (by decide) rfl (fun ls hl => ?_)
  exact L_10 _ _ _ _ _ hf _ _ _ hP hD hS (lv_sub hl [2, 3, 1, 0] rfl)
set_option maxHeartbeats 4000000 in
set_option maxRecDepth 100000 in
theorem c_St_note (l : Launch) (D : va_G) (cI cJ cZ : ClassId) (sh mh m0 m1 m2 m3 dh d0 d1 d2 d3 ea : Nat) (N : Nat) (p0 : Int32) (p1 : Int32) (U : K_St) (r : (Int32 × K_St)) (hf : f_St_note N p0 p1 U = some r) : Cx l y_St_note ws_St_note rm_St_note D vwCl (tyL cI cJ cZ) [.ref sh, .int p0, .int p1] (w_St cI cJ cZ sh mh m0 m1 m2 m3 dh d0 d1 d2 d3 ea U) (oI r.1) (w_St cI cJ cZ sh mh m0 m1 m2 m3 dh d0 d1 d2 d3 ea r.2) := by
  unfold f_St_note at hf
  refine Cx.ofW (cc := b_St_note) (maxL := 3) (ret := (some .boolean)) (by decide) rfl ?_
  intro p e s m below meth c A C0 hP hK hD hA hns hZ
  obtain ⟨hx, hb, hml, hown, hts0, hr, hlocks, hnm, hno⟩ := C0
  have hown : s.vm.findClass R_St = some m.cls := hown
  have hts : ∀ w ∈ tb, w.before [.ref sh, .int p0, .int p1].toArray s = true := fun w h => hts0 w (List.mem_cons_of_mem _ h)
  have hS : va_S A s.heap s.heap [] := va_S.rf
  have hl := lv_entry ([.ref sh, .int p0, .int p1]) (n := 3) (Nat.le_of_ble_eq_true rfl)
  rw [lg_entry_eq]
  generalize (lg_sl ([.ref sh, .int p0, .int p1]) ++ List.replicate (3 - (lg_sl ([.ref sh, .int p0, .int p1])).length) Slot.unset).toArray = ls at hl ⊢
  have hl : lv_has ls 3 [(0, .ref sh), (1, .int p0), (2, .int p1)] := hl
  refine lv_iload_n hx hb d_St_note_0 rfl (lv_at hl 1 rfl) ?_
  refine lv_iload_n hx hb d_St_note_1 rfl (lv_at hl 2 rfl) ?_
  refine lv_icmp_ne (tgt := 7) hx hb d_St_note_2 (by decide) (fun c9 => ?_) (fun c9 => ?_)
  · have hf := x_ifn c9 hf
    refine lv_aload_n hx hb d_St_note_7 rfl (lv_at hl 0 rfl) ?_
    refine lv_iload_n hx hb d_St_note_8 rfl (lv_at hl 2 rfl) ?_
    refine lv_iload_n hx hb d_St_note_9 rfl (lv_at hl 1 rfl) ?_
    obtain ⟨z1, hz1, hf⟩ := x_bind hf
    refine x_callV (w2 := (w_St cI cJ cZ sh mh m0 m1 m2 m3 dh d0 d1 d2 d3 ea z1.2)) ⟨hx, hb, hml, hown, hts⟩ (c_St_mustPrecede l D cI cJ cZ sh mh m0 m1 m2 m3 dh d0 d1 d2 d3 ea N p1 p0 U z1 hz1) (x_cwV 2 hts rfl k_80 k_81 k_82 k_55 k_83 (by decide +kernel) ⟨(Nat.le_of_ble_eq_true rfl), (Nat.le_of_ble_eq_true rfl)⟩) hK hP hD hS hA hZ [0, 1, 2, 3, 4, 5, 6, 7, 8, 9, 10, 11] [] [0, 1, 2, 3, 4, 5, 6, 7, 8, 9, 10, 11] (by decide) rfl rfl (by decide) (by decide) (by decide) rfl (ci := 1) rfl rfl rfl hl.1 rfl (Nat.le_of_ble_eq_true rfl) d_St_note_10 ⟨(Nat.le_of_ble_eq_true rfl), (Nat.le_of_ble_eq_true rfl)⟩ (fun H locs hP hD hS => ?_)
    refine W.eq (g2 := F0 m 13 ls [.int z1.1]) rfl ?_
    refine lv_if_eq (tgt := 27) hx hb d_St_note_13 (by decide) (fun c8 => ?_) (fun c8 => ?_)
    · have hf := x_ifp c8 hf
      refine lv_aload_n hx hb d_St_note_27 rfl (lv_at hl 0 rfl) ?_
      refine va_get (D := D) (ci := 1) (v := .ref ea) (C := R_St) (T := F_St) (N := 7) hx hb hts i_St hown hK hP 0 rfl rfl 2 (by decide) (hts _ k_48) (fun _ h9 => h9) rfl d_St_note_28 ?_
      refine lv_iload_n hx hb d_St_note_31 rfl (lv_at hl 2 rfl) ?_
      refine lv_dup2_11 hx hb d_St_note_32 rfl rfl ?_
      obtain ⟨g2, hf⟩ := x_if hf
      refine va_iald hx hb hK hP 11 0 rfl rfl (xi_in g2) d_St_note_33 ?_
      refine lv_iconst (v := (1 : Int32)) hx hb d_St_note_34 (by decide) ?_
      refine lv_iload_n hx hb d_St_note_35 rfl (lv_at hl 1 rfl) ?_
      refine lv_ishl hx hb d_St_note_36 ?_
      refine lv_ior hx hb d_St_note_37 ?_
      obtain ⟨g3, hf⟩ := x_if hf
      refine va_iast hx hb hK hP hD hS 11 0 rfl rfl (xi_in g3) d_St_note_38 (fun H locs hP hD hS => ?_)
      have hP : va_P D vwCl (w_St cI cJ cZ sh mh m0 m1 m2 m3 dh d0 d1 d2 d3 ea (z1.2.1, (z1.2.2.1, ((upd z1.2.2.2.1 p1.toNatClampNeg ((z1.2.2.2.1 p1.toNatClampNeg) ||| ((1 : Int32) <<< (p0 &&& 31)))), z1.2.2.2.2)))) H := hP
      have hD : va_D A (w_St cI cJ cZ sh mh m0 m1 m2 m3 dh d0 d1 d2 d3 ea (z1.2.1, (z1.2.2.1, ((upd z1.2.2.2.1 p1.toNatClampNeg ((z1.2.2.2.1 p1.toNatClampNeg) ||| ((1 : Int32) <<< (p0 &&& 31)))), z1.2.2.2.2)))) := hD
      refine lv_iconst (v := (1 : Int32)) hx hb d_St_note_39 (by decide) ?_
      obtain rfl := Option.some.inj hf
      exact x_zret hx hb hr hlocks (x_nb (Or.inr rfl)) hK hP hD hS (Nat.le_of_ble_eq_true rfl) (Nat.le_of_ble_eq_true rfl) d_St_note_40
    · have hf := x_ifn c8 hf
      refine lv_aload_n hx hb d_St_note_16 rfl (lv_at hl 0 rfl) ?_
      refine lv_iload_n hx hb d_St_note_17 rfl (lv_at hl 2 rfl) ?_
      refine lv_iconst (v := (0 : Int32)) hx hb d_St_note_18 (by decide) ?_
      obtain ⟨z4, hz4, hf⟩ := x_bind hf
      refine x_callV (w2 := (w_St cI cJ cZ sh mh m0 m1 m2 m3 dh d0 d1 d2 d3 ea z4.2)) ⟨hx, hb, hml, hown, hts⟩ (c_St_put l D cI cJ cZ sh mh m0 m1 m2 m3 dh d0 d1 d2 d3 ea N 9 p1 (0 : Int32) z1.2 z4 hz4) (x_cwV 2 hts rfl k_75 k_76 k_77 k_55 k_78 (by decide +kernel) ⟨(Nat.le_of_ble_eq_true rfl), (Nat.le_of_ble_eq_true rfl)⟩) hK hP hD hS hA hZ [0, 1, 2, 3, 4, 5, 6, 7, 8, 9, 10, 11] [] [0, 1, 2, 3, 4, 5, 6, 7, 8, 9, 10, 11] (by decide) rfl rfl (by decide) (by decide) (by decide) rfl (ci := 1) rfl rfl rfl hl.1 rfl (Nat.le_of_ble_eq_true rfl) d_St_note_19 ⟨(Nat.le_of_ble_eq_true rfl), (Nat.le_of_ble_eq_true rfl)⟩ (fun H locs hP hD hS => ?_)
      refine W.eq (g2 := F0 m 22 ls [.int z4.1]) rfl ?_
      refine lv_if_ne (tgt := 27) hx hb d_St_note_22 (by decide) (fun c7 => ?_) (fun c7 => ?_)
      · have hf := x_ifn c7 hf
        refine lv_aload_n hx hb d_St_note_27 rfl (lv_at hl 0 rfl) ?_
        refine va_get (D := D) (ci := 1) (v := .ref ea) (C := R_St) (T := F_St) (N := 7) hx hb hts i_St hown hK hP 0 rfl rfl 2 (by decide) (hts _ k_48) (fun _ h9 => h9) rfl d_St_note_28 ?_
        refine lv_iload_n hx hb d_St_note_31 rfl (lv_at hl 2 rfl) ?_
        refine lv_dup2_11 hx hb d_St_note_32 rfl rfl ?_
        obtain ⟨g5, hf⟩ := x_if hf
        refine va_iald hx hb hK hP 11 0 rfl rfl (xi_in g5) d_St_note_33 ?_
        refine lv_iconst (v := (1 : Int32)) hx hb d_St_note_34 (by decide) ?_
        refine lv_iload_n hx hb d_St_note_35 rfl (lv_at hl 1 rfl) ?_
        refine lv_ishl hx hb d_St_note_36 ?_
        refine lv_ior hx hb d_St_note_37 ?_
        obtain ⟨g6, hf⟩ := x_if hf
        refine va_iast hx hb hK hP hD hS 11 0 rfl rfl (xi_in g6) d_St_note_38 (fun H locs hP hD hS => ?_)
        have hP : va_P D vwCl (w_St cI cJ cZ sh mh m0 m1 m2 m3 dh d0 d1 d2 d3 ea (z4.2.1, (z4.2.2.1, ((upd z4.2.2.2.1 p1.toNatClampNeg ((z4.2.2.2.1 p1.toNatClampNeg) ||| ((1 : Int32) <<< (p0 &&& 31)))), z4.2.2.2.2)))) H := hP
        have hD : va_D A (w_St cI cJ cZ sh mh m0 m1 m2 m3 dh d0 d1 d2 d3 ea (z4.2.1, (z4.2.2.1, ((upd z4.2.2.2.1 p1.toNatClampNeg ((z4.2.2.2.1 p1.toNatClampNeg) ||| ((1 : Int32) <<< (p0 &&& 31)))), z4.2.2.2.2)))) := hD
        refine lv_iconst (v := (1 : Int32)) hx hb d_St_note_39 (by decide) ?_
        obtain rfl := Option.some.inj hf
        exact x_zret hx hb hr hlocks (x_nb (Or.inr rfl)) hK hP hD hS (Nat.le_of_ble_eq_true rfl) (Nat.le_of_ble_eq_true rfl) d_St_note_40
      · have hf := x_ifp c7 hf
        refine lv_iconst (v := (0 : Int32)) hx hb d_St_note_25 (by decide) ?_
        obtain rfl := Option.some.inj hf
        exact x_zret hx hb hr hlocks (x_nb (Or.inl rfl)) hK hP hD hS (Nat.le_of_ble_eq_true rfl) (Nat.le_of_ble_eq_true rfl) d_St_note_26
  · have hf := x_ifp c9 hf
    refine lv_iconst (v := (1 : Int32)) hx hb d_St_note_5 (by decide) ?_
    obtain rfl := Option.some.inj hf
    exact x_zret hx hb hr hlocks (x_nb (Or.inr rfl)) hK hP hD hS (Nat.le_of_ble_eq_true rfl) (Nat.le_of_ble_eq_true rfl) d_St_note_6
set_option maxHeartbeats 4000000 in
set_option maxRecDepth 100000 in
theorem c_Rv_init (l : Launch) (D : va_G) (cI cJ cZ : ClassId) (rh : Nat) (N : Nat) (r : K_Rv) (hf : f_Rv_init N = some r) : Cxe l y_Rv_init ws_Rv_init rm_Rv_init D vwCl (tyL cI cJ cZ) [.ref rh] [(rh, .inr (2, [.null, .null, .null, .null, .null]))] (fun a : Nat → Nat => (w_Rv cI cJ cZ rh (a 0) (a 1) (a 2) (a 3) (a 4) (a 5) (a 6) (a 7) (a 8) (a 9) (a 10) (a 11) (a 12) (a 13) (a 14) r)) := by
  unfold f_Rv_init at hf
  refine Cxe.ofW (cc := b_Rv_init) (maxL := 1) (ret := none) (by decide) rfl ?_
  intro p e s m below meth c A C0 hP hK hD hA hns hZ
  obtain ⟨hx, hb, hml, hown, hts0, hr, hlocks, hnm, hno⟩ := C0
  have hown : s.vm.findClass R_Rv = some m.cls := hown
  have hts : ∀ w ∈ tb, w.before [.ref rh].toArray s = true := fun w h => hts0 w (List.mem_cons_of_mem _ h)
  have hS : va_S A s.heap s.heap [] := va_S.rf
  have hl := lv_entry ([.ref rh]) (n := 1) (Nat.le_of_ble_eq_true rfl)
  rw [lg_entry_eq]
  generalize (lg_sl ([.ref rh]) ++ List.replicate (1 - (lg_sl ([.ref rh])).length) Slot.unset).toArray = ls at hl ⊢
  have hl : lv_has ls 1 [(0, .ref rh)] := hl
  refine lv_aload_n hx hb d_Rv_init_0 rfl (lv_at hl 0 rfl) ?_
  refine W.objInit hx hb hown (hts _ k_84) (hts _ k_1) (hts _ k_2) rfl (by rw [hml]; exact hl.1) rfl d_Rv_init_1 (Nat.le_of_ble_eq_true rfl) (Nat.le_of_ble_eq_true rfl) ?_
  refine W.eq (g2 := F0 m 4 ls []) rfl ?_
  refine lv_aload_n hx hb d_Rv_init_4 rfl (lv_at hl 0 rfl) ?_
  refine va_new (ci := 1) (fs := [.null, .null, .null, .int 0, .int 0, .int 0, .int 0]) (C := R_St) (T := F_St) (N := 7) hx hb hts i_St t_St t_St_ok hown (hts _ k_85) (hts _ k_86) (hts _ k_55) hK hP hD hS hA rfl (fun j hj => x_fs_St j hj) (Nat.le_of_ble_eq_true rfl) (Nat.le_of_ble_eq_true rfl) d_Rv_init_5 (fun q1 H hP hD hS => ?_)
  have hP : va_P D vwCl [(rh, .inr (2, [.null, .null, .null, .null, .null])), (q1, .inr (1, [.null, .null, .null, .int 0, .int 0, .int 0, .int 0]))] H := hP
  have hD : va_D A [(rh, .inr (2, [.null, .null, .null, .null, .null])), (q1, .inr (1, [.null, .null, .null, .int 0, .int 0, .int 0, .int 0]))] := hD
  refine lv_dup hx hb d_Rv_init_8 rfl ?_
  obtain ⟨z2, hz2, hf⟩ := x_bind hf
  refine x_callE ⟨hx, hb, hml, hown, hts⟩ (c_St_init l D cI cJ cZ q1 N z2 hz2) (x_cwI 0 hts rfl k_87 k_88 k_55 k_89 rfl (by decide +kernel) ⟨(Nat.le_of_ble_eq_true rfl), (Nat.le_of_ble_eq_true rfl)⟩) hK hP hD hS hA hZ [1] [0] (by decide) rfl rfl (by decide) (by decide) rfl hl.1 rfl (Nat.le_of_ble_eq_true rfl) d_Rv_init_9 ⟨(Nat.le_of_ble_eq_true rfl), (Nat.le_of_ble_eq_true rfl)⟩ (fun q3 H locs hP hD hS => ?_)
  refine W.eq (g2 := F0 m 12 ls [.ref q1, .ref rh]) rfl ?_
  have hP : va_P D vwCl [(rh, .inr (2, [.null, .null, .null, .null, .null])), (q1, .inr (1, [.ref (q3 0), .ref (q3 5), .ref (q3 10), .int z2.2.2.2.1, .int z2.2.2.2.2.1, .int z2.2.2.2.2.2.1, .int z2.2.2.2.2.2.2])), ((q3 0), .inr (0, [.ref (q3 1), .ref (q3 2), .ref (q3 3), .ref (q3 4)])), ((q3 1), .inl (cI, 15, .inl z2.1.1)), ((q3 2), .inl (cI, 15, .inl z2.1.2.1)), ((q3 3), .inl (cI, 15, .inl z2.1.2.2.1)), ((q3 4), .inl (cI, 41, .inl z2.1.2.2.2)), ((q3 5), .inr (0, [.ref (q3 6), .ref (q3 7), .ref (q3 8), .ref (q3 9)])), ((q3 6), .inl (cI, 15, .inl z2.2.1.1)), ((q3 7), .inl (cI, 15, .inl z2.2.1.2.1)), ((q3 8), .inl (cI, 15, .inl z2.2.1.2.2.1)), ((q3 9), .inl (cI, 41, .inl z2.2.1.2.2.2)), ((q3 10), .inl (cI, 7, .inl z2.2.2.1))] H := hP
  have hD : va_D A [(rh, .inr (2, [.null, .null, .null, .null, .null])), (q1, .inr (1, [.ref (q3 0), .ref (q3 5), .ref (q3 10), .int z2.2.2.2.1, .int z2.2.2.2.2.1, .int z2.2.2.2.2.2.1, .int z2.2.2.2.2.2.2])), ((q3 0), .inr (0, [.ref (q3 1), .ref (q3 2), .ref (q3 3), .ref (q3 4)])), ((q3 1), .inl (cI, 15, .inl z2.1.1)), ((q3 2), .inl (cI, 15, .inl z2.1.2.1)), ((q3 3), .inl (cI, 15, .inl z2.1.2.2.1)), ((q3 4), .inl (cI, 41, .inl z2.1.2.2.2)), ((q3 5), .inr (0, [.ref (q3 6), .ref (q3 7), .ref (q3 8), .ref (q3 9)])), ((q3 6), .inl (cI, 15, .inl z2.2.1.1)), ((q3 7), .inl (cI, 15, .inl z2.2.1.2.1)), ((q3 8), .inl (cI, 15, .inl z2.2.1.2.2.1)), ((q3 9), .inl (cI, 41, .inl z2.2.1.2.2.2)), ((q3 10), .inl (cI, 7, .inl z2.2.2.1))] := hD
  refine va_putF (D := D) (ci := 2) (v := .ref q1) (ty := .object "RecordVersions$Store") (C := R_Rv) (T := F_Rv) (N := 5) hx hb hts i_Rv t_Rv t_Rv_ok n_Rv hown hK hP hD hS 0 rfl rfl 0 (by decide) (hts _ k_90) (fun _ h9 => h9) rfl hnm rfl (by decide +kernel) rfl rfl (Nat.le_of_ble_eq_true rfl) d_Rv_init_12 (fun H locs hP hD hS => ?_)
  have hP : va_P D vwCl [(rh, .inr (2, [.ref q1, .null, .null, .null, .null])), (q1, .inr (1, [.ref (q3 0), .ref (q3 5), .ref (q3 10), .int z2.2.2.2.1, .int z2.2.2.2.2.1, .int z2.2.2.2.2.2.1, .int z2.2.2.2.2.2.2])), ((q3 0), .inr (0, [.ref (q3 1), .ref (q3 2), .ref (q3 3), .ref (q3 4)])), ((q3 1), .inl (cI, 15, .inl z2.1.1)), ((q3 2), .inl (cI, 15, .inl z2.1.2.1)), ((q3 3), .inl (cI, 15, .inl z2.1.2.2.1)), ((q3 4), .inl (cI, 41, .inl z2.1.2.2.2)), ((q3 5), .inr (0, [.ref (q3 6), .ref (q3 7), .ref (q3 8), .ref (q3 9)])), ((q3 6), .inl (cI, 15, .inl z2.2.1.1)), ((q3 7), .inl (cI, 15, .inl z2.2.1.2.1)), ((q3 8), .inl (cI, 15, .inl z2.2.1.2.2.1)), ((q3 9), .inl (cI, 41, .inl z2.2.1.2.2.2)), ((q3 10), .inl (cI, 7, .inl z2.2.2.1))] H := hP
  have hD : va_D A [(rh, .inr (2, [.ref q1, .null, .null, .null, .null])), (q1, .inr (1, [.ref (q3 0), .ref (q3 5), .ref (q3 10), .int z2.2.2.2.1, .int z2.2.2.2.2.1, .int z2.2.2.2.2.2.1, .int z2.2.2.2.2.2.2])), ((q3 0), .inr (0, [.ref (q3 1), .ref (q3 2), .ref (q3 3), .ref (q3 4)])), ((q3 1), .inl (cI, 15, .inl z2.1.1)), ((q3 2), .inl (cI, 15, .inl z2.1.2.1)), ((q3 3), .inl (cI, 15, .inl z2.1.2.2.1)), ((q3 4), .inl (cI, 41, .inl z2.1.2.2.2)), ((q3 5), .inr (0, [.ref (q3 6), .ref (q3 7), .ref (q3 8), .ref (q3 9)])), ((q3 6), .inl (cI, 15, .inl z2.2.1.1)), ((q3 7), .inl (cI, 15, .inl z2.2.1.2.1)), ((q3 8), .inl (cI, 15, .inl z2.2.1.2.2.1)), ((q3 9), .inl (cI, 41, .inl z2.2.1.2.2.2)), ((q3 10), .inl (cI, 7, .inl z2.2.2.1))] := hD
  refine lv_aload_n hx hb d_Rv_init_15 rfl (lv_at hl 0 rfl) ?_
  refine lv_aload_n hx hb d_Rv_init_16 rfl (lv_at hl 0 rfl) ?_
  refine va_get (D := D) (ci := 2) (v := .ref q1) (C := R_Rv) (T := F_Rv) (N := 5) hx hb hts i_Rv hown hK hP 0 rfl rfl 0 (by decide) (hts _ k_90) (fun _ h9 => h9) rfl d_Rv_init_17 ?_
  refine va_get (D := D) (ci := 1) (v := .ref (q3 0)) (C := R_St) (T := F_St) (N := 7) hx hb hts i_St hown hK hP 1 rfl rfl 0 (by decide) (hts _ k_91) (fun _ h9 => h9) rfl d_Rv_init_20 ?_
  refine va_putF (D := D) (ci := 2) (v := .ref (q3 0)) (ty := .object "RecordVersions$Content") (C := R_Rv) (T := F_Rv) (N := 5) hx hb hts i_Rv t_Rv t_Rv_ok n_Rv hown hK hP hD hS 0 rfl rfl 1 (by decide) (hts _ k_92) (fun _ h9 => h9) rfl hnm rfl (by decide +kernel) rfl rfl (Nat.le_of_ble_eq_true rfl) d_Rv_init_23 (fun H locs hP hD hS => ?_)
  have hP : va_P D vwCl [(rh, .inr (2, [.ref q1, .ref (q3 0), .null, .null, .null])), (q1, .inr (1, [.ref (q3 0), .ref (q3 5), .ref (q3 10), .int z2.2.2.2.1, .int z2.2.2.2.2.1, .int z2.2.2.2.2.2.1, .int z2.2.2.2.2.2.2])), ((q3 0), .inr (0, [.ref (q3 1), .ref (q3 2), .ref (q3 3), .ref (q3 4)])), ((q3 1), .inl (cI, 15, .inl z2.1.1)), ((q3 2), .inl (cI, 15, .inl z2.1.2.1)), ((q3 3), .inl (cI, 15, .inl z2.1.2.2.1)), ((q3 4), .inl (cI, 41, .inl z2.1.2.2.2)), ((q3 5), .inr (0, [.ref (q3 6), .ref (q3 7), .ref (q3 8), .ref (q3 9)])), ((q3 6), .inl (cI, 15, .inl z2.2.1.1)), ((q3 7), .inl (cI, 15, .inl z2.2.1.2.1)), ((q3 8), .inl (cI, 15, .inl z2.2.1.2.2.1)), ((q3 9), .inl (cI, 41, .inl z2.2.1.2.2.2)), ((q3 10), .inl (cI, 7, .inl z2.2.2.1))] H := hP
  have hD : va_D A [(rh, .inr (2, [.ref q1, .ref (q3 0), .null, .null, .null])), (q1, .inr (1, [.ref (q3 0), .ref (q3 5), .ref (q3 10), .int z2.2.2.2.1, .int z2.2.2.2.2.1, .int z2.2.2.2.2.2.1, .int z2.2.2.2.2.2.2])), ((q3 0), .inr (0, [.ref (q3 1), .ref (q3 2), .ref (q3 3), .ref (q3 4)])), ((q3 1), .inl (cI, 15, .inl z2.1.1)), ((q3 2), .inl (cI, 15, .inl z2.1.2.1)), ((q3 3), .inl (cI, 15, .inl z2.1.2.2.1)), ((q3 4), .inl (cI, 41, .inl z2.1.2.2.2)), ((q3 5), .inr (0, [.ref (q3 6), .ref (q3 7), .ref (q3 8), .ref (q3 9)])), ((q3 6), .inl (cI, 15, .inl z2.2.1.1)), ((q3 7), .inl (cI, 15, .inl z2.2.1.2.1)), ((q3 8), .inl (cI, 15, .inl z2.2.1.2.2.1)), ((q3 9), .inl (cI, 41, .inl z2.2.1.2.2.2)), ((q3 10), .inl (cI, 7, .inl z2.2.2.1))] := hD
  refine lv_aload_n hx hb d_Rv_init_26 rfl (lv_at hl 0 rfl) ?_
  refine lv_bipush (v := (41 : Int32)) hx hb d_Rv_init_27 (by decide) ?_
  refine x_newL (N := 41) hx hb (hts _ k_93) hK hP hD hS hA (by decide) (by decide) (by decide) (Nat.le_of_ble_eq_true rfl) (Nat.le_of_ble_eq_true rfl) d_Rv_init_29 (fun q4 H hP hD hS => ?_)
  have hP : va_P D vwCl [(rh, .inr (2, [.ref q1, .ref (q3 0), .null, .null, .null])), (q1, .inr (1, [.ref (q3 0), .ref (q3 5), .ref (q3 10), .int z2.2.2.2.1, .int z2.2.2.2.2.1, .int z2.2.2.2.2.2.1, .int z2.2.2.2.2.2.2])), ((q3 0), .inr (0, [.ref (q3 1), .ref (q3 2), .ref (q3 3), .ref (q3 4)])), ((q3 1), .inl (cI, 15, .inl z2.1.1)), ((q3 2), .inl (cI, 15, .inl z2.1.2.1)), ((q3 3), .inl (cI, 15, .inl z2.1.2.2.1)), ((q3 4), .inl (cI, 41, .inl z2.1.2.2.2)), ((q3 5), .inr (0, [.ref (q3 6), .ref (q3 7), .ref (q3 8), .ref (q3 9)])), ((q3 6), .inl (cI, 15, .inl z2.2.1.1)), ((q3 7), .inl (cI, 15, .inl z2.2.1.2.1)), ((q3 8), .inl (cI, 15, .inl z2.2.1.2.2.1)), ((q3 9), .inl (cI, 41, .inl z2.2.1.2.2.2)), ((q3 10), .inl (cI, 7, .inl z2.2.2.1)), (q4, .inl (cJ, 41, .inr (.inl (fun _ => 0))))] H := hP
  have hD : va_D A [(rh, .inr (2, [.ref q1, .ref (q3 0), .null, .null, .null])), (q1, .inr (1, [.ref (q3 0), .ref (q3 5), .ref (q3 10), .int z2.2.2.2.1, .int z2.2.2.2.2.1, .int z2.2.2.2.2.2.1, .int z2.2.2.2.2.2.2])), ((q3 0), .inr (0, [.ref (q3 1), .ref (q3 2), .ref (q3 3), .ref (q3 4)])), ((q3 1), .inl (cI, 15, .inl z2.1.1)), ((q3 2), .inl (cI, 15, .inl z2.1.2.1)), ((q3 3), .inl (cI, 15, .inl z2.1.2.2.1)), ((q3 4), .inl (cI, 41, .inl z2.1.2.2.2)), ((q3 5), .inr (0, [.ref (q3 6), .ref (q3 7), .ref (q3 8), .ref (q3 9)])), ((q3 6), .inl (cI, 15, .inl z2.2.1.1)), ((q3 7), .inl (cI, 15, .inl z2.2.1.2.1)), ((q3 8), .inl (cI, 15, .inl z2.2.1.2.2.1)), ((q3 9), .inl (cI, 41, .inl z2.2.1.2.2.2)), ((q3 10), .inl (cI, 7, .inl z2.2.2.1)), (q4, .inl (cJ, 41, .inr (.inl (fun _ => 0))))] := hD
  refine va_putF (D := D) (ci := 2) (v := .ref q4) (ty := .array .long) (C := R_Rv) (T := F_Rv) (N := 5) hx hb hts i_Rv t_Rv t_Rv_ok n_Rv hown hK hP hD hS 0 rfl rfl 2 (by decide) (hts _ k_94) (fun _ h9 => h9) rfl hnm rfl (by decide +kernel) rfl rfl (Nat.le_of_ble_eq_true rfl) d_Rv_init_31 (fun H locs hP hD hS => ?_)
  have hP : va_P D vwCl [(rh, .inr (2, [.ref q1, .ref (q3 0), .ref q4, .null, .null])), (q1, .inr (1, [.ref (q3 0), .ref (q3 5), .ref (q3 10), .int z2.2.2.2.1, .int z2.2.2.2.2.1, .int z2.2.2.2.2.2.1, .int z2.2.2.2.2.2.2])), ((q3 0), .inr (0, [.ref (q3 1), .ref (q3 2), .ref (q3 3), .ref (q3 4)])), ((q3 1), .inl (cI, 15, .inl z2.1.1)), ((q3 2), .inl (cI, 15, .inl z2.1.2.1)), ((q3 3), .inl (cI, 15, .inl z2.1.2.2.1)), ((q3 4), .inl (cI, 41, .inl z2.1.2.2.2)), ((q3 5), .inr (0, [.ref (q3 6), .ref (q3 7), .ref (q3 8), .ref (q3 9)])), ((q3 6), .inl (cI, 15, .inl z2.2.1.1)), ((q3 7), .inl (cI, 15, .inl z2.2.1.2.1)), ((q3 8), .inl (cI, 15, .inl z2.2.1.2.2.1)), ((q3 9), .inl (cI, 41, .inl z2.2.1.2.2.2)), ((q3 10), .inl (cI, 7, .inl z2.2.2.1)), (q4, .inl (cJ, 41, .inr (.inl (fun _ => 0))))] H := hP
  have hD : va_D A [(rh, .inr (2, [.ref q1, .ref (q3 0), .ref q4, .null, .null])), (q1, .inr (1, [.ref (q3 0), .ref (q3 5), .ref (q3 10), .int z2.2.2.2.1, .int z2.2.2.2.2.1, .int z2.2.2.2.2.2.1, .int z2.2.2.2.2.2.2])), ((q3 0), .inr (0, [.ref (q3 1), .ref (q3 2), .ref (q3 3), .ref (q3 4)])), ((q3 1), .inl (cI, 15, .inl z2.1.1)), ((q3 2), .inl (cI, 15, .inl z2.1.2.1)), ((q3 3), .inl (cI, 15, .inl z2.1.2.2.1)), ((q3 4), .inl (cI, 41, .inl z2.1.2.2.2)), ((q3 5), .inr (0, [.ref (q3 6), .ref (q3 7), .ref (q3 8), .ref (q3 9)])), ((q3 6), .inl (cI, 15, .inl z2.2.1.1)), ((q3 7), .inl (cI, 15, .inl z2.2.1.2.1)), ((q3 8), .inl (cI, 15, .inl z2.2.1.2.2.1)), ((q3 9), .inl (cI, 41, .inl z2.2.1.2.2.2)), ((q3 10), .inl (cI, 7, .inl z2.2.2.1)), (q4, .inl (cJ, 41, .inr (.inl (fun _ => 0))))] := hD
  refine lv_aload_n hx hb d_Rv_init_34 rfl (lv_at hl 0 rfl) ?_
  refine lv_bipush (v := (41 : Int32)) hx hb d_Rv_init_35 (by decide) ?_
  refine x_newI (N := 41) hx hb (hts _ k_3) hK hP hD hS hA (by decide) (by decide) (by decide) (Nat.le_of_ble_eq_true rfl) (Nat.le_of_ble_eq_true rfl) d_Rv_init_37 (fun q5 H hP hD hS => ?_)
  have hP : va_P D vwCl [(rh, .inr (2, [.ref q1, .ref (q3 0), .ref q4, .null, .null])), (q1, .inr (1, [.ref (q3 0), .ref (q3 5), .ref (q3 10), .int z2.2.2.2.1, .int z2.2.2.2.2.1, .int z2.2.2.2.2.2.1, .int z2.2.2.2.2.2.2])), ((q3 0), .inr (0, [.ref (q3 1), .ref (q3 2), .ref (q3 3), .ref (q3 4)])), ((q3 1), .inl (cI, 15, .inl z2.1.1)), ((q3 2), .inl (cI, 15, .inl z2.1.2.1)), ((q3 3), .inl (cI, 15, .inl z2.1.2.2.1)), ((q3 4), .inl (cI, 41, .inl z2.1.2.2.2)), ((q3 5), .inr (0, [.ref (q3 6), .ref (q3 7), .ref (q3 8), .ref (q3 9)])), ((q3 6), .inl (cI, 15, .inl z2.2.1.1)), ((q3 7), .inl (cI, 15, .inl z2.2.1.2.1)), ((q3 8), .inl (cI, 15, .inl z2.2.1.2.2.1)), ((q3 9), .inl (cI, 41, .inl z2.2.1.2.2.2)), ((q3 10), .inl (cI, 7, .inl z2.2.2.1)), (q4, .inl (cJ, 41, .inr (.inl (fun _ => 0)))), (q5, .inl (cI, 41, .inl (fun _ => 0)))] H := hP
  have hD : va_D A [(rh, .inr (2, [.ref q1, .ref (q3 0), .ref q4, .null, .null])), (q1, .inr (1, [.ref (q3 0), .ref (q3 5), .ref (q3 10), .int z2.2.2.2.1, .int z2.2.2.2.2.1, .int z2.2.2.2.2.2.1, .int z2.2.2.2.2.2.2])), ((q3 0), .inr (0, [.ref (q3 1), .ref (q3 2), .ref (q3 3), .ref (q3 4)])), ((q3 1), .inl (cI, 15, .inl z2.1.1)), ((q3 2), .inl (cI, 15, .inl z2.1.2.1)), ((q3 3), .inl (cI, 15, .inl z2.1.2.2.1)), ((q3 4), .inl (cI, 41, .inl z2.1.2.2.2)), ((q3 5), .inr (0, [.ref (q3 6), .ref (q3 7), .ref (q3 8), .ref (q3 9)])), ((q3 6), .inl (cI, 15, .inl z2.2.1.1)), ((q3 7), .inl (cI, 15, .inl z2.2.1.2.1)), ((q3 8), .inl (cI, 15, .inl z2.2.1.2.2.1)), ((q3 9), .inl (cI, 41, .inl z2.2.1.2.2.2)), ((q3 10), .inl (cI, 7, .inl z2.2.2.1)), (q4, .inl (cJ, 41, .inr (.inl (fun _ => 0)))), (q5, .inl (cI, 41, .inl (fun _ => 0)))] := hD
  refine va_putF (D := D) (ci := 2) (v := .ref q5) (ty := .array .int) (C := R_Rv) (T := F_Rv) (N := 5) hx hb hts i_Rv t_Rv t_Rv_ok n_Rv hown hK hP hD hS 0 rfl rfl 3 (by decide) (hts _ k_95) (fun _ h9 => h9) rfl hnm rfl (by decide +kernel) rfl rfl (Nat.le_of_ble_eq_true rfl) d_Rv_init_39 (fun H locs hP hD hS => ?_)
  have hP : va_P D vwCl [(rh, .inr (2, [.ref q1, .ref (q3 0), .ref q4, .ref q5, .null])), (q1, .inr (1, [.ref (q3 0), .ref (q3 5), .ref (q3 10), .int z2.2.2.2.1, .int z2.2.2.2.2.1, .int z2.2.2.2.2.2.1, .int z2.2.2.2.2.2.2])), ((q3 0), .inr (0, [.ref (q3 1), .ref (q3 2), .ref (q3 3), .ref (q3 4)])), ((q3 1), .inl (cI, 15, .inl z2.1.1)), ((q3 2), .inl (cI, 15, .inl z2.1.2.1)), ((q3 3), .inl (cI, 15, .inl z2.1.2.2.1)), ((q3 4), .inl (cI, 41, .inl z2.1.2.2.2)), ((q3 5), .inr (0, [.ref (q3 6), .ref (q3 7), .ref (q3 8), .ref (q3 9)])), ((q3 6), .inl (cI, 15, .inl z2.2.1.1)), ((q3 7), .inl (cI, 15, .inl z2.2.1.2.1)), ((q3 8), .inl (cI, 15, .inl z2.2.1.2.2.1)), ((q3 9), .inl (cI, 41, .inl z2.2.1.2.2.2)), ((q3 10), .inl (cI, 7, .inl z2.2.2.1)), (q4, .inl (cJ, 41, .inr (.inl (fun _ => 0)))), (q5, .inl (cI, 41, .inl (fun _ => 0)))] H := hP
  have hD : va_D A [(rh, .inr (2, [.ref q1, .ref (q3 0), .ref q4, .ref q5, .null])), (q1, .inr (1, [.ref (q3 0), .ref (q3 5), .ref (q3 10), .int z2.2.2.2.1, .int z2.2.2.2.2.1, .int z2.2.2.2.2.2.1, .int z2.2.2.2.2.2.2])), ((q3 0), .inr (0, [.ref (q3 1), .ref (q3 2), .ref (q3 3), .ref (q3 4)])), ((q3 1), .inl (cI, 15, .inl z2.1.1)), ((q3 2), .inl (cI, 15, .inl z2.1.2.1)), ((q3 3), .inl (cI, 15, .inl z2.1.2.2.1)), ((q3 4), .inl (cI, 41, .inl z2.1.2.2.2)), ((q3 5), .inr (0, [.ref (q3 6), .ref (q3 7), .ref (q3 8), .ref (q3 9)])), ((q3 6), .inl (cI, 15, .inl z2.2.1.1)), ((q3 7), .inl (cI, 15, .inl z2.2.1.2.1)), ((q3 8), .inl (cI, 15, .inl z2.2.1.2.2.1)), ((q3 9), .inl (cI, 41, .inl z2.2.1.2.2.2)), ((q3 10), .inl (cI, 7, .inl z2.2.2.1)), (q4, .inl (cJ, 41, .inr (.inl (fun _ => 0)))), (q5, .inl (cI, 41, .inl (fun _ => 0)))] := hD
  refine lv_aload_n hx hb d_Rv_init_42 rfl (lv_at hl 0 rfl) ?_
  refine lv_bipush (v := (9 : Int32)) hx hb d_Rv_init_43 (by decide) ?_
  refine x_newI (N := 9) hx hb (hts _ k_3) hK hP hD hS hA (by decide) (by decide) (by decide) (Nat.le_of_ble_eq_true rfl) (Nat.le_of_ble_eq_true rfl) d_Rv_init_45 (fun q6 H hP hD hS => ?_)
  have hP : va_P D vwCl [(rh, .inr (2, [.ref q1, .ref (q3 0), .ref q4, .ref q5, .null])), (q1, .inr (1, [.ref (q3 0), .ref (q3 5), .ref (q3 10), .int z2.2.2.2.1, .int z2.2.2.2.2.1, .int z2.2.2.2.2.2.1, .int z2.2.2.2.2.2.2])), ((q3 0), .inr (0, [.ref (q3 1), .ref (q3 2), .ref (q3 3), .ref (q3 4)])), ((q3 1), .inl (cI, 15, .inl z2.1.1)), ((q3 2), .inl (cI, 15, .inl z2.1.2.1)), ((q3 3), .inl (cI, 15, .inl z2.1.2.2.1)), ((q3 4), .inl (cI, 41, .inl z2.1.2.2.2)), ((q3 5), .inr (0, [.ref (q3 6), .ref (q3 7), .ref (q3 8), .ref (q3 9)])), ((q3 6), .inl (cI, 15, .inl z2.2.1.1)), ((q3 7), .inl (cI, 15, .inl z2.2.1.2.1)), ((q3 8), .inl (cI, 15, .inl z2.2.1.2.2.1)), ((q3 9), .inl (cI, 41, .inl z2.2.1.2.2.2)), ((q3 10), .inl (cI, 7, .inl z2.2.2.1)), (q4, .inl (cJ, 41, .inr (.inl (fun _ => 0)))), (q5, .inl (cI, 41, .inl (fun _ => 0))), (q6, .inl (cI, 9, .inl (fun _ => 0)))] H := hP
  have hD : va_D A [(rh, .inr (2, [.ref q1, .ref (q3 0), .ref q4, .ref q5, .null])), (q1, .inr (1, [.ref (q3 0), .ref (q3 5), .ref (q3 10), .int z2.2.2.2.1, .int z2.2.2.2.2.1, .int z2.2.2.2.2.2.1, .int z2.2.2.2.2.2.2])), ((q3 0), .inr (0, [.ref (q3 1), .ref (q3 2), .ref (q3 3), .ref (q3 4)])), ((q3 1), .inl (cI, 15, .inl z2.1.1)), ((q3 2), .inl (cI, 15, .inl z2.1.2.1)), ((q3 3), .inl (cI, 15, .inl z2.1.2.2.1)), ((q3 4), .inl (cI, 41, .inl z2.1.2.2.2)), ((q3 5), .inr (0, [.ref (q3 6), .ref (q3 7), .ref (q3 8), .ref (q3 9)])), ((q3 6), .inl (cI, 15, .inl z2.2.1.1)), ((q3 7), .inl (cI, 15, .inl z2.2.1.2.1)), ((q3 8), .inl (cI, 15, .inl z2.2.1.2.2.1)), ((q3 9), .inl (cI, 41, .inl z2.2.1.2.2.2)), ((q3 10), .inl (cI, 7, .inl z2.2.2.1)), (q4, .inl (cJ, 41, .inr (.inl (fun _ => 0)))), (q5, .inl (cI, 41, .inl (fun _ => 0))), (q6, .inl (cI, 9, .inl (fun _ => 0)))] := hD
  refine va_putF (D := D) (ci := 2) (v := .ref q6) (ty := .array .int) (C := R_Rv) (T := F_Rv) (N := 5) hx hb hts i_Rv t_Rv t_Rv_ok n_Rv hown hK hP hD hS 0 rfl rfl 4 (by decide) (hts _ k_96) (fun _ h9 => h9) rfl hnm rfl (by decide +kernel) rfl rfl (Nat.le_of_ble_eq_true rfl) d_Rv_init_47 (fun H locs hP hD hS => ?_)
  have hP : va_P D vwCl [(rh, .inr (2, [.ref q1, .ref (q3 0), .ref q4, .ref q5, .ref q6])), (q1, .inr (1, [.ref (q3 0), .ref (q3 5), .ref (q3 10), .int z2.2.2.2.1, .int z2.2.2.2.2.1, .int z2.2.2.2.2.2.1, .int z2.2.2.2.2.2.2])), ((q3 0), .inr (0, [.ref (q3 1), .ref (q3 2), .ref (q3 3), .ref (q3 4)])), ((q3 1), .inl (cI, 15, .inl z2.1.1)), ((q3 2), .inl (cI, 15, .inl z2.1.2.1)), ((q3 3), .inl (cI, 15, .inl z2.1.2.2.1)), ((q3 4), .inl (cI, 41, .inl z2.1.2.2.2)), ((q3 5), .inr (0, [.ref (q3 6), .ref (q3 7), .ref (q3 8), .ref (q3 9)])), ((q3 6), .inl (cI, 15, .inl z2.2.1.1)), ((q3 7), .inl (cI, 15, .inl z2.2.1.2.1)), ((q3 8), .inl (cI, 15, .inl z2.2.1.2.2.1)), ((q3 9), .inl (cI, 41, .inl z2.2.1.2.2.2)), ((q3 10), .inl (cI, 7, .inl z2.2.2.1)), (q4, .inl (cJ, 41, .inr (.inl (fun _ => 0)))), (q5, .inl (cI, 41, .inl (fun _ => 0))), (q6, .inl (cI, 9, .inl (fun _ => 0)))] H := hP
  have hD : va_D A [(rh, .inr (2, [.ref q1, .ref (q3 0), .ref q4, .ref q5, .ref q6])), (q1, .inr (1, [.ref (q3 0), .ref (q3 5), .ref (q3 10), .int z2.2.2.2.1, .int z2.2.2.2.2.1, .int z2.2.2.2.2.2.1, .int z2.2.2.2.2.2.2])), ((q3 0), .inr (0, [.ref (q3 1), .ref (q3 2), .ref (q3 3), .ref (q3 4)])), ((q3 1), .inl (cI, 15, .inl z2.1.1)), ((q3 2), .inl (cI, 15, .inl z2.1.2.1)), ((q3 3), .inl (cI, 15, .inl z2.1.2.2.1)), ((q3 4), .inl (cI, 41, .inl z2.1.2.2.2)), ((q3 5), .inr (0, [.ref (q3 6), .ref (q3 7), .ref (q3 8), .ref (q3 9)])), ((q3 6), .inl (cI, 15, .inl z2.2.1.1)), ((q3 7), .inl (cI, 15, .inl z2.2.1.2.1)), ((q3 8), .inl (cI, 15, .inl z2.2.1.2.2.1)), ((q3 9), .inl (cI, 41, .inl z2.2.1.2.2.2)), ((q3 10), .inl (cI, 7, .inl z2.2.2.1)), (q4, .inl (cJ, 41, .inr (.inl (fun _ => 0)))), (q5, .inl (cI, 41, .inl (fun _ => 0))), (q6, .inl (cI, 9, .inl (fun _ => 0)))] := hD
  have hP : va_P D vwCl (w_Rv cI cJ cZ rh q1 (q3 0) (q3 1) (q3 2) (q3 3) (q3 4) (q3 5) (q3 6) (q3 7) (q3 8) (q3 9) (q3 10) q4 q5 q6 (z2, ((fun _ => 0), ((fun _ => 0), (fun _ => 0))))) H := hP.sub [0, 1, 2, 3, 4, 5, 6, 7, 8, 9, 10, 11, 12, 13, 14, 15] rfl
  have hD : va_D A (w_Rv cI cJ cZ rh q1 (q3 0) (q3 1) (q3 2) (q3 3) (q3 4) (q3 5) (q3 6) (q3 7) (q3 8) (q3 9) (q3 10) q4 q5 q6 (z2, ((fun _ => 0), ((fun _ => 0), (fun _ => 0))))) := hD.sub [0, 1, 2, 3, 4, 5, 6, 7, 8, 9, 10, 11, 12, 13, 14, 15] (by decide) rfl
  obtain rfl := Option.some.inj hf
  exact x_vretE (fun k => match k with | 0 => q1 | 1 => (q3 0) | 2 => (q3 1) | 3 => (q3 2) | 4 => (q3 3) | 5 => (q3 4) | 6 => (q3 5) | 7 => (q3 6) | 8 => (q3 7) | 9 => (q3 8) | 10 => (q3 9) | 11 => (q3 10) | 12 => q4 | 13 => q5 | _ => q6) hx hb hr hlocks hK hP hD hS (Nat.le_of_ble_eq_true rfl) (Nat.le_of_ble_eq_true rfl) d_Rv_init_50
set_option maxHeartbeats 4000000 in
set_option maxRecDepth 100000 in
theorem c_Rv_begin (l : Launch) (D : va_G) (cI cJ cZ : ClassId) (rh sh mh m0 m1 m2 m3 dh d0 d1 d2 d3 ea cb ch be : Nat) (hL0 : xL l) (N : Nat) (U : K_Rv) (r : ((Int32 ⊕ String) × K_Rv)) (hf : f_Rv_begin N U = some r) : Cx l y_Rv_begin ws_Rv_begin rm_Rv_begin D vwCl (tyL cI cJ cZ) [.ref rh] (w_Rv cI cJ cZ rh sh mh m0 m1 m2 m3 dh d0 d1 d2 d3 ea cb ch be U) (tI r.1) (w_Rv cI cJ cZ rh sh mh m0 m1 m2 m3 dh d0 d1 d2 d3 ea cb ch be r.2) := by
  unfold f_Rv_begin at hf
  refine Cx.ofW (cc := b_Rv_begin) (maxL := 2) (ret := (some .int)) (by decide) rfl ?_
  intro p e s m below meth c A C0 hP hK hD hA hns hZ
  obtain ⟨hx, hb, hml, hown, hts0, hr, hlocks, hnm, hno⟩ := C0
  have hown : s.vm.findClass R_Rv = some m.cls := hown
  have hts : ∀ w ∈ tb, w.before [.ref rh].toArray s = true := fun w h => hts0 w (List.mem_cons_of_mem _ h)
  have hS : va_S A s.heap s.heap [] := va_S.rf
  have hl := lv_entry ([.ref rh]) (n := 2) (Nat.le_of_ble_eq_true rfl)
  rw [lg_entry_eq]
  generalize (lg_sl ([.ref rh]) ++ List.replicate (2 - (lg_sl ([.ref rh])).length) Slot.unset).toArray = ls at hl ⊢
  have hl : lv_has ls 2 [(0, .ref rh)] := hl
  refine lv_aload_n hx hb d_Rv_begin_0 rfl (lv_at hl 0 rfl) ?_
  refine va_get (D := D) (ci := 2) (v := .ref mh) (C := R_Rv) (T := F_Rv) (N := 5) hx hb hts i_Rv hown hK hP 0 rfl rfl 1 (by decide) (hts _ k_92) (fun _ h9 => h9) rfl d_Rv_begin_1 ?_
  obtain ⟨z1, hz1, hf⟩ := x_bind hf
  refine x_callV (w2 := (w_Rv cI cJ cZ rh sh mh m0 m1 m2 m3 dh d0 d1 d2 d3 ea cb ch be ((z1.2, U.1.2), U.2))) ⟨hx, hb, hml, hown, hts⟩ (c_Co_leastUnused l D cI cJ cZ mh m0 m1 m2 m3 N  U.1.1 z1 hz1) (x_cwV 0 hts rfl k_110 k_111 k_112 k_11 k_113 (by decide +kernel) ⟨(Nat.le_of_ble_eq_true rfl), (Nat.le_of_ble_eq_true rfl)⟩) hK hP hD hS hA hZ [2, 3, 4, 5, 6] [0, 1, 7, 8, 9, 10, 11, 12, 13, 14, 15] [0, 1, 11, 12, 13, 14, 15, 2, 3, 4, 5, 6, 7, 8, 9, 10] (by decide) rfl rfl (by decide) (by decide) (by decide) rfl (ci := 0) rfl rfl rfl hl.1 rfl (Nat.le_of_ble_eq_true rfl) d_Rv_begin_4 ⟨(Nat.le_of_ble_eq_true rfl), (Nat.le_of_ble_eq_true rfl)⟩ (fun H locs hP hD hS => ?_)
  refine W.eq (g2 := F0 m 7 ls [.int z1.1]) rfl ?_
  refine lv_istore_n (lv' := [(1, .int z1.1), (0, .ref rh)]) hx hb d_Rv_begin_7 rfl hl (by decide) rfl (fun ls hl => ?_)
  refine lv_aload_n hx hb d_Rv_begin_8 rfl (lv_at hl 1 rfl) ?_
  refine va_get (D := D) (ci := 2) (v := .ref mh) (C := R_Rv) (T := F_Rv) (N := 5) hx hb hts i_Rv hown hK hP 0 rfl rfl 1 (by decide) (hts _ k_92) (fun _ h9 => h9) rfl d_Rv_begin_9 ?_
  obtain ⟨z2, hz2, hf⟩ := x_bind hf
  refine x_callV (w2 := (w_Rv cI cJ cZ rh sh mh m0 m1 m2 m3 dh d0 d1 d2 d3 ea cb ch be ((z2.2, U.1.2), U.2))) ⟨hx, hb, hml, hown, hts⟩ (c_Co_active l D cI cJ cZ mh m0 m1 m2 m3 N  z1.2 z2 hz2) (x_cwV 0 hts rfl k_106 k_107 k_108 k_11 k_109 (by decide +kernel) ⟨(Nat.le_of_ble_eq_true rfl), (Nat.le_of_ble_eq_true rfl)⟩) hK hP hD hS hA hZ [2, 3, 4, 5, 6] [0, 1, 7, 8, 9, 10, 11, 12, 13, 14, 15] [0, 1, 11, 12, 13, 14, 15, 2, 3, 4, 5, 6, 7, 8, 9, 10] (by decide) rfl rfl (by decide) (by decide) (by decide) rfl (ci := 0) rfl rfl rfl hl.1 rfl (Nat.le_of_ble_eq_true rfl) d_Rv_begin_12 ⟨(Nat.le_of_ble_eq_true rfl), (Nat.le_of_ble_eq_true rfl)⟩ (fun H locs hP hD hS => ?_)
  refine W.eq (g2 := F0 m 15 ls [.int z2.1]) rfl ?_
  refine lv_iconst (v := (4 : Int32)) hx hb d_Rv_begin_15 (by decide) ?_
  refine lv_icmp_ge (tgt := 23) hx hb d_Rv_begin_16 (by decide) (fun c11 => ?_) (fun c11 => ?_)
  · have hf := x_ifp c11 hf
    obtain rfl := Option.some.inj hf
    exact x_throw (cls := "java/lang/IllegalStateException") (names := ["java/lang/RuntimeException", "java/lang/Exception"]) hL0 hx hb hml hown hlocks hno (by decide +kernel) (by decide +kernel) (at_Rv_43 hts hZ) (hts _ k_97) (hts _ k_98) hK hP hD hS hns hl.1 (Nat.le_of_ble_eq_true rfl) (Nat.le_of_ble_eq_true rfl) (Nat.le_of_ble_eq_true rfl) (Nat.le_of_ble_eq_true rfl) (Nat.le_of_ble_eq_true rfl) (Nat.le_of_ble_eq_true rfl) d_Rv_begin_23 d_Rv_begin_26 d_Rv_begin_27 d_Rv_begin_30
  · have hf := x_ifn c11 hf
    refine lv_iload_n hx hb d_Rv_begin_19 rfl (lv_at hl 0 rfl) ?_
    refine lv_if_ne (tgt := 31) hx hb d_Rv_begin_20 (by decide) (fun c10 => ?_) (fun c10 => ?_)
    · have hf := x_ifn c10 hf
      refine lv_aload_n hx hb d_Rv_begin_31 rfl (lv_at hl 1 rfl) ?_
      refine va_get (D := D) (ci := 2) (v := .ref cb) (C := R_Rv) (T := F_Rv) (N := 5) hx hb hts i_Rv hown hK hP 0 rfl rfl 2 (by decide) (hts _ k_94) (fun _ h9 => h9) rfl d_Rv_begin_32 ?_
      refine lv_iload_n hx hb d_Rv_begin_35 rfl (lv_at hl 0 rfl) ?_
      refine lv_aload_n hx hb d_Rv_begin_36 rfl (lv_at hl 1 rfl) ?_
      refine va_get (D := D) (ci := 2) (v := .ref mh) (C := R_Rv) (T := F_Rv) (N := 5) hx hb hts i_Rv hown hK hP 0 rfl rfl 1 (by decide) (hts _ k_92) (fun _ h9 => h9) rfl d_Rv_begin_37 ?_
      obtain ⟨z3, hz3, hf⟩ := x_bind hf
      refine x_callV (w2 := (w_Rv cI cJ cZ rh sh mh m0 m1 m2 m3 dh d0 d1 d2 d3 ea cb ch be ((z3.2, U.1.2), U.2))) ⟨hx, hb, hml, hown, hts⟩ (c_Co_committed l D cI cJ cZ mh m0 m1 m2 m3 N  z2.2 z3 hz3) (x_cwV 0 hts rfl k_102 k_103 k_104 k_11 k_105 (by decide +kernel) ⟨(Nat.le_of_ble_eq_true rfl), (Nat.le_of_ble_eq_true rfl)⟩) hK hP hD hS hA hZ [2, 3, 4, 5, 6] [0, 1, 7, 8, 9, 10, 11, 12, 13, 14, 15] [0, 1, 11, 12, 13, 14, 15, 2, 3, 4, 5, 6, 7, 8, 9, 10] (by decide) rfl rfl (by decide) (by decide) (by decide) rfl (ci := 0) rfl rfl rfl hl.1 rfl (Nat.le_of_ble_eq_true rfl) d_Rv_begin_40 ⟨(Nat.le_of_ble_eq_true rfl), (Nat.le_of_ble_eq_true rfl)⟩ (fun H locs hP hD hS => ?_)
      refine W.eq (g2 := F0 m 43 ls [.long z3.1, .int z1.1, .ref cb]) rfl ?_
      obtain ⟨g4, hf⟩ := x_if hf
      refine va_last hx hb hK hP hD hS 13 1 rfl rfl (xi_in g4) d_Rv_begin_43 (fun H locs hP hD hS => ?_)
      have hP : va_P D vwCl (w_Rv cI cJ cZ rh sh mh m0 m1 m2 m3 dh d0 d1 d2 d3 ea cb ch be ((z3.2, U.1.2), ((vp_updL U.2.1 z1.1.toNatClampNeg z3.1), U.2.2))) H := hP
      have hD : va_D A (w_Rv cI cJ cZ rh sh mh m0 m1 m2 m3 dh d0 d1 d2 d3 ea cb ch be ((z3.2, U.1.2), ((vp_updL U.2.1 z1.1.toNatClampNeg z3.1), U.2.2))) := hD
      refine lv_aload_n hx hb d_Rv_begin_44 rfl (lv_at hl 1 rfl) ?_
      refine va_get (D := D) (ci := 2) (v := .ref ch) (C := R_Rv) (T := F_Rv) (N := 5) hx hb hts i_Rv hown hK hP 0 rfl rfl 3 (by decide) (hts _ k_95) (fun _ h9 => h9) rfl d_Rv_begin_45 ?_
      refine lv_iload_n hx hb d_Rv_begin_48 rfl (lv_at hl 0 rfl) ?_
      refine lv_iconst (v := (0 : Int32)) hx hb d_Rv_begin_49 (by decide) ?_
      obtain ⟨g5, hf⟩ := x_if hf
      refine va_iast hx hb hK hP hD hS 14 0 rfl rfl (xi_in g5) d_Rv_begin_50 (fun H locs hP hD hS => ?_)
      have hP : va_P D vwCl (w_Rv cI cJ cZ rh sh mh m0 m1 m2 m3 dh d0 d1 d2 d3 ea cb ch be ((z3.2, U.1.2), ((vp_updL U.2.1 z1.1.toNatClampNeg z3.1), ((upd U.2.2.1 z1.1.toNatClampNeg (0 : Int32)), U.2.2.2)))) H := hP
      have hD : va_D A (w_Rv cI cJ cZ rh sh mh m0 m1 m2 m3 dh d0 d1 d2 d3 ea cb ch be ((z3.2, U.1.2), ((vp_updL U.2.1 z1.1.toNatClampNeg z3.1), ((upd U.2.2.1 z1.1.toNatClampNeg (0 : Int32)), U.2.2.2)))) := hD
      refine lv_aload_n hx hb d_Rv_begin_51 rfl (lv_at hl 1 rfl) ?_
      refine va_get (D := D) (ci := 2) (v := .ref mh) (C := R_Rv) (T := F_Rv) (N := 5) hx hb hts i_Rv hown hK hP 0 rfl rfl 1 (by decide) (hts _ k_92) (fun _ h9 => h9) rfl d_Rv_begin_52 ?_
      refine va_get (D := D) (ci := 0) (v := .ref m3) (C := R_Co) (T := F_Co) (N := 4) hx hb hts i_Co hown hK hP 2 rfl rfl 3 (by decide) (hts _ k_99) (fun _ h9 => h9) rfl d_Rv_begin_55 ?_
      refine lv_iload_n hx hb d_Rv_begin_58 rfl (lv_at hl 0 rfl) ?_
      refine lv_iconst (v := (1 : Int32)) hx hb d_Rv_begin_59 (by decide) ?_
      obtain ⟨g6, hf⟩ := x_if hf
      refine va_iast hx hb hK hP hD hS 6 0 rfl rfl (xi_in g6) d_Rv_begin_60 (fun H locs hP hD hS => ?_)
      have hP : va_P D vwCl (w_Rv cI cJ cZ rh sh mh m0 m1 m2 m3 dh d0 d1 d2 d3 ea cb ch be (((z3.2.1, (z3.2.2.1, (z3.2.2.2.1, (upd z3.2.2.2.2 z1.1.toNatClampNeg (1 : Int32))))), U.1.2), ((vp_updL U.2.1 z1.1.toNatClampNeg z3.1), ((upd U.2.2.1 z1.1.toNatClampNeg (0 : Int32)), U.2.2.2)))) H := hP
      have hD : va_D A (w_Rv cI cJ cZ rh sh mh m0 m1 m2 m3 dh d0 d1 d2 d3 ea cb ch be (((z3.2.1, (z3.2.2.1, (z3.2.2.2.1, (upd z3.2.2.2.2 z1.1.toNatClampNeg (1 : Int32))))), U.1.2), ((vp_updL U.2.1 z1.1.toNatClampNeg z3.1), ((upd U.2.2.1 z1.1.toNatClampNeg (0 : Int32)), U.2.2.2)))) := hD
      refine lv_aload_n hx hb d_Rv_begin_61 rfl (lv_at hl 1 rfl) ?_
      refine va_get (D := D) (ci := 2) (v := .ref sh) (C := R_Rv) (T := F_Rv) (N := 5) hx hb hts i_Rv hown hK hP 0 rfl rfl 0 (by decide) (hts _ k_90) (fun _ h9 => h9) rfl d_Rv_begin_62 ?_
      refine lv_bipush (v := (6 : Int32)) hx hb d_Rv_begin_65 (by decide) ?_
      obtain ⟨z7, hz7, hf⟩ := x_bind hf
      refine x_callV (w2 := (w_Rv cI cJ cZ rh sh mh m0 m1 m2 m3 dh d0 d1 d2 d3 ea cb ch be (z7.2, ((vp_updL U.2.1 z1.1.toNatClampNeg z3.1), ((upd U.2.2.1 z1.1.toNatClampNeg (0 : Int32)), U.2.2.2))))) ⟨hx, hb, hml, hown, hts⟩ (c_St_changed l D cI cJ cZ sh mh m0 m1 m2 m3 dh d0 d1 d2 d3 ea N (6 : Int32) ((z3.2.1, (z3.2.2.1, (z3.2.2.2.1, (upd z3.2.2.2.2 z1.1.toNatClampNeg (1 : Int32))))), U.1.2) z7 hz7) (x_cwV 1 hts rfl k_101 k_64 k_65 k_55 k_66 (by decide +kernel) ⟨(Nat.le_of_ble_eq_true rfl), (Nat.le_of_ble_eq_true rfl)⟩) hK hP hD hS hA hZ [1, 2, 3, 4, 5, 6, 7, 8, 9, 10, 11, 12] [0, 13, 14, 15] [0, 4, 5, 6, 7, 8, 9, 10, 11, 12, 13, 14, 15, 1, 2, 3] (by decide) rfl rfl (by decide) (by decide) (by decide) rfl (ci := 1) rfl rfl rfl hl.1 rfl (Nat.le_of_ble_eq_true rfl) d_Rv_begin_67 ⟨(Nat.le_of_ble_eq_true rfl), (Nat.le_of_ble_eq_true rfl)⟩ (fun H locs hP hD hS => ?_)
      refine W.eq (g2 := F0 m 70 ls []) rfl ?_
      refine lv_aload_n hx hb d_Rv_begin_70 rfl (lv_at hl 1 rfl) ?_
      refine va_get (D := D) (ci := 2) (v := .ref sh) (C := R_Rv) (T := F_Rv) (N := 5) hx hb hts i_Rv hown hK hP 0 rfl rfl 0 (by decide) (hts _ k_90) (fun _ h9 => h9) rfl d_Rv_begin_71 ?_
      refine lv_bipush (v := (6 : Int32)) hx hb d_Rv_begin_74 (by decide) ?_
      refine lv_iconst (v := (0 : Int32)) hx hb d_Rv_begin_76 (by decide) ?_
      obtain ⟨z8, hz8, hf⟩ := x_bind hf
      refine x_callVN (w2 := (w_Rv cI cJ cZ rh sh mh m0 m1 m2 m3 dh d0 d1 d2 d3 ea cb ch be (z8.2, ((vp_updL U.2.1 z1.1.toNatClampNeg z3.1), ((upd U.2.2.1 z1.1.toNatClampNeg (0 : Int32)), U.2.2.2))))) ⟨hx, hb, hml, hown, hts⟩ (c_St_put l D cI cJ cZ sh mh m0 m1 m2 m3 dh d0 d1 d2 d3 ea N 9 (6 : Int32) (0 : Int32) z7.2 z8 hz8) (x_cwVN 2 hts rfl k_100 k_76 k_77 k_55 k_78 (by decide +kernel) ⟨(Nat.le_of_ble_eq_true rfl), (Nat.le_of_ble_eq_true rfl)⟩) hK hP hD hS hA hZ [1, 2, 3, 4, 5, 6, 7, 8, 9, 10, 11, 12] [0, 13, 14, 15] [0, 4, 5, 6, 7, 8, 9, 10, 11, 12, 13, 14, 15, 1, 2, 3] (by decide) rfl rfl (by decide) (by decide) (by decide) rfl (ci := 1) rfl rfl rfl hl.1 rfl (Nat.le_of_ble_eq_true rfl) d_Rv_begin_77 ⟨(Nat.le_of_ble_eq_true rfl), (Nat.le_of_ble_eq_true rfl)⟩ (fun H locs hP hD hS => ?_)
      refine W.eq (g2 := F0 m 80 ls [.int z8.1]) rfl ?_
      refine lv_if_eq (tgt := 87) hx hb d_Rv_begin_80 (by decide) (fun c9 => ?_) (fun c9 => ?_)
      · have hf := x_ifp c9 hf
        refine lv_bipush (v := (-9 : Int32)) hx hb d_Rv_begin_87 (by decide) ?_
        obtain rfl := Option.some.inj hf
        exact x_iret hx hb hr hlocks hK hP hD hS (Nat.le_of_ble_eq_true rfl) (Nat.le_of_ble_eq_true rfl) d_Rv_begin_89
      · have hf := x_ifn c9 hf
        refine lv_iload_n hx hb d_Rv_begin_83 rfl (lv_at hl 0 rfl) ?_
        refine lv_goto (tgt := 89) hx hb d_Rv_begin_84 (by decide) ?_
        obtain rfl := Option.some.inj hf
        exact x_iret hx hb hr hlocks hK hP hD hS (Nat.le_of_ble_eq_true rfl) (Nat.le_of_ble_eq_true rfl) d_Rv_begin_89
    · have hf := x_ifp c10 hf
      obtain rfl := Option.some.inj hf
      exact x_throw (cls := "java/lang/IllegalStateException") (names := ["java/lang/RuntimeException", "java/lang/Exception"]) hL0 hx hb hml hown hlocks hno (by decide +kernel) (by decide +kernel) (at_Rv_43 hts hZ) (hts _ k_97) (hts _ k_98) hK hP hD hS hns hl.1 (Nat.le_of_ble_eq_true rfl) (Nat.le_of_ble_eq_true rfl) (Nat.le_of_ble_eq_true rfl) (Nat.le_of_ble_eq_true rfl) (Nat.le_of_ble_eq_true rfl) (Nat.le_of_ble_eq_true rfl) d_Rv_begin_23 d_Rv_begin_26 d_Rv_begin_27 d_Rv_begin_30
set_option maxHeartbeats 4000000 in
set_option maxRecDepth 100000 in
theorem c_Rv_demandRecord (l : Launch) (D : va_G) (cI cJ cZ : ClassId) (hL0 : xL l) (N : Nat) (p0 : Int32) (r : (Unit ⊕ String)) (hf : f_Rv_demandRecord N p0 = some r) : Cx l y_Rv_demandRecord ws_Rv_demandRecord rm_Rv_demandRecord D vwCl (tyL cI cJ cZ) [.int p0] [] (tV r) [] := by
  unfold f_Rv_demandRecord at hf
  refine Cx.ofW (cc := b_Rv_demandRecord) (maxL := 1) (ret := none) (by decide) rfl ?_
  intro p e s m below meth c A C0 hP hK hD hA hns hZ
  obtain ⟨hx, hb, hml, hown, hts0, hr, hlocks, hnm, hno⟩ := C0
  have hown : s.vm.findClass R_Rv = some m.cls := hown
  have hts : ∀ w ∈ tb, w.before [.int p0].toArray s = true := fun w h => hts0 w (List.mem_cons_of_mem _ h)
  have hS : va_S A s.heap s.heap [] := va_S.rf
  have hl := lv_entry ([.int p0]) (n := 1) (Nat.le_of_ble_eq_true rfl)
  rw [lg_entry_eq]
  generalize (lg_sl ([.int p0]) ++ List.replicate (1 - (lg_sl ([.int p0])).length) Slot.unset).toArray = ls at hl ⊢
  have hl : lv_has ls 1 [(0, .int p0)] := hl
  refine lv_iload_n hx hb d_Rv_demandRecord_0 rfl (lv_at hl 0 rfl) ?_
  refine lv_if_lt (tgt := 10) hx hb d_Rv_demandRecord_1 (by decide) (fun c2 => ?_) (fun c2 => ?_)
  · have hf := x_ifp c2 hf
    obtain rfl := Option.some.inj hf
    exact x_throw (cls := "java/lang/IllegalArgumentException") (names := ["java/lang/RuntimeException", "java/lang/Exception"]) hL0 hx hb hml hown hlocks hno (by decide +kernel) (by decide +kernel) (at_Rv_76 hts hZ) (hts _ k_114) (hts _ k_115) hK hP hD hS hns hl.1 (Nat.le_of_ble_eq_true rfl) (Nat.le_of_ble_eq_true rfl) (Nat.le_of_ble_eq_true rfl) (Nat.le_of_ble_eq_true rfl) (Nat.le_of_ble_eq_true rfl) (Nat.le_of_ble_eq_true rfl) d_Rv_demandRecord_10 d_Rv_demandRecord_13 d_Rv_demandRecord_14 d_Rv_demandRecord_17
  · have hf := x_ifn c2 hf
    refine lv_iload_n hx hb d_Rv_demandRecord_4 rfl (lv_at hl 0 rfl) ?_
    refine lv_bipush (v := (6 : Int32)) hx hb d_Rv_demandRecord_5 (by decide) ?_
    refine lv_icmp_lt (tgt := 18) hx hb d_Rv_demandRecord_7 (by decide) (fun c1 => ?_) (fun c1 => ?_)
    · have hf := x_ifp c1 hf
      obtain rfl := Option.some.inj hf
      exact x_vret hx hb hr hlocks hK hP hD hS (Nat.le_of_ble_eq_true rfl) (Nat.le_of_ble_eq_true rfl) d_Rv_demandRecord_18
    · have hf := x_ifn c1 hf
      obtain rfl := Option.some.inj hf
      exact x_throw (cls := "java/lang/IllegalArgumentException") (names := ["java/lang/RuntimeException", "java/lang/Exception"]) hL0 hx hb hml hown hlocks hno (by decide +kernel) (by decide +kernel) (at_Rv_76 hts hZ) (hts _ k_114) (hts _ k_115) hK hP hD hS hns hl.1 (Nat.le_of_ble_eq_true rfl) (Nat.le_of_ble_eq_true rfl) (Nat.le_of_ble_eq_true rfl) (Nat.le_of_ble_eq_true rfl) (Nat.le_of_ble_eq_true rfl) (Nat.le_of_ble_eq_true rfl) d_Rv_demandRecord_10 d_Rv_demandRecord_13 d_Rv_demandRecord_14 d_Rv_demandRecord_17
set_option maxHeartbeats 4000000 in
set_option maxRecDepth 100000 in
theorem c_Rv_demandActive (l : Launch) (D : va_G) (cI cJ cZ : ClassId) (rh sh mh m0 m1 m2 m3 dh d0 d1 d2 d3 ea cb ch be : Nat) (hL0 : xL l) (N : Nat) (p0 : Int32) (U : K_Rv) (r : ((Unit ⊕ String) × K_Rv)) (hf : f_Rv_demandActive N p0 U = some r) : Cx l y_Rv_demandActive ws_Rv_demandActive rm_Rv_demandActive D vwCl (tyL cI cJ cZ) [.ref rh, .int p0] (w_Rv cI cJ cZ rh sh mh m0 m1 m2 m3 dh d0 d1 d2 d3 ea cb ch be U) (tV r.1) (w_Rv cI cJ cZ rh sh mh m0 m1 m2 m3 dh d0 d1 d2 d3 ea cb ch be r.2) := by
  unfold f_Rv_demandActive at hf
  refine Cx.ofW (cc := b_Rv_demandActive) (maxL := 2) (ret := none) (by decide) rfl ?_
  intro p e s m below meth c A C0 hP hK hD hA hns hZ
  obtain ⟨hx, hb, hml, hown, hts0, hr, hlocks, hnm, hno⟩ := C0
  have hown : s.vm.findClass R_Rv = some m.cls := hown
  have hts : ∀ w ∈ tb, w.before [.ref rh, .int p0].toArray s = true := fun w h => hts0 w (List.mem_cons_of_mem _ h)
  have hS : va_S A s.heap s.heap [] := va_S.rf
  have hl := lv_entry ([.ref rh, .int p0]) (n := 2) (Nat.le_of_ble_eq_true rfl)
  rw [lg_entry_eq]
  generalize (lg_sl ([.ref rh, .int p0]) ++ List.replicate (2 - (lg_sl ([.ref rh, .int p0])).length) Slot.unset).toArray = ls at hl ⊢
  have hl : lv_has ls 2 [(0, .ref rh), (1, .int p0)] := hl
  refine lv_iload_n hx hb d_Rv_demandActive_0 rfl (lv_at hl 1 rfl) ?_
  refine lv_iconst (v := (1 : Int32)) hx hb d_Rv_demandActive_1 (by decide) ?_
  refine lv_icmp_lt (tgt := 24) hx hb d_Rv_demandActive_2 (by decide) (fun c4 => ?_) (fun c4 => ?_)
  · have hf := x_ifp c4 hf
    obtain rfl := Option.some.inj hf
    exact x_throw (cls := "java/lang/IllegalStateException") (names := ["java/lang/RuntimeException", "java/lang/Exception"]) hL0 hx hb hml hown hlocks hno (by decide +kernel) (by decide +kernel) (at_Rv_43 hts hZ) (hts _ k_97) (hts _ k_98) hK hP hD hS hns hl.1 (Nat.le_of_ble_eq_true rfl) (Nat.le_of_ble_eq_true rfl) (Nat.le_of_ble_eq_true rfl) (Nat.le_of_ble_eq_true rfl) (Nat.le_of_ble_eq_true rfl) (Nat.le_of_ble_eq_true rfl) d_Rv_demandActive_24 d_Rv_demandActive_27 d_Rv_demandActive_28 d_Rv_demandActive_31
  · have hf := x_ifn c4 hf
    refine lv_iload_n hx hb d_Rv_demandActive_5 rfl (lv_at hl 1 rfl) ?_
    refine lv_bipush (v := (40 : Int32)) hx hb d_Rv_demandActive_6 (by decide) ?_
    refine lv_icmp_gt (tgt := 24) hx hb d_Rv_demandActive_8 (by decide) (fun c3 => ?_) (fun c3 => ?_)
    · have hf := x_ifp c3 hf
      obtain rfl := Option.some.inj hf
      exact x_throw (cls := "java/lang/IllegalStateException") (names := ["java/lang/RuntimeException", "java/lang/Exception"]) hL0 hx hb hml hown hlocks hno (by decide +kernel) (by decide +kernel) (at_Rv_43 hts hZ) (hts _ k_97) (hts _ k_98) hK hP hD hS hns hl.1 (Nat.le_of_ble_eq_true rfl) (Nat.le_of_ble_eq_true rfl) (Nat.le_of_ble_eq_true rfl) (Nat.le_of_ble_eq_true rfl) (Nat.le_of_ble_eq_true rfl) (Nat.le_of_ble_eq_true rfl) d_Rv_demandActive_24 d_Rv_demandActive_27 d_Rv_demandActive_28 d_Rv_demandActive_31
    · have hf := x_ifn c3 hf
      refine lv_aload_n hx hb d_Rv_demandActive_11 rfl (lv_at hl 0 rfl) ?_
      refine va_get (D := D) (ci := 2) (v := .ref mh) (C := R_Rv) (T := F_Rv) (N := 5) hx hb hts i_Rv hown hK hP 0 rfl rfl 1 (by decide) (hts _ k_92) (fun _ h9 => h9) rfl d_Rv_demandActive_12 ?_
      refine va_get (D := D) (ci := 0) (v := .ref m3) (C := R_Co) (T := F_Co) (N := 4) hx hb hts i_Co hown hK hP 2 rfl rfl 3 (by decide) (hts _ k_99) (fun _ h9 => h9) rfl d_Rv_demandActive_15 ?_
      refine lv_iload_n hx hb d_Rv_demandActive_18 rfl (lv_at hl 1 rfl) ?_
      obtain ⟨g1, hf⟩ := x_if hf
      refine va_iald hx hb hK hP 6 0 rfl rfl (xi_in g1) d_Rv_demandActive_19 ?_
      refine lv_iconst (v := (1 : Int32)) hx hb d_Rv_demandActive_20 (by decide) ?_
      refine lv_icmp_eq (tgt := 32) hx hb d_Rv_demandActive_21 (by decide) (fun c2 => ?_) (fun c2 => ?_)
      · have hf := x_ifp c2 hf
        obtain rfl := Option.some.inj hf
        exact x_vret hx hb hr hlocks hK hP hD hS (Nat.le_of_ble_eq_true rfl) (Nat.le_of_ble_eq_true rfl) d_Rv_demandActive_32
      · have hf := x_ifn c2 hf
        obtain rfl := Option.some.inj hf
        exact x_throw (cls := "java/lang/IllegalStateException") (names := ["java/lang/RuntimeException", "java/lang/Exception"]) hL0 hx hb hml hown hlocks hno (by decide +kernel) (by decide +kernel) (at_Rv_43 hts hZ) (hts _ k_97) (hts _ k_98) hK hP hD hS hns hl.1 (Nat.le_of_ble_eq_true rfl) (Nat.le_of_ble_eq_true rfl) (Nat.le_of_ble_eq_true rfl) (Nat.le_of_ble_eq_true rfl) (Nat.le_of_ble_eq_true rfl) (Nat.le_of_ble_eq_true rfl) d_Rv_demandActive_24 d_Rv_demandActive_27 d_Rv_demandActive_28 d_Rv_demandActive_31
end
section
set_option maxHeartbeats 4000000 in
set_option maxRecDepth 100000 in
theorem c_Rv_seenBy (l : Launch) (D : va_G) (cI cJ cZ : ClassId) (rh sh mh m0 m1 m2 m3 dh d0 d1 d2 d3 ea cb ch be : Nat) (N : Nat) (p0 : Int32) (U : K_Rv) (r : (Int64 × K_Rv)) (hf : f_Rv_seenBy N p0 U = some r) : Cx l y_Rv_seenBy ws_Rv_seenBy rm_Rv_seenBy D vwCl (tyL cI cJ cZ) [.ref rh, .int p0] (w_Rv cI cJ cZ rh sh mh m0 m1 m2 m3 dh d0 d1 d2 d3 ea cb ch be U) (oL r.1) (w_Rv cI cJ cZ rh sh mh m0 m1 m2 m3 dh d0 d1 d2 d3 ea cb ch be r.2) := by
  unfold f_Rv_seenBy at hf
  refine Cx.ofW (cc := b_Rv_seenBy) (maxL := 2) (ret := (some .long)) (by decide) rfl ?_
  intro p e s m below meth c A C0 hP hK hD hA hns hZ
  obtain ⟨hx, hb, hml, hown, hts0, hr, hlocks, hnm, hno⟩ := C0
  have hown : s.vm.findClass R_Rv = some m.cls := hown
  have hts : ∀ w ∈ tb, w.before [.ref rh, .int p0].toArray s = true := fun w h => hts0 w (List.mem_cons_of_mem _ h)
  have hS : va_S A s.heap s.heap [] := va_S.rf
  have hl := lv_entry ([.ref rh, .int p0]) (n := 2) (Nat.le_of_ble_eq_true rfl)
  rw [lg_entry_eq]
  generalize (lg_sl ([.ref rh, .int p0]) ++ List.replicate (2 - (lg_sl ([.ref rh, .int p0])).length) Slot.unset).toArray = ls at hl ⊢
  have hl : lv_has ls 2 [(0, .ref rh), (1, .int p0)] := hl
  refine lv_aload_n hx hb d_Rv_seenBy_0 rfl (lv_at hl 0 rfl) ?_
  refine va_get (D := D) (ci := 2) (v := .ref cb) (C := R_Rv) (T := F_Rv) (N := 5) hx hb hts i_Rv hown hK hP 0 rfl rfl 2 (by decide) (hts _ k_94) (fun _ h9 => h9) rfl d_Rv_seenBy_1 ?_
  refine lv_iload_n hx hb d_Rv_seenBy_4 rfl (lv_at hl 1 rfl) ?_
  obtain ⟨g1, hf⟩ := x_if hf
  refine va_lald hx hb hK hP 13 1 rfl rfl (xi_in g1) d_Rv_seenBy_5 ?_
  refine lv_lconst (v := (1 : Int64)) hx hb d_Rv_seenBy_6 (by decide) ?_
  refine lv_iload_n hx hb d_Rv_seenBy_7 rfl (lv_at hl 1 rfl) ?_
  refine lv_lshl (v := ((1 : Int64) <<< (p0.toInt64 &&& 63))) hx hb d_Rv_seenBy_8 rfl ?_
  refine lv_lor hx hb d_Rv_seenBy_9 ?_
  obtain rfl := Option.some.inj hf
  exact x_lret hx hb hr hlocks hK hP hD hS (Nat.le_of_ble_eq_true rfl) (Nat.le_of_ble_eq_true rfl) d_Rv_seenBy_10
set_option maxHeartbeats 4000000 in
set_option maxRecDepth 100000 in
theorem c_Rv_placeSeen (l : Launch) (D : va_G) (cI cJ cZ : ClassId) (rh sh mh m0 m1 m2 m3 dh d0 d1 d2 d3 ea cb ch be : Nat) (N : Nat) (p0 : Int32) (p1 : Int32) (U : K_Rv) (r : (Int32 × K_Rv)) (hf : f_Rv_placeSeen N p0 p1 U = some r) : Cx l y_Rv_placeSeen ws_Rv_placeSeen rm_Rv_placeSeen D vwCl (tyL cI cJ cZ) [.ref rh, .int p0, .int p1] (w_Rv cI cJ cZ rh sh mh m0 m1 m2 m3 dh d0 d1 d2 d3 ea cb ch be U) (oI r.1) (w_Rv cI cJ cZ rh sh mh m0 m1 m2 m3 dh d0 d1 d2 d3 ea cb ch be r.2) := by
  unfold f_Rv_placeSeen at hf
  refine Cx.ofW (cc := b_Rv_placeSeen) (maxL := 3) (ret := (some .int)) (by decide) rfl ?_
  intro p e s m below meth c A C0 hP hK hD hA hns hZ
  obtain ⟨hx, hb, hml, hown, hts0, hr, hlocks, hnm, hno⟩ := C0
  have hown : s.vm.findClass R_Rv = some m.cls := hown
  have hts : ∀ w ∈ tb, w.before [.ref rh, .int p0, .int p1].toArray s = true := fun w h => hts0 w (List.mem_cons_of_mem _ h)
  have hS : va_S A s.heap s.heap [] := va_S.rf
  have hl := lv_entry ([.ref rh, .int p0, .int p1]) (n := 3) (Nat.le_of_ble_eq_true rfl)
  rw [lg_entry_eq]
  generalize (lg_sl ([.ref rh, .int p0, .int p1]) ++ List.replicate (3 - (lg_sl ([.ref rh, .int p0, .int p1])).length) Slot.unset).toArray = ls at hl ⊢
  have hl : lv_has ls 3 [(0, .ref rh), (1, .int p0), (2, .int p1)] := hl
  refine lv_aload_n hx hb d_Rv_placeSeen_0 rfl (lv_at hl 0 rfl) ?_
  refine va_get (D := D) (ci := 2) (v := .ref mh) (C := R_Rv) (T := F_Rv) (N := 5) hx hb hts i_Rv hown hK hP 0 rfl rfl 1 (by decide) (hts _ k_92) (fun _ h9 => h9) rfl d_Rv_placeSeen_1 ?_
  refine lv_aload_n hx hb d_Rv_placeSeen_4 rfl (lv_at hl 0 rfl) ?_
  refine lv_iload_n hx hb d_Rv_placeSeen_5 rfl (lv_at hl 1 rfl) ?_
  obtain ⟨z1, hz1, hf⟩ := x_bind hf
  refine x_callV (w2 := (w_Rv cI cJ cZ rh sh mh m0 m1 m2 m3 dh d0 d1 d2 d3 ea cb ch be z1.2)) ⟨hx, hb, hml, hown, hts⟩ (c_Rv_seenBy l D cI cJ cZ rh sh mh m0 m1 m2 m3 dh d0 d1 d2 d3 ea cb ch be N p0 U z1 hz1) (x_cwV 1 hts rfl k_120 k_121 k_122 k_23 k_123 (by decide +kernel) ⟨(Nat.le_of_ble_eq_true rfl), (Nat.le_of_ble_eq_true rfl)⟩) hK hP hD hS hA hZ [0, 1, 2, 3, 4, 5, 6, 7, 8, 9, 10, 11, 12, 13, 14, 15] [] [0, 1, 2, 3, 4, 5, 6, 7, 8, 9, 10, 11, 12, 13, 14, 15] (by decide) rfl rfl (by decide) (by decide) (by decide) rfl (ci := 2) rfl rfl rfl hl.1 rfl (Nat.le_of_ble_eq_true rfl) d_Rv_placeSeen_6 ⟨(Nat.le_of_ble_eq_true rfl), (Nat.le_of_ble_eq_true rfl)⟩ (fun H locs hP hD hS => ?_)
  refine W.eq (g2 := F0 m 9 ls [.long z1.1, .ref mh]) rfl ?_
  refine lv_iload_n hx hb d_Rv_placeSeen_9 rfl (lv_at hl 2 rfl) ?_
  obtain ⟨z2, hz2, hf⟩ := x_bind hf
  refine x_callV (w2 := (w_Rv cI cJ cZ rh sh mh m0 m1 m2 m3 dh d0 d1 d2 d3 ea cb ch be ((z2.2, z1.2.1.2), z1.2.2))) ⟨hx, hb, hml, hown, hts⟩ (c_Co_firstOf l D cI cJ cZ mh m0 m1 m2 m3 N z1.1 p1 z1.2.1.1 z2 hz2) (x_cwV 2 hts rfl k_116 k_117 k_118 k_11 k_119 (by decide +kernel) ⟨(Nat.le_of_ble_eq_true rfl), (Nat.le_of_ble_eq_true rfl)⟩) hK hP hD hS hA hZ [2, 3, 4, 5, 6] [0, 1, 7, 8, 9, 10, 11, 12, 13, 14, 15] [0, 1, 11, 12, 13, 14, 15, 2, 3, 4, 5, 6, 7, 8, 9, 10] (by decide) rfl rfl (by decide) (by decide) (by decide) rfl (ci := 0) rfl rfl rfl hl.1 rfl (Nat.le_of_ble_eq_true rfl) d_Rv_placeSeen_10 ⟨(Nat.le_of_ble_eq_true rfl), (Nat.le_of_ble_eq_true rfl)⟩ (fun H locs hP hD hS => ?_)
  refine W.eq (g2 := F0 m 13 ls [.int z2.1]) rfl ?_
  obtain rfl := Option.some.inj hf
  exact x_iret hx hb hr hlocks hK hP hD hS (Nat.le_of_ble_eq_true rfl) (Nat.le_of_ble_eq_true rfl) d_Rv_placeSeen_13
set_option maxHeartbeats 4000000 in
set_option maxRecDepth 100000 in
theorem c_Rv_demandValue (l : Launch) (D : va_G) (cI cJ cZ : ClassId) (mh m0 m1 m2 m3 : Nat) (hL0 : xL l) (N : Nat) (p1 : Int32) (U : K_Co) (r : ((Int32 ⊕ String) × K_Co)) (hf : f_Rv_demandValue N p1 U = some r) : Cx l y_Rv_demandValue ws_Rv_demandValue rm_Rv_demandValue D vwCl (tyL cI cJ cZ) [.ref mh, .int p1] (w_Co cI cJ cZ mh m0 m1 m2 m3 U) (tI r.1) (w_Co cI cJ cZ mh m0 m1 m2 m3 r.2) := by
  unfold f_Rv_demandValue at hf
  refine Cx.ofW (cc := b_Rv_demandValue) (maxL := 2) (ret := (some .int)) (by decide) rfl ?_
  intro p e s m below meth c A C0 hP hK hD hA hns hZ
  obtain ⟨hx, hb, hml, hown, hts0, hr, hlocks, hnm, hno⟩ := C0
  have hown : s.vm.findClass R_Rv = some m.cls := hown
  have hts : ∀ w ∈ tb, w.before [.ref mh, .int p1].toArray s = true := fun w h => hts0 w (List.mem_cons_of_mem _ h)
  have hS : va_S A s.heap s.heap [] := va_S.rf
  have hl := lv_entry ([.ref mh, .int p1]) (n := 2) (Nat.le_of_ble_eq_true rfl)
  rw [lg_entry_eq]
  generalize (lg_sl ([.ref mh, .int p1]) ++ List.replicate (2 - (lg_sl ([.ref mh, .int p1])).length) Slot.unset).toArray = ls at hl ⊢
  have hl : lv_has ls 2 [(0, .ref mh), (1, .int p1)] := hl
  refine lv_iload_n hx hb d_Rv_demandValue_0 rfl (lv_at hl 1 rfl) ?_
  refine lv_iconst (v := (-1 : Int32)) hx hb d_Rv_demandValue_1 (by decide) ?_
  refine lv_icmp_eq (tgt := 15) hx hb d_Rv_demandValue_2 (by decide) (fun c4 => ?_) (fun c4 => ?_)
  · have hf := x_ifp c4 hf
    obtain rfl := Option.some.inj hf
    exact x_throw (cls := "java/util/NoSuchElementException") (names := ["java/lang/RuntimeException", "java/lang/Exception"]) hL0 hx hb hml hown hlocks hno (by decide +kernel) (by decide +kernel) (at_Rv_114 hts hZ) (hts _ k_124) (hts _ k_125) hK hP hD hS hns hl.1 (Nat.le_of_ble_eq_true rfl) (Nat.le_of_ble_eq_true rfl) (Nat.le_of_ble_eq_true rfl) (Nat.le_of_ble_eq_true rfl) (Nat.le_of_ble_eq_true rfl) (Nat.le_of_ble_eq_true rfl) d_Rv_demandValue_15 d_Rv_demandValue_18 d_Rv_demandValue_19 d_Rv_demandValue_22
  · have hf := x_ifn c4 hf
    refine lv_aload_n hx hb d_Rv_demandValue_5 rfl (lv_at hl 0 rfl) ?_
    refine va_get (D := D) (ci := 0) (v := .ref m1) (C := R_Co) (T := F_Co) (N := 4) hx hb hts i_Co hown hK hP 0 rfl rfl 1 (by decide) (hts _ k_126) (fun _ h9 => h9) rfl d_Rv_demandValue_6 ?_
    refine lv_iload_n hx hb d_Rv_demandValue_9 rfl (lv_at hl 1 rfl) ?_
    obtain ⟨g1, hf⟩ := x_if hf
    refine va_iald hx hb hK hP 2 0 rfl rfl (xi_in g1) d_Rv_demandValue_10 ?_
    refine lv_iconst (v := (-1 : Int32)) hx hb d_Rv_demandValue_11 (by decide) ?_
    refine lv_icmp_ne (tgt := 23) hx hb d_Rv_demandValue_12 (by decide) (fun c3 => ?_) (fun c3 => ?_)
    · have hf := x_ifn c3 hf
      refine lv_aload_n hx hb d_Rv_demandValue_23 rfl (lv_at hl 0 rfl) ?_
      refine va_get (D := D) (ci := 0) (v := .ref m1) (C := R_Co) (T := F_Co) (N := 4) hx hb hts i_Co hown hK hP 0 rfl rfl 1 (by decide) (hts _ k_126) (fun _ h9 => h9) rfl d_Rv_demandValue_24 ?_
      refine lv_iload_n hx hb d_Rv_demandValue_27 rfl (lv_at hl 1 rfl) ?_
      obtain ⟨g2, hf⟩ := x_if hf
      refine va_iald hx hb hK hP 2 0 rfl rfl (xi_in g2) d_Rv_demandValue_28 ?_
      obtain rfl := Option.some.inj hf
      exact x_iret hx hb hr hlocks hK hP hD hS (Nat.le_of_ble_eq_true rfl) (Nat.le_of_ble_eq_true rfl) d_Rv_demandValue_29
    · have hf := x_ifp c3 hf
      obtain rfl := Option.some.inj hf
      exact x_throw (cls := "java/util/NoSuchElementException") (names := ["java/lang/RuntimeException", "java/lang/Exception"]) hL0 hx hb hml hown hlocks hno (by decide +kernel) (by decide +kernel) (at_Rv_114 hts hZ) (hts _ k_124) (hts _ k_125) hK hP hD hS hns hl.1 (Nat.le_of_ble_eq_true rfl) (Nat.le_of_ble_eq_true rfl) (Nat.le_of_ble_eq_true rfl) (Nat.le_of_ble_eq_true rfl) (Nat.le_of_ble_eq_true rfl) (Nat.le_of_ble_eq_true rfl) d_Rv_demandValue_15 d_Rv_demandValue_18 d_Rv_demandValue_19 d_Rv_demandValue_22
set_option maxHeartbeats 4000000 in
set_option maxRecDepth 100000 in
theorem c_Rv_read (l : Launch) (D : va_G) (cI cJ cZ : ClassId) (rh sh mh m0 m1 m2 m3 dh d0 d1 d2 d3 ea cb ch be : Nat) (hL0 : xL l) (N : Nat) (p0 : Int32) (p1 : Int32) (U : K_Rv) (r : ((Int32 ⊕ String) × K_Rv)) (hf : f_Rv_read N p0 p1 U = some r) : Cx l y_Rv_read ws_Rv_read rm_Rv_read D vwCl (tyL cI cJ cZ) [.ref rh, .int p0, .int p1] (w_Rv cI cJ cZ rh sh mh m0 m1 m2 m3 dh d0 d1 d2 d3 ea cb ch be U) (tI r.1) (w_Rv cI cJ cZ rh sh mh m0 m1 m2 m3 dh d0 d1 d2 d3 ea cb ch be r.2) := by
  unfold f_Rv_read at hf
  refine Cx.ofW (cc := b_Rv_read) (maxL := 3) (ret := (some .int)) (by decide) rfl ?_
  intro p e s m below meth c A C0 hP hK hD hA hns hZ
  obtain ⟨hx, hb, hml, hown, hts0, hr, hlocks, hnm, hno⟩ := C0
  have hown : s.vm.findClass R_Rv = some m.cls := hown
  have hts : ∀ w ∈ tb, w.before [.ref rh, .int p0, .int p1].toArray s = true := fun w h => hts0 w (List.mem_cons_of_mem _ h)
  have hS : va_S A s.heap s.heap [] := va_S.rf
  have hl := lv_entry ([.ref rh, .int p0, .int p1]) (n := 3) (Nat.le_of_ble_eq_true rfl)
  rw [lg_entry_eq]
  generalize (lg_sl ([.ref rh, .int p0, .int p1]) ++ List.replicate (3 - (lg_sl ([.ref rh, .int p0, .int p1])).length) Slot.unset).toArray = ls at hl ⊢
  have hl : lv_has ls 3 [(0, .ref rh), (1, .int p0), (2, .int p1)] := hl
  refine lv_iload_n hx hb d_Rv_read_0 rfl (lv_at hl 2 rfl) ?_
  obtain ⟨v2 | E3, hz1, hf⟩ := x_bind hf
  · dsimp only at hf
    refine x_callS (w2 := (w_Rv cI cJ cZ rh sh mh m0 m1 m2 m3 dh d0 d1 d2 d3 ea cb ch be U)) ⟨hx, hb, hml, hown, hts⟩ (c_Rv_demandRecord l D cI cJ cZ  hL0 N p1  (Sum.inl v2) hz1) (x_cwS 1 hts rfl k_138 k_139 k_23 k_140 (by decide +kernel) ⟨(Nat.le_of_ble_eq_true rfl), (Nat.le_of_ble_eq_true rfl)⟩) hK hP hD hS hA hZ [] [0, 1, 2, 3, 4, 5, 6, 7, 8, 9, 10, 11, 12, 13, 14, 15] [0, 1, 2, 3, 4, 5, 6, 7, 8, 9, 10, 11, 12, 13, 14, 15] (by decide) rfl rfl (by decide) (by decide) (by decide) rfl rfl hl.1 rfl (Nat.le_of_ble_eq_true rfl) d_Rv_read_1 ⟨(Nat.le_of_ble_eq_true rfl), (Nat.le_of_ble_eq_true rfl)⟩ (fun H locs hP hD hS => ?_)
    refine W.eq (g2 := F0 m 4 ls []) rfl ?_
    refine lv_aload_n hx hb d_Rv_read_4 rfl (lv_at hl 0 rfl) ?_
    refine lv_iload_n hx hb d_Rv_read_5 rfl (lv_at hl 1 rfl) ?_
    obtain ⟨⟨v6 | E7, U8⟩, hz5, hf⟩ := x_bind hf
    · dsimp only at hf
      refine x_callV (w2 := (w_Rv cI cJ cZ rh sh mh m0 m1 m2 m3 dh d0 d1 d2 d3 ea cb ch be U8)) ⟨hx, hb, hml, hown, hts⟩ (c_Rv_demandActive l D cI cJ cZ rh sh mh m0 m1 m2 m3 dh d0 d1 d2 d3 ea cb ch be hL0 N p0 U (Sum.inl v6, U8) hz5) (x_cwV 1 hts rfl k_134 k_135 k_136 k_23 k_137 (by decide +kernel) ⟨(Nat.le_of_ble_eq_true rfl), (Nat.le_of_ble_eq_true rfl)⟩) hK hP hD hS hA hZ [0, 1, 2, 3, 4, 5, 6, 7, 8, 9, 10, 11, 12, 13, 14, 15] [] [0, 1, 2, 3, 4, 5, 6, 7, 8, 9, 10, 11, 12, 13, 14, 15] (by decide) rfl rfl (by decide) (by decide) (by decide) rfl (ci := 2) rfl rfl rfl hl.1 rfl (Nat.le_of_ble_eq_true rfl) d_Rv_read_6 ⟨(Nat.le_of_ble_eq_true rfl), (Nat.le_of_ble_eq_true rfl)⟩ (fun H locs hP hD hS => ?_)
      refine W.eq (g2 := F0 m 9 ls []) rfl ?_
      refine lv_aload_n hx hb d_Rv_read_9 rfl (lv_at hl 0 rfl) ?_
      refine va_get (D := D) (ci := 2) (v := .ref mh) (C := R_Rv) (T := F_Rv) (N := 5) hx hb hts i_Rv hown hK hP 0 rfl rfl 1 (by decide) (hts _ k_92) (fun _ h9 => h9) rfl d_Rv_read_10 ?_
      refine lv_aload_n hx hb d_Rv_read_13 rfl (lv_at hl 0 rfl) ?_
      refine lv_iload_n hx hb d_Rv_read_14 rfl (lv_at hl 1 rfl) ?_
      refine lv_iload_n hx hb d_Rv_read_15 rfl (lv_at hl 2 rfl) ?_
      obtain ⟨z9, hz9, hf⟩ := x_bind hf
      refine x_callV (w2 := (w_Rv cI cJ cZ rh sh mh m0 m1 m2 m3 dh d0 d1 d2 d3 ea cb ch be z9.2)) ⟨hx, hb, hml, hown, hts⟩ (c_Rv_placeSeen l D cI cJ cZ rh sh mh m0 m1 m2 m3 dh d0 d1 d2 d3 ea cb ch be N p0 p1 U8 z9 hz9) (x_cwV 2 hts rfl k_130 k_131 k_132 k_23 k_133 (by decide +kernel) ⟨(Nat.le_of_ble_eq_true rfl), (Nat.le_of_ble_eq_true rfl)⟩) hK hP hD hS hA hZ [0, 1, 2, 3, 4, 5, 6, 7, 8, 9, 10, 11, 12, 13, 14, 15] [] [0, 1, 2, 3, 4, 5, 6, 7, 8, 9, 10, 11, 12, 13, 14, 15] (by decide) rfl rfl (by decide) (by decide) (by decide) rfl (ci := 2) rfl rfl rfl hl.1 rfl (Nat.le_of_ble_eq_true rfl) d_Rv_read_16 ⟨(Nat.le_of_ble_eq_true rfl), (Nat.le_of_ble_eq_true rfl)⟩ (fun H locs hP hD hS => ?_)
      refine W.eq (g2 := F0 m 19 ls [.int z9.1, .ref mh]) rfl ?_
      obtain ⟨⟨v11 | E12, U13⟩, hz10, hf⟩ := x_bind hf
      · dsimp only at hf
        refine x_callS (w2 := (w_Rv cI cJ cZ rh sh mh m0 m1 m2 m3 dh d0 d1 d2 d3 ea cb ch be ((U13, z9.2.1.2), z9.2.2))) ⟨hx, hb, hml, hown, hts⟩ (c_Rv_demandValue l D cI cJ cZ mh m0 m1 m2 m3 hL0 N z9.1 z9.2.1.1 (Sum.inl v11, U13) hz10) (x_cwS 2 hts rfl k_127 k_128 k_23 k_129 (by decide +kernel) ⟨(Nat.le_of_ble_eq_true rfl), (Nat.le_of_ble_eq_true rfl)⟩) hK hP hD hS hA hZ [2, 3, 4, 5, 6] [0, 1, 7, 8, 9, 10, 11, 12, 13, 14, 15] [0, 1, 11, 12, 13, 14, 15, 2, 3, 4, 5, 6, 7, 8, 9, 10] (by decide) rfl rfl (by decide) (by decide) (by decide) rfl rfl hl.1 rfl (Nat.le_of_ble_eq_true rfl) d_Rv_read_19 ⟨(Nat.le_of_ble_eq_true rfl), (Nat.le_of_ble_eq_true rfl)⟩ (fun H locs hP hD hS => ?_)
        refine W.eq (g2 := F0 m 22 ls [.int v11]) rfl ?_
        obtain rfl := Option.some.inj hf
        exact x_iret hx hb hr hlocks hK hP hD hS (Nat.le_of_ble_eq_true rfl) (Nat.le_of_ble_eq_true rfl) d_Rv_read_22
      · dsimp only at hf
        obtain rfl := Option.some.inj hf
        exact x_out (w2 := (w_Rv cI cJ cZ rh sh mh m0 m1 m2 m3 dh d0 d1 d2 d3 ea cb ch be ((U13, z9.2.1.2), z9.2.2))) (x_noteS ⟨hx, hb, hml, hown, hts⟩ (c_Rv_demandValue l D cI cJ cZ mh m0 m1 m2 m3 hL0 N z9.1 z9.2.1.1 (Sum.inr E12, U13) hz10) (x_cwS 2 hts rfl k_127 k_128 k_23 k_129 (by decide +kernel) ⟨(Nat.le_of_ble_eq_true rfl), (Nat.le_of_ble_eq_true rfl)⟩) (x_cut hP hD hK hS hA hZ [2, 3, 4, 5, 6] (by decide) rfl).2 rfl hl.1 rfl (Nat.le_of_ble_eq_true rfl) d_Rv_read_19 ⟨(Nat.le_of_ble_eq_true rfl), (Nat.le_of_ble_eq_true rfl)⟩) hlocks hno hK hP hD hS hA [2, 3, 4, 5, 6] [0, 1, 7, 8, 9, 10, 11, 12, 13, 14, 15] [0, 1, 11, 12, 13, 14, 15, 2, 3, 4, 5, 6, 7, 8, 9, 10] rfl rfl (by decide) (by decide) (by decide) rfl (Nat.le_of_ble_eq_true rfl) (Nat.le_of_ble_eq_true rfl)
    · dsimp only at hf
      obtain rfl := Option.some.inj hf
      exact x_out (w2 := (w_Rv cI cJ cZ rh sh mh m0 m1 m2 m3 dh d0 d1 d2 d3 ea cb ch be U8)) (x_noteV ⟨hx, hb, hml, hown, hts⟩ (c_Rv_demandActive l D cI cJ cZ rh sh mh m0 m1 m2 m3 dh d0 d1 d2 d3 ea cb ch be hL0 N p0 U (Sum.inr E7, U8) hz5) (x_cwV 1 hts rfl k_134 k_135 k_136 k_23 k_137 (by decide +kernel) ⟨(Nat.le_of_ble_eq_true rfl), (Nat.le_of_ble_eq_true rfl)⟩) hK (x_cut hP hD hK hS hA hZ [0, 1, 2, 3, 4, 5, 6, 7, 8, 9, 10, 11, 12, 13, 14, 15] (by decide) rfl).1 (x_cut hP hD hK hS hA hZ [0, 1, 2, 3, 4, 5, 6, 7, 8, 9, 10, 11, 12, 13, 14, 15] (by decide) rfl).2 (ci := 2) rfl rfl rfl hl.1 rfl (Nat.le_of_ble_eq_true rfl) d_Rv_read_6 ⟨(Nat.le_of_ble_eq_true rfl), (Nat.le_of_ble_eq_true rfl)⟩) hlocks hno hK hP hD hS hA [0, 1, 2, 3, 4, 5, 6, 7, 8, 9, 10, 11, 12, 13, 14, 15] [] [0, 1, 2, 3, 4, 5, 6, 7, 8, 9, 10, 11, 12, 13, 14, 15] rfl rfl (by decide) (by decide) (by decide) rfl (Nat.le_of_ble_eq_true rfl) (Nat.le_of_ble_eq_true rfl)
  · dsimp only at hf
    obtain rfl := Option.some.inj hf
    exact x_out (w2 := (w_Rv cI cJ cZ rh sh mh m0 m1 m2 m3 dh d0 d1 d2 d3 ea cb ch be U)) (x_noteS ⟨hx, hb, hml, hown, hts⟩ (c_Rv_demandRecord l D cI cJ cZ  hL0 N p1  (Sum.inr E3) hz1) (x_cwS 1 hts rfl k_138 k_139 k_23 k_140 (by decide +kernel) ⟨(Nat.le_of_ble_eq_true rfl), (Nat.le_of_ble_eq_true rfl)⟩) (x_cut hP hD hK hS hA hZ [] (by decide) rfl).2 rfl hl.1 rfl (Nat.le_of_ble_eq_true rfl) d_Rv_read_1 ⟨(Nat.le_of_ble_eq_true rfl), (Nat.le_of_ble_eq_true rfl)⟩) hlocks hno hK hP hD hS hA [] [0, 1, 2, 3, 4, 5, 6, 7, 8, 9, 10, 11, 12, 13, 14, 15] [0, 1, 2, 3, 4, 5, 6, 7, 8, 9, 10, 11, 12, 13, 14, 15] rfl rfl (by decide) (by decide) (by decide) rfl (Nat.le_of_ble_eq_true rfl) (Nat.le_of_ble_eq_true rfl)
set_option maxHeartbeats 4000000 in
set_option maxRecDepth 100000 in
theorem c_Rv_pageOf (l : Launch) (D : va_G) (cI cJ cZ : ClassId) (N : Nat) (p0 : Int32) (r : Int32) (hf : f_Rv_pageOf N p0 = some r) : Cx l y_Rv_pageOf ws_Rv_pageOf rm_Rv_pageOf D vwCl (tyL cI cJ cZ) [.int p0] [] (oI r) [] := by
  unfold f_Rv_pageOf at hf
  refine Cx.ofW (cc := b_Rv_pageOf) (maxL := 1) (ret := (some .int)) (by decide) rfl ?_
  intro p e s m below meth c A C0 hP hK hD hA hns hZ
  obtain ⟨hx, hb, hml, hown, hts0, hr, hlocks, hnm, hno⟩ := C0
  have hown : s.vm.findClass R_Rv = some m.cls := hown
  have hts : ∀ w ∈ tb, w.before [.int p0].toArray s = true := fun w h => hts0 w (List.mem_cons_of_mem _ h)
  have hS : va_S A s.heap s.heap [] := va_S.rf
  have hl := lv_entry ([.int p0]) (n := 1) (Nat.le_of_ble_eq_true rfl)
  rw [lg_entry_eq]
  generalize (lg_sl ([.int p0]) ++ List.replicate (1 - (lg_sl ([.int p0])).length) Slot.unset).toArray = ls at hl ⊢
  have hl : lv_has ls 1 [(0, .int p0)] := hl
  refine lv_iload_n hx hb d_Rv_pageOf_0 rfl (lv_at hl 0 rfl) ?_
  refine lv_bipush (v := (6 : Int32)) hx hb d_Rv_pageOf_1 (by decide) ?_
  refine lv_icmp_ge (tgt := 12) hx hb d_Rv_pageOf_3 (by decide) (fun c1 => ?_) (fun c1 => ?_)
  · have hf := x_ifp c1 hf
    refine lv_iconst (v := (3 : Int32)) hx hb d_Rv_pageOf_12 (by decide) ?_
    refine lv_iload_n hx hb d_Rv_pageOf_13 rfl (lv_at hl 0 rfl) ?_
    refine lv_bipush (v := (6 : Int32)) hx hb d_Rv_pageOf_14 (by decide) ?_
    refine lv_isub hx hb d_Rv_pageOf_16 ?_
    refine lv_iconst (v := (3 : Int32)) hx hb d_Rv_pageOf_17 (by decide) ?_
    refine lv_idiv hx hb d_Rv_pageOf_18 (by decide) ?_
    refine lv_iadd hx hb d_Rv_pageOf_19 ?_
    obtain rfl := Option.some.inj hf
    exact x_iret hx hb hr hlocks hK hP hD hS (Nat.le_of_ble_eq_true rfl) (Nat.le_of_ble_eq_true rfl) d_Rv_pageOf_20
  · have hf := x_ifn c1 hf
    refine lv_iload_n hx hb d_Rv_pageOf_6 rfl (lv_at hl 0 rfl) ?_
    refine lv_iconst (v := (2 : Int32)) hx hb d_Rv_pageOf_7 (by decide) ?_
    refine lv_idiv hx hb d_Rv_pageOf_8 (by decide) ?_
    refine lv_goto (tgt := 20) hx hb d_Rv_pageOf_9 (by decide) ?_
    obtain rfl := Option.some.inj hf
    exact x_iret hx hb hr hlocks hK hP hD hS (Nat.le_of_ble_eq_true rfl) (Nat.le_of_ble_eq_true rfl) d_Rv_pageOf_20
set_option maxHeartbeats 4000000 in
set_option maxRecDepth 100000 in
theorem c_Rv_clean (l : Launch) (D : va_G) (cI cJ cZ : ClassId) (rh sh mh m0 m1 m2 m3 dh d0 d1 d2 d3 ea cb ch be : Nat) (N : Nat) (p0 : Int32) (U : K_Rv) (r : (Int32 × K_Rv)) (hf : f_Rv_clean N p0 U = some r) : Cx l y_Rv_clean ws_Rv_clean rm_Rv_clean D vwCl (tyL cI cJ cZ) [.ref rh, .int p0] (w_Rv cI cJ cZ rh sh mh m0 m1 m2 m3 dh d0 d1 d2 d3 ea cb ch be U) (oI r.1) (w_Rv cI cJ cZ rh sh mh m0 m1 m2 m3 dh d0 d1 d2 d3 ea cb ch be r.2) := by
  unfold f_Rv_clean at hf
  refine Cx.ofW (cc := b_Rv_clean) (maxL := 4) (ret := (some .boolean)) (by decide) rfl ?_
  intro p e s m below meth c A C0 hP hK hD hA hns hZ
  obtain ⟨hx, hb, hml, hown, hts0, hr, hlocks, hnm, hno⟩ := C0
  have hown : s.vm.findClass R_Rv = some m.cls := hown
  have hts : ∀ w ∈ tb, w.before [.ref rh, .int p0].toArray s = true := fun w h => hts0 w (List.mem_cons_of_mem _ h)
  have hS : va_S A s.heap s.heap [] := va_S.rf
  have hl := lv_entry ([.ref rh, .int p0]) (n := 4) (Nat.le_of_ble_eq_true rfl)
  rw [lg_entry_eq]
  generalize (lg_sl ([.ref rh, .int p0]) ++ List.replicate (4 - (lg_sl ([.ref rh, .int p0])).length) Slot.unset).toArray = ls at hl ⊢
  have hl : lv_has ls 4 [(0, .ref rh), (1, .int p0)] := hl
  have L_2 : ∀ n : Nat, ∀ (x1 : Int32) (x2 : Int32) (U : K_Rv), f_Rv_clean_2 N n x1 x2 U = some r → ∀ (H : Heap) (locs : List Loc) (ls : Array Slot), va_P D vwCl (w_Rv cI cJ cZ rh sh mh m0 m1 m2 m3 dh d0 d1 d2 d3 ea cb ch be U) H → va_D A (w_Rv cI cJ cZ rh sh mh m0 m1 m2 m3 dh d0 d1 d2 d3 ea cb ch be U) → va_S A s.heap H locs → lv_has ls 4 [(0, .ref rh), (1, .int x1), (2, .int x2)] → W p l e (rm_Rv_clean) s m [.ref rh, .int p0].toArray below meth c H locs 0 0 (xQ D vwCl (tyL cI cJ cZ) below s A (oI r.1) (w_Rv cI cJ cZ rh sh mh m0 m1 m2 m3 dh d0 d1 d2 d3 ea cb ch be r.2) (rm_Rv_clean).cells (rm_Rv_clean).slots) (F0 m 2 ls []) := by
    intro n
    induction n with
    | zero =>
      intro x1 x2 U hf
      have hf : (none : Option (Int32 × K_Rv)) = some r := hf
      cases hf
    | succ n ih =>
      intro x1 x2 U hf H locs ls hP hD hS hl
      rw [f_Rv_clean_2] at hf
      refine lv_iload_n hx hb d_Rv_clean_2 rfl (lv_at hl 2 rfl) ?_
      refine lv_bipush (v := (15 : Int32)) hx hb d_Rv_clean_3 (by decide) ?_
      refine lv_icmp_ge (tgt := 110) hx hb d_Rv_clean_5 (by decide) (fun c18 => ?_) (fun c18 => ?_)
      · have hf := x_ifp c18 hf
        refine lv_iconst (v := (1 : Int32)) hx hb d_Rv_clean_110 (by decide) ?_
        obtain rfl := Option.some.inj hf
        exact x_zret hx hb hr hlocks (x_nb (Or.inr rfl)) hK hP hD hS (Nat.le_of_ble_eq_true rfl) (Nat.le_of_ble_eq_true rfl) d_Rv_clean_111
      · have hf := x_ifn c18 hf
        refine lv_aload_n hx hb d_Rv_clean_8 rfl (lv_at hl 0 rfl) ?_
        refine va_get (D := D) (ci := 2) (v := .ref mh) (C := R_Rv) (T := F_Rv) (N := 5) hx hb hts i_Rv hown hK hP 0 rfl rfl 1 (by decide) (hts _ k_92) (fun _ h9 => h9) rfl d_Rv_clean_9 ?_
        refine lv_iload_n hx hb d_Rv_clean_12 rfl (lv_at hl 1 rfl) ?_
        obtain ⟨z1, hz1, hf⟩ := x_bind hf
        refine x_callV (w2 := (w_Rv cI cJ cZ rh sh mh m0 m1 m2 m3 dh d0 d1 d2 d3 ea cb ch be ((z1.2, U.1.2), U.2))) ⟨hx, hb, hml, hown, hts⟩ (c_Co_isRolled l D cI cJ cZ mh m0 m1 m2 m3 N x1 U.1.1 z1 hz1) (x_cwV 1 hts rfl k_158 k_159 k_160 k_11 k_161 (by decide +kernel) ⟨(Nat.le_of_ble_eq_true rfl), (Nat.le_of_ble_eq_true rfl)⟩) hK hP hD hS hA hZ [2, 3, 4, 5, 6] [0, 1, 7, 8, 9, 10, 11, 12, 13, 14, 15] [0, 1, 11, 12, 13, 14, 15, 2, 3, 4, 5, 6, 7, 8, 9, 10] (by decide) rfl rfl (by decide) (by decide) (by decide) rfl (ci := 0) rfl rfl rfl hl.1 rfl (Nat.le_of_ble_eq_true rfl) d_Rv_clean_13 ⟨(Nat.le_of_ble_eq_true rfl), (Nat.le_of_ble_eq_true rfl)⟩ (fun H locs hP hD hS => ?_)
        refine W.eq (g2 := F0 m 16 ls [.int z1.1]) rfl ?_
        refine lv_if_eq (tgt := 110) hx hb d_Rv_clean_16 (by decide) (fun c17 => ?_) (fun c17 => ?_)
        · have hf := x_ifp c17 hf
          refine lv_iconst (v := (1 : Int32)) hx hb d_Rv_clean_110 (by decide) ?_
          obtain rfl := Option.some.inj hf
          exact x_zret hx hb hr hlocks (x_nb (Or.inr rfl)) hK hP hD hS (Nat.le_of_ble_eq_true rfl) (Nat.le_of_ble_eq_true rfl) d_Rv_clean_111
        · have hf := x_ifn c17 hf
          refine lv_aload_n hx hb d_Rv_clean_19 rfl (lv_at hl 0 rfl) ?_
          refine va_get (D := D) (ci := 2) (v := .ref mh) (C := R_Rv) (T := F_Rv) (N := 5) hx hb hts i_Rv hown hK hP 0 rfl rfl 1 (by decide) (hts _ k_92) (fun _ h9 => h9) rfl d_Rv_clean_20 ?_
          refine va_get (D := D) (ci := 0) (v := .ref m2) (C := R_Co) (T := F_Co) (N := 4) hx hb hts i_Co hown hK hP 2 rfl rfl 2 (by decide) (hts _ k_142) (fun _ h9 => h9) rfl d_Rv_clean_23 ?_
          refine lv_iload_n hx hb d_Rv_clean_26 rfl (lv_at hl 1 rfl) ?_
          obtain ⟨g2, hf⟩ := x_if hf
          refine va_iald hx hb hK hP 5 0 rfl rfl (xi_in g2) d_Rv_clean_27 ?_
          refine lv_istore_n (lv' := [(3, .int (z1.2.2.2.1 x1.toNatClampNeg)), (0, .ref rh), (1, .int x1), (2, .int x2)]) hx hb d_Rv_clean_28 rfl hl (by decide) rfl (fun ls hl => ?_)
          refine lv_iload_n hx hb d_Rv_clean_29 rfl (lv_at hl 0 rfl) ?_
          refine lv_iconst (v := (-1 : Int32)) hx hb d_Rv_clean_30 (by decide) ?_
          refine lv_icmp_ne (tgt := 45) hx hb d_Rv_clean_31 (by decide) (fun c16 => ?_) (fun c16 => ?_)
          · have hf := x_ifn c16 hf
            refine lv_aload_n hx hb d_Rv_clean_45 rfl (lv_at hl 1 rfl) ?_
            refine va_get (D := D) (ci := 2) (v := .ref sh) (C := R_Rv) (T := F_Rv) (N := 5) hx hb hts i_Rv hown hK hP 0 rfl rfl 0 (by decide) (hts _ k_90) (fun _ h9 => h9) rfl d_Rv_clean_46 ?_
            refine lv_iload_n hx hb d_Rv_clean_49 rfl (lv_at hl 2 rfl) ?_
            obtain ⟨z3, hz3, hf⟩ := x_bind hf
            refine x_callS (w2 := (w_Rv cI cJ cZ rh sh mh m0 m1 m2 m3 dh d0 d1 d2 d3 ea cb ch be ((z1.2, U.1.2), U.2))) ⟨hx, hb, hml, hown, hts⟩ (c_Rv_pageOf l D cI cJ cZ  N x1  z3 hz3) (x_cwS 1 hts rfl k_143 k_144 k_23 k_145 (by decide +kernel) ⟨(Nat.le_of_ble_eq_true rfl), (Nat.le_of_ble_eq_true rfl)⟩) hK hP hD hS hA hZ [] [0, 1, 2, 3, 4, 5, 6, 7, 8, 9, 10, 11, 12, 13, 14, 15] [0, 1, 2, 3, 4, 5, 6, 7, 8, 9, 10, 11, 12, 13, 14, 15] (by decide) rfl rfl (by decide) (by decide) (by decide) rfl rfl hl.1 rfl (Nat.le_of_ble_eq_true rfl) d_Rv_clean_50 ⟨(Nat.le_of_ble_eq_true rfl), (Nat.le_of_ble_eq_true rfl)⟩ (fun H locs hP hD hS => ?_)
            refine W.eq (g2 := F0 m 53 ls [.int z3, .ref sh]) rfl ?_
            refine lv_iload_n hx hb d_Rv_clean_53 rfl (lv_at hl 0 rfl) ?_
            obtain ⟨z4, hz4, hf⟩ := x_bind hf
            refine x_callS (w2 := (w_Rv cI cJ cZ rh sh mh m0 m1 m2 m3 dh d0 d1 d2 d3 ea cb ch be ((z1.2, U.1.2), U.2))) ⟨hx, hb, hml, hown, hts⟩ (c_Rv_pageOf l D cI cJ cZ  N (z1.2.2.2.1 x1.toNatClampNeg)  z4 hz4) (x_cwS 1 hts rfl k_143 k_144 k_23 k_145 (by decide +kernel) ⟨(Nat.le_of_ble_eq_true rfl), (Nat.le_of_ble_eq_true rfl)⟩) hK hP hD hS hA hZ [] [0, 1, 2, 3, 4, 5, 6, 7, 8, 9, 10, 11, 12, 13, 14, 15] [0, 1, 2, 3, 4, 5, 6, 7, 8, 9, 10, 11, 12, 13, 14, 15] (by decide) rfl rfl (by decide) (by decide) (by decide) rfl rfl hl.1 rfl (Nat.le_of_ble_eq_true rfl) d_Rv_clean_54 ⟨(Nat.le_of_ble_eq_true rfl), (Nat.le_of_ble_eq_true rfl)⟩ (fun H locs hP hD hS => ?_)
            refine W.eq (g2 := F0 m 57 ls [.int z4, .int z3, .ref sh]) rfl ?_
            obtain ⟨z5, hz5, hf⟩ := x_bind hf
            refine x_callV (w2 := (w_Rv cI cJ cZ rh sh mh m0 m1 m2 m3 dh d0 d1 d2 d3 ea cb ch be (z5.2, U.2))) ⟨hx, hb, hml, hown, hts⟩ (c_St_note l D cI cJ cZ sh mh m0 m1 m2 m3 dh d0 d1 d2 d3 ea N z3 z4 (z1.2, U.1.2) z5 hz5) (x_cwV 2 hts rfl k_154 k_155 k_156 k_55 k_157 (by decide +kernel) ⟨(Nat.le_of_ble_eq_true rfl), (Nat.le_of_ble_eq_true rfl)⟩) hK hP hD hS hA hZ [1, 2, 3, 4, 5, 6, 7, 8, 9, 10, 11, 12] [0, 13, 14, 15] [0, 4, 5, 6, 7, 8, 9, 10, 11, 12, 13, 14, 15, 1, 2, 3] (by decide) rfl rfl (by decide) (by decide) (by decide) rfl (ci := 1) rfl rfl rfl hl.1 rfl (Nat.le_of_ble_eq_true rfl) d_Rv_clean_57 ⟨(Nat.le_of_ble_eq_true rfl), (Nat.le_of_ble_eq_true rfl)⟩ (fun H locs hP hD hS => ?_)
            refine W.eq (g2 := F0 m 60 ls [.int z5.1]) rfl ?_
            refine lv_if_ne (tgt := 65) hx hb d_Rv_clean_60 (by decide) (fun c12 => ?_) (fun c12 => ?_)
            · have hf := x_ifn c12 hf
              refine lv_aload_n hx hb d_Rv_clean_65 rfl (lv_at hl 1 rfl) ?_
              refine va_get (D := D) (ci := 2) (v := .ref mh) (C := R_Rv) (T := F_Rv) (N := 5) hx hb hts i_Rv hown hK hP 0 rfl rfl 1 (by decide) (hts _ k_92) (fun _ h9 => h9) rfl d_Rv_clean_66 ?_
              refine lv_iload_n hx hb d_Rv_clean_69 rfl (lv_at hl 0 rfl) ?_
              refine lv_iload_n hx hb d_Rv_clean_70 rfl (lv_at hl 2 rfl) ?_
              obtain ⟨z6, hz6, hf⟩ := x_bind hf
              refine x_callV (w2 := (w_Rv cI cJ cZ rh sh mh m0 m1 m2 m3 dh d0 d1 d2 d3 ea cb ch be ((z6.2, z5.2.2), U.2))) ⟨hx, hb, hml, hown, hts⟩ (c_Co_move l D cI cJ cZ mh m0 m1 m2 m3 N (z1.2.2.2.1 x1.toNatClampNeg) x1 z5.2.1 z6 hz6) (x_cwV 2 hts rfl k_150 k_151 k_152 k_11 k_153 (by decide +kernel) ⟨(Nat.le_of_ble_eq_true rfl), (Nat.le_of_ble_eq_true rfl)⟩) hK hP hD hS hA hZ [2, 3, 4, 5, 6] [0, 1, 7, 8, 9, 10, 11, 12, 13, 14, 15] [0, 1, 11, 12, 13, 14, 15, 2, 3, 4, 5, 6, 7, 8, 9, 10] (by decide) rfl rfl (by decide) (by decide) (by decide) rfl (ci := 0) rfl rfl rfl hl.1 rfl (Nat.le_of_ble_eq_true rfl) d_Rv_clean_71 ⟨(Nat.le_of_ble_eq_true rfl), (Nat.le_of_ble_eq_true rfl)⟩ (fun H locs hP hD hS => ?_)
              refine W.eq (g2 := F0 m 74 ls []) rfl ?_
              refine lv_aload_n hx hb d_Rv_clean_74 rfl (lv_at hl 1 rfl) ?_
              refine va_get (D := D) (ci := 2) (v := .ref mh) (C := R_Rv) (T := F_Rv) (N := 5) hx hb hts i_Rv hown hK hP 0 rfl rfl 1 (by decide) (hts _ k_92) (fun _ h9 => h9) rfl d_Rv_clean_75 ?_
              refine lv_iload_n hx hb d_Rv_clean_78 rfl (lv_at hl 0 rfl) ?_
              obtain ⟨z7, hz7, hf⟩ := x_bind hf
              refine x_callV (w2 := (w_Rv cI cJ cZ rh sh mh m0 m1 m2 m3 dh d0 d1 d2 d3 ea cb ch be ((z7.2, z5.2.2), U.2))) ⟨hx, hb, hml, hown, hts⟩ (c_Co_empty l D cI cJ cZ mh m0 m1 m2 m3 N (z1.2.2.2.1 x1.toNatClampNeg) z6.2 z7 hz7) (x_cwV 1 hts rfl k_146 k_147 k_148 k_11 k_149 (by decide +kernel) ⟨(Nat.le_of_ble_eq_true rfl), (Nat.le_of_ble_eq_true rfl)⟩) hK hP hD hS hA hZ [2, 3, 4, 5, 6] [0, 1, 7, 8, 9, 10, 11, 12, 13, 14, 15] [0, 1, 11, 12, 13, 14, 15, 2, 3, 4, 5, 6, 7, 8, 9, 10] (by decide) rfl rfl (by decide) (by decide) (by decide) rfl (ci := 0) rfl rfl rfl hl.1 rfl (Nat.le_of_ble_eq_true rfl) d_Rv_clean_79 ⟨(Nat.le_of_ble_eq_true rfl), (Nat.le_of_ble_eq_true rfl)⟩ (fun H locs hP hD hS => ?_)
              refine W.eq (g2 := F0 m 82 ls []) rfl ?_
              refine lv_aload_n hx hb d_Rv_clean_82 rfl (lv_at hl 1 rfl) ?_
              refine va_get (D := D) (ci := 2) (v := .ref sh) (C := R_Rv) (T := F_Rv) (N := 5) hx hb hts i_Rv hown hK hP 0 rfl rfl 0 (by decide) (hts _ k_90) (fun _ h9 => h9) rfl d_Rv_clean_83 ?_
              refine lv_iload_n hx hb d_Rv_clean_86 rfl (lv_at hl 0 rfl) ?_
              obtain ⟨z8, hz8, hf⟩ := x_bind hf
              refine x_callS (w2 := (w_Rv cI cJ cZ rh sh mh m0 m1 m2 m3 dh d0 d1 d2 d3 ea cb ch be ((z7.2, z5.2.2), U.2))) ⟨hx, hb, hml, hown, hts⟩ (c_Rv_pageOf l D cI cJ cZ  N (z1.2.2.2.1 x1.toNatClampNeg)  z8 hz8) (x_cwS 1 hts rfl k_143 k_144 k_23 k_145 (by decide +kernel) ⟨(Nat.le_of_ble_eq_true rfl), (Nat.le_of_ble_eq_true rfl)⟩) hK hP hD hS hA hZ [] [0, 1, 2, 3, 4, 5, 6, 7, 8, 9, 10, 11, 12, 13, 14, 15] [0, 1, 2, 3, 4, 5, 6, 7, 8, 9, 10, 11, 12, 13, 14, 15] (by decide) rfl rfl (by decide) (by decide) (by decide) rfl rfl hl.1 rfl (Nat.le_of_ble_eq_true rfl) d_Rv_clean_87 ⟨(Nat.le_of_ble_eq_true rfl), (Nat.le_of_ble_eq_true rfl)⟩ (fun H locs hP hD hS => ?_)
              refine W.eq (g2 := F0 m 90 ls [.int z8, .ref sh]) rfl ?_
              obtain ⟨z9, hz9, hf⟩ := x_bind hf
              refine x_callV (w2 := (w_Rv cI cJ cZ rh sh mh m0 m1 m2 m3 dh d0 d1 d2 d3 ea cb ch be (z9.2, U.2))) ⟨hx, hb, hml, hown, hts⟩ (c_St_changed l D cI cJ cZ sh mh m0 m1 m2 m3 dh d0 d1 d2 d3 ea N z8 (z7.2, z5.2.2) z9 hz9) (x_cwV 1 hts rfl k_101 k_64 k_65 k_55 k_66 (by decide +kernel) ⟨(Nat.le_of_ble_eq_true rfl), (Nat.le_of_ble_eq_true rfl)⟩) hK hP hD hS hA hZ [1, 2, 3, 4, 5, 6, 7, 8, 9, 10, 11, 12] [0, 13, 14, 15] [0, 4, 5, 6, 7, 8, 9, 10, 11, 12, 13, 14, 15, 1, 2, 3] (by decide) rfl rfl (by decide) (by decide) (by decide) rfl (ci := 1) rfl rfl rfl hl.1 rfl (Nat.le_of_ble_eq_true rfl) d_Rv_clean_90 ⟨(Nat.le_of_ble_eq_true rfl), (Nat.le_of_ble_eq_true rfl)⟩ (fun H locs hP hD hS => ?_)
              refine W.eq (g2 := F0 m 93 ls []) rfl ?_
              refine lv_aload_n hx hb d_Rv_clean_93 rfl (lv_at hl 1 rfl) ?_
              refine va_get (D := D) (ci := 2) (v := .ref sh) (C := R_Rv) (T := F_Rv) (N := 5) hx hb hts i_Rv hown hK hP 0 rfl rfl 0 (by decide) (hts _ k_90) (fun _ h9 => h9) rfl d_Rv_clean_94 ?_
              refine lv_iload_n hx hb d_Rv_clean_97 rfl (lv_at hl 2 rfl) ?_
              obtain ⟨z10, hz10, hf⟩ := x_bind hf
              refine x_callS (w2 := (w_Rv cI cJ cZ rh sh mh m0 m1 m2 m3 dh d0 d1 d2 d3 ea cb ch be (z9.2, U.2))) ⟨hx, hb, hml, hown, hts⟩ (c_Rv_pageOf l D cI cJ cZ  N x1  z10 hz10) (x_cwS 1 hts rfl k_143 k_144 k_23 k_145 (by decide +kernel) ⟨(Nat.le_of_ble_eq_true rfl), (Nat.le_of_ble_eq_true rfl)⟩) hK hP hD hS hA hZ [] [0, 1, 2, 3, 4, 5, 6, 7, 8, 9, 10, 11, 12, 13, 14, 15] [0, 1, 2, 3, 4, 5, 6, 7, 8, 9, 10, 11, 12, 13, 14, 15] (by decide) rfl rfl (by decide) (by decide) (by decide) rfl rfl hl.1 rfl (Nat.le_of_ble_eq_true rfl) d_Rv_clean_98 ⟨(Nat.le_of_ble_eq_true rfl), (Nat.le_of_ble_eq_true rfl)⟩ (fun H locs hP hD hS => ?_)
              refine W.eq (g2 := F0 m 101 ls [.int z10, .ref sh]) rfl ?_
              obtain ⟨z11, hz11, hf⟩ := x_bind hf
              refine x_callV (w2 := (w_Rv cI cJ cZ rh sh mh m0 m1 m2 m3 dh d0 d1 d2 d3 ea cb ch be (z11.2, U.2))) ⟨hx, hb, hml, hown, hts⟩ (c_St_changed l D cI cJ cZ sh mh m0 m1 m2 m3 dh d0 d1 d2 d3 ea N z10 z9.2 z11 hz11) (x_cwV 1 hts rfl k_101 k_64 k_65 k_55 k_66 (by decide +kernel) ⟨(Nat.le_of_ble_eq_true rfl), (Nat.le_of_ble_eq_true rfl)⟩) hK hP hD hS hA hZ [1, 2, 3, 4, 5, 6, 7, 8, 9, 10, 11, 12] [0, 13, 14, 15] [0, 4, 5, 6, 7, 8, 9, 10, 11, 12, 13, 14, 15, 1, 2, 3] (by decide) rfl rfl (by decide) (by decide) (by decide) rfl (ci := 1) rfl rfl rfl hl.1 rfl (Nat.le_of_ble_eq_true rfl) d_Rv_clean_101 ⟨(Nat.le_of_ble_eq_true rfl), (Nat.le_of_ble_eq_true rfl)⟩ (fun H locs hP hD hS => ?_)
              refine W.eq (g2 := F0 m 104 ls []) rfl ?_
              refine lv_iinc (v := (x2 + (1 : Int32))) (lv' := [(2, .int (x2 + (1 : Int32))), (3, .int (z1.2.2.2.1 x1.toNatClampNeg)), (0, .ref rh), (1, .int x1)]) hx hb d_Rv_clean_104 hl (k := 3) rfl rfl (by decide) rfl (fun ls hl => ?_)
              refine lv_goto (tgt := 2) hx hb d_Rv_clean_107 (by decide) ?_
              exact ih _ _ _ hf _ _ _ hP hD hS (lv_sub hl [2, 3, 0] rfl)
            · have hf := x_ifp c12 hf
              refine lv_iconst (v := (0 : Int32)) hx hb d_Rv_clean_63 (by decide) ?_
              obtain rfl := Option.some.inj hf
              exact x_zret hx hb hr hlocks (x_nb (Or.inl rfl)) hK hP hD hS (Nat.le_of_ble_eq_true rfl) (Nat.le_of_ble_eq_true rfl) d_Rv_clean_64
          · have hf := x_ifp c16 hf
            refine lv_aload_n hx hb d_Rv_clean_34 rfl (lv_at hl 1 rfl) ?_
            refine va_get (D := D) (ci := 2) (v := .ref mh) (C := R_Rv) (T := F_Rv) (N := 5) hx hb hts i_Rv hown hK hP 0 rfl rfl 1 (by decide) (hts _ k_92) (fun _ h9 => h9) rfl d_Rv_clean_35 ?_
            refine lv_iload_n hx hb d_Rv_clean_38 rfl (lv_at hl 2 rfl) ?_
            obtain ⟨z13, hz13, hf⟩ := x_bind hf
            refine x_callV (w2 := (w_Rv cI cJ cZ rh sh mh m0 m1 m2 m3 dh d0 d1 d2 d3 ea cb ch be ((z13.2, U.1.2), U.2))) ⟨hx, hb, hml, hown, hts⟩ (c_Co_empty l D cI cJ cZ mh m0 m1 m2 m3 N x1 z1.2 z13 hz13) (x_cwV 1 hts rfl k_146 k_147 k_148 k_11 k_149 (by decide +kernel) ⟨(Nat.le_of_ble_eq_true rfl), (Nat.le_of_ble_eq_true rfl)⟩) hK hP hD hS hA hZ [2, 3, 4, 5, 6] [0, 1, 7, 8, 9, 10, 11, 12, 13, 14, 15] [0, 1, 11, 12, 13, 14, 15, 2, 3, 4, 5, 6, 7, 8, 9, 10] (by decide) rfl rfl (by decide) (by decide) (by decide) rfl (ci := 0) rfl rfl rfl hl.1 rfl (Nat.le_of_ble_eq_true rfl) d_Rv_clean_39 ⟨(Nat.le_of_ble_eq_true rfl), (Nat.le_of_ble_eq_true rfl)⟩ (fun H locs hP hD hS => ?_)
            refine W.eq (g2 := F0 m 42 ls []) rfl ?_
            refine lv_goto (tgt := 93) hx hb d_Rv_clean_42 (by decide) ?_
            refine lv_aload_n hx hb d_Rv_clean_93 rfl (lv_at hl 1 rfl) ?_
            refine va_get (D := D) (ci := 2) (v := .ref sh) (C := R_Rv) (T := F_Rv) (N := 5) hx hb hts i_Rv hown hK hP 0 rfl rfl 0 (by decide) (hts _ k_90) (fun _ h9 => h9) rfl d_Rv_clean_94 ?_
            refine lv_iload_n hx hb d_Rv_clean_97 rfl (lv_at hl 2 rfl) ?_
            obtain ⟨z14, hz14, hf⟩ := x_bind hf
            refine x_callS (w2 := (w_Rv cI cJ cZ rh sh mh m0 m1 m2 m3 dh d0 d1 d2 d3 ea cb ch be ((z13.2, U.1.2), U.2))) ⟨hx, hb, hml, hown, hts⟩ (c_Rv_pageOf l D cI cJ cZ  N x1  z14 hz14) (x_cwS 1 hts rfl k_143 k_144 k_23 k_145 (by decide +kernel) ⟨(Nat.le_of_ble_eq_true rfl), (Nat.le_of_ble_eq_true rfl)⟩) hK hP hD hS hA hZ [] [0, 1, 2, 3, 4, 5, 6, 7, 8, 9, 10, 11, 12, 13, 14, 15] [0, 1, 2, 3, 4, 5, 6, 7, 8, 9, 10, 11, 12, 13, 14, 15] (by decide) rfl rfl (by decide) (by decide) (by decide) rfl rfl hl.1 rfl (Nat.le_of_ble_eq_true rfl) d_Rv_clean_98 ⟨(Nat.le_of_ble_eq_true rfl), (Nat.le_of_ble_eq_true rfl)⟩ (fun H locs hP hD hS => ?_)
            refine W.eq (g2 := F0 m 101 ls [.int z14, .ref sh]) rfl ?_
            obtain ⟨z15, hz15, hf⟩ := x_bind hf
            refine x_callV (w2 := (w_Rv cI cJ cZ rh sh mh m0 m1 m2 m3 dh d0 d1 d2 d3 ea cb ch be (z15.2, U.2))) ⟨hx, hb, hml, hown, hts⟩ (c_St_changed l D cI cJ cZ sh mh m0 m1 m2 m3 dh d0 d1 d2 d3 ea N z14 (z13.2, U.1.2) z15 hz15) (x_cwV 1 hts rfl k_101 k_64 k_65 k_55 k_66 (by decide +kernel) ⟨(Nat.le_of_ble_eq_true rfl), (Nat.le_of_ble_eq_true rfl)⟩) hK hP hD hS hA hZ [1, 2, 3, 4, 5, 6, 7, 8, 9, 10, 11, 12] [0, 13, 14, 15] [0, 4, 5, 6, 7, 8, 9, 10, 11, 12, 13, 14, 15, 1, 2, 3] (by decide) rfl rfl (by decide) (by decide) (by decide) rfl (ci := 1) rfl rfl rfl hl.1 rfl (Nat.le_of_ble_eq_true rfl) d_Rv_clean_101 ⟨(Nat.le_of_ble_eq_true rfl), (Nat.le_of_ble_eq_true rfl)⟩ (fun H locs hP hD hS => ?_)
            refine W.eq (g2 := F0 m 104 ls []) rfl ?_
            refine lv_iinc (v := (x2 + (1 : Int32))) (lv' := [(2, .int (x2 + (1 : Int32))), (3, .int (z1.2.2.2.1 x1.toNatClampNeg)), (0, .ref rh), (1, .int x1)]) hx hb d_Rv_clean_104 hl (k := 3) rfl rfl (by decide) rfl (fun ls hl => ?_)
            refine lv_goto (tgt := 2) hx hb d_Rv_clean_107 (by decide) ?_
            exact ih _ _ _ hf _ _ _ hP hD hS (lv_sub hl [2, 3, 0] rfl)
  refine lv_iconst (v := (0 : Int32)) hx hb d_Rv_clean_0 (by decide) ?_
  refine lv_istore_n (lv' := [(2, .int (0 : Int32)), (0, .ref rh), (1, .int p0)]) hx hb d_Rv_clean_1 rfl hl (by decide) rfl (fun ls hl => ?_)
  exact L_2 _ _ _ _ hf _ _ _ hP hD hS (lv_sub hl [1, 2, 0] rfl)
set_option maxHeartbeats 4000000 in
set_option maxRecDepth 100000 in
theorem c_Rv_changedBy (l : Launch) (D : va_G) (cI cJ cZ : ClassId) (rh sh mh m0 m1 m2 m3 dh d0 d1 d2 d3 ea cb ch be : Nat) (N : Nat) (p0 : Int32) (p1 : Int32) (U : K_Rv) (r : (Unit × K_Rv)) (hf : f_Rv_changedBy N p0 p1 U = some r) : Cx l y_Rv_changedBy ws_Rv_changedBy rm_Rv_changedBy D vwCl (tyL cI cJ cZ) [.ref rh, .int p0, .int p1] (w_Rv cI cJ cZ rh sh mh m0 m1 m2 m3 dh d0 d1 d2 d3 ea cb ch be U) (oV r.1) (w_Rv cI cJ cZ rh sh mh m0 m1 m2 m3 dh d0 d1 d2 d3 ea cb ch be r.2) := by
  unfold f_Rv_changedBy at hf
  refine Cx.ofW (cc := b_Rv_changedBy) (maxL := 3) (ret := none) (by decide) rfl ?_
  intro p e s m below meth c A C0 hP hK hD hA hns hZ
  obtain ⟨hx, hb, hml, hown, hts0, hr, hlocks, hnm, hno⟩ := C0
  have hown : s.vm.findClass R_Rv = some m.cls := hown
  have hts : ∀ w ∈ tb, w.before [.ref rh, .int p0, .int p1].toArray s = true := fun w h => hts0 w (List.mem_cons_of_mem _ h)
  have hS : va_S A s.heap s.heap [] := va_S.rf
  have hl := lv_entry ([.ref rh, .int p0, .int p1]) (n := 3) (Nat.le_of_ble_eq_true rfl)
  rw [lg_entry_eq]
  generalize (lg_sl ([.ref rh, .int p0, .int p1]) ++ List.replicate (3 - (lg_sl ([.ref rh, .int p0, .int p1])).length) Slot.unset).toArray = ls at hl ⊢
  have hl : lv_has ls 3 [(0, .ref rh), (1, .int p0), (2, .int p1)] := hl
  refine lv_aload_n hx hb d_Rv_changedBy_0 rfl (lv_at hl 0 rfl) ?_
  refine va_get (D := D) (ci := 2) (v := .ref sh) (C := R_Rv) (T := F_Rv) (N := 5) hx hb hts i_Rv hown hK hP 0 rfl rfl 0 (by decide) (hts _ k_90) (fun _ h9 => h9) rfl d_Rv_changedBy_1 ?_
  refine lv_iload_n hx hb d_Rv_changedBy_4 rfl (lv_at hl 2 rfl) ?_
  obtain ⟨z1, hz1, hf⟩ := x_bind hf
  refine x_callS (w2 := (w_Rv cI cJ cZ rh sh mh m0 m1 m2 m3 dh d0 d1 d2 d3 ea cb ch be U)) ⟨hx, hb, hml, hown, hts⟩ (c_Rv_pageOf l D cI cJ cZ  N p1  z1 hz1) (x_cwS 1 hts rfl k_143 k_144 k_23 k_145 (by decide +kernel) ⟨(Nat.le_of_ble_eq_true rfl), (Nat.le_of_ble_eq_true rfl)⟩) hK hP hD hS hA hZ [] [0, 1, 2, 3, 4, 5, 6, 7, 8, 9, 10, 11, 12, 13, 14, 15] [0, 1, 2, 3, 4, 5, 6, 7, 8, 9, 10, 11, 12, 13, 14, 15] (by decide) rfl rfl (by decide) (by decide) (by decide) rfl rfl hl.1 rfl (Nat.le_of_ble_eq_true rfl) d_Rv_changedBy_5 ⟨(Nat.le_of_ble_eq_true rfl), (Nat.le_of_ble_eq_true rfl)⟩ (fun H locs hP hD hS => ?_)
  refine W.eq (g2 := F0 m 8 ls [.int z1, .ref sh]) rfl ?_
  obtain ⟨z2, hz2, hf⟩ := x_bind hf
  refine x_callV (w2 := (w_Rv cI cJ cZ rh sh mh m0 m1 m2 m3 dh d0 d1 d2 d3 ea cb ch be (z2.2, U.2))) ⟨hx, hb, hml, hown, hts⟩ (c_St_changed l D cI cJ cZ sh mh m0 m1 m2 m3 dh d0 d1 d2 d3 ea N z1 U.1 z2 hz2) (x_cwV 1 hts rfl k_101 k_64 k_65 k_55 k_66 (by decide +kernel) ⟨(Nat.le_of_ble_eq_true rfl), (Nat.le_of_ble_eq_true rfl)⟩) hK hP hD hS hA hZ [1, 2, 3, 4, 5, 6, 7, 8, 9, 10, 11, 12] [0, 13, 14, 15] [0, 4, 5, 6, 7, 8, 9, 10, 11, 12, 13, 14, 15, 1, 2, 3] (by decide) rfl rfl (by decide) (by decide) (by decide) rfl (ci := 1) rfl rfl rfl hl.1 rfl (Nat.le_of_ble_eq_true rfl) d_Rv_changedBy_8 ⟨(Nat.le_of_ble_eq_true rfl), (Nat.le_of_ble_eq_true rfl)⟩ (fun H locs hP hD hS => ?_)
  refine W.eq (g2 := F0 m 11 ls []) rfl ?_
  refine lv_aload_n hx hb d_Rv_changedBy_11 rfl (lv_at hl 0 rfl) ?_
  refine va_get (D := D) (ci := 2) (v := .ref ch) (C := R_Rv) (T := F_Rv) (N := 5) hx hb hts i_Rv hown hK hP 0 rfl rfl 3 (by decide) (hts _ k_95) (fun _ h9 => h9) rfl d_Rv_changedBy_12 ?_
  refine lv_iload_n hx hb d_Rv_changedBy_15 rfl (lv_at hl 1 rfl) ?_
  refine lv_dup2_11 hx hb d_Rv_changedBy_16 rfl rfl ?_
  obtain ⟨g3, hf⟩ := x_if hf
  refine va_iald hx hb hK hP 14 0 rfl rfl (xi_in g3) d_Rv_changedBy_17 ?_
  refine lv_iconst (v := (1 : Int32)) hx hb d_Rv_changedBy_18 (by decide) ?_
  refine lv_iload_n hx hb d_Rv_changedBy_19 rfl (lv_at hl 2 rfl) ?_
  obtain ⟨z4, hz4, hf⟩ := x_bind hf
  refine x_callS (w2 := (w_Rv cI cJ cZ rh sh mh m0 m1 m2 m3 dh d0 d1 d2 d3 ea cb ch be (z2.2, U.2))) ⟨hx, hb, hml, hown, hts⟩ (c_Rv_pageOf l D cI cJ cZ  N p1  z4 hz4) (x_cwS 1 hts rfl k_143 k_144 k_23 k_145 (by decide +kernel) ⟨(Nat.le_of_ble_eq_true rfl), (Nat.le_of_ble_eq_true rfl)⟩) hK hP hD hS hA hZ [] [0, 1, 2, 3, 4, 5, 6, 7, 8, 9, 10, 11, 12, 13, 14, 15] [0, 1, 2, 3, 4, 5, 6, 7, 8, 9, 10, 11, 12, 13, 14, 15] (by decide) rfl rfl (by decide) (by decide) (by decide) rfl rfl hl.1 rfl (Nat.le_of_ble_eq_true rfl) d_Rv_changedBy_20 ⟨(Nat.le_of_ble_eq_true rfl), (Nat.le_of_ble_eq_true rfl)⟩ (fun H locs hP hD hS => ?_)
  refine W.eq (g2 := F0 m 23 ls [.int z4, .int (1 : Int32), .int (U.2.2.1 p0.toNatClampNeg), .int p0, .ref ch]) rfl ?_
  refine lv_ishl hx hb d_Rv_changedBy_23 ?_
  refine lv_ior hx hb d_Rv_changedBy_24 ?_
  obtain ⟨g5, hf⟩ := x_if hf
  refine va_iast hx hb hK hP hD hS 14 0 rfl rfl (xi_in g5) d_Rv_changedBy_25 (fun H locs hP hD hS => ?_)
  have hP : va_P D vwCl (w_Rv cI cJ cZ rh sh mh m0 m1 m2 m3 dh d0 d1 d2 d3 ea cb ch be (z2.2, (U.2.1, ((upd U.2.2.1 p0.toNatClampNeg ((U.2.2.1 p0.toNatClampNeg) ||| ((1 : Int32) <<< (z4 &&& 31)))), U.2.2.2)))) H := hP
  have hD : va_D A (w_Rv cI cJ cZ rh sh mh m0 m1 m2 m3 dh d0 d1 d2 d3 ea cb ch be (z2.2, (U.2.1, ((upd U.2.2.1 p0.toNatClampNeg ((U.2.2.1 p0.toNatClampNeg) ||| ((1 : Int32) <<< (z4 &&& 31)))), U.2.2.2)))) := hD
  obtain rfl := Option.some.inj hf
  exact x_vret hx hb hr hlocks hK hP hD hS (Nat.le_of_ble_eq_true rfl) (Nat.le_of_ble_eq_true rfl) d_Rv_changedBy_26
end
section
set_option maxHeartbeats 4000000 in
set_option maxRecDepth 100000 in
theorem c_Rv_change (l : Launch) (D : va_G) (cI cJ cZ : ClassId) (rh sh mh m0 m1 m2 m3 dh d0 d1 d2 d3 ea cb ch be : Nat) (hL0 : xL l) (N : Nat) (p0 : Int32) (p1 : Int32) (p2 : Int32) (U : K_Rv) (r : ((Int32 ⊕ String) × K_Rv)) (hf : f_Rv_change N p0 p1 p2 U = some r) : Cx l y_Rv_change ws_Rv_change rm_Rv_change D vwCl (tyL cI cJ cZ) [.ref rh, .int p0, .int p1, .int p2] (w_Rv cI cJ cZ rh sh mh m0 m1 m2 m3 dh d0 d1 d2 d3 ea cb ch be U) (tI r.1) (w_Rv cI cJ cZ rh sh mh m0 m1 m2 m3 dh d0 d1 d2 d3 ea cb ch be r.2) := by
  unfold f_Rv_change at hf
  refine Cx.ofW (cc := b_Rv_change) (maxL := 6) (ret := (some .int)) (by decide) rfl ?_
  intro p e s m below meth c A C0 hP hK hD hA hns hZ
  obtain ⟨hx, hb, hml, hown, hts0, hr, hlocks, hnm, hno⟩ := C0
  have hown : s.vm.findClass R_Rv = some m.cls := hown
  have hts : ∀ w ∈ tb, w.before [.ref rh, .int p0, .int p1, .int p2].toArray s = true := fun w h => hts0 w (List.mem_cons_of_mem _ h)
  have hS : va_S A s.heap s.heap [] := va_S.rf
  have hl := lv_entry ([.ref rh, .int p0, .int p1, .int p2]) (n := 6) (Nat.le_of_ble_eq_true rfl)
  rw [lg_entry_eq]
  generalize (lg_sl ([.ref rh, .int p0, .int p1, .int p2]) ++ List.replicate (6 - (lg_sl ([.ref rh, .int p0, .int p1, .int p2])).length) Slot.unset).toArray = ls at hl ⊢
  have hl : lv_has ls 6 [(0, .ref rh), (1, .int p0), (2, .int p1), (3, .int p2)] := hl
  refine lv_aload_n hx hb d_Rv_change_0 rfl (lv_at hl 0 rfl) ?_
  refine lv_iload_n hx hb d_Rv_change_1 rfl (lv_at hl 2 rfl) ?_
  obtain ⟨z1, hz1, hf⟩ := x_bind hf
  refine x_callV (w2 := (w_Rv cI cJ cZ rh sh mh m0 m1 m2 m3 dh d0 d1 d2 d3 ea cb ch be z1.2)) ⟨hx, hb, hml, hown, hts⟩ (c_Rv_clean l D cI cJ cZ rh sh mh m0 m1 m2 m3 dh d0 d1 d2 d3 ea cb ch be N p1 U z1 hz1) (x_cwV 1 hts rfl k_177 k_178 k_179 k_23 k_180 (by decide +kernel) ⟨(Nat.le_of_ble_eq_true rfl), (Nat.le_of_ble_eq_true rfl)⟩) hK hP hD hS hA hZ [0, 1, 2, 3, 4, 5, 6, 7, 8, 9, 10, 11, 12, 13, 14, 15] [] [0, 1, 2, 3, 4, 5, 6, 7, 8, 9, 10, 11, 12, 13, 14, 15] (by decide) rfl rfl (by decide) (by decide) (by decide) rfl (ci := 2) rfl rfl rfl hl.1 rfl (Nat.le_of_ble_eq_true rfl) d_Rv_change_2 ⟨(Nat.le_of_ble_eq_true rfl), (Nat.le_of_ble_eq_true rfl)⟩ (fun H locs hP hD hS => ?_)
  refine W.eq (g2 := F0 m 5 ls [.int z1.1]) rfl ?_
  refine lv_if_ne (tgt := 11) hx hb d_Rv_change_5 (by decide) (fun c39 => ?_) (fun c39 => ?_)
  · have hf := x_ifn c39 hf
    refine lv_aload_n hx hb d_Rv_change_11 rfl (lv_at hl 0 rfl) ?_
    refine va_get (D := D) (ci := 2) (v := .ref mh) (C := R_Rv) (T := F_Rv) (N := 5) hx hb hts i_Rv hown hK hP 0 rfl rfl 1 (by decide) (hts _ k_92) (fun _ h9 => h9) rfl d_Rv_change_12 ?_
    refine va_get (D := D) (ci := 0) (v := .ref m0) (C := R_Co) (T := F_Co) (N := 4) hx hb hts i_Co hown hK hP 2 rfl rfl 0 (by decide) (hts _ k_162) (fun _ h9 => h9) rfl d_Rv_change_15 ?_
    refine lv_iload_n hx hb d_Rv_change_18 rfl (lv_at hl 2 rfl) ?_
    obtain ⟨g2, hf⟩ := x_if hf
    refine va_iald hx hb hK hP 3 0 rfl rfl (xi_in g2) d_Rv_change_19 ?_
    refine lv_istore (lv' := [(4, .int (z1.2.1.1.1 p1.toNatClampNeg)), (0, .ref rh), (1, .int p0), (2, .int p1), (3, .int p2)]) hx hb d_Rv_change_20 hl (by decide) rfl (fun ls hl => ?_)
    refine lv_iload hx hb d_Rv_change_22 (lv_at hl 0 rfl) ?_
    refine lv_if_eq (tgt := 48) hx hb d_Rv_change_24 (by decide) (fun c38 => ?_) (fun c38 => ?_)
    · have hf := x_ifp c38 hf
      refine lv_iload hx hb d_Rv_change_48 (lv_at hl 0 rfl) ?_
      refine lv_if_ne (tgt := 67) hx hb d_Rv_change_50 (by decide) (fun c18 => ?_) (fun c18 => ?_)
      · have hf := x_ifn c18 hf
        refine lv_iload hx hb d_Rv_change_67 (lv_at hl 0 rfl) ?_
        refine lv_iload_n hx hb d_Rv_change_69 rfl (lv_at hl 2 rfl) ?_
        refine lv_icmp_ne (tgt := 86) hx hb d_Rv_change_70 (by decide) (fun c15 => ?_) (fun c15 => ?_)
        · have hf := x_ifn c15 hf
          refine lv_aload_n hx hb d_Rv_change_86 rfl (lv_at hl 1 rfl) ?_
          refine va_get (D := D) (ci := 2) (v := .ref mh) (C := R_Rv) (T := F_Rv) (N := 5) hx hb hts i_Rv hown hK hP 0 rfl rfl 1 (by decide) (hts _ k_92) (fun _ h9 => h9) rfl d_Rv_change_87 ?_
          obtain ⟨z3, hz3, hf⟩ := x_bind hf
          refine x_callV (w2 := (w_Rv cI cJ cZ rh sh mh m0 m1 m2 m3 dh d0 d1 d2 d3 ea cb ch be ((z3.2, z1.2.1.2), z1.2.2))) ⟨hx, hb, hml, hown, hts⟩ (c_Co_leastFree l D cI cJ cZ mh m0 m1 m2 m3 N  z1.2.1.1 z3 hz3) (x_cwV 0 hts rfl k_170 k_171 k_172 k_11 k_173 (by decide +kernel) ⟨(Nat.le_of_ble_eq_true rfl), (Nat.le_of_ble_eq_true rfl)⟩) hK hP hD hS hA hZ [2, 3, 4, 5, 6] [0, 1, 7, 8, 9, 10, 11, 12, 13, 14, 15] [0, 1, 11, 12, 13, 14, 15, 2, 3, 4, 5, 6, 7, 8, 9, 10] (by decide) rfl rfl (by decide) (by decide) (by decide) rfl (ci := 0) rfl rfl rfl hl.1 rfl (Nat.le_of_ble_eq_true rfl) d_Rv_change_90 ⟨(Nat.le_of_ble_eq_true rfl), (Nat.le_of_ble_eq_true rfl)⟩ (fun H locs hP hD hS => ?_)
          refine W.eq (g2 := F0 m 93 ls [.int z3.1]) rfl ?_
          refine lv_istore (lv' := [(5, .int z3.1), (4, .int (z1.2.1.1.1 p1.toNatClampNeg)), (0, .ref rh), (1, .int p0), (2, .int p1), (3, .int p2)]) hx hb d_Rv_change_93 hl (by decide) rfl (fun ls hl => ?_)
          refine lv_iload hx hb d_Rv_change_95 (lv_at hl 0 rfl) ?_
          refine lv_iconst (v := (-1 : Int32)) hx hb d_Rv_change_97 (by decide) ?_
          refine lv_icmp_ne (tgt := 109) hx hb d_Rv_change_98 (by decide) (fun c12 => ?_) (fun c12 => ?_)
          · have hf := x_ifn c12 hf
            refine lv_aload_n hx hb d_Rv_change_109 rfl (lv_at hl 2 rfl) ?_
            refine va_get (D := D) (ci := 2) (v := .ref sh) (C := R_Rv) (T := F_Rv) (N := 5) hx hb hts i_Rv hown hK hP 0 rfl rfl 0 (by decide) (hts _ k_90) (fun _ h9 => h9) rfl d_Rv_change_110 ?_
            refine lv_iload hx hb d_Rv_change_113 (lv_at hl 0 rfl) ?_
            obtain ⟨z4, hz4, hf⟩ := x_bind hf
            refine x_callS (w2 := (w_Rv cI cJ cZ rh sh mh m0 m1 m2 m3 dh d0 d1 d2 d3 ea cb ch be ((z3.2, z1.2.1.2), z1.2.2))) ⟨hx, hb, hml, hown, hts⟩ (c_Rv_pageOf l D cI cJ cZ  N z3.1  z4 hz4) (x_cwS 1 hts rfl k_143 k_144 k_23 k_145 (by decide +kernel) ⟨(Nat.le_of_ble_eq_true rfl), (Nat.le_of_ble_eq_true rfl)⟩) hK hP hD hS hA hZ [] [0, 1, 2, 3, 4, 5, 6, 7, 8, 9, 10, 11, 12, 13, 14, 15] [0, 1, 2, 3, 4, 5, 6, 7, 8, 9, 10, 11, 12, 13, 14, 15] (by decide) rfl rfl (by decide) (by decide) (by decide) rfl rfl hl.1 rfl (Nat.le_of_ble_eq_true rfl) d_Rv_change_115 ⟨(Nat.le_of_ble_eq_true rfl), (Nat.le_of_ble_eq_true rfl)⟩ (fun H locs hP hD hS => ?_)
            refine W.eq (g2 := F0 m 118 ls [.int z4, .ref sh]) rfl ?_
            refine lv_iload_n hx hb d_Rv_change_118 rfl (lv_at hl 4 rfl) ?_
            obtain ⟨z5, hz5, hf⟩ := x_bind hf
            refine x_callS (w2 := (w_Rv cI cJ cZ rh sh mh m0 m1 m2 m3 dh d0 d1 d2 d3 ea cb ch be ((z3.2, z1.2.1.2), z1.2.2))) ⟨hx, hb, hml, hown, hts⟩ (c_Rv_pageOf l D cI cJ cZ  N p1  z5 hz5) (x_cwS 1 hts rfl k_143 k_144 k_23 k_145 (by decide +kernel) ⟨(Nat.le_of_ble_eq_true rfl), (Nat.le_of_ble_eq_true rfl)⟩) hK hP hD hS hA hZ [] [0, 1, 2, 3, 4, 5, 6, 7, 8, 9, 10, 11, 12, 13, 14, 15] [0, 1, 2, 3, 4, 5, 6, 7, 8, 9, 10, 11, 12, 13, 14, 15] (by decide) rfl rfl (by decide) (by decide) (by decide) rfl rfl hl.1 rfl (Nat.le_of_ble_eq_true rfl) d_Rv_change_119 ⟨(Nat.le_of_ble_eq_true rfl), (Nat.le_of_ble_eq_true rfl)⟩ (fun H locs hP hD hS => ?_)
            refine W.eq (g2 := F0 m 122 ls [.int z5, .int z4, .ref sh]) rfl ?_
            obtain ⟨z6, hz6, hf⟩ := x_bind hf
            refine x_callV (w2 := (w_Rv cI cJ cZ rh sh mh m0 m1 m2 m3 dh d0 d1 d2 d3 ea cb ch be (z6.2, z1.2.2))) ⟨hx, hb, hml, hown, hts⟩ (c_St_note l D cI cJ cZ sh mh m0 m1 m2 m3 dh d0 d1 d2 d3 ea N z4 z5 (z3.2, z1.2.1.2) z6 hz6) (x_cwV 2 hts rfl k_154 k_155 k_156 k_55 k_157 (by decide +kernel) ⟨(Nat.le_of_ble_eq_true rfl), (Nat.le_of_ble_eq_true rfl)⟩) hK hP hD hS hA hZ [1, 2, 3, 4, 5, 6, 7, 8, 9, 10, 11, 12] [0, 13, 14, 15] [0, 4, 5, 6, 7, 8, 9, 10, 11, 12, 13, 14, 15, 1, 2, 3] (by decide) rfl rfl (by decide) (by decide) (by decide) rfl (ci := 1) rfl rfl rfl hl.1 rfl (Nat.le_of_ble_eq_true rfl) d_Rv_change_122 ⟨(Nat.le_of_ble_eq_true rfl), (Nat.le_of_ble_eq_true rfl)⟩ (fun H locs hP hD hS => ?_)
            refine W.eq (g2 := F0 m 125 ls [.int z6.1]) rfl ?_
            refine lv_if_ne (tgt := 131) hx hb d_Rv_change_125 (by decide) (fun c11 => ?_) (fun c11 => ?_)
            · have hf := x_ifn c11 hf
              refine lv_aload_n hx hb d_Rv_change_131 rfl (lv_at hl 2 rfl) ?_
              refine va_get (D := D) (ci := 2) (v := .ref mh) (C := R_Rv) (T := F_Rv) (N := 5) hx hb hts i_Rv hown hK hP 0 rfl rfl 1 (by decide) (hts _ k_92) (fun _ h9 => h9) rfl d_Rv_change_132 ?_
              refine lv_iload_n hx hb d_Rv_change_135 rfl (lv_at hl 4 rfl) ?_
              refine lv_iload hx hb d_Rv_change_136 (lv_at hl 0 rfl) ?_
              obtain ⟨z7, hz7, hf⟩ := x_bind hf
              refine x_callV (w2 := (w_Rv cI cJ cZ rh sh mh m0 m1 m2 m3 dh d0 d1 d2 d3 ea cb ch be ((z7.2, z6.2.2), z1.2.2))) ⟨hx, hb, hml, hown, hts⟩ (c_Co_move l D cI cJ cZ mh m0 m1 m2 m3 N p1 z3.1 z6.2.1 z7 hz7) (x_cwV 2 hts rfl k_150 k_151 k_152 k_11 k_153 (by decide +kernel) ⟨(Nat.le_of_ble_eq_true rfl), (Nat.le_of_ble_eq_true rfl)⟩) hK hP hD hS hA hZ [2, 3, 4, 5, 6] [0, 1, 7, 8, 9, 10, 11, 12, 13, 14, 15] [0, 1, 11, 12, 13, 14, 15, 2, 3, 4, 5, 6, 7, 8, 9, 10] (by decide) rfl rfl (by decide) (by decide) (by decide) rfl (ci := 0) rfl rfl rfl hl.1 rfl (Nat.le_of_ble_eq_true rfl) d_Rv_change_138 ⟨(Nat.le_of_ble_eq_true rfl), (Nat.le_of_ble_eq_true rfl)⟩ (fun H locs hP hD hS => ?_)
              refine W.eq (g2 := F0 m 141 ls []) rfl ?_
              refine lv_aload_n hx hb d_Rv_change_141 rfl (lv_at hl 2 rfl) ?_
              refine va_get (D := D) (ci := 2) (v := .ref mh) (C := R_Rv) (T := F_Rv) (N := 5) hx hb hts i_Rv hown hK hP 0 rfl rfl 1 (by decide) (hts _ k_92) (fun _ h9 => h9) rfl d_Rv_change_142 ?_
              refine lv_iload_n hx hb d_Rv_change_145 rfl (lv_at hl 4 rfl) ?_
              refine lv_iload_n hx hb d_Rv_change_146 rfl (lv_at hl 3 rfl) ?_
              refine lv_iload_n hx hb d_Rv_change_147 rfl (lv_at hl 5 rfl) ?_
              refine lv_iload hx hb d_Rv_change_148 (lv_at hl 0 rfl) ?_
              obtain ⟨z8, hz8, hf⟩ := x_bind hf
              refine x_callV (w2 := (w_Rv cI cJ cZ rh sh mh m0 m1 m2 m3 dh d0 d1 d2 d3 ea cb ch be ((z8.2, z6.2.2), z1.2.2))) ⟨hx, hb, hml, hown, hts⟩ (c_Co_fill l D cI cJ cZ mh m0 m1 m2 m3 N p1 p0 p2 z3.1 z7.2 z8 hz8) (x_cwV 4 hts rfl k_167 k_9 k_10 k_11 k_12 (by decide +kernel) ⟨(Nat.le_of_ble_eq_true rfl), (Nat.le_of_ble_eq_true rfl)⟩) hK hP hD hS hA hZ [2, 3, 4, 5, 6] [0, 1, 7, 8, 9, 10, 11, 12, 13, 14, 15] [0, 1, 11, 12, 13, 14, 15, 2, 3, 4, 5, 6, 7, 8, 9, 10] (by decide) rfl rfl (by decide) (by decide) (by decide) rfl (ci := 0) rfl rfl rfl hl.1 rfl (Nat.le_of_ble_eq_true rfl) d_Rv_change_150 ⟨(Nat.le_of_ble_eq_true rfl), (Nat.le_of_ble_eq_true rfl)⟩ (fun H locs hP hD hS => ?_)
              refine W.eq (g2 := F0 m 153 ls []) rfl ?_
              refine lv_aload_n hx hb d_Rv_change_153 rfl (lv_at hl 2 rfl) ?_
              refine lv_iload_n hx hb d_Rv_change_154 rfl (lv_at hl 3 rfl) ?_
              refine lv_iload hx hb d_Rv_change_155 (lv_at hl 0 rfl) ?_
              obtain ⟨z9, hz9, hf⟩ := x_bind hf
              refine x_callV (w2 := (w_Rv cI cJ cZ rh sh mh m0 m1 m2 m3 dh d0 d1 d2 d3 ea cb ch be z9.2)) ⟨hx, hb, hml, hown, hts⟩ (c_Rv_changedBy l D cI cJ cZ rh sh mh m0 m1 m2 m3 dh d0 d1 d2 d3 ea cb ch be N p0 z3.1 ((z8.2, z6.2.2), z1.2.2) z9 hz9) (x_cwV 2 hts rfl k_163 k_164 k_165 k_23 k_166 (by decide +kernel) ⟨(Nat.le_of_ble_eq_true rfl), (Nat.le_of_ble_eq_true rfl)⟩) hK hP hD hS hA hZ [0, 1, 2, 3, 4, 5, 6, 7, 8, 9, 10, 11, 12, 13, 14, 15] [] [0, 1, 2, 3, 4, 5, 6, 7, 8, 9, 10, 11, 12, 13, 14, 15] (by decide) rfl rfl (by decide) (by decide) (by decide) rfl (ci := 2) rfl rfl rfl hl.1 rfl (Nat.le_of_ble_eq_true rfl) d_Rv_change_157 ⟨(Nat.le_of_ble_eq_true rfl), (Nat.le_of_ble_eq_true rfl)⟩ (fun H locs hP hD hS => ?_)
              refine W.eq (g2 := F0 m 160 ls []) rfl ?_
              refine lv_aload_n hx hb d_Rv_change_160 rfl (lv_at hl 2 rfl) ?_
              refine lv_iload_n hx hb d_Rv_change_161 rfl (lv_at hl 3 rfl) ?_
              refine lv_iload_n hx hb d_Rv_change_162 rfl (lv_at hl 4 rfl) ?_
              obtain ⟨z10, hz10, hf⟩ := x_bind hf
              refine x_callV (w2 := (w_Rv cI cJ cZ rh sh mh m0 m1 m2 m3 dh d0 d1 d2 d3 ea cb ch be z10.2)) ⟨hx, hb, hml, hown, hts⟩ (c_Rv_changedBy l D cI cJ cZ rh sh mh m0 m1 m2 m3 dh d0 d1 d2 d3 ea cb ch be N p0 p1 z9.2 z10 hz10) (x_cwV 2 hts rfl k_163 k_164 k_165 k_23 k_166 (by decide +kernel) ⟨(Nat.le_of_ble_eq_true rfl), (Nat.le_of_ble_eq_true rfl)⟩) hK hP hD hS hA hZ [0, 1, 2, 3, 4, 5, 6, 7, 8, 9, 10, 11, 12, 13, 14, 15] [] [0, 1, 2, 3, 4, 5, 6, 7, 8, 9, 10, 11, 12, 13, 14, 15] (by decide) rfl rfl (by decide) (by decide) (by decide) rfl (ci := 2) rfl rfl rfl hl.1 rfl (Nat.le_of_ble_eq_true rfl) d_Rv_change_163 ⟨(Nat.le_of_ble_eq_true rfl), (Nat.le_of_ble_eq_true rfl)⟩ (fun H locs hP hD hS => ?_)
              refine W.eq (g2 := F0 m 166 ls []) rfl ?_
              refine lv_iconst (v := (1 : Int32)) hx hb d_Rv_change_166 (by decide) ?_
              obtain rfl := Option.some.inj hf
              exact x_iret hx hb hr hlocks hK hP hD hS (Nat.le_of_ble_eq_true rfl) (Nat.le_of_ble_eq_true rfl) d_Rv_change_167
            · have hf := x_ifp c11 hf
              refine lv_bipush (v := (-9 : Int32)) hx hb d_Rv_change_128 (by decide) ?_
              obtain rfl := Option.some.inj hf
              exact x_iret hx hb hr hlocks hK hP hD hS (Nat.le_of_ble_eq_true rfl) (Nat.le_of_ble_eq_true rfl) d_Rv_change_130
          · have hf := x_ifp c12 hf
            obtain rfl := Option.some.inj hf
            exact x_throw (cls := "java/lang/IndexOutOfBoundsException") (names := ["java/lang/RuntimeException", "java/lang/Exception"]) hL0 hx hb hml hown hlocks hno (by decide +kernel) (by decide +kernel) (at_Rv_158 hts hZ) (hts _ k_168) (hts _ k_169) hK hP hD hS hns hl.1 (Nat.le_of_ble_eq_true rfl) (Nat.le_of_ble_eq_true rfl) (Nat.le_of_ble_eq_true rfl) (Nat.le_of_ble_eq_true rfl) (Nat.le_of_ble_eq_true rfl) (Nat.le_of_ble_eq_true rfl) d_Rv_change_101 d_Rv_change_104 d_Rv_change_105 d_Rv_change_108
        · have hf := x_ifp c15 hf
          refine lv_aload_n hx hb d_Rv_change_73 rfl (lv_at hl 1 rfl) ?_
          refine va_get (D := D) (ci := 2) (v := .ref mh) (C := R_Rv) (T := F_Rv) (N := 5) hx hb hts i_Rv hown hK hP 0 rfl rfl 1 (by decide) (hts _ k_92) (fun _ h9 => h9) rfl d_Rv_change_74 ?_
          refine va_get (D := D) (ci := 0) (v := .ref m1) (C := R_Co) (T := F_Co) (N := 4) hx hb hts i_Co hown hK hP 2 rfl rfl 1 (by decide) (hts _ k_126) (fun _ h9 => h9) rfl d_Rv_change_77 ?_
          refine lv_iload_n hx hb d_Rv_change_80 rfl (lv_at hl 3 rfl) ?_
          refine lv_iload_n hx hb d_Rv_change_81 rfl (lv_at hl 4 rfl) ?_
          obtain ⟨g13, hf⟩ := x_if hf
          refine va_iast hx hb hK hP hD hS 4 0 rfl rfl (xi_in g13) d_Rv_change_82 (fun H locs hP hD hS => ?_)
          have hP : va_P D vwCl (w_Rv cI cJ cZ rh sh mh m0 m1 m2 m3 dh d0 d1 d2 d3 ea cb ch be (((z1.2.1.1.1, ((upd z1.2.1.1.2.1 p1.toNatClampNeg p2), z1.2.1.1.2.2)), z1.2.1.2), z1.2.2)) H := hP
          have hD : va_D A (w_Rv cI cJ cZ rh sh mh m0 m1 m2 m3 dh d0 d1 d2 d3 ea cb ch be (((z1.2.1.1.1, ((upd z1.2.1.1.2.1 p1.toNatClampNeg p2), z1.2.1.1.2.2)), z1.2.1.2), z1.2.2)) := hD
          refine lv_goto (tgt := 160) hx hb d_Rv_change_83 (by decide) ?_
          refine lv_aload_n hx hb d_Rv_change_160 rfl (lv_at hl 1 rfl) ?_
          refine lv_iload_n hx hb d_Rv_change_161 rfl (lv_at hl 2 rfl) ?_
          refine lv_iload_n hx hb d_Rv_change_162 rfl (lv_at hl 3 rfl) ?_
          obtain ⟨z14, hz14, hf⟩ := x_bind hf
          refine x_callV (w2 := (w_Rv cI cJ cZ rh sh mh m0 m1 m2 m3 dh d0 d1 d2 d3 ea cb ch be z14.2)) ⟨hx, hb, hml, hown, hts⟩ (c_Rv_changedBy l D cI cJ cZ rh sh mh m0 m1 m2 m3 dh d0 d1 d2 d3 ea cb ch be N p0 p1 (((z1.2.1.1.1, ((upd z1.2.1.1.2.1 p1.toNatClampNeg p2), z1.2.1.1.2.2)), z1.2.1.2), z1.2.2) z14 hz14) (x_cwV 2 hts rfl k_163 k_164 k_165 k_23 k_166 (by decide +kernel) ⟨(Nat.le_of_ble_eq_true rfl), (Nat.le_of_ble_eq_true rfl)⟩) hK hP hD hS hA hZ [0, 1, 2, 3, 4, 5, 6, 7, 8, 9, 10, 11, 12, 13, 14, 15] [] [0, 1, 2, 3, 4, 5, 6, 7, 8, 9, 10, 11, 12, 13, 14, 15] (by decide) rfl rfl (by decide) (by decide) (by decide) rfl (ci := 2) rfl rfl rfl hl.1 rfl (Nat.le_of_ble_eq_true rfl) d_Rv_change_163 ⟨(Nat.le_of_ble_eq_true rfl), (Nat.le_of_ble_eq_true rfl)⟩ (fun H locs hP hD hS => ?_)
          refine W.eq (g2 := F0 m 166 ls []) rfl ?_
          refine lv_iconst (v := (1 : Int32)) hx hb d_Rv_change_166 (by decide) ?_
          obtain rfl := Option.some.inj hf
          exact x_iret hx hb hr hlocks hK hP hD hS (Nat.le_of_ble_eq_true rfl) (Nat.le_of_ble_eq_true rfl) d_Rv_change_167
      · have hf := x_ifp c18 hf
        refine lv_aload_n hx hb d_Rv_change_53 rfl (lv_at hl 1 rfl) ?_
        refine va_get (D := D) (ci := 2) (v := .ref mh) (C := R_Rv) (T := F_Rv) (N := 5) hx hb hts i_Rv hown hK hP 0 rfl rfl 1 (by decide) (hts _ k_92) (fun _ h9 => h9) rfl d_Rv_change_54 ?_
        refine lv_iload_n hx hb d_Rv_change_57 rfl (lv_at hl 3 rfl) ?_
        refine lv_iload_n hx hb d_Rv_change_58 rfl (lv_at hl 2 rfl) ?_
        refine lv_iload_n hx hb d_Rv_change_59 rfl (lv_at hl 4 rfl) ?_
        refine lv_iconst (v := (-1 : Int32)) hx hb d_Rv_change_60 (by decide) ?_
        obtain ⟨z16, hz16, hf⟩ := x_bind hf
        refine x_callV (w2 := (w_Rv cI cJ cZ rh sh mh m0 m1 m2 m3 dh d0 d1 d2 d3 ea cb ch be ((z16.2, z1.2.1.2), z1.2.2))) ⟨hx, hb, hml, hown, hts⟩ (c_Co_fill l D cI cJ cZ mh m0 m1 m2 m3 N p1 p0 p2 (-1 : Int32) z1.2.1.1 z16 hz16) (x_cwV 4 hts rfl k_167 k_9 k_10 k_11 k_12 (by decide +kernel) ⟨(Nat.le_of_ble_eq_true rfl), (Nat.le_of_ble_eq_true rfl)⟩) hK hP hD hS hA hZ [2, 3, 4, 5, 6] [0, 1, 7, 8, 9, 10, 11, 12, 13, 14, 15] [0, 1, 11, 12, 13, 14, 15, 2, 3, 4, 5, 6, 7, 8, 9, 10] (by decide) rfl rfl (by decide) (by decide) (by decide) rfl (ci := 0) rfl rfl rfl hl.1 rfl (Nat.le_of_ble_eq_true rfl) d_Rv_change_61 ⟨(Nat.le_of_ble_eq_true rfl), (Nat.le_of_ble_eq_true rfl)⟩ (fun H locs hP hD hS => ?_)
        refine W.eq (g2 := F0 m 64 ls []) rfl ?_
        refine lv_goto (tgt := 160) hx hb d_Rv_change_64 (by decide) ?_
        refine lv_aload_n hx hb d_Rv_change_160 rfl (lv_at hl 1 rfl) ?_
        refine lv_iload_n hx hb d_Rv_change_161 rfl (lv_at hl 2 rfl) ?_
        refine lv_iload_n hx hb d_Rv_change_162 rfl (lv_at hl 3 rfl) ?_
        obtain ⟨z17, hz17, hf⟩ := x_bind hf
        refine x_callV (w2 := (w_Rv cI cJ cZ rh sh mh m0 m1 m2 m3 dh d0 d1 d2 d3 ea cb ch be z17.2)) ⟨hx, hb, hml, hown, hts⟩ (c_Rv_changedBy l D cI cJ cZ rh sh mh m0 m1 m2 m3 dh d0 d1 d2 d3 ea cb ch be N p0 p1 ((z16.2, z1.2.1.2), z1.2.2) z17 hz17) (x_cwV 2 hts rfl k_163 k_164 k_165 k_23 k_166 (by decide +kernel) ⟨(Nat.le_of_ble_eq_true rfl), (Nat.le_of_ble_eq_true rfl)⟩) hK hP hD hS hA hZ [0, 1, 2, 3, 4, 5, 6, 7, 8, 9, 10, 11, 12, 13, 14, 15] [] [0, 1, 2, 3, 4, 5, 6, 7, 8, 9, 10, 11, 12, 13, 14, 15] (by decide) rfl rfl (by decide) (by decide) (by decide) rfl (ci := 2) rfl rfl rfl hl.1 rfl (Nat.le_of_ble_eq_true rfl) d_Rv_change_163 ⟨(Nat.le_of_ble_eq_true rfl), (Nat.le_of_ble_eq_true rfl)⟩ (fun H locs hP hD hS => ?_)
        refine W.eq (g2 := F0 m 166 ls []) rfl ?_
        refine lv_iconst (v := (1 : Int32)) hx hb d_Rv_change_166 (by decide) ?_
        obtain rfl := Option.some.inj hf
        exact x_iret hx hb hr hlocks hK hP hD hS (Nat.le_of_ble_eq_true rfl) (Nat.le_of_ble_eq_true rfl) d_Rv_change_167
    · have hf := x_ifn c38 hf
      refine lv_aload_n hx hb d_Rv_change_27 rfl (lv_at hl 1 rfl) ?_
      refine lv_iload_n hx hb d_Rv_change_28 rfl (lv_at hl 2 rfl) ?_
      obtain ⟨z19, hz19, hf⟩ := x_bind hf
      refine x_callV (w2 := (w_Rv cI cJ cZ rh sh mh m0 m1 m2 m3 dh d0 d1 d2 d3 ea cb ch be z19.2)) ⟨hx, hb, hml, hown, hts⟩ (c_Rv_seenBy l D cI cJ cZ rh sh mh m0 m1 m2 m3 dh d0 d1 d2 d3 ea cb ch be N p0 z1.2 z19 hz19) (x_cwV 1 hts rfl k_120 k_121 k_122 k_23 k_123 (by decide +kernel) ⟨(Nat.le_of_ble_eq_true rfl), (Nat.le_of_ble_eq_true rfl)⟩) hK hP hD hS hA hZ [0, 1, 2, 3, 4, 5, 6, 7, 8, 9, 10, 11, 12, 13, 14, 15] [] [0, 1, 2, 3, 4, 5, 6, 7, 8, 9, 10, 11, 12, 13, 14, 15] (by decide) rfl rfl (by decide) (by decide) (by decide) rfl (ci := 2) rfl rfl rfl hl.1 rfl (Nat.le_of_ble_eq_true rfl) d_Rv_change_29 ⟨(Nat.le_of_ble_eq_true rfl), (Nat.le_of_ble_eq_true rfl)⟩ (fun H locs hP hD hS => ?_)
      refine W.eq (g2 := F0 m 32 ls [.long z19.1]) rfl ?_
      refine lv_iload hx hb d_Rv_change_32 (lv_at hl 0 rfl) ?_
      obtain ⟨z20, hz20, hf⟩ := x_bind hf
      refine x_callS (w2 := (w_Rv cI cJ cZ rh sh mh m0 m1 m2 m3 dh d0 d1 d2 d3 ea cb ch be z19.2)) ⟨hx, hb, hml, hown, hts⟩ (c_Rv_has l D cI cJ cZ  N z19.1 (z1.2.1.1.1 p1.toNatClampNeg)  z20 hz20) (x_cwS 2 hts rfl k_176 k_22 k_23 k_24 (by decide +kernel) ⟨(Nat.le_of_ble_eq_true rfl), (Nat.le_of_ble_eq_true rfl)⟩) hK hP hD hS hA hZ [] [0, 1, 2, 3, 4, 5, 6, 7, 8, 9, 10, 11, 12, 13, 14, 15] [0, 1, 2, 3, 4, 5, 6, 7, 8, 9, 10, 11, 12, 13, 14, 15] (by decide) rfl rfl (by decide) (by decide) (by decide) rfl rfl hl.1 rfl (Nat.le_of_ble_eq_true rfl) d_Rv_change_34 ⟨(Nat.le_of_ble_eq_true rfl), (Nat.le_of_ble_eq_true rfl)⟩ (fun H locs hP hD hS => ?_)
      refine W.eq (g2 := F0 m 37 ls [.int z20]) rfl ?_
      refine lv_if_ne (tgt := 48) hx hb d_Rv_change_37 (by decide) (fun c37 => ?_) (fun c37 => ?_)
      · have hf := x_ifn c37 hf
        refine lv_iload hx hb d_Rv_change_48 (lv_at hl 0 rfl) ?_
        refine lv_if_ne (tgt := 67) hx hb d_Rv_change_50 (by decide) (fun c36 => ?_) (fun c36 => ?_)
        · have hf := x_ifn c36 hf
          refine lv_iload hx hb d_Rv_change_67 (lv_at hl 0 rfl) ?_
          refine lv_iload_n hx hb d_Rv_change_69 rfl (lv_at hl 2 rfl) ?_
          refine lv_icmp_ne (tgt := 86) hx hb d_Rv_change_70 (by decide) (fun c33 => ?_) (fun c33 => ?_)
          · have hf := x_ifn c33 hf
            refine lv_aload_n hx hb d_Rv_change_86 rfl (lv_at hl 1 rfl) ?_
            refine va_get (D := D) (ci := 2) (v := .ref mh) (C := R_Rv) (T := F_Rv) (N := 5) hx hb hts i_Rv hown hK hP 0 rfl rfl 1 (by decide) (hts _ k_92) (fun _ h9 => h9) rfl d_Rv_change_87 ?_
            obtain ⟨z21, hz21, hf⟩ := x_bind hf
            refine x_callV (w2 := (w_Rv cI cJ cZ rh sh mh m0 m1 m2 m3 dh d0 d1 d2 d3 ea cb ch be ((z21.2, z19.2.1.2), z19.2.2))) ⟨hx, hb, hml, hown, hts⟩ (c_Co_leastFree l D cI cJ cZ mh m0 m1 m2 m3 N  z19.2.1.1 z21 hz21) (x_cwV 0 hts rfl k_170 k_171 k_172 k_11 k_173 (by decide +kernel) ⟨(Nat.le_of_ble_eq_true rfl), (Nat.le_of_ble_eq_true rfl)⟩) hK hP hD hS hA hZ [2, 3, 4, 5, 6] [0, 1, 7, 8, 9, 10, 11, 12, 13, 14, 15] [0, 1, 11, 12, 13, 14, 15, 2, 3, 4, 5, 6, 7, 8, 9, 10] (by decide) rfl rfl (by decide) (by decide) (by decide) rfl (ci := 0) rfl rfl rfl hl.1 rfl (Nat.le_of_ble_eq_true rfl) d_Rv_change_90 ⟨(Nat.le_of_ble_eq_true rfl), (Nat.le_of_ble_eq_true rfl)⟩ (fun H locs hP hD hS => ?_)
            refine W.eq (g2 := F0 m 93 ls [.int z21.1]) rfl ?_
            refine lv_istore (lv' := [(5, .int z21.1), (4, .int (z1.2.1.1.1 p1.toNatClampNeg)), (0, .ref rh), (1, .int p0), (2, .int p1), (3, .int p2)]) hx hb d_Rv_change_93 hl (by decide) rfl (fun ls hl => ?_)
            refine lv_iload hx hb d_Rv_change_95 (lv_at hl 0 rfl) ?_
            refine lv_iconst (v := (-1 : Int32)) hx hb d_Rv_change_97 (by decide) ?_
            refine lv_icmp_ne (tgt := 109) hx hb d_Rv_change_98 (by decide) (fun c30 => ?_) (fun c30 => ?_)
            · have hf := x_ifn c30 hf
              refine lv_aload_n hx hb d_Rv_change_109 rfl (lv_at hl 2 rfl) ?_
              refine va_get (D := D) (ci := 2) (v := .ref sh) (C := R_Rv) (T := F_Rv) (N := 5) hx hb hts i_Rv hown hK hP 0 rfl rfl 0 (by decide) (hts _ k_90) (fun _ h9 => h9) rfl d_Rv_change_110 ?_
              refine lv_iload hx hb d_Rv_change_113 (lv_at hl 0 rfl) ?_
              obtain ⟨z22, hz22, hf⟩ := x_bind hf
              refine x_callS (w2 := (w_Rv cI cJ cZ rh sh mh m0 m1 m2 m3 dh d0 d1 d2 d3 ea cb ch be ((z21.2, z19.2.1.2), z19.2.2))) ⟨hx, hb, hml, hown, hts⟩ (c_Rv_pageOf l D cI cJ cZ  N z21.1  z22 hz22) (x_cwS 1 hts rfl k_143 k_144 k_23 k_145 (by decide +kernel) ⟨(Nat.le_of_ble_eq_true rfl), (Nat.le_of_ble_eq_true rfl)⟩) hK hP hD hS hA hZ [] [0, 1, 2, 3, 4, 5, 6, 7, 8, 9, 10, 11, 12, 13, 14, 15] [0, 1, 2, 3, 4, 5, 6, 7, 8, 9, 10, 11, 12, 13, 14, 15] (by decide) rfl rfl (by decide) (by decide) (by decide) rfl rfl hl.1 rfl (Nat.le_of_ble_eq_true rfl) d_Rv_change_115 ⟨(Nat.le_of_ble_eq_true rfl), (Nat.le_of_ble_eq_true rfl)⟩ (fun H locs hP hD hS => ?_)
              refine W.eq (g2 := F0 m 118 ls [.int z22, .ref sh]) rfl ?_
              refine lv_iload_n hx hb d_Rv_change_118 rfl (lv_at hl 4 rfl) ?_
              obtain ⟨z23, hz23, hf⟩ := x_bind hf
              refine x_callS (w2 := (w_Rv cI cJ cZ rh sh mh m0 m1 m2 m3 dh d0 d1 d2 d3 ea cb ch be ((z21.2, z19.2.1.2), z19.2.2))) ⟨hx, hb, hml, hown, hts⟩ (c_Rv_pageOf l D cI cJ cZ  N p1  z23 hz23) (x_cwS 1 hts rfl k_143 k_144 k_23 k_145 (by decide +kernel) ⟨(Nat.le_of_ble_eq_true rfl), (Nat.le_of_ble_eq_true rfl)⟩) hK hP hD hS hA hZ [] [0, 1, 2, 3, 4, 5, 6, 7, 8, 9, 10, 11, 12, 13, 14, 15] [0, 1, 2, 3, 4, 5, 6, 7, 8, 9, 10, 11, 12, 13, 14, 15] (by decide) rfl rfl (by decide) (by decide) (by decide) rfl rfl hl.1 rfl (Nat.le_of_ble_eq_true rfl) d_Rv_change_119 ⟨(Nat.le_of_ble_eq_true rfl), (Nat.le_of_ble_eq_true rfl)⟩ (fun H locs hP hD hS => ?_)
              refine W.eq (g2 := F0 m 122 ls [.int z23, .int z22, .ref sh]) rfl ?_
              obtain ⟨z24, hz24, hf⟩ := x_bind hf
              refine x_callV (w2 := (w_Rv cI cJ cZ rh sh mh m0 m1 m2 m3 dh d0 d1 d2 d3 ea cb ch be (z24.2, z19.2.2))) ⟨hx, hb, hml, hown, hts⟩ (c_St_note l D cI cJ cZ sh mh m0 m1 m2 m3 dh d0 d1 d2 d3 ea N z22 z23 (z21.2, z19.2.1.2) z24 hz24) (x_cwV 2 hts rfl k_154 k_155 k_156 k_55 k_157 (by decide +kernel) ⟨(Nat.le_of_ble_eq_true rfl), (Nat.le_of_ble_eq_true rfl)⟩) hK hP hD hS hA hZ [1, 2, 3, 4, 5, 6, 7, 8, 9, 10, 11, 12] [0, 13, 14, 15] [0, 4, 5, 6, 7, 8, 9, 10, 11, 12, 13, 14, 15, 1, 2, 3] (by decide) rfl rfl (by decide) (by decide) (by decide) rfl (ci := 1) rfl rfl rfl hl.1 rfl (Nat.le_of_ble_eq_true rfl) d_Rv_change_122 ⟨(Nat.le_of_ble_eq_true rfl), (Nat.le_of_ble_eq_true rfl)⟩ (fun H locs hP hD hS => ?_)
              refine W.eq (g2 := F0 m 125 ls [.int z24.1]) rfl ?_
              refine lv_if_ne (tgt := 131) hx hb d_Rv_change_125 (by decide) (fun c29 => ?_) (fun c29 => ?_)
              · have hf := x_ifn c29 hf
                refine lv_aload_n hx hb d_Rv_change_131 rfl (lv_at hl 2 rfl) ?_
                refine va_get (D := D) (ci := 2) (v := .ref mh) (C := R_Rv) (T := F_Rv) (N := 5) hx hb hts i_Rv hown hK hP 0 rfl rfl 1 (by decide) (hts _ k_92) (fun _ h9 => h9) rfl d_Rv_change_132 ?_
                refine lv_iload_n hx hb d_Rv_change_135 rfl (lv_at hl 4 rfl) ?_
                refine lv_iload hx hb d_Rv_change_136 (lv_at hl 0 rfl) ?_
                obtain ⟨z25, hz25, hf⟩ := x_bind hf
                refine x_callV (w2 := (w_Rv cI cJ cZ rh sh mh m0 m1 m2 m3 dh d0 d1 d2 d3 ea cb ch be ((z25.2, z24.2.2), z19.2.2))) ⟨hx, hb, hml, hown, hts⟩ (c_Co_move l D cI cJ cZ mh m0 m1 m2 m3 N p1 z21.1 z24.2.1 z25 hz25) (x_cwV 2 hts rfl k_150 k_151 k_152 k_11 k_153 (by decide +kernel) ⟨(Nat.le_of_ble_eq_true rfl), (Nat.le_of_ble_eq_true rfl)⟩) hK hP hD hS hA hZ [2, 3, 4, 5, 6] [0, 1, 7, 8, 9, 10, 11, 12, 13, 14, 15] [0, 1, 11, 12, 13, 14, 15, 2, 3, 4, 5, 6, 7, 8, 9, 10] (by decide) rfl rfl (by decide) (by decide) (by decide) rfl (ci := 0) rfl rfl rfl hl.1 rfl (Nat.le_of_ble_eq_true rfl) d_Rv_change_138 ⟨(Nat.le_of_ble_eq_true rfl), (Nat.le_of_ble_eq_true rfl)⟩ (fun H locs hP hD hS => ?_)
                refine W.eq (g2 := F0 m 141 ls []) rfl ?_
                refine lv_aload_n hx hb d_Rv_change_141 rfl (lv_at hl 2 rfl) ?_
                refine va_get (D := D) (ci := 2) (v := .ref mh) (C := R_Rv) (T := F_Rv) (N := 5) hx hb hts i_Rv hown hK hP 0 rfl rfl 1 (by decide) (hts _ k_92) (fun _ h9 => h9) rfl d_Rv_change_142 ?_
                refine lv_iload_n hx hb d_Rv_change_145 rfl (lv_at hl 4 rfl) ?_
                refine lv_iload_n hx hb d_Rv_change_146 rfl (lv_at hl 3 rfl) ?_
                refine lv_iload_n hx hb d_Rv_change_147 rfl (lv_at hl 5 rfl) ?_
                refine lv_iload hx hb d_Rv_change_148 (lv_at hl 0 rfl) ?_
                obtain ⟨z26, hz26, hf⟩ := x_bind hf
                refine x_callV (w2 := (w_Rv cI cJ cZ rh sh mh m0 m1 m2 m3 dh d0 d1 d2 d3 ea cb ch be ((z26.2, z24.2.2), z19.2.2))) ⟨hx, hb, hml, hown, hts⟩ (c_Co_fill l D cI cJ cZ mh m0 m1 m2 m3 N p1 p0 p2 z21.1 z25.2 z26 hz26) (x_cwV 4 hts rfl k_167 k_9 k_10 k_11 k_12 (by decide +kernel) ⟨(Nat.le_of_ble_eq_true rfl), (Nat.le_of_ble_eq_true rfl)⟩) hK hP hD hS hA hZ [2, 3, 4, 5, 6] [0, 1, 7, 8, 9, 10, 11, 12, 13, 14, 15] [0, 1, 11, 12, 13, 14, 15, 2, 3, 4, 5, 6, 7, 8, 9, 10] (by decide) rfl rfl (by decide) (by decide) (by decide) rfl (ci := 0) rfl rfl rfl hl.1 rfl (Nat.le_of_ble_eq_true rfl) d_Rv_change_150 ⟨(Nat.le_of_ble_eq_true rfl), (Nat.le_of_ble_eq_true rfl)⟩ (fun H locs hP hD hS => ?_)
                refine W.eq (g2 := F0 m 153 ls []) rfl ?_
                refine lv_aload_n hx hb d_Rv_change_153 rfl (lv_at hl 2 rfl) ?_
                refine lv_iload_n hx hb d_Rv_change_154 rfl (lv_at hl 3 rfl) ?_
                refine lv_iload hx hb d_Rv_change_155 (lv_at hl 0 rfl) ?_
                obtain ⟨z27, hz27, hf⟩ := x_bind hf
                refine x_callV (w2 := (w_Rv cI cJ cZ rh sh mh m0 m1 m2 m3 dh d0 d1 d2 d3 ea cb ch be z27.2)) ⟨hx, hb, hml, hown, hts⟩ (c_Rv_changedBy l D cI cJ cZ rh sh mh m0 m1 m2 m3 dh d0 d1 d2 d3 ea cb ch be N p0 z21.1 ((z26.2, z24.2.2), z19.2.2) z27 hz27) (x_cwV 2 hts rfl k_163 k_164 k_165 k_23 k_166 (by decide +kernel) ⟨(Nat.le_of_ble_eq_true rfl), (Nat.le_of_ble_eq_true rfl)⟩) hK hP hD hS hA hZ [0, 1, 2, 3, 4, 5, 6, 7, 8, 9, 10, 11, 12, 13, 14, 15] [] [0, 1, 2, 3, 4, 5, 6, 7, 8, 9, 10, 11, 12, 13, 14, 15] (by decide) rfl rfl (by decide) (by decide) (by decide) rfl (ci := 2) rfl rfl rfl hl.1 rfl (Nat.le_of_ble_eq_true rfl) d_Rv_change_157 ⟨(Nat.le_of_ble_eq_true rfl), (Nat.le_of_ble_eq_true rfl)⟩ (fun H locs hP hD hS => ?_)
                refine W.eq (g2 := F0 m 160 ls []) rfl ?_
                refine lv_aload_n hx hb d_Rv_change_160 rfl (lv_at hl 2 rfl) ?_
                refine lv_iload_n hx hb d_Rv_change_161 rfl (lv_at hl 3 rfl) ?_
                refine lv_iload_n hx hb d_Rv_change_162 rfl (lv_at hl 4 rfl) ?_
                obtain ⟨z28, hz28, hf⟩ := x_bind hf
                refine x_callV (w2 := (w_Rv cI cJ cZ rh sh mh m0 m1 m2 m3 dh d0 d1 d2 d3 ea cb ch be z28.2)) ⟨hx, hb, hml, hown, hts⟩ (c_Rv_changedBy l D cI cJ cZ rh sh mh m0 m1 m2 m3 dh d0 d1 d2 d3 ea cb ch be N p0 p1 z27.2 z28 hz28) (x_cwV 2 hts rfl k_163 k_164 k_165 k_23 k_166 (by decide +kernel) ⟨(Nat.le_of_ble_eq_true rfl), (Nat.le_of_ble_eq_true rfl)⟩) hK hP hD hS hA hZ [0, 1, 2, 3, 4, 5, 6, 7, 8, 9, 10, 11, 12, 13, 14, 15] [] [0, 1, 2, 3, 4, 5, 6, 7, 8, 9, 10, 11, 12, 13, 14, 15] (by decide) rfl rfl (by decide) (by decide) (by decide) rfl (ci := 2) rfl rfl rfl hl.1 rfl (Nat.le_of_ble_eq_true rfl) d_Rv_change_163 ⟨(Nat.le_of_ble_eq_true rfl), (Nat.le_of_ble_eq_true rfl)⟩ (fun H locs hP hD hS => ?_)
                refine W.eq (g2 := F0 m 166 ls []) rfl ?_
                refine lv_iconst (v := (1 : Int32)) hx hb d_Rv_change_166 (by decide) ?_
                obtain rfl := Option.some.inj hf
                exact x_iret hx hb hr hlocks hK hP hD hS (Nat.le_of_ble_eq_true rfl) (Nat.le_of_ble_eq_true rfl) d_Rv_change_167
              · have hf := x_ifp c29 hf
                refine lv_bipush (v := (-9 : Int32)) hx hb d_Rv_change_128 (by decide) ?_
                obtain rfl := Option.some.inj hf
                exact x_iret hx hb hr hlocks hK hP hD hS (Nat.le_of_ble_eq_true rfl) (Nat.le_of_ble_eq_true rfl) d_Rv_change_130
            · have hf := x_ifp c30 hf
              obtain rfl := Option.some.inj hf
              exact x_throw (cls := "java/lang/IndexOutOfBoundsException") (names := ["java/lang/RuntimeException", "java/lang/Exception"]) hL0 hx hb hml hown hlocks hno (by decide +kernel) (by decide +kernel) (at_Rv_158 hts hZ) (hts _ k_168) (hts _ k_169) hK hP hD hS hns hl.1 (Nat.le_of_ble_eq_true rfl) (Nat.le_of_ble_eq_true rfl) (Nat.le_of_ble_eq_true rfl) (Nat.le_of_ble_eq_true rfl) (Nat.le_of_ble_eq_true rfl) (Nat.le_of_ble_eq_true rfl) d_Rv_change_101 d_Rv_change_104 d_Rv_change_105 d_Rv_change_108
          · have hf := x_ifp c33 hf
            refine lv_aload_n hx hb d_Rv_change_73 rfl (lv_at hl 1 rfl) ?_
            refine va_get (D := D) (ci := 2) (v := .ref mh) (C := R_Rv) (T := F_Rv) (N := 5) hx hb hts i_Rv hown hK hP 0 rfl rfl 1 (by decide) (hts _ k_92) (fun _ h9 => h9) rfl d_Rv_change_74 ?_
            refine va_get (D := D) (ci := 0) (v := .ref m1) (C := R_Co) (T := F_Co) (N := 4) hx hb hts i_Co hown hK hP 2 rfl rfl 1 (by decide) (hts _ k_126) (fun _ h9 => h9) rfl d_Rv_change_77 ?_
            refine lv_iload_n hx hb d_Rv_change_80 rfl (lv_at hl 3 rfl) ?_
            refine lv_iload_n hx hb d_Rv_change_81 rfl (lv_at hl 4 rfl) ?_
            obtain ⟨g31, hf⟩ := x_if hf
            refine va_iast hx hb hK hP hD hS 4 0 rfl rfl (xi_in g31) d_Rv_change_82 (fun H locs hP hD hS => ?_)
            have hP : va_P D vwCl (w_Rv cI cJ cZ rh sh mh m0 m1 m2 m3 dh d0 d1 d2 d3 ea cb ch be (((z19.2.1.1.1, ((upd z19.2.1.1.2.1 p1.toNatClampNeg p2), z19.2.1.1.2.2)), z19.2.1.2), z19.2.2)) H := hP
            have hD : va_D A (w_Rv cI cJ cZ rh sh mh m0 m1 m2 m3 dh d0 d1 d2 d3 ea cb ch be (((z19.2.1.1.1, ((upd z19.2.1.1.2.1 p1.toNatClampNeg p2), z19.2.1.1.2.2)), z19.2.1.2), z19.2.2)) := hD
            refine lv_goto (tgt := 160) hx hb d_Rv_change_83 (by decide) ?_
            refine lv_aload_n hx hb d_Rv_change_160 rfl (lv_at hl 1 rfl) ?_
            refine lv_iload_n hx hb d_Rv_change_161 rfl (lv_at hl 2 rfl) ?_
            refine lv_iload_n hx hb d_Rv_change_162 rfl (lv_at hl 3 rfl) ?_
            obtain ⟨z32, hz32, hf⟩ := x_bind hf
            refine x_callV (w2 := (w_Rv cI cJ cZ rh sh mh m0 m1 m2 m3 dh d0 d1 d2 d3 ea cb ch be z32.2)) ⟨hx, hb, hml, hown, hts⟩ (c_Rv_changedBy l D cI cJ cZ rh sh mh m0 m1 m2 m3 dh d0 d1 d2 d3 ea cb ch be N p0 p1 (((z19.2.1.1.1, ((upd z19.2.1.1.2.1 p1.toNatClampNeg p2), z19.2.1.1.2.2)), z19.2.1.2), z19.2.2) z32 hz32) (x_cwV 2 hts rfl k_163 k_164 k_165 k_23 k_166 (by decide +kernel) ⟨(Nat.le_of_ble_eq_true rfl), (Nat.le_of_ble_eq_true rfl)⟩) hK hP hD hS hA hZ [0, 1, 2, 3, 4, 5, 6, 7, 8, 9, 10, 11, 12, 13, 14, 15] [] [0, 1, 2, 3, 4, 5, 6, 7, 8, 9, 10, 11, 12, 13, 14, 15] (by decide) rfl rfl (by decide) (by decide) (by decide) rfl (ci := 2) rfl rfl rfl hl.1 rfl (Nat.le_of_ble_eq_true rfl) d_Rv_change_163 ⟨(Nat.le_of_ble_eq_true rfl), (Nat.le_of_ble_eq_true rfl)⟩ (fun H locs hP hD hS => ?_)
            refine W.eq (g2 := F0 m 166 ls []) rfl ?_
            refine lv_iconst (v := (1 : Int32)) hx hb d_Rv_change_166 (by decide) ?_
            obtain rfl := Option.some.inj hf
            exact x_iret hx hb hr hlocks hK hP hD hS (Nat.le_of_ble_eq_true rfl) (Nat.le_of_ble_eq_true rfl) d_Rv_change_167
        · have hf := x_ifp c36 hf
          refine lv_aload_n hx hb d_Rv_change_53 rfl (lv_at hl 1 rfl) ?_
          refine va_get (D := D) (ci := 2) (v := .ref mh) (C := R_Rv) (T := F_Rv) (N := 5) hx hb hts i_Rv hown hK hP 0 rfl rfl 1 (by decide) (hts _ k_92) (fun _ h9 => h9) rfl d_Rv_change_54 ?_
          refine lv_iload_n hx hb d_Rv_change_57 rfl (lv_at hl 3 rfl) ?_
          refine lv_iload_n hx hb d_Rv_change_58 rfl (lv_at hl 2 rfl) ?_
          refine lv_iload_n hx hb d_Rv_change_59 rfl (lv_at hl 4 rfl) ?_
          refine lv_iconst (v := (-1 : Int32)) hx hb d_Rv_change_60 (by decide) ?_
          obtain ⟨z34, hz34, hf⟩ := x_bind hf
          refine x_callV (w2 := (w_Rv cI cJ cZ rh sh mh m0 m1 m2 m3 dh d0 d1 d2 d3 ea cb ch be ((z34.2, z19.2.1.2), z19.2.2))) ⟨hx, hb, hml, hown, hts⟩ (c_Co_fill l D cI cJ cZ mh m0 m1 m2 m3 N p1 p0 p2 (-1 : Int32) z19.2.1.1 z34 hz34) (x_cwV 4 hts rfl k_167 k_9 k_10 k_11 k_12 (by decide +kernel) ⟨(Nat.le_of_ble_eq_true rfl), (Nat.le_of_ble_eq_true rfl)⟩) hK hP hD hS hA hZ [2, 3, 4, 5, 6] [0, 1, 7, 8, 9, 10, 11, 12, 13, 14, 15] [0, 1, 11, 12, 13, 14, 15, 2, 3, 4, 5, 6, 7, 8, 9, 10] (by decide) rfl rfl (by decide) (by decide) (by decide) rfl (ci := 0) rfl rfl rfl hl.1 rfl (Nat.le_of_ble_eq_true rfl) d_Rv_change_61 ⟨(Nat.le_of_ble_eq_true rfl), (Nat.le_of_ble_eq_true rfl)⟩ (fun H locs hP hD hS => ?_)
          refine W.eq (g2 := F0 m 64 ls []) rfl ?_
          refine lv_goto (tgt := 160) hx hb d_Rv_change_64 (by decide) ?_
          refine lv_aload_n hx hb d_Rv_change_160 rfl (lv_at hl 1 rfl) ?_
          refine lv_iload_n hx hb d_Rv_change_161 rfl (lv_at hl 2 rfl) ?_
          refine lv_iload_n hx hb d_Rv_change_162 rfl (lv_at hl 3 rfl) ?_
          obtain ⟨z35, hz35, hf⟩ := x_bind hf
          refine x_callV (w2 := (w_Rv cI cJ cZ rh sh mh m0 m1 m2 m3 dh d0 d1 d2 d3 ea cb ch be z35.2)) ⟨hx, hb, hml, hown, hts⟩ (c_Rv_changedBy l D cI cJ cZ rh sh mh m0 m1 m2 m3 dh d0 d1 d2 d3 ea cb ch be N p0 p1 ((z34.2, z19.2.1.2), z19.2.2) z35 hz35) (x_cwV 2 hts rfl k_163 k_164 k_165 k_23 k_166 (by decide +kernel) ⟨(Nat.le_of_ble_eq_true rfl), (Nat.le_of_ble_eq_true rfl)⟩) hK hP hD hS hA hZ [0, 1, 2, 3, 4, 5, 6, 7, 8, 9, 10, 11, 12, 13, 14, 15] [] [0, 1, 2, 3, 4, 5, 6, 7, 8, 9, 10, 11, 12, 13, 14, 15] (by decide) rfl rfl (by decide) (by decide) (by decide) rfl (ci := 2) rfl rfl rfl hl.1 rfl (Nat.le_of_ble_eq_true rfl) d_Rv_change_163 ⟨(Nat.le_of_ble_eq_true rfl), (Nat.le_of_ble_eq_true rfl)⟩ (fun H locs hP hD hS => ?_)
          refine W.eq (g2 := F0 m 166 ls []) rfl ?_
          refine lv_iconst (v := (1 : Int32)) hx hb d_Rv_change_166 (by decide) ?_
          obtain rfl := Option.some.inj hf
          exact x_iret hx hb hr hlocks hK hP hD hS (Nat.le_of_ble_eq_true rfl) (Nat.le_of_ble_eq_true rfl) d_Rv_change_167
      · have hf := x_ifp c37 hf
        obtain rfl := Option.some.inj hf
        exact x_throw (cls := "java/lang/UnsupportedOperationException") (names := ["java/lang/RuntimeException", "java/lang/Exception"]) hL0 hx hb hml hown hlocks hno (by decide +kernel) (by decide +kernel) (at_Rv_148 hts hZ) (hts _ k_174) (hts _ k_175) hK hP hD hS hns hl.1 (Nat.le_of_ble_eq_true rfl) (Nat.le_of_ble_eq_true rfl) (Nat.le_of_ble_eq_true rfl) (Nat.le_of_ble_eq_true rfl) (Nat.le_of_ble_eq_true rfl) (Nat.le_of_ble_eq_true rfl) d_Rv_change_40 d_Rv_change_43 d_Rv_change_44 d_Rv_change_47
  · have hf := x_ifp c39 hf
    refine lv_bipush (v := (-9 : Int32)) hx hb d_Rv_change_8 (by decide) ?_
    obtain rfl := Option.some.inj hf
    exact x_iret hx hb hr hlocks hK hP hD hS (Nat.le_of_ble_eq_true rfl) (Nat.le_of_ble_eq_true rfl) d_Rv_change_10
set_option maxHeartbeats 4000000 in
set_option maxRecDepth 100000 in
theorem c_Rv_write (l : Launch) (D : va_G) (cI cJ cZ : ClassId) (rh sh mh m0 m1 m2 m3 dh d0 d1 d2 d3 ea cb ch be : Nat) (hL0 : xL l) (N : Nat) (p0 : Int32) (p1 : Int32) (p2 : Int32) (U : K_Rv) (r : ((Int32 ⊕ String) × K_Rv)) (hf : f_Rv_write N p0 p1 p2 U = some r) : Cx l y_Rv_write ws_Rv_write rm_Rv_write D vwCl (tyL cI cJ cZ) [.ref rh, .int p0, .int p1, .int p2] (w_Rv cI cJ cZ rh sh mh m0 m1 m2 m3 dh d0 d1 d2 d3 ea cb ch be U) (tI r.1) (w_Rv cI cJ cZ rh sh mh m0 m1 m2 m3 dh d0 d1 d2 d3 ea cb ch be r.2) := by
  unfold f_Rv_write at hf
  refine Cx.ofW (cc := b_Rv_write) (maxL := 4) (ret := (some .int)) (by decide) rfl ?_
  intro p e s m below meth c A C0 hP hK hD hA hns hZ
  obtain ⟨hx, hb, hml, hown, hts0, hr, hlocks, hnm, hno⟩ := C0
  have hown : s.vm.findClass R_Rv = some m.cls := hown
  have hts : ∀ w ∈ tb, w.before [.ref rh, .int p0, .int p1, .int p2].toArray s = true := fun w h => hts0 w (List.mem_cons_of_mem _ h)
  have hS : va_S A s.heap s.heap [] := va_S.rf
  have hl := lv_entry ([.ref rh, .int p0, .int p1, .int p2]) (n := 4) (Nat.le_of_ble_eq_true rfl)
  rw [lg_entry_eq]
  generalize (lg_sl ([.ref rh, .int p0, .int p1, .int p2]) ++ List.replicate (4 - (lg_sl ([.ref rh, .int p0, .int p1, .int p2])).length) Slot.unset).toArray = ls at hl ⊢
  have hl : lv_has ls 4 [(0, .ref rh), (1, .int p0), (2, .int p1), (3, .int p2)] := hl
  refine lv_iload_n hx hb d_Rv_write_0 rfl (lv_at hl 2 rfl) ?_
  obtain ⟨v2 | E3, hz1, hf⟩ := x_bind hf
  · dsimp only at hf
    refine x_callS (w2 := (w_Rv cI cJ cZ rh sh mh m0 m1 m2 m3 dh d0 d1 d2 d3 ea cb ch be U)) ⟨hx, hb, hml, hown, hts⟩ (c_Rv_demandRecord l D cI cJ cZ  hL0 N p1  (Sum.inl v2) hz1) (x_cwS 1 hts rfl k_138 k_139 k_23 k_140 (by decide +kernel) ⟨(Nat.le_of_ble_eq_true rfl), (Nat.le_of_ble_eq_true rfl)⟩) hK hP hD hS hA hZ [] [0, 1, 2, 3, 4, 5, 6, 7, 8, 9, 10, 11, 12, 13, 14, 15] [0, 1, 2, 3, 4, 5, 6, 7, 8, 9, 10, 11, 12, 13, 14, 15] (by decide) rfl rfl (by decide) (by decide) (by decide) rfl rfl hl.1 rfl (Nat.le_of_ble_eq_true rfl) d_Rv_write_1 ⟨(Nat.le_of_ble_eq_true rfl), (Nat.le_of_ble_eq_true rfl)⟩ (fun H locs hP hD hS => ?_)
    refine W.eq (g2 := F0 m 4 ls []) rfl ?_
    refine lv_iload_n hx hb d_Rv_write_4 rfl (lv_at hl 3 rfl) ?_
    refine lv_if_lt (tgt := 14) hx hb d_Rv_write_5 (by decide) (fun c14 => ?_) (fun c14 => ?_)
    · have hf := x_ifp c14 hf
      obtain rfl := Option.some.inj hf
      exact x_throw (cls := "java/lang/IllegalArgumentException") (names := ["java/lang/RuntimeException", "java/lang/Exception"]) hL0 hx hb hml hown hlocks hno (by decide +kernel) (by decide +kernel) (at_Rv_76 hts hZ) (hts _ k_114) (hts _ k_115) hK hP hD hS hns hl.1 (Nat.le_of_ble_eq_true rfl) (Nat.le_of_ble_eq_true rfl) (Nat.le_of_ble_eq_true rfl) (Nat.le_of_ble_eq_true rfl) (Nat.le_of_ble_eq_true rfl) (Nat.le_of_ble_eq_true rfl) d_Rv_write_14 d_Rv_write_17 d_Rv_write_18 d_Rv_write_21
    · have hf := x_ifn c14 hf
      refine lv_iload_n hx hb d_Rv_write_8 rfl (lv_at hl 3 rfl) ?_
      refine lv_ldc hx hb hown (hts _ k_141) d_Rv_write_9 ?_
      refine lv_icmp_le (tgt := 22) hx hb d_Rv_write_11 (by decide) (fun c13 => ?_) (fun c13 => ?_)
      · have hf := x_ifp c13 hf
        refine lv_aload_n hx hb d_Rv_write_22 rfl (lv_at hl 0 rfl) ?_
        refine lv_iload_n hx hb d_Rv_write_23 rfl (lv_at hl 1 rfl) ?_
        obtain ⟨⟨v6 | E7, U8⟩, hz5, hf⟩ := x_bind hf
        · dsimp only at hf
          refine x_callV (w2 := (w_Rv cI cJ cZ rh sh mh m0 m1 m2 m3 dh d0 d1 d2 d3 ea cb ch be U8)) ⟨hx, hb, hml, hown, hts⟩ (c_Rv_demandActive l D cI cJ cZ rh sh mh m0 m1 m2 m3 dh d0 d1 d2 d3 ea cb ch be hL0 N p0 U (Sum.inl v6, U8) hz5) (x_cwV 1 hts rfl k_134 k_135 k_136 k_23 k_137 (by decide +kernel) ⟨(Nat.le_of_ble_eq_true rfl), (Nat.le_of_ble_eq_true rfl)⟩) hK hP hD hS hA hZ [0, 1, 2, 3, 4, 5, 6, 7, 8, 9, 10, 11, 12, 13, 14, 15] [] [0, 1, 2, 3, 4, 5, 6, 7, 8, 9, 10, 11, 12, 13, 14, 15] (by decide) rfl rfl (by decide) (by decide) (by decide) rfl (ci := 2) rfl rfl rfl hl.1 rfl (Nat.le_of_ble_eq_true rfl) d_Rv_write_24 ⟨(Nat.le_of_ble_eq_true rfl), (Nat.le_of_ble_eq_true rfl)⟩ (fun H locs hP hD hS => ?_)
          refine W.eq (g2 := F0 m 27 ls []) rfl ?_
          refine lv_aload_n hx hb d_Rv_write_27 rfl (lv_at hl 0 rfl) ?_
          refine lv_iload_n hx hb d_Rv_write_28 rfl (lv_at hl 1 rfl) ?_
          refine lv_iload_n hx hb d_Rv_write_29 rfl (lv_at hl 2 rfl) ?_
          refine lv_iload_n hx hb d_Rv_write_30 rfl (lv_at hl 3 rfl) ?_
          obtain ⟨⟨v10 | E11, U12⟩, hz9, hf⟩ := x_bind hf
          · dsimp only at hf
            refine x_callV (w2 := (w_Rv cI cJ cZ rh sh mh m0 m1 m2 m3 dh d0 d1 d2 d3 ea cb ch be U12)) ⟨hx, hb, hml, hown, hts⟩ (c_Rv_change l D cI cJ cZ rh sh mh m0 m1 m2 m3 dh d0 d1 d2 d3 ea cb ch be hL0 N p0 p1 p2 U8 (Sum.inl v10, U12) hz9) (x_cwV 3 hts rfl k_181 k_182 k_183 k_23 k_184 (by decide +kernel) ⟨(Nat.le_of_ble_eq_true rfl), (Nat.le_of_ble_eq_true rfl)⟩) hK hP hD hS hA hZ [0, 1, 2, 3, 4, 5, 6, 7, 8, 9, 10, 11, 12, 13, 14, 15] [] [0, 1, 2, 3, 4, 5, 6, 7, 8, 9, 10, 11, 12, 13, 14, 15] (by decide) rfl rfl (by decide) (by decide) (by decide) rfl (ci := 2) rfl rfl rfl hl.1 rfl (Nat.le_of_ble_eq_true rfl) d_Rv_write_31 ⟨(Nat.le_of_ble_eq_true rfl), (Nat.le_of_ble_eq_true rfl)⟩ (fun H locs hP hD hS => ?_)
            refine W.eq (g2 := F0 m 34 ls [.int v10]) rfl ?_
            obtain rfl := Option.some.inj hf
            exact x_iret hx hb hr hlocks hK hP hD hS (Nat.le_of_ble_eq_true rfl) (Nat.le_of_ble_eq_true rfl) d_Rv_write_34
          · dsimp only at hf
            obtain rfl := Option.some.inj hf
            exact x_out (w2 := (w_Rv cI cJ cZ rh sh mh m0 m1 m2 m3 dh d0 d1 d2 d3 ea cb ch be U12)) (x_noteV ⟨hx, hb, hml, hown, hts⟩ (c_Rv_change l D cI cJ cZ rh sh mh m0 m1 m2 m3 dh d0 d1 d2 d3 ea cb ch be hL0 N p0 p1 p2 U8 (Sum.inr E11, U12) hz9) (x_cwV 3 hts rfl k_181 k_182 k_183 k_23 k_184 (by decide +kernel) ⟨(Nat.le_of_ble_eq_true rfl), (Nat.le_of_ble_eq_true rfl)⟩) hK (x_cut hP hD hK hS hA hZ [0, 1, 2, 3, 4, 5, 6, 7, 8, 9, 10, 11, 12, 13, 14, 15] (by decide) rfl).1 (x_cut hP hD hK hS hA hZ [0, 1, 2, 3, 4, 5, 6, 7, 8, 9, 10, 11, 12, 13, 14, 15] (by decide) rfl).2 (ci := 2) rfl rfl rfl hl.1 rfl (Nat.le_of_ble_eq_true rfl) d_Rv_write_31 ⟨(Nat.le_of_ble_eq_true rfl), (Nat.le_of_ble_eq_true rfl)⟩) hlocks hno hK hP hD hS hA [0, 1, 2, 3, 4, 5, 6, 7, 8, 9, 10, 11, 12, 13, 14, 15] [] [0, 1, 2, 3, 4, 5, 6, 7, 8, 9, 10, 11, 12, 13, 14, 15] rfl rfl (by decide) (by decide) (by decide) rfl (Nat.le_of_ble_eq_true rfl) (Nat.le_of_ble_eq_true rfl)
        · dsimp only at hf
          obtain rfl := Option.some.inj hf
          exact x_out (w2 := (w_Rv cI cJ cZ rh sh mh m0 m1 m2 m3 dh d0 d1 d2 d3 ea cb ch be U8)) (x_noteV ⟨hx, hb, hml, hown, hts⟩ (c_Rv_demandActive l D cI cJ cZ rh sh mh m0 m1 m2 m3 dh d0 d1 d2 d3 ea cb ch be hL0 N p0 U (Sum.inr E7, U8) hz5) (x_cwV 1 hts rfl k_134 k_135 k_136 k_23 k_137 (by decide +kernel) ⟨(Nat.le_of_ble_eq_true rfl), (Nat.le_of_ble_eq_true rfl)⟩) hK (x_cut hP hD hK hS hA hZ [0, 1, 2, 3, 4, 5, 6, 7, 8, 9, 10, 11, 12, 13, 14, 15] (by decide) rfl).1 (x_cut hP hD hK hS hA hZ [0, 1, 2, 3, 4, 5, 6, 7, 8, 9, 10, 11, 12, 13, 14, 15] (by decide) rfl).2 (ci := 2) rfl rfl rfl hl.1 rfl (Nat.le_of_ble_eq_true rfl) d_Rv_write_24 ⟨(Nat.le_of_ble_eq_true rfl), (Nat.le_of_ble_eq_true rfl)⟩) hlocks hno hK hP hD hS hA [0, 1, 2, 3, 4, 5, 6, 7, 8, 9, 10, 11, 12, 13, 14, 15] [] [0, 1, 2, 3, 4, 5, 6, 7, 8, 9, 10, 11, 12, 13, 14, 15] rfl rfl (by decide) (by decide) (by decide) rfl (Nat.le_of_ble_eq_true rfl) (Nat.le_of_ble_eq_true rfl)
      · have hf := x_ifn c13 hf
        obtain rfl := Option.some.inj hf
        exact x_throw (cls := "java/lang/IllegalArgumentException") (names := ["java/lang/RuntimeException", "java/lang/Exception"]) hL0 hx hb hml hown hlocks hno (by decide +kernel) (by decide +kernel) (at_Rv_76 hts hZ) (hts _ k_114) (hts _ k_115) hK hP hD hS hns hl.1 (Nat.le_of_ble_eq_true rfl) (Nat.le_of_ble_eq_true rfl) (Nat.le_of_ble_eq_true rfl) (Nat.le_of_ble_eq_true rfl) (Nat.le_of_ble_eq_true rfl) (Nat.le_of_ble_eq_true rfl) d_Rv_write_14 d_Rv_write_17 d_Rv_write_18 d_Rv_write_21
  · dsimp only at hf
    obtain rfl := Option.some.inj hf
    exact x_out (w2 := (w_Rv cI cJ cZ rh sh mh m0 m1 m2 m3 dh d0 d1 d2 d3 ea cb ch be U)) (x_noteS ⟨hx, hb, hml, hown, hts⟩ (c_Rv_demandRecord l D cI cJ cZ  hL0 N p1  (Sum.inr E3) hz1) (x_cwS 1 hts rfl k_138 k_139 k_23 k_140 (by decide +kernel) ⟨(Nat.le_of_ble_eq_true rfl), (Nat.le_of_ble_eq_true rfl)⟩) (x_cut hP hD hK hS hA hZ [] (by decide) rfl).2 rfl hl.1 rfl (Nat.le_of_ble_eq_true rfl) d_Rv_write_1 ⟨(Nat.le_of_ble_eq_true rfl), (Nat.le_of_ble_eq_true rfl)⟩) hlocks hno hK hP hD hS hA [] [0, 1, 2, 3, 4, 5, 6, 7, 8, 9, 10, 11, 12, 13, 14, 15] [0, 1, 2, 3, 4, 5, 6, 7, 8, 9, 10, 11, 12, 13, 14, 15] rfl rfl (by decide) (by decide) (by decide) rfl (Nat.le_of_ble_eq_true rfl) (Nat.le_of_ble_eq_true rfl)
set_option maxHeartbeats 4000000 in
set_option maxRecDepth 100000 in
theorem c_Rv_erase (l : Launch) (D : va_G) (cI cJ cZ : ClassId) (rh sh mh m0 m1 m2 m3 dh d0 d1 d2 d3 ea cb ch be : Nat) (hL0 : xL l) (N : Nat) (p0 : Int32) (p1 : Int32) (U : K_Rv) (r : ((Int32 ⊕ String) × K_Rv)) (hf : f_Rv_erase N p0 p1 U = some r) : Cx l y_Rv_erase ws_Rv_erase rm_Rv_erase D vwCl (tyL cI cJ cZ) [.ref rh, .int p0, .int p1] (w_Rv cI cJ cZ rh sh mh m0 m1 m2 m3 dh d0 d1 d2 d3 ea cb ch be U) (tI r.1) (w_Rv cI cJ cZ rh sh mh m0 m1 m2 m3 dh d0 d1 d2 d3 ea cb ch be r.2) := by
  unfold f_Rv_erase at hf
  refine Cx.ofW (cc := b_Rv_erase) (maxL := 3) (ret := (some .int)) (by decide) rfl ?_
  intro p e s m below meth c A C0 hP hK hD hA hns hZ
  obtain ⟨hx, hb, hml, hown, hts0, hr, hlocks, hnm, hno⟩ := C0
  have hown : s.vm.findClass R_Rv = some m.cls := hown
  have hts : ∀ w ∈ tb, w.before [.ref rh, .int p0, .int p1].toArray s = true := fun w h => hts0 w (List.mem_cons_of_mem _ h)
  have hS : va_S A s.heap s.heap [] := va_S.rf
  have hl := lv_entry ([.ref rh, .int p0, .int p1]) (n := 3) (Nat.le_of_ble_eq_true rfl)
  rw [lg_entry_eq]
  generalize (lg_sl ([.ref rh, .int p0, .int p1]) ++ List.replicate (3 - (lg_sl ([.ref rh, .int p0, .int p1])).length) Slot.unset).toArray = ls at hl ⊢
  have hl : lv_has ls 3 [(0, .ref rh), (1, .int p0), (2, .int p1)] := hl
  refine lv_iload_n hx hb d_Rv_erase_0 rfl (lv_at hl 2 rfl) ?_
  obtain ⟨v2 | E3, hz1, hf⟩ := x_bind hf
  · dsimp only at hf
    refine x_callS (w2 := (w_Rv cI cJ cZ rh sh mh m0 m1 m2 m3 dh d0 d1 d2 d3 ea cb ch be U)) ⟨hx, hb, hml, hown, hts⟩ (c_Rv_demandRecord l D cI cJ cZ  hL0 N p1  (Sum.inl v2) hz1) (x_cwS 1 hts rfl k_138 k_139 k_23 k_140 (by decide +kernel) ⟨(Nat.le_of_ble_eq_true rfl), (Nat.le_of_ble_eq_true rfl)⟩) hK hP hD hS hA hZ [] [0, 1, 2, 3, 4, 5, 6, 7, 8, 9, 10, 11, 12, 13, 14, 15] [0, 1, 2, 3, 4, 5, 6, 7, 8, 9, 10, 11, 12, 13, 14, 15] (by decide) rfl rfl (by decide) (by decide) (by decide) rfl rfl hl.1 rfl (Nat.le_of_ble_eq_true rfl) d_Rv_erase_1 ⟨(Nat.le_of_ble_eq_true rfl), (Nat.le_of_ble_eq_true rfl)⟩ (fun H locs hP hD hS => ?_)
    refine W.eq (g2 := F0 m 4 ls []) rfl ?_
    refine lv_aload_n hx hb d_Rv_erase_4 rfl (lv_at hl 0 rfl) ?_
    refine lv_iload_n hx hb d_Rv_erase_5 rfl (lv_at hl 1 rfl) ?_
    obtain ⟨⟨v6 | E7, U8⟩, hz5, hf⟩ := x_bind hf
    · dsimp only at hf
      refine x_callV (w2 := (w_Rv cI cJ cZ rh sh mh m0 m1 m2 m3 dh d0 d1 d2 d3 ea cb ch be U8)) ⟨hx, hb, hml, hown, hts⟩ (c_Rv_demandActive l D cI cJ cZ rh sh mh m0 m1 m2 m3 dh d0 d1 d2 d3 ea cb ch be hL0 N p0 U (Sum.inl v6, U8) hz5) (x_cwV 1 hts rfl k_134 k_135 k_136 k_23 k_137 (by decide +kernel) ⟨(Nat.le_of_ble_eq_true rfl), (Nat.le_of_ble_eq_true rfl)⟩) hK hP hD hS hA hZ [0, 1, 2, 3, 4, 5, 6, 7, 8, 9, 10, 11, 12, 13, 14, 15] [] [0, 1, 2, 3, 4, 5, 6, 7, 8, 9, 10, 11, 12, 13, 14, 15] (by decide) rfl rfl (by decide) (by decide) (by decide) rfl (ci := 2) rfl rfl rfl hl.1 rfl (Nat.le_of_ble_eq_true rfl) d_Rv_erase_6 ⟨(Nat.le_of_ble_eq_true rfl), (Nat.le_of_ble_eq_true rfl)⟩ (fun H locs hP hD hS => ?_)
      refine W.eq (g2 := F0 m 9 ls []) rfl ?_
      refine lv_aload_n hx hb d_Rv_erase_9 rfl (lv_at hl 0 rfl) ?_
      refine va_get (D := D) (ci := 2) (v := .ref mh) (C := R_Rv) (T := F_Rv) (N := 5) hx hb hts i_Rv hown hK hP 0 rfl rfl 1 (by decide) (hts _ k_92) (fun _ h9 => h9) rfl d_Rv_erase_10 ?_
      refine lv_aload_n hx hb d_Rv_erase_13 rfl (lv_at hl 0 rfl) ?_
      refine lv_iload_n hx hb d_Rv_erase_14 rfl (lv_at hl 1 rfl) ?_
      refine lv_iload_n hx hb d_Rv_erase_15 rfl (lv_at hl 2 rfl) ?_
      obtain ⟨z9, hz9, hf⟩ := x_bind hf
      refine x_callV (w2 := (w_Rv cI cJ cZ rh sh mh m0 m1 m2 m3 dh d0 d1 d2 d3 ea cb ch be z9.2)) ⟨hx, hb, hml, hown, hts⟩ (c_Rv_placeSeen l D cI cJ cZ rh sh mh m0 m1 m2 m3 dh d0 d1 d2 d3 ea cb ch be N p0 p1 U8 z9 hz9) (x_cwV 2 hts rfl k_130 k_131 k_132 k_23 k_133 (by decide +kernel) ⟨(Nat.le_of_ble_eq_true rfl), (Nat.le_of_ble_eq_true rfl)⟩) hK hP hD hS hA hZ [0, 1, 2, 3, 4, 5, 6, 7, 8, 9, 10, 11, 12, 13, 14, 15] [] [0, 1, 2, 3, 4, 5, 6, 7, 8, 9, 10, 11, 12, 13, 14, 15] (by decide) rfl rfl (by decide) (by decide) (by decide) rfl (ci := 2) rfl rfl rfl hl.1 rfl (Nat.le_of_ble_eq_true rfl) d_Rv_erase_16 ⟨(Nat.le_of_ble_eq_true rfl), (Nat.le_of_ble_eq_true rfl)⟩ (fun H locs hP hD hS => ?_)
      refine W.eq (g2 := F0 m 19 ls [.int z9.1, .ref mh]) rfl ?_
      obtain ⟨⟨v11 | E12, U13⟩, hz10, hf⟩ := x_bind hf
      · dsimp only at hf
        refine x_callS (w2 := (w_Rv cI cJ cZ rh sh mh m0 m1 m2 m3 dh d0 d1 d2 d3 ea cb ch be ((U13, z9.2.1.2), z9.2.2))) ⟨hx, hb, hml, hown, hts⟩ (c_Rv_demandValue l D cI cJ cZ mh m0 m1 m2 m3 hL0 N z9.1 z9.2.1.1 (Sum.inl v11, U13) hz10) (x_cwS 2 hts rfl k_127 k_128 k_23 k_129 (by decide +kernel) ⟨(Nat.le_of_ble_eq_true rfl), (Nat.le_of_ble_eq_true rfl)⟩) hK hP hD hS hA hZ [2, 3, 4, 5, 6] [0, 1, 7, 8, 9, 10, 11, 12, 13, 14, 15] [0, 1, 11, 12, 13, 14, 15, 2, 3, 4, 5, 6, 7, 8, 9, 10] (by decide) rfl rfl (by decide) (by decide) (by decide) rfl rfl hl.1 rfl (Nat.le_of_ble_eq_true rfl) d_Rv_erase_19 ⟨(Nat.le_of_ble_eq_true rfl), (Nat.le_of_ble_eq_true rfl)⟩ (fun H locs hP hD hS => ?_)
        refine W.eq (g2 := F0 m 22 ls [.int v11]) rfl ?_
        refine lv_pop hx hb d_Rv_erase_22 rfl ?_
        refine lv_aload_n hx hb d_Rv_erase_23 rfl (lv_at hl 0 rfl) ?_
        refine lv_iload_n hx hb d_Rv_erase_24 rfl (lv_at hl 1 rfl) ?_
        refine lv_iload_n hx hb d_Rv_erase_25 rfl (lv_at hl 2 rfl) ?_
        refine lv_iconst (v := (-1 : Int32)) hx hb d_Rv_erase_26 (by decide) ?_
        obtain ⟨⟨v15 | E16, U17⟩, hz14, hf⟩ := x_bind hf
        · dsimp only at hf
          refine x_callV (w2 := (w_Rv cI cJ cZ rh sh mh m0 m1 m2 m3 dh d0 d1 d2 d3 ea cb ch be U17)) ⟨hx, hb, hml, hown, hts⟩ (c_Rv_change l D cI cJ cZ rh sh mh m0 m1 m2 m3 dh d0 d1 d2 d3 ea cb ch be hL0 N p0 p1 (-1 : Int32) ((U13, z9.2.1.2), z9.2.2) (Sum.inl v15, U17) hz14) (x_cwV 3 hts rfl k_181 k_182 k_183 k_23 k_184 (by decide +kernel) ⟨(Nat.le_of_ble_eq_true rfl), (Nat.le_of_ble_eq_true rfl)⟩) hK hP hD hS hA hZ [0, 1, 2, 3, 4, 5, 6, 7, 8, 9, 10, 11, 12, 13, 14, 15] [] [0, 1, 2, 3, 4, 5, 6, 7, 8, 9, 10, 11, 12, 13, 14, 15] (by decide) rfl rfl (by decide) (by decide) (by decide) rfl (ci := 2) rfl rfl rfl hl.1 rfl (Nat.le_of_ble_eq_true rfl) d_Rv_erase_27 ⟨(Nat.le_of_ble_eq_true rfl), (Nat.le_of_ble_eq_true rfl)⟩ (fun H locs hP hD hS => ?_)
          refine W.eq (g2 := F0 m 30 ls [.int v15]) rfl ?_
          obtain rfl := Option.some.inj hf
          exact x_iret hx hb hr hlocks hK hP hD hS (Nat.le_of_ble_eq_true rfl) (Nat.le_of_ble_eq_true rfl) d_Rv_erase_30
        · dsimp only at hf
          obtain rfl := Option.some.inj hf
          exact x_out (w2 := (w_Rv cI cJ cZ rh sh mh m0 m1 m2 m3 dh d0 d1 d2 d3 ea cb ch be U17)) (x_noteV ⟨hx, hb, hml, hown, hts⟩ (c_Rv_change l D cI cJ cZ rh sh mh m0 m1 m2 m3 dh d0 d1 d2 d3 ea cb ch be hL0 N p0 p1 (-1 : Int32) ((U13, z9.2.1.2), z9.2.2) (Sum.inr E16, U17) hz14) (x_cwV 3 hts rfl k_181 k_182 k_183 k_23 k_184 (by decide +kernel) ⟨(Nat.le_of_ble_eq_true rfl), (Nat.le_of_ble_eq_true rfl)⟩) hK (x_cut hP hD hK hS hA hZ [0, 1, 2, 3, 4, 5, 6, 7, 8, 9, 10, 11, 12, 13, 14, 15] (by decide) rfl).1 (x_cut hP hD hK hS hA hZ [0, 1, 2, 3, 4, 5, 6, 7, 8, 9, 10, 11, 12, 13, 14, 15] (by decide) rfl).2 (ci := 2) rfl rfl rfl hl.1 rfl (Nat.le_of_ble_eq_true rfl) d_Rv_erase_27 ⟨(Nat.le_of_ble_eq_true rfl), (Nat.le_of_ble_eq_true rfl)⟩) hlocks hno hK hP hD hS hA [0, 1, 2, 3, 4, 5, 6, 7, 8, 9, 10, 11, 12, 13, 14, 15] [] [0, 1, 2, 3, 4, 5, 6, 7, 8, 9, 10, 11, 12, 13, 14, 15] rfl rfl (by decide) (by decide) (by decide) rfl (Nat.le_of_ble_eq_true rfl) (Nat.le_of_ble_eq_true rfl)
      · dsimp only at hf
        obtain rfl := Option.some.inj hf
        exact x_out (w2 := (w_Rv cI cJ cZ rh sh mh m0 m1 m2 m3 dh d0 d1 d2 d3 ea cb ch be ((U13, z9.2.1.2), z9.2.2))) (x_noteS ⟨hx, hb, hml, hown, hts⟩ (c_Rv_demandValue l D cI cJ cZ mh m0 m1 m2 m3 hL0 N z9.1 z9.2.1.1 (Sum.inr E12, U13) hz10) (x_cwS 2 hts rfl k_127 k_128 k_23 k_129 (by decide +kernel) ⟨(Nat.le_of_ble_eq_true rfl), (Nat.le_of_ble_eq_true rfl)⟩) (x_cut hP hD hK hS hA hZ [2, 3, 4, 5, 6] (by decide) rfl).2 rfl hl.1 rfl (Nat.le_of_ble_eq_true rfl) d_Rv_erase_19 ⟨(Nat.le_of_ble_eq_true rfl), (Nat.le_of_ble_eq_true rfl)⟩) hlocks hno hK hP hD hS hA [2, 3, 4, 5, 6] [0, 1, 7, 8, 9, 10, 11, 12, 13, 14, 15] [0, 1, 11, 12, 13, 14, 15, 2, 3, 4, 5, 6, 7, 8, 9, 10] rfl rfl (by decide) (by decide) (by decide) rfl (Nat.le_of_ble_eq_true rfl) (Nat.le_of_ble_eq_true rfl)
    · dsimp only at hf
      obtain rfl := Option.some.inj hf
      exact x_out (w2 := (w_Rv cI cJ cZ rh sh mh m0 m1 m2 m3 dh d0 d1 d2 d3 ea cb ch be U8)) (x_noteV ⟨hx, hb, hml, hown, hts⟩ (c_Rv_demandActive l D cI cJ cZ rh sh mh m0 m1 m2 m3 dh d0 d1 d2 d3 ea cb ch be hL0 N p0 U (Sum.inr E7, U8) hz5) (x_cwV 1 hts rfl k_134 k_135 k_136 k_23 k_137 (by decide +kernel) ⟨(Nat.le_of_ble_eq_true rfl), (Nat.le_of_ble_eq_true rfl)⟩) hK (x_cut hP hD hK hS hA hZ [0, 1, 2, 3, 4, 5, 6, 7, 8, 9, 10, 11, 12, 13, 14, 15] (by decide) rfl).1 (x_cut hP hD hK hS hA hZ [0, 1, 2, 3, 4, 5, 6, 7, 8, 9, 10, 11, 12, 13, 14, 15] (by decide) rfl).2 (ci := 2) rfl rfl rfl hl.1 rfl (Nat.le_of_ble_eq_true rfl) d_Rv_erase_6 ⟨(Nat.le_of_ble_eq_true rfl), (Nat.le_of_ble_eq_true rfl)⟩) hlocks hno hK hP hD hS hA [0, 1, 2, 3, 4, 5, 6, 7, 8, 9, 10, 11, 12, 13, 14, 15] [] [0, 1, 2, 3, 4, 5, 6, 7, 8, 9, 10, 11, 12, 13, 14, 15] rfl rfl (by decide) (by decide) (by decide) rfl (Nat.le_of_ble_eq_true rfl) (Nat.le_of_ble_eq_true rfl)
  · dsimp only at hf
    obtain rfl := Option.some.inj hf
    exact x_out (w2 := (w_Rv cI cJ cZ rh sh mh m0 m1 m2 m3 dh d0 d1 d2 d3 ea cb ch be U)) (x_noteS ⟨hx, hb, hml, hown, hts⟩ (c_Rv_demandRecord l D cI cJ cZ  hL0 N p1  (Sum.inr E3) hz1) (x_cwS 1 hts rfl k_138 k_139 k_23 k_140 (by decide +kernel) ⟨(Nat.le_of_ble_eq_true rfl), (Nat.le_of_ble_eq_true rfl)⟩) (x_cut hP hD hK hS hA hZ [] (by decide) rfl).2 rfl hl.1 rfl (Nat.le_of_ble_eq_true rfl) d_Rv_erase_1 ⟨(Nat.le_of_ble_eq_true rfl), (Nat.le_of_ble_eq_true rfl)⟩) hlocks hno hK hP hD hS hA [] [0, 1, 2, 3, 4, 5, 6, 7, 8, 9, 10, 11, 12, 13, 14, 15] [0, 1, 2, 3, 4, 5, 6, 7, 8, 9, 10, 11, 12, 13, 14, 15] rfl rfl (by decide) (by decide) (by decide) rfl (Nat.le_of_ble_eq_true rfl) (Nat.le_of_ble_eq_true rfl)
end
section
set_option maxHeartbeats 4000000 in
set_option maxRecDepth 100000 in
theorem c_Rv_commit (l : Launch) (D : va_G) (cI cJ cZ : ClassId) (rh sh mh m0 m1 m2 m3 dh d0 d1 d2 d3 ea cb ch be : Nat) (hL0 : xL l) (N : Nat) (p0 : Int32) (U : K_Rv) (r : ((Int32 ⊕ String) × K_Rv)) (hf : f_Rv_commit N p0 U = some r) : Cx l y_Rv_commit ws_Rv_commit rm_Rv_commit D vwCl (tyL cI cJ cZ) [.ref rh, .int p0] (w_Rv cI cJ cZ rh sh mh m0 m1 m2 m3 dh d0 d1 d2 d3 ea cb ch be U) (tI r.1) (w_Rv cI cJ cZ rh sh mh m0 m1 m2 m3 dh d0 d1 d2 d3 ea cb ch be r.2) := by
  unfold f_Rv_commit at hf
  refine Cx.ofW (cc := b_Rv_commit) (maxL := 3) (ret := (some .int)) (by decide) rfl ?_
  intro p e s m below meth c A C0 hP hK hD hA hns hZ
  obtain ⟨hx, hb, hml, hown, hts0, hr, hlocks, hnm, hno⟩ := C0
  have hown : s.vm.findClass R_Rv = some m.cls := hown
  have hts : ∀ w ∈ tb, w.before [.ref rh, .int p0].toArray s = true := fun w h => hts0 w (List.mem_cons_of_mem _ h)
  have hS : va_S A s.heap s.heap [] := va_S.rf
  have hl := lv_entry ([.ref rh, .int p0]) (n := 3) (Nat.le_of_ble_eq_true rfl)
  rw [lg_entry_eq]
  generalize (lg_sl ([.ref rh, .int p0]) ++ List.replicate (3 - (lg_sl ([.ref rh, .int p0])).length) Slot.unset).toArray = ls at hl ⊢
  have hl : lv_has ls 3 [(0, .ref rh), (1, .int p0)] := hl
  refine lv_aload_n hx hb d_Rv_commit_0 rfl (lv_at hl 0 rfl) ?_
  refine lv_iload_n hx hb d_Rv_commit_1 rfl (lv_at hl 1 rfl) ?_
  obtain ⟨⟨v2 | E3, U4⟩, hz1, hf⟩ := x_bind hf
  · dsimp only at hf
    refine x_callV (w2 := (w_Rv cI cJ cZ rh sh mh m0 m1 m2 m3 dh d0 d1 d2 d3 ea cb ch be U4)) ⟨hx, hb, hml, hown, hts⟩ (c_Rv_demandActive l D cI cJ cZ rh sh mh m0 m1 m2 m3 dh d0 d1 d2 d3 ea cb ch be hL0 N p0 U (Sum.inl v2, U4) hz1) (x_cwV 1 hts rfl k_134 k_135 k_136 k_23 k_137 (by decide +kernel) ⟨(Nat.le_of_ble_eq_true rfl), (Nat.le_of_ble_eq_true rfl)⟩) hK hP hD hS hA hZ [0, 1, 2, 3, 4, 5, 6, 7, 8, 9, 10, 11, 12, 13, 14, 15] [] [0, 1, 2, 3, 4, 5, 6, 7, 8, 9, 10, 11, 12, 13, 14, 15] (by decide) rfl rfl (by decide) (by decide) (by decide) rfl (ci := 2) rfl rfl rfl hl.1 rfl (Nat.le_of_ble_eq_true rfl) d_Rv_commit_2 ⟨(Nat.le_of_ble_eq_true rfl), (Nat.le_of_ble_eq_true rfl)⟩ (fun H locs hP hD hS => ?_)
    refine W.eq (g2 := F0 m 5 ls []) rfl ?_
    refine lv_aload_n hx hb d_Rv_commit_5 rfl (lv_at hl 0 rfl) ?_
    refine va_get (D := D) (ci := 2) (v := .ref sh) (C := R_Rv) (T := F_Rv) (N := 5) hx hb hts i_Rv hown hK hP 0 rfl rfl 0 (by decide) (hts _ k_90) (fun _ h9 => h9) rfl d_Rv_commit_6 ?_
    refine va_get (D := D) (ci := 1) (v := .int U4.1.2.2.2.2.1) (C := R_St) (T := F_St) (N := 7) hx hb hts i_St hown hK hP 1 rfl rfl 4 (by decide) (hts _ k_185) (fun _ h9 => h9) rfl d_Rv_commit_9 ?_
    refine lv_istore_n (lv' := [(2, .int U4.1.2.2.2.2.1), (0, .ref rh), (1, .int p0)]) hx hb d_Rv_commit_12 rfl hl (by decide) rfl (fun ls hl => ?_)
    refine lv_aload_n hx hb d_Rv_commit_13 rfl (lv_at hl 1 rfl) ?_
    refine va_get (D := D) (ci := 2) (v := .ref sh) (C := R_Rv) (T := F_Rv) (N := 5) hx hb hts i_Rv hown hK hP 0 rfl rfl 0 (by decide) (hts _ k_90) (fun _ h9 => h9) rfl d_Rv_commit_14 ?_
    refine lv_aload_n hx hb d_Rv_commit_17 rfl (lv_at hl 1 rfl) ?_
    refine va_get (D := D) (ci := 2) (v := .ref ch) (C := R_Rv) (T := F_Rv) (N := 5) hx hb hts i_Rv hown hK hP 0 rfl rfl 3 (by decide) (hts _ k_95) (fun _ h9 => h9) rfl d_Rv_commit_18 ?_
    refine lv_iload_n hx hb d_Rv_commit_21 rfl (lv_at hl 2 rfl) ?_
    obtain ⟨g5, hf⟩ := x_if hf
    refine va_iald hx hb hK hP 14 0 rfl rfl (xi_in g5) d_Rv_commit_22 ?_
    obtain ⟨z6, hz6, hf⟩ := x_bind hf
    refine x_callV (w2 := (w_Rv cI cJ cZ rh sh mh m0 m1 m2 m3 dh d0 d1 d2 d3 ea cb ch be (z6.2, U4.2))) ⟨hx, hb, hml, hown, hts⟩ (c_St_putDirty l D cI cJ cZ sh mh m0 m1 m2 m3 dh d0 d1 d2 d3 ea N (U4.2.2.1 p0.toNatClampNeg) U4.1 z6 hz6) (x_cwV 1 hts rfl k_186 k_187 k_188 k_55 k_189 (by decide +kernel) ⟨(Nat.le_of_ble_eq_true rfl), (Nat.le_of_ble_eq_true rfl)⟩) hK hP hD hS hA hZ [1, 2, 3, 4, 5, 6, 7, 8, 9, 10, 11, 12] [0, 13, 14, 15] [0, 4, 5, 6, 7, 8, 9, 10, 11, 12, 13, 14, 15, 1, 2, 3] (by decide) rfl rfl (by decide) (by decide) (by decide) rfl (ci := 1) rfl rfl rfl hl.1 rfl (Nat.le_of_ble_eq_true rfl) d_Rv_commit_23 ⟨(Nat.le_of_ble_eq_true rfl), (Nat.le_of_ble_eq_true rfl)⟩ (fun H locs hP hD hS => ?_)
    refine W.eq (g2 := F0 m 26 ls [.int z6.1]) rfl ?_
    refine lv_if_ne (tgt := 32) hx hb d_Rv_commit_26 (by decide) (fun c11 => ?_) (fun c11 => ?_)
    · have hf := x_ifn c11 hf
      refine lv_aload_n hx hb d_Rv_commit_32 rfl (lv_at hl 1 rfl) ?_
      refine va_get (D := D) (ci := 2) (v := .ref mh) (C := R_Rv) (T := F_Rv) (N := 5) hx hb hts i_Rv hown hK hP 0 rfl rfl 1 (by decide) (hts _ k_92) (fun _ h9 => h9) rfl d_Rv_commit_33 ?_
      refine va_get (D := D) (ci := 0) (v := .ref m3) (C := R_Co) (T := F_Co) (N := 4) hx hb hts i_Co hown hK hP 2 rfl rfl 3 (by decide) (hts _ k_99) (fun _ h9 => h9) rfl d_Rv_commit_36 ?_
      refine lv_iload_n hx hb d_Rv_commit_39 rfl (lv_at hl 2 rfl) ?_
      refine lv_iconst (v := (2 : Int32)) hx hb d_Rv_commit_40 (by decide) ?_
      obtain ⟨g7, hf⟩ := x_if hf
      refine va_iast hx hb hK hP hD hS 6 0 rfl rfl (xi_in g7) d_Rv_commit_41 (fun H locs hP hD hS => ?_)
      have hP : va_P D vwCl (w_Rv cI cJ cZ rh sh mh m0 m1 m2 m3 dh d0 d1 d2 d3 ea cb ch be (((z6.2.1.1, (z6.2.1.2.1, (z6.2.1.2.2.1, (upd z6.2.1.2.2.2 p0.toNatClampNeg (2 : Int32))))), z6.2.2), U4.2)) H := hP
      have hD : va_D A (w_Rv cI cJ cZ rh sh mh m0 m1 m2 m3 dh d0 d1 d2 d3 ea cb ch be (((z6.2.1.1, (z6.2.1.2.1, (z6.2.1.2.2.1, (upd z6.2.1.2.2.2 p0.toNatClampNeg (2 : Int32))))), z6.2.2), U4.2)) := hD
      refine lv_aload_n hx hb d_Rv_commit_42 rfl (lv_at hl 1 rfl) ?_
      refine va_get (D := D) (ci := 2) (v := .ref sh) (C := R_Rv) (T := F_Rv) (N := 5) hx hb hts i_Rv hown hK hP 0 rfl rfl 0 (by decide) (hts _ k_90) (fun _ h9 => h9) rfl d_Rv_commit_43 ?_
      refine lv_bipush (v := (6 : Int32)) hx hb d_Rv_commit_46 (by decide) ?_
      obtain ⟨z8, hz8, hf⟩ := x_bind hf
      refine x_callV (w2 := (w_Rv cI cJ cZ rh sh mh m0 m1 m2 m3 dh d0 d1 d2 d3 ea cb ch be (z8.2, U4.2))) ⟨hx, hb, hml, hown, hts⟩ (c_St_changed l D cI cJ cZ sh mh m0 m1 m2 m3 dh d0 d1 d2 d3 ea N (6 : Int32) ((z6.2.1.1, (z6.2.1.2.1, (z6.2.1.2.2.1, (upd z6.2.1.2.2.2 p0.toNatClampNeg (2 : Int32))))), z6.2.2) z8 hz8) (x_cwV 1 hts rfl k_101 k_64 k_65 k_55 k_66 (by decide +kernel) ⟨(Nat.le_of_ble_eq_true rfl), (Nat.le_of_ble_eq_true rfl)⟩) hK hP hD hS hA hZ [1, 2, 3, 4, 5, 6, 7, 8, 9, 10, 11, 12] [0, 13, 14, 15] [0, 4, 5, 6, 7, 8, 9, 10, 11, 12, 13, 14, 15, 1, 2, 3] (by decide) rfl rfl (by decide) (by decide) (by decide) rfl (ci := 1) rfl rfl rfl hl.1 rfl (Nat.le_of_ble_eq_true rfl) d_Rv_commit_48 ⟨(Nat.le_of_ble_eq_true rfl), (Nat.le_of_ble_eq_true rfl)⟩ (fun H locs hP hD hS => ?_)
      refine W.eq (g2 := F0 m 51 ls []) rfl ?_
      refine lv_aload_n hx hb d_Rv_commit_51 rfl (lv_at hl 1 rfl) ?_
      refine va_get (D := D) (ci := 2) (v := .ref sh) (C := R_Rv) (T := F_Rv) (N := 5) hx hb hts i_Rv hown hK hP 0 rfl rfl 0 (by decide) (hts _ k_90) (fun _ h9 => h9) rfl d_Rv_commit_52 ?_
      refine lv_bipush (v := (6 : Int32)) hx hb d_Rv_commit_55 (by decide) ?_
      refine lv_iconst (v := (0 : Int32)) hx hb d_Rv_commit_57 (by decide) ?_
      obtain ⟨z9, hz9, hf⟩ := x_bind hf
      refine x_callVN (w2 := (w_Rv cI cJ cZ rh sh mh m0 m1 m2 m3 dh d0 d1 d2 d3 ea cb ch be (z9.2, U4.2))) ⟨hx, hb, hml, hown, hts⟩ (c_St_put l D cI cJ cZ sh mh m0 m1 m2 m3 dh d0 d1 d2 d3 ea N 9 (6 : Int32) (0 : Int32) z8.2 z9 hz9) (x_cwVN 2 hts rfl k_100 k_76 k_77 k_55 k_78 (by decide +kernel) ⟨(Nat.le_of_ble_eq_true rfl), (Nat.le_of_ble_eq_true rfl)⟩) hK hP hD hS hA hZ [1, 2, 3, 4, 5, 6, 7, 8, 9, 10, 11, 12] [0, 13, 14, 15] [0, 4, 5, 6, 7, 8, 9, 10, 11, 12, 13, 14, 15, 1, 2, 3] (by decide) rfl rfl (by decide) (by decide) (by decide) rfl (ci := 1) rfl rfl rfl hl.1 rfl (Nat.le_of_ble_eq_true rfl) d_Rv_commit_58 ⟨(Nat.le_of_ble_eq_true rfl), (Nat.le_of_ble_eq_true rfl)⟩ (fun H locs hP hD hS => ?_)
      refine W.eq (g2 := F0 m 61 ls [.int z9.1]) rfl ?_
      refine lv_if_eq (tgt := 76) hx hb d_Rv_commit_61 (by decide) (fun c10 => ?_) (fun c10 => ?_)
      · have hf := x_ifp c10 hf
        refine lv_bipush (v := (-9 : Int32)) hx hb d_Rv_commit_76 (by decide) ?_
        obtain rfl := Option.some.inj hf
        exact x_iret hx hb hr hlocks hK hP hD hS (Nat.le_of_ble_eq_true rfl) (Nat.le_of_ble_eq_true rfl) d_Rv_commit_78
      · have hf := x_ifn c10 hf
        refine lv_aload_n hx hb d_Rv_commit_64 rfl (lv_at hl 1 rfl) ?_
        refine va_get (D := D) (ci := 2) (v := .ref sh) (C := R_Rv) (T := F_Rv) (N := 5) hx hb hts i_Rv hown hK hP 0 rfl rfl 0 (by decide) (hts _ k_90) (fun _ h9 => h9) rfl d_Rv_commit_65 ?_
        refine va_get (D := D) (ci := 1) (v := .int z9.2.2.2.2.2.1) (C := R_St) (T := F_St) (N := 7) hx hb hts i_St hown hK hP 1 rfl rfl 4 (by decide) (hts _ k_185) (fun _ h9 => h9) rfl d_Rv_commit_68 ?_
        refine lv_iload_n hx hb d_Rv_commit_71 rfl (lv_at hl 0 rfl) ?_
        refine lv_isub hx hb d_Rv_commit_72 ?_
        refine lv_goto (tgt := 78) hx hb d_Rv_commit_73 (by decide) ?_
        obtain rfl := Option.some.inj hf
        exact x_iret hx hb hr hlocks hK hP hD hS (Nat.le_of_ble_eq_true rfl) (Nat.le_of_ble_eq_true rfl) d_Rv_commit_78
    · have hf := x_ifp c11 hf
      refine lv_bipush (v := (-9 : Int32)) hx hb d_Rv_commit_29 (by decide) ?_
      obtain rfl := Option.some.inj hf
      exact x_iret hx hb hr hlocks hK hP hD hS (Nat.le_of_ble_eq_true rfl) (Nat.le_of_ble_eq_true rfl) d_Rv_commit_31
  · dsimp only at hf
    obtain rfl := Option.some.inj hf
    exact x_out (w2 := (w_Rv cI cJ cZ rh sh mh m0 m1 m2 m3 dh d0 d1 d2 d3 ea cb ch be U4)) (x_noteV ⟨hx, hb, hml, hown, hts⟩ (c_Rv_demandActive l D cI cJ cZ rh sh mh m0 m1 m2 m3 dh d0 d1 d2 d3 ea cb ch be hL0 N p0 U (Sum.inr E3, U4) hz1) (x_cwV 1 hts rfl k_134 k_135 k_136 k_23 k_137 (by decide +kernel) ⟨(Nat.le_of_ble_eq_true rfl), (Nat.le_of_ble_eq_true rfl)⟩) hK (x_cut hP hD hK hS hA hZ [0, 1, 2, 3, 4, 5, 6, 7, 8, 9, 10, 11, 12, 13, 14, 15] (by decide) rfl).1 (x_cut hP hD hK hS hA hZ [0, 1, 2, 3, 4, 5, 6, 7, 8, 9, 10, 11, 12, 13, 14, 15] (by decide) rfl).2 (ci := 2) rfl rfl rfl hl.1 rfl (Nat.le_of_ble_eq_true rfl) d_Rv_commit_2 ⟨(Nat.le_of_ble_eq_true rfl), (Nat.le_of_ble_eq_true rfl)⟩) hlocks hno hK hP hD hS hA [0, 1, 2, 3, 4, 5, 6, 7, 8, 9, 10, 11, 12, 13, 14, 15] [] [0, 1, 2, 3, 4, 5, 6, 7, 8, 9, 10, 11, 12, 13, 14, 15] rfl rfl (by decide) (by decide) (by decide) rfl (Nat.le_of_ble_eq_true rfl) (Nat.le_of_ble_eq_true rfl)
set_option maxHeartbeats 4000000 in
set_option maxRecDepth 100000 in
theorem c_Rv_rollback (l : Launch) (D : va_G) (cI cJ cZ : ClassId) (rh sh mh m0 m1 m2 m3 dh d0 d1 d2 d3 ea cb ch be : Nat) (hL0 : xL l) (N : Nat) (p0 : Int32) (U : K_Rv) (r : ((Int32 ⊕ String) × K_Rv)) (hf : f_Rv_rollback N p0 U = some r) : Cx l y_Rv_rollback ws_Rv_rollback rm_Rv_rollback D vwCl (tyL cI cJ cZ) [.ref rh, .int p0] (w_Rv cI cJ cZ rh sh mh m0 m1 m2 m3 dh d0 d1 d2 d3 ea cb ch be U) (tI r.1) (w_Rv cI cJ cZ rh sh mh m0 m1 m2 m3 dh d0 d1 d2 d3 ea cb ch be r.2) := by
  unfold f_Rv_rollback at hf
  refine Cx.ofW (cc := b_Rv_rollback) (maxL := 2) (ret := (some .int)) (by decide) rfl ?_
  intro p e s m below meth c A C0 hP hK hD hA hns hZ
  obtain ⟨hx, hb, hml, hown, hts0, hr, hlocks, hnm, hno⟩ := C0
  have hown : s.vm.findClass R_Rv = some m.cls := hown
  have hts : ∀ w ∈ tb, w.before [.ref rh, .int p0].toArray s = true := fun w h => hts0 w (List.mem_cons_of_mem _ h)
  have hS : va_S A s.heap s.heap [] := va_S.rf
  have hl := lv_entry ([.ref rh, .int p0]) (n := 2) (Nat.le_of_ble_eq_true rfl)
  rw [lg_entry_eq]
  generalize (lg_sl ([.ref rh, .int p0]) ++ List.replicate (2 - (lg_sl ([.ref rh, .int p0])).length) Slot.unset).toArray = ls at hl ⊢
  have hl : lv_has ls 2 [(0, .ref rh), (1, .int p0)] := hl
  refine lv_aload_n hx hb d_Rv_rollback_0 rfl (lv_at hl 0 rfl) ?_
  refine lv_iload_n hx hb d_Rv_rollback_1 rfl (lv_at hl 1 rfl) ?_
  obtain ⟨⟨v2 | E3, U4⟩, hz1, hf⟩ := x_bind hf
  · dsimp only at hf
    refine x_callV (w2 := (w_Rv cI cJ cZ rh sh mh m0 m1 m2 m3 dh d0 d1 d2 d3 ea cb ch be U4)) ⟨hx, hb, hml, hown, hts⟩ (c_Rv_demandActive l D cI cJ cZ rh sh mh m0 m1 m2 m3 dh d0 d1 d2 d3 ea cb ch be hL0 N p0 U (Sum.inl v2, U4) hz1) (x_cwV 1 hts rfl k_134 k_135 k_136 k_23 k_137 (by decide +kernel) ⟨(Nat.le_of_ble_eq_true rfl), (Nat.le_of_ble_eq_true rfl)⟩) hK hP hD hS hA hZ [0, 1, 2, 3, 4, 5, 6, 7, 8, 9, 10, 11, 12, 13, 14, 15] [] [0, 1, 2, 3, 4, 5, 6, 7, 8, 9, 10, 11, 12, 13, 14, 15] (by decide) rfl rfl (by decide) (by decide) (by decide) rfl (ci := 2) rfl rfl rfl hl.1 rfl (Nat.le_of_ble_eq_true rfl) d_Rv_rollback_2 ⟨(Nat.le_of_ble_eq_true rfl), (Nat.le_of_ble_eq_true rfl)⟩ (fun H locs hP hD hS => ?_)
    refine W.eq (g2 := F0 m 5 ls []) rfl ?_
    refine lv_aload_n hx hb d_Rv_rollback_5 rfl (lv_at hl 0 rfl) ?_
    refine va_get (D := D) (ci := 2) (v := .ref mh) (C := R_Rv) (T := F_Rv) (N := 5) hx hb hts i_Rv hown hK hP 0 rfl rfl 1 (by decide) (hts _ k_92) (fun _ h9 => h9) rfl d_Rv_rollback_6 ?_
    refine va_get (D := D) (ci := 0) (v := .ref m3) (C := R_Co) (T := F_Co) (N := 4) hx hb hts i_Co hown hK hP 2 rfl rfl 3 (by decide) (hts _ k_99) (fun _ h9 => h9) rfl d_Rv_rollback_9 ?_
    refine lv_iload_n hx hb d_Rv_rollback_12 rfl (lv_at hl 1 rfl) ?_
    refine lv_iconst (v := (3 : Int32)) hx hb d_Rv_rollback_13 (by decide) ?_
    obtain ⟨g5, hf⟩ := x_if hf
    refine va_iast hx hb hK hP hD hS 6 0 rfl rfl (xi_in g5) d_Rv_rollback_14 (fun H locs hP hD hS => ?_)
    have hP : va_P D vwCl (w_Rv cI cJ cZ rh sh mh m0 m1 m2 m3 dh d0 d1 d2 d3 ea cb ch be (((U4.1.1.1, (U4.1.1.2.1, (U4.1.1.2.2.1, (upd U4.1.1.2.2.2 p0.toNatClampNeg (3 : Int32))))), U4.1.2), U4.2)) H := hP
    have hD : va_D A (w_Rv cI cJ cZ rh sh mh m0 m1 m2 m3 dh d0 d1 d2 d3 ea cb ch be (((U4.1.1.1, (U4.1.1.2.1, (U4.1.1.2.2.1, (upd U4.1.1.2.2.2 p0.toNatClampNeg (3 : Int32))))), U4.1.2), U4.2)) := hD
    refine lv_aload_n hx hb d_Rv_rollback_15 rfl (lv_at hl 0 rfl) ?_
    refine va_get (D := D) (ci := 2) (v := .ref sh) (C := R_Rv) (T := F_Rv) (N := 5) hx hb hts i_Rv hown hK hP 0 rfl rfl 0 (by decide) (hts _ k_90) (fun _ h9 => h9) rfl d_Rv_rollback_16 ?_
    refine lv_bipush (v := (6 : Int32)) hx hb d_Rv_rollback_19 (by decide) ?_
    obtain ⟨z6, hz6, hf⟩ := x_bind hf
    refine x_callV (w2 := (w_Rv cI cJ cZ rh sh mh m0 m1 m2 m3 dh d0 d1 d2 d3 ea cb ch be (z6.2, U4.2))) ⟨hx, hb, hml, hown, hts⟩ (c_St_changed l D cI cJ cZ sh mh m0 m1 m2 m3 dh d0 d1 d2 d3 ea N (6 : Int32) ((U4.1.1.1, (U4.1.1.2.1, (U4.1.1.2.2.1, (upd U4.1.1.2.2.2 p0.toNatClampNeg (3 : Int32))))), U4.1.2) z6 hz6) (x_cwV 1 hts rfl k_101 k_64 k_65 k_55 k_66 (by decide +kernel) ⟨(Nat.le_of_ble_eq_true rfl), (Nat.le_of_ble_eq_true rfl)⟩) hK hP hD hS hA hZ [1, 2, 3, 4, 5, 6, 7, 8, 9, 10, 11, 12] [0, 13, 14, 15] [0, 4, 5, 6, 7, 8, 9, 10, 11, 12, 13, 14, 15, 1, 2, 3] (by decide) rfl rfl (by decide) (by decide) (by decide) rfl (ci := 1) rfl rfl rfl hl.1 rfl (Nat.le_of_ble_eq_true rfl) d_Rv_rollback_21 ⟨(Nat.le_of_ble_eq_true rfl), (Nat.le_of_ble_eq_true rfl)⟩ (fun H locs hP hD hS => ?_)
    refine W.eq (g2 := F0 m 24 ls []) rfl ?_
    refine lv_iconst (v := (1 : Int32)) hx hb d_Rv_rollback_24 (by decide) ?_
    obtain rfl := Option.some.inj hf
    exact x_iret hx hb hr hlocks hK hP hD hS (Nat.le_of_ble_eq_true rfl) (Nat.le_of_ble_eq_true rfl) d_Rv_rollback_25
  · dsimp only at hf
    obtain rfl := Option.some.inj hf
    exact x_out (w2 := (w_Rv cI cJ cZ rh sh mh m0 m1 m2 m3 dh d0 d1 d2 d3 ea cb ch be U4)) (x_noteV ⟨hx, hb, hml, hown, hts⟩ (c_Rv_demandActive l D cI cJ cZ rh sh mh m0 m1 m2 m3 dh d0 d1 d2 d3 ea cb ch be hL0 N p0 U (Sum.inr E3, U4) hz1) (x_cwV 1 hts rfl k_134 k_135 k_136 k_23 k_137 (by decide +kernel) ⟨(Nat.le_of_ble_eq_true rfl), (Nat.le_of_ble_eq_true rfl)⟩) hK (x_cut hP hD hK hS hA hZ [0, 1, 2, 3, 4, 5, 6, 7, 8, 9, 10, 11, 12, 13, 14, 15] (by decide) rfl).1 (x_cut hP hD hK hS hA hZ [0, 1, 2, 3, 4, 5, 6, 7, 8, 9, 10, 11, 12, 13, 14, 15] (by decide) rfl).2 (ci := 2) rfl rfl rfl hl.1 rfl (Nat.le_of_ble_eq_true rfl) d_Rv_rollback_2 ⟨(Nat.le_of_ble_eq_true rfl), (Nat.le_of_ble_eq_true rfl)⟩) hlocks hno hK hP hD hS hA [0, 1, 2, 3, 4, 5, 6, 7, 8, 9, 10, 11, 12, 13, 14, 15] [] [0, 1, 2, 3, 4, 5, 6, 7, 8, 9, 10, 11, 12, 13, 14, 15] rfl rfl (by decide) (by decide) (by decide) rfl (Nat.le_of_ble_eq_true rfl) (Nat.le_of_ble_eq_true rfl)
set_option maxHeartbeats 4000000 in
set_option maxRecDepth 100000 in
theorem c_Rv_committedForAll (l : Launch) (D : va_G) (cI cJ cZ : ClassId) (rh sh mh m0 m1 m2 m3 dh d0 d1 d2 d3 ea cb ch be : Nat) (N : Nat) (U : K_Rv) (r : (Int64 × K_Rv)) (hf : f_Rv_committedForAll N U = some r) : Cx l y_Rv_committedForAll ws_Rv_committedForAll rm_Rv_committedForAll D vwCl (tyL cI cJ cZ) [.ref rh] (w_Rv cI cJ cZ rh sh mh m0 m1 m2 m3 dh d0 d1 d2 d3 ea cb ch be U) (oL r.1) (w_Rv cI cJ cZ rh sh mh m0 m1 m2 m3 dh d0 d1 d2 d3 ea cb ch be r.2) := by
  unfold f_Rv_committedForAll at hf
  refine Cx.ofW (cc := b_Rv_committedForAll) (maxL := 4) (ret := (some .long)) (by decide) rfl ?_
  intro p e s m below meth c A C0 hP hK hD hA hns hZ
  obtain ⟨hx, hb, hml, hown, hts0, hr, hlocks, hnm, hno⟩ := C0
  have hown : s.vm.findClass R_Rv = some m.cls := hown
  have hts : ∀ w ∈ tb, w.before [.ref rh].toArray s = true := fun w h => hts0 w (List.mem_cons_of_mem _ h)
  have hS : va_S A s.heap s.heap [] := va_S.rf
  have hl := lv_entry ([.ref rh]) (n := 4) (Nat.le_of_ble_eq_true rfl)
  rw [lg_entry_eq]
  generalize (lg_sl ([.ref rh]) ++ List.replicate (4 - (lg_sl ([.ref rh])).length) Slot.unset).toArray = ls at hl ⊢
  have hl : lv_has ls 4 [(0, .ref rh)] := hl
  have L_10 : ∀ n : Nat, ∀ (x1 : Int64) (x3 : Int32) (U : K_Rv), f_Rv_committedForAll_10 N n x1 x3 U = some r → ∀ (H : Heap) (locs : List Loc) (ls : Array Slot), va_P D vwCl (w_Rv cI cJ cZ rh sh mh m0 m1 m2 m3 dh d0 d1 d2 d3 ea cb ch be U) H → va_D A (w_Rv cI cJ cZ rh sh mh m0 m1 m2 m3 dh d0 d1 d2 d3 ea cb ch be U) → va_S A s.heap H locs → lv_has ls 4 [(0, .ref rh), (1, .long x1), (3, .int x3)] → W p l e (rm_Rv_committedForAll) s m [.ref rh].toArray below meth c H locs 0 0 (xQ D vwCl (tyL cI cJ cZ) below s A (oL r.1) (w_Rv cI cJ cZ rh sh mh m0 m1 m2 m3 dh d0 d1 d2 d3 ea cb ch be r.2) (rm_Rv_committedForAll).cells (rm_Rv_committedForAll).slots) (F0 m 10 ls []) := by
    intro n
    induction n with
    | zero =>
      intro x1 x3 U hf
      have hf : (none : Option (Int64 × K_Rv)) = some r := hf
      cases hf
    | succ n ih =>
      intro x1 x3 U hf H locs ls hP hD hS hl
      rw [f_Rv_committedForAll_10] at hf
      refine lv_iload_n hx hb d_Rv_committedForAll_10 rfl (lv_at hl 2 rfl) ?_
      refine lv_bipush (v := (40 : Int32)) hx hb d_Rv_committedForAll_11 (by decide) ?_
      refine lv_icmp_gt (tgt := 44) hx hb d_Rv_committedForAll_13 (by decide) (fun c5 => ?_) (fun c5 => ?_)
      · have hf := x_ifp c5 hf
        refine lv_lload_n hx hb d_Rv_committedForAll_44 rfl (lv_at hl 1 rfl) ?_
        obtain rfl := Option.some.inj hf
        exact x_lret hx hb hr hlocks hK hP hD hS (Nat.le_of_ble_eq_true rfl) (Nat.le_of_ble_eq_true rfl) d_Rv_committedForAll_45
      · have hf := x_ifn c5 hf
        refine lv_aload_n hx hb d_Rv_committedForAll_16 rfl (lv_at hl 0 rfl) ?_
        refine va_get (D := D) (ci := 2) (v := .ref mh) (C := R_Rv) (T := F_Rv) (N := 5) hx hb hts i_Rv hown hK hP 0 rfl rfl 1 (by decide) (hts _ k_92) (fun _ h9 => h9) rfl d_Rv_committedForAll_17 ?_
        refine va_get (D := D) (ci := 0) (v := .ref m3) (C := R_Co) (T := F_Co) (N := 4) hx hb hts i_Co hown hK hP 2 rfl rfl 3 (by decide) (hts _ k_99) (fun _ h9 => h9) rfl d_Rv_committedForAll_20 ?_
        refine lv_iload_n hx hb d_Rv_committedForAll_23 rfl (lv_at hl 2 rfl) ?_
        obtain ⟨g2, hf⟩ := x_if hf
        refine va_iald hx hb hK hP 6 0 rfl rfl (xi_in g2) d_Rv_committedForAll_24 ?_
        refine lv_iconst (v := (1 : Int32)) hx hb d_Rv_committedForAll_25 (by decide) ?_
        refine lv_icmp_ne (tgt := 38) hx hb d_Rv_committedForAll_26 (by decide) (fun c4 => ?_) (fun c4 => ?_)
        · have hf := x_ifn c4 hf
          refine lv_iinc (v := (x3 + (1 : Int32))) (lv' := [(3, .int (x3 + (1 : Int32))), (0, .ref rh), (1, .long x1)]) hx hb d_Rv_committedForAll_38 hl (k := 2) rfl rfl (by decide) rfl (fun ls hl => ?_)
          refine lv_goto (tgt := 10) hx hb d_Rv_committedForAll_41 (by decide) ?_
          exact ih _ _ _ hf _ _ _ hP hD hS (lv_sub hl [1, 2, 0] rfl)
        · have hf := x_ifp c4 hf
          refine lv_lload_n hx hb d_Rv_committedForAll_29 rfl (lv_at hl 1 rfl) ?_
          refine lv_aload_n hx hb d_Rv_committedForAll_30 rfl (lv_at hl 0 rfl) ?_
          refine va_get (D := D) (ci := 2) (v := .ref cb) (C := R_Rv) (T := F_Rv) (N := 5) hx hb hts i_Rv hown hK hP 0 rfl rfl 2 (by decide) (hts _ k_94) (fun _ h9 => h9) rfl d_Rv_committedForAll_31 ?_
          refine lv_iload_n hx hb d_Rv_committedForAll_34 rfl (lv_at hl 2 rfl) ?_
          obtain ⟨g3, hf⟩ := x_if hf
          refine va_lald hx hb hK hP 13 1 rfl rfl (xi_in g3) d_Rv_committedForAll_35 ?_
          refine lv_land hx hb d_Rv_committedForAll_36 ?_
          refine lv_lstore_n (lv' := [(1, .long (x1 &&& (U.2.1 x3.toNatClampNeg))), (0, .ref rh), (3, .int x3)]) hx hb d_Rv_committedForAll_37 rfl hl (by decide) rfl (fun ls hl => ?_)
          refine lv_iinc (v := (x3 + (1 : Int32))) (lv' := [(3, .int (x3 + (1 : Int32))), (1, .long (x1 &&& (U.2.1 x3.toNatClampNeg))), (0, .ref rh)]) hx hb d_Rv_committedForAll_38 hl (k := 2) rfl rfl (by decide) rfl (fun ls hl => ?_)
          refine lv_goto (tgt := 10) hx hb d_Rv_committedForAll_41 (by decide) ?_
          exact ih _ _ _ hf _ _ _ hP hD hS (lv_sub hl [2, 1, 0] rfl)
  refine lv_aload_n hx hb d_Rv_committedForAll_0 rfl (lv_at hl 0 rfl) ?_
  refine va_get (D := D) (ci := 2) (v := .ref mh) (C := R_Rv) (T := F_Rv) (N := 5) hx hb hts i_Rv hown hK hP 0 rfl rfl 1 (by decide) (hts _ k_92) (fun _ h9 => h9) rfl d_Rv_committedForAll_1 ?_
  obtain ⟨z1, hz1, hf⟩ := x_bind hf
  refine x_callV (w2 := (w_Rv cI cJ cZ rh sh mh m0 m1 m2 m3 dh d0 d1 d2 d3 ea cb ch be ((z1.2, U.1.2), U.2))) ⟨hx, hb, hml, hown, hts⟩ (c_Co_committed l D cI cJ cZ mh m0 m1 m2 m3 N  U.1.1 z1 hz1) (x_cwV 0 hts rfl k_102 k_103 k_104 k_11 k_105 (by decide +kernel) ⟨(Nat.le_of_ble_eq_true rfl), (Nat.le_of_ble_eq_true rfl)⟩) hK hP hD hS hA hZ [2, 3, 4, 5, 6] [0, 1, 7, 8, 9, 10, 11, 12, 13, 14, 15] [0, 1, 11, 12, 13, 14, 15, 2, 3, 4, 5, 6, 7, 8, 9, 10] (by decide) rfl rfl (by decide) (by decide) (by decide) rfl (ci := 0) rfl rfl rfl hl.1 rfl (Nat.le_of_ble_eq_true rfl) d_Rv_committedForAll_4 ⟨(Nat.le_of_ble_eq_true rfl), (Nat.le_of_ble_eq_true rfl)⟩ (fun H locs hP hD hS => ?_)
  refine W.eq (g2 := F0 m 7 ls [.long z1.1]) rfl ?_
  refine lv_lstore_n (lv' := [(1, .long z1.1), (0, .ref rh)]) hx hb d_Rv_committedForAll_7 rfl hl (by decide) rfl (fun ls hl => ?_)
  refine lv_iconst (v := (1 : Int32)) hx hb d_Rv_committedForAll_8 (by decide) ?_
  refine lv_istore_n (lv' := [(3, .int (1 : Int32)), (1, .long z1.1), (0, .ref rh)]) hx hb d_Rv_committedForAll_9 rfl hl (by decide) rfl (fun ls hl => ?_)
  exact L_10 _ _ _ _ hf _ _ _ hP hD hS (lv_sub hl [2, 1, 0] rfl)
set_option maxHeartbeats 4000000 in
set_option maxRecDepth 100000 in
theorem c_Rv_cutBehind (l : Launch) (D : va_G) (cI cJ cZ : ClassId) (rh sh mh m0 m1 m2 m3 dh d0 d1 d2 d3 ea cb ch be : Nat) (N : Nat) (p0 : Int32) (p1 : Int32) (U : K_Rv) (r : (Int32 × K_Rv)) (hf : f_Rv_cutBehind N p0 p1 U = some r) : Cx l y_Rv_cutBehind ws_Rv_cutBehind rm_Rv_cutBehind D vwCl (tyL cI cJ cZ) [.ref rh, .int p0, .int p1] (w_Rv cI cJ cZ rh sh mh m0 m1 m2 m3 dh d0 d1 d2 d3 ea cb ch be U) (oI r.1) (w_Rv cI cJ cZ rh sh mh m0 m1 m2 m3 dh d0 d1 d2 d3 ea cb ch be r.2) := by
  unfold f_Rv_cutBehind at hf
  refine Cx.ofW (cc := b_Rv_cutBehind) (maxL := 6) (ret := (some .int)) (by decide) rfl ?_
  intro p e s m below meth c A C0 hP hK hD hA hns hZ
  obtain ⟨hx, hb, hml, hown, hts0, hr, hlocks, hnm, hno⟩ := C0
  have hown : s.vm.findClass R_Rv = some m.cls := hown
  have hts : ∀ w ∈ tb, w.before [.ref rh, .int p0, .int p1].toArray s = true := fun w h => hts0 w (List.mem_cons_of_mem _ h)
  have hS : va_S A s.heap s.heap [] := va_S.rf
  have hl := lv_entry ([.ref rh, .int p0, .int p1]) (n := 6) (Nat.le_of_ble_eq_true rfl)
  rw [lg_entry_eq]
  generalize (lg_sl ([.ref rh, .int p0, .int p1]) ++ List.replicate (6 - (lg_sl ([.ref rh, .int p0, .int p1])).length) Slot.unset).toArray = ls at hl ⊢
  have hl : lv_has ls 6 [(0, .ref rh), (1, .int p0), (2, .int p1)] := hl
  have L_50 : ∀ n : Nat, ∀ (x1 : Int32) (x2 : Int32) (x3 : Int32) (x4 : Int32) (U : K_Rv), f_Rv_cutBehind_50 N n x1 x2 x3 x4 U = some r → ∀ (H : Heap) (locs : List Loc) (ls : Array Slot), va_P D vwCl (w_Rv cI cJ cZ rh sh mh m0 m1 m2 m3 dh d0 d1 d2 d3 ea cb ch be U) H → va_D A (w_Rv cI cJ cZ rh sh mh m0 m1 m2 m3 dh d0 d1 d2 d3 ea cb ch be U) → va_S A s.heap H locs → lv_has ls 6 [(0, .ref rh), (1, .int x1), (2, .int x2), (3, .int x3), (4, .int x4)] → W p l e (rm_Rv_cutBehind) s m [.ref rh, .int p0, .int p1].toArray below meth c H locs 0 0 (xQ D vwCl (tyL cI cJ cZ) below s A (oI r.1) (w_Rv cI cJ cZ rh sh mh m0 m1 m2 m3 dh d0 d1 d2 d3 ea cb ch be r.2) (rm_Rv_cutBehind).cells (rm_Rv_cutBehind).slots) (F0 m 50 ls []) := by
    intro n
    induction n with
    | zero =>
      intro x1 x2 x3 x4 U hf
      have hf : (none : Option (Int32 × K_Rv)) = some r := hf
      cases hf
    | succ n ih =>
      intro x1 x2 x3 x4 U hf H locs ls hP hD hS hl
      rw [f_Rv_cutBehind_50] at hf
      refine lv_iload hx hb d_Rv_cutBehind_50 (lv_at hl 4 rfl) ?_
      refine lv_iload_n hx hb d_Rv_cutBehind_52 rfl (lv_at hl 3 rfl) ?_
      refine lv_icmp_ge (tgt := 133) hx hb d_Rv_cutBehind_53 (by decide) (fun c15 => ?_) (fun c15 => ?_)
      · have hf := x_ifp c15 hf
        refine lv_iload_n hx hb d_Rv_cutBehind_133 rfl (lv_at hl 3 rfl) ?_
        obtain rfl := Option.some.inj hf
        exact x_iret hx hb hr hlocks hK hP hD hS (Nat.le_of_ble_eq_true rfl) (Nat.le_of_ble_eq_true rfl) d_Rv_cutBehind_134
      · have hf := x_ifn c15 hf
        refine lv_aload_n hx hb d_Rv_cutBehind_56 rfl (lv_at hl 0 rfl) ?_
        refine va_get (D := D) (ci := 2) (v := .ref be) (C := R_Rv) (T := F_Rv) (N := 5) hx hb hts i_Rv hown hK hP 0 rfl rfl 4 (by decide) (hts _ k_96) (fun _ h9 => h9) rfl d_Rv_cutBehind_57 ?_
        refine lv_iload hx hb d_Rv_cutBehind_60 (lv_at hl 4 rfl) ?_
        obtain ⟨g3, hf⟩ := x_if hf
        refine va_iald hx hb hK hP 15 0 rfl rfl (xi_in g3) d_Rv_cutBehind_62 ?_
        refine lv_istore (lv' := [(5, .int (U.2.2.2 x4.toNatClampNeg)), (0, .ref rh), (1, .int x1), (2, .int x2), (3, .int x3), (4, .int x4)]) hx hb d_Rv_cutBehind_63 hl (by decide) rfl (fun ls hl => ?_)
        refine lv_aload_n hx hb d_Rv_cutBehind_65 rfl (lv_at hl 1 rfl) ?_
        refine va_get (D := D) (ci := 2) (v := .ref sh) (C := R_Rv) (T := F_Rv) (N := 5) hx hb hts i_Rv hown hK hP 0 rfl rfl 0 (by decide) (hts _ k_90) (fun _ h9 => h9) rfl d_Rv_cutBehind_66 ?_
        refine lv_iload_n hx hb d_Rv_cutBehind_69 rfl (lv_at hl 2 rfl) ?_
        obtain ⟨z4, hz4, hf⟩ := x_bind hf
        refine x_callS (w2 := (w_Rv cI cJ cZ rh sh mh m0 m1 m2 m3 dh d0 d1 d2 d3 ea cb ch be U)) ⟨hx, hb, hml, hown, hts⟩ (c_Rv_pageOf l D cI cJ cZ  N x1  z4 hz4) (x_cwS 1 hts rfl k_143 k_144 k_23 k_145 (by decide +kernel) ⟨(Nat.le_of_ble_eq_true rfl), (Nat.le_of_ble_eq_true rfl)⟩) hK hP hD hS hA hZ [] [0, 1, 2, 3, 4, 5, 6, 7, 8, 9, 10, 11, 12, 13, 14, 15] [0, 1, 2, 3, 4, 5, 6, 7, 8, 9, 10, 11, 12, 13, 14, 15] (by decide) rfl rfl (by decide) (by decide) (by decide) rfl rfl hl.1 rfl (Nat.le_of_ble_eq_true rfl) d_Rv_cutBehind_70 ⟨(Nat.le_of_ble_eq_true rfl), (Nat.le_of_ble_eq_true rfl)⟩ (fun H locs hP hD hS => ?_)
        refine W.eq (g2 := F0 m 73 ls [.int z4, .ref sh]) rfl ?_
        refine lv_iload hx hb d_Rv_cutBehind_73 (lv_at hl 0 rfl) ?_
        obtain ⟨z5, hz5, hf⟩ := x_bind hf
        refine x_callS (w2 := (w_Rv cI cJ cZ rh sh mh m0 m1 m2 m3 dh d0 d1 d2 d3 ea cb ch be U)) ⟨hx, hb, hml, hown, hts⟩ (c_Rv_pageOf l D cI cJ cZ  N (U.2.2.2 x4.toNatClampNeg)  z5 hz5) (x_cwS 1 hts rfl k_143 k_144 k_23 k_145 (by decide +kernel) ⟨(Nat.le_of_ble_eq_true rfl), (Nat.le_of_ble_eq_true rfl)⟩) hK hP hD hS hA hZ [] [0, 1, 2, 3, 4, 5, 6, 7, 8, 9, 10, 11, 12, 13, 14, 15] [0, 1, 2, 3, 4, 5, 6, 7, 8, 9, 10, 11, 12, 13, 14, 15] (by decide) rfl rfl (by decide) (by decide) (by decide) rfl rfl hl.1 rfl (Nat.le_of_ble_eq_true rfl) d_Rv_cutBehind_75 ⟨(Nat.le_of_ble_eq_true rfl), (Nat.le_of_ble_eq_true rfl)⟩ (fun H locs hP hD hS => ?_)
        refine W.eq (g2 := F0 m 78 ls [.int z5, .int z4, .ref sh]) rfl ?_
        obtain ⟨z6, hz6, hf⟩ := x_bind hf
        refine x_callV (w2 := (w_Rv cI cJ cZ rh sh mh m0 m1 m2 m3 dh d0 d1 d2 d3 ea cb ch be (z6.2, U.2))) ⟨hx, hb, hml, hown, hts⟩ (c_St_note l D cI cJ cZ sh mh m0 m1 m2 m3 dh d0 d1 d2 d3 ea N z4 z5 U.1 z6 hz6) (x_cwV 2 hts rfl k_154 k_155 k_156 k_55 k_157 (by decide +kernel) ⟨(Nat.le_of_ble_eq_true rfl), (Nat.le_of_ble_eq_true rfl)⟩) hK hP hD hS hA hZ [1, 2, 3, 4, 5, 6, 7, 8, 9, 10, 11, 12] [0, 13, 14, 15] [0, 4, 5, 6, 7, 8, 9, 10, 11, 12, 13, 14, 15, 1, 2, 3] (by decide) rfl rfl (by decide) (by decide) (by decide) rfl (ci := 1) rfl rfl rfl hl.1 rfl (Nat.le_of_ble_eq_true rfl) d_Rv_cutBehind_78 ⟨(Nat.le_of_ble_eq_true rfl), (Nat.le_of_ble_eq_true rfl)⟩ (fun H locs hP hD hS => ?_)
        refine W.eq (g2 := F0 m 81 ls [.int z6.1]) rfl ?_
        refine lv_if_eq (tgt := 103) hx hb d_Rv_cutBehind_81 (by decide) (fun c14 => ?_) (fun c14 => ?_)
        · have hf := x_ifp c14 hf
          refine lv_bipush (v := (-9 : Int32)) hx hb d_Rv_cutBehind_103 (by decide) ?_
          obtain rfl := Option.some.inj hf
          exact x_iret hx hb hr hlocks hK hP hD hS (Nat.le_of_ble_eq_true rfl) (Nat.le_of_ble_eq_true rfl) d_Rv_cutBehind_105
        · have hf := x_ifn c14 hf
          refine lv_aload_n hx hb d_Rv_cutBehind_84 rfl (lv_at hl 1 rfl) ?_
          refine va_get (D := D) (ci := 2) (v := .ref sh) (C := R_Rv) (T := F_Rv) (N := 5) hx hb hts i_Rv hown hK hP 0 rfl rfl 0 (by decide) (hts _ k_90) (fun _ h9 => h9) rfl d_Rv_cutBehind_85 ?_
          refine lv_iload_n hx hb d_Rv_cutBehind_88 rfl (lv_at hl 3 rfl) ?_
          obtain ⟨z7, hz7, hf⟩ := x_bind hf
          refine x_callS (w2 := (w_Rv cI cJ cZ rh sh mh m0 m1 m2 m3 dh d0 d1 d2 d3 ea cb ch be (z6.2, U.2))) ⟨hx, hb, hml, hown, hts⟩ (c_Rv_pageOf l D cI cJ cZ  N x2  z7 hz7) (x_cwS 1 hts rfl k_143 k_144 k_23 k_145 (by decide +kernel) ⟨(Nat.le_of_ble_eq_true rfl), (Nat.le_of_ble_eq_true rfl)⟩) hK hP hD hS hA hZ [] [0, 1, 2, 3, 4, 5, 6, 7, 8, 9, 10, 11, 12, 13, 14, 15] [0, 1, 2, 3, 4, 5, 6, 7, 8, 9, 10, 11, 12, 13, 14, 15] (by decide) rfl rfl (by decide) (by decide) (by decide) rfl rfl hl.1 rfl (Nat.le_of_ble_eq_true rfl) d_Rv_cutBehind_89 ⟨(Nat.le_of_ble_eq_true rfl), (Nat.le_of_ble_eq_true rfl)⟩ (fun H locs hP hD hS => ?_)
          refine W.eq (g2 := F0 m 92 ls [.int z7, .ref sh]) rfl ?_
          refine lv_iload hx hb d_Rv_cutBehind_92 (lv_at hl 0 rfl) ?_
          obtain ⟨z8, hz8, hf⟩ := x_bind hf
          refine x_callS (w2 := (w_Rv cI cJ cZ rh sh mh m0 m1 m2 m3 dh d0 d1 d2 d3 ea cb ch be (z6.2, U.2))) ⟨hx, hb, hml, hown, hts⟩ (c_Rv_pageOf l D cI cJ cZ  N (U.2.2.2 x4.toNatClampNeg)  z8 hz8) (x_cwS 1 hts rfl k_143 k_144 k_23 k_145 (by decide +kernel) ⟨(Nat.le_of_ble_eq_true rfl), (Nat.le_of_ble_eq_true rfl)⟩) hK hP hD hS hA hZ [] [0, 1, 2, 3, 4, 5, 6, 7, 8, 9, 10, 11, 12, 13, 14, 15] [0, 1, 2, 3, 4, 5, 6, 7, 8, 9, 10, 11, 12, 13, 14, 15] (by decide) rfl rfl (by decide) (by decide) (by decide) rfl rfl hl.1 rfl (Nat.le_of_ble_eq_true rfl) d_Rv_cutBehind_94 ⟨(Nat.le_of_ble_eq_true rfl), (Nat.le_of_ble_eq_true rfl)⟩ (fun H locs hP hD hS => ?_)
          refine W.eq (g2 := F0 m 97 ls [.int z8, .int z7, .ref sh]) rfl ?_
          obtain ⟨z9, hz9, hf⟩ := x_bind hf
          refine x_callV (w2 := (w_Rv cI cJ cZ rh sh mh m0 m1 m2 m3 dh d0 d1 d2 d3 ea cb ch be (z9.2, U.2))) ⟨hx, hb, hml, hown, hts⟩ (c_St_note l D cI cJ cZ sh mh m0 m1 m2 m3 dh d0 d1 d2 d3 ea N z7 z8 z6.2 z9 hz9) (x_cwV 2 hts rfl k_154 k_155 k_156 k_55 k_157 (by decide +kernel) ⟨(Nat.le_of_ble_eq_true rfl), (Nat.le_of_ble_eq_true rfl)⟩) hK hP hD hS hA hZ [1, 2, 3, 4, 5, 6, 7, 8, 9, 10, 11, 12] [0, 13, 14, 15] [0, 4, 5, 6, 7, 8, 9, 10, 11, 12, 13, 14, 15, 1, 2, 3] (by decide) rfl rfl (by decide) (by decide) (by decide) rfl (ci := 1) rfl rfl rfl hl.1 rfl (Nat.le_of_ble_eq_true rfl) d_Rv_cutBehind_97 ⟨(Nat.le_of_ble_eq_true rfl), (Nat.le_of_ble_eq_true rfl)⟩ (fun H locs hP hD hS => ?_)
          refine W.eq (g2 := F0 m 100 ls [.int z9.1]) rfl ?_
          refine lv_if_ne (tgt := 106) hx hb d_Rv_cutBehind_100 (by decide) (fun c13 => ?_) (fun c13 => ?_)
          · have hf := x_ifn c13 hf
            refine lv_aload_n hx hb d_Rv_cutBehind_106 rfl (lv_at hl 1 rfl) ?_
            refine va_get (D := D) (ci := 2) (v := .ref mh) (C := R_Rv) (T := F_Rv) (N := 5) hx hb hts i_Rv hown hK hP 0 rfl rfl 1 (by decide) (hts _ k_92) (fun _ h9 => h9) rfl d_Rv_cutBehind_107 ?_
            refine lv_iload hx hb d_Rv_cutBehind_110 (lv_at hl 0 rfl) ?_
            obtain ⟨z10, hz10, hf⟩ := x_bind hf
            refine x_callV (w2 := (w_Rv cI cJ cZ rh sh mh m0 m1 m2 m3 dh d0 d1 d2 d3 ea cb ch be ((z10.2, z9.2.2), U.2))) ⟨hx, hb, hml, hown, hts⟩ (c_Co_empty l D cI cJ cZ mh m0 m1 m2 m3 N (U.2.2.2 x4.toNatClampNeg) z9.2.1 z10 hz10) (x_cwV 1 hts rfl k_146 k_147 k_148 k_11 k_149 (by decide +kernel) ⟨(Nat.le_of_ble_eq_true rfl), (Nat.le_of_ble_eq_true rfl)⟩) hK hP hD hS hA hZ [2, 3, 4, 5, 6] [0, 1, 7, 8, 9, 10, 11, 12, 13, 14, 15] [0, 1, 11, 12, 13, 14, 15, 2, 3, 4, 5, 6, 7, 8, 9, 10] (by decide) rfl rfl (by decide) (by decide) (by decide) rfl (ci := 0) rfl rfl rfl hl.1 rfl (Nat.le_of_ble_eq_true rfl) d_Rv_cutBehind_112 ⟨(Nat.le_of_ble_eq_true rfl), (Nat.le_of_ble_eq_true rfl)⟩ (fun H locs hP hD hS => ?_)
            refine W.eq (g2 := F0 m 115 ls []) rfl ?_
            refine lv_aload_n hx hb d_Rv_cutBehind_115 rfl (lv_at hl 1 rfl) ?_
            refine va_get (D := D) (ci := 2) (v := .ref sh) (C := R_Rv) (T := F_Rv) (N := 5) hx hb hts i_Rv hown hK hP 0 rfl rfl 0 (by decide) (hts _ k_90) (fun _ h9 => h9) rfl d_Rv_cutBehind_116 ?_
            refine lv_iload hx hb d_Rv_cutBehind_119 (lv_at hl 0 rfl) ?_
            obtain ⟨z11, hz11, hf⟩ := x_bind hf
            refine x_callS (w2 := (w_Rv cI cJ cZ rh sh mh m0 m1 m2 m3 dh d0 d1 d2 d3 ea cb ch be ((z10.2, z9.2.2), U.2))) ⟨hx, hb, hml, hown, hts⟩ (c_Rv_pageOf l D cI cJ cZ  N (U.2.2.2 x4.toNatClampNeg)  z11 hz11) (x_cwS 1 hts rfl k_143 k_144 k_23 k_145 (by decide +kernel) ⟨(Nat.le_of_ble_eq_true rfl), (Nat.le_of_ble_eq_true rfl)⟩) hK hP hD hS hA hZ [] [0, 1, 2, 3, 4, 5, 6, 7, 8, 9, 10, 11, 12, 13, 14, 15] [0, 1, 2, 3, 4, 5, 6, 7, 8, 9, 10, 11, 12, 13, 14, 15] (by decide) rfl rfl (by decide) (by decide) (by decide) rfl rfl hl.1 rfl (Nat.le_of_ble_eq_true rfl) d_Rv_cutBehind_121 ⟨(Nat.le_of_ble_eq_true rfl), (Nat.le_of_ble_eq_true rfl)⟩ (fun H locs hP hD hS => ?_)
            refine W.eq (g2 := F0 m 124 ls [.int z11, .ref sh]) rfl ?_
            obtain ⟨z12, hz12, hf⟩ := x_bind hf
            refine x_callV (w2 := (w_Rv cI cJ cZ rh sh mh m0 m1 m2 m3 dh d0 d1 d2 d3 ea cb ch be (z12.2, U.2))) ⟨hx, hb, hml, hown, hts⟩ (c_St_changed l D cI cJ cZ sh mh m0 m1 m2 m3 dh d0 d1 d2 d3 ea N z11 (z10.2, z9.2.2) z12 hz12) (x_cwV 1 hts rfl k_101 k_64 k_65 k_55 k_66 (by decide +kernel) ⟨(Nat.le_of_ble_eq_true rfl), (Nat.le_of_ble_eq_true rfl)⟩) hK hP hD hS hA hZ [1, 2, 3, 4, 5, 6, 7, 8, 9, 10, 11, 12] [0, 13, 14, 15] [0, 4, 5, 6, 7, 8, 9, 10, 11, 12, 13, 14, 15, 1, 2, 3] (by decide) rfl rfl (by decide) (by decide) (by decide) rfl (ci := 1) rfl rfl rfl hl.1 rfl (Nat.le_of_ble_eq_true rfl) d_Rv_cutBehind_124 ⟨(Nat.le_of_ble_eq_true rfl), (Nat.le_of_ble_eq_true rfl)⟩ (fun H locs hP hD hS => ?_)
            refine W.eq (g2 := F0 m 127 ls []) rfl ?_
            refine lv_iinc (v := (x4 + (1 : Int32))) (lv' := [(4, .int (x4 + (1 : Int32))), (5, .int (U.2.2.2 x4.toNatClampNeg)), (0, .ref rh), (1, .int x1), (2, .int x2), (3, .int x3)]) hx hb d_Rv_cutBehind_127 hl (k := 5) rfl rfl (by decide) rfl (fun ls hl => ?_)
            refine lv_goto (tgt := 50) hx hb d_Rv_cutBehind_130 (by decide) ?_
            exact ih _ _ _ _ _ hf _ _ _ hP hD hS (lv_sub hl [2, 3, 4, 5, 0] rfl)
          · have hf := x_ifp c13 hf
            refine lv_bipush (v := (-9 : Int32)) hx hb d_Rv_cutBehind_103 (by decide) ?_
            obtain rfl := Option.some.inj hf
            exact x_iret hx hb hr hlocks hK hP hD hS (Nat.le_of_ble_eq_true rfl) (Nat.le_of_ble_eq_true rfl) d_Rv_cutBehind_105
  refine lv_aload_n hx hb d_Rv_cutBehind_0 rfl (lv_at hl 0 rfl) ?_
  refine va_get (D := D) (ci := 2) (v := .ref mh) (C := R_Rv) (T := F_Rv) (N := 5) hx hb hts i_Rv hown hK hP 0 rfl rfl 1 (by decide) (hts _ k_92) (fun _ h9 => h9) rfl d_Rv_cutBehind_1 ?_
  refine lv_iload_n hx hb d_Rv_cutBehind_4 rfl (lv_at hl 2 rfl) ?_
  refine lv_aload_n hx hb d_Rv_cutBehind_5 rfl (lv_at hl 0 rfl) ?_
  refine va_get (D := D) (ci := 2) (v := .ref be) (C := R_Rv) (T := F_Rv) (N := 5) hx hb hts i_Rv hown hK hP 0 rfl rfl 4 (by decide) (hts _ k_96) (fun _ h9 => h9) rfl d_Rv_cutBehind_6 ?_
  obtain ⟨z1, hz1, hf⟩ := x_bind hf
  refine x_callV (w2 := (w_Rv cI cJ cZ rh sh mh m0 m1 m2 m3 dh d0 d1 d2 d3 ea cb ch be ((z1.2.1, U.1.2), (U.2.1, (U.2.2.1, z1.2.2))))) ⟨hx, hb, hml, hown, hts⟩ (c_Co_chainBehind l D cI cJ cZ mh m0 m1 m2 m3 be N p1 (U.1.1, U.2.2.2) z1 hz1) (x_cwV 2 hts rfl k_190 k_191 k_192 k_11 k_193 (by decide +kernel) ⟨(Nat.le_of_ble_eq_true rfl), (Nat.le_of_ble_eq_true rfl)⟩) hK hP hD hS hA hZ [2, 3, 4, 5, 6, 15] [0, 1, 7, 8, 9, 10, 11, 12, 13, 14] [0, 1, 10, 11, 12, 13, 14, 2, 3, 4, 5, 6, 7, 8, 9, 15] (by decide) rfl rfl (by decide) (by decide) (by decide) rfl (ci := 0) rfl rfl rfl hl.1 rfl (Nat.le_of_ble_eq_true rfl) d_Rv_cutBehind_9 ⟨(Nat.le_of_ble_eq_true rfl), (Nat.le_of_ble_eq_true rfl)⟩ (fun H locs hP hD hS => ?_)
  refine W.eq (g2 := F0 m 12 ls [.int z1.1]) rfl ?_
  refine lv_istore_n (lv' := [(3, .int z1.1), (0, .ref rh), (1, .int p0), (2, .int p1)]) hx hb d_Rv_cutBehind_12 rfl hl (by decide) rfl (fun ls hl => ?_)
  refine lv_aload_n hx hb d_Rv_cutBehind_13 rfl (lv_at hl 1 rfl) ?_
  refine va_get (D := D) (ci := 2) (v := .ref mh) (C := R_Rv) (T := F_Rv) (N := 5) hx hb hts i_Rv hown hK hP 0 rfl rfl 1 (by decide) (hts _ k_92) (fun _ h9 => h9) rfl d_Rv_cutBehind_14 ?_
  refine va_get (D := D) (ci := 0) (v := .ref m2) (C := R_Co) (T := F_Co) (N := 4) hx hb hts i_Co hown hK hP 2 rfl rfl 2 (by decide) (hts _ k_142) (fun _ h9 => h9) rfl d_Rv_cutBehind_17 ?_
  refine lv_iload_n hx hb d_Rv_cutBehind_20 rfl (lv_at hl 3 rfl) ?_
  obtain ⟨g2, hf⟩ := x_if hf
  refine va_iald hx hb hK hP 5 0 rfl rfl (xi_in g2) d_Rv_cutBehind_21 ?_
  refine lv_iconst (v := (-1 : Int32)) hx hb d_Rv_cutBehind_22 (by decide) ?_
  refine lv_icmp_eq (tgt := 47) hx hb d_Rv_cutBehind_23 (by decide) (fun c19 => ?_) (fun c19 => ?_)
  · have hf := x_ifp c19 hf
    refine lv_iconst (v := (0 : Int32)) hx hb d_Rv_cutBehind_47 (by decide) ?_
    refine lv_istore (lv' := [(4, .int (0 : Int32)), (3, .int z1.1), (0, .ref rh), (1, .int p0), (2, .int p1)]) hx hb d_Rv_cutBehind_48 hl (by decide) rfl (fun ls hl => ?_)
    exact L_50 _ _ _ _ _ _ hf _ _ _ hP hD hS (lv_sub hl [2, 3, 4, 1, 0] rfl)
  · have hf := x_ifn c19 hf
    refine lv_aload_n hx hb d_Rv_cutBehind_26 rfl (lv_at hl 1 rfl) ?_
    refine va_get (D := D) (ci := 2) (v := .ref mh) (C := R_Rv) (T := F_Rv) (N := 5) hx hb hts i_Rv hown hK hP 0 rfl rfl 1 (by decide) (hts _ k_92) (fun _ h9 => h9) rfl d_Rv_cutBehind_27 ?_
    refine va_get (D := D) (ci := 0) (v := .ref m2) (C := R_Co) (T := F_Co) (N := 4) hx hb hts i_Co hown hK hP 2 rfl rfl 2 (by decide) (hts _ k_142) (fun _ h9 => h9) rfl d_Rv_cutBehind_30 ?_
    refine lv_iload_n hx hb d_Rv_cutBehind_33 rfl (lv_at hl 3 rfl) ?_
    refine lv_iconst (v := (-1 : Int32)) hx hb d_Rv_cutBehind_34 (by decide) ?_
    obtain ⟨g16, hf⟩ := x_if hf
    refine va_iast hx hb hK hP hD hS 5 0 rfl rfl (xi_in g16) d_Rv_cutBehind_35 (fun H locs hP hD hS => ?_)
    have hP : va_P D vwCl (w_Rv cI cJ cZ rh sh mh m0 m1 m2 m3 dh d0 d1 d2 d3 ea cb ch be (((z1.2.1.1, (z1.2.1.2.1, ((upd z1.2.1.2.2.1 p1.toNatClampNeg (-1 : Int32)), z1.2.1.2.2.2))), U.1.2), (U.2.1, (U.2.2.1, z1.2.2)))) H := hP
    have hD : va_D A (w_Rv cI cJ cZ rh sh mh m0 m1 m2 m3 dh d0 d1 d2 d3 ea cb ch be (((z1.2.1.1, (z1.2.1.2.1, ((upd z1.2.1.2.2.1 p1.toNatClampNeg (-1 : Int32)), z1.2.1.2.2.2))), U.1.2), (U.2.1, (U.2.2.1, z1.2.2)))) := hD
    refine lv_aload_n hx hb d_Rv_cutBehind_36 rfl (lv_at hl 1 rfl) ?_
    refine va_get (D := D) (ci := 2) (v := .ref sh) (C := R_Rv) (T := F_Rv) (N := 5) hx hb hts i_Rv hown hK hP 0 rfl rfl 0 (by decide) (hts _ k_90) (fun _ h9 => h9) rfl d_Rv_cutBehind_37 ?_
    refine lv_iload_n hx hb d_Rv_cutBehind_40 rfl (lv_at hl 3 rfl) ?_
    obtain ⟨z17, hz17, hf⟩ := x_bind hf
    refine x_callS (w2 := (w_Rv cI cJ cZ rh sh mh m0 m1 m2 m3 dh d0 d1 d2 d3 ea cb ch be (((z1.2.1.1, (z1.2.1.2.1, ((upd z1.2.1.2.2.1 p1.toNatClampNeg (-1 : Int32)), z1.2.1.2.2.2))), U.1.2), (U.2.1, (U.2.2.1, z1.2.2))))) ⟨hx, hb, hml, hown, hts⟩ (c_Rv_pageOf l D cI cJ cZ  N p1  z17 hz17) (x_cwS 1 hts rfl k_143 k_144 k_23 k_145 (by decide +kernel) ⟨(Nat.le_of_ble_eq_true rfl), (Nat.le_of_ble_eq_true rfl)⟩) hK hP hD hS hA hZ [] [0, 1, 2, 3, 4, 5, 6, 7, 8, 9, 10, 11, 12, 13, 14, 15] [0, 1, 2, 3, 4, 5, 6, 7, 8, 9, 10, 11, 12, 13, 14, 15] (by decide) rfl rfl (by decide) (by decide) (by decide) rfl rfl hl.1 rfl (Nat.le_of_ble_eq_true rfl) d_Rv_cutBehind_41 ⟨(Nat.le_of_ble_eq_true rfl), (Nat.le_of_ble_eq_true rfl)⟩ (fun H locs hP hD hS => ?_)
    refine W.eq (g2 := F0 m 44 ls [.int z17, .ref sh]) rfl ?_
    obtain ⟨z18, hz18, hf⟩ := x_bind hf
    refine x_callV (w2 := (w_Rv cI cJ cZ rh sh mh m0 m1 m2 m3 dh d0 d1 d2 d3 ea cb ch be (z18.2, (U.2.1, (U.2.2.1, z1.2.2))))) ⟨hx, hb, hml, hown, hts⟩ (c_St_changed l D cI cJ cZ sh mh m0 m1 m2 m3 dh d0 d1 d2 d3 ea N z17 ((z1.2.1.1, (z1.2.1.2.1, ((upd z1.2.1.2.2.1 p1.toNatClampNeg (-1 : Int32)), z1.2.1.2.2.2))), U.1.2) z18 hz18) (x_cwV 1 hts rfl k_101 k_64 k_65 k_55 k_66 (by decide +kernel) ⟨(Nat.le_of_ble_eq_true rfl), (Nat.le_of_ble_eq_true rfl)⟩) hK hP hD hS hA hZ [1, 2, 3, 4, 5, 6, 7, 8, 9, 10, 11, 12] [0, 13, 14, 15] [0, 4, 5, 6, 7, 8, 9, 10, 11, 12, 13, 14, 15, 1, 2, 3] (by decide) rfl rfl (by decide) (by decide) (by decide) rfl (ci := 1) rfl rfl rfl hl.1 rfl (Nat.le_of_ble_eq_true rfl) d_Rv_cutBehind_44 ⟨(Nat.le_of_ble_eq_true rfl), (Nat.le_of_ble_eq_true rfl)⟩ (fun H locs hP hD hS => ?_)
    refine W.eq (g2 := F0 m 47 ls []) rfl ?_
    refine lv_iconst (v := (0 : Int32)) hx hb d_Rv_cutBehind_47 (by decide) ?_
    refine lv_istore (lv' := [(4, .int (0 : Int32)), (3, .int z1.1), (0, .ref rh), (1, .int p0), (2, .int p1)]) hx hb d_Rv_cutBehind_48 hl (by decide) rfl (fun ls hl => ?_)
    exact L_50 _ _ _ _ _ _ hf _ _ _ hP hD hS (lv_sub hl [2, 3, 4, 1, 0] rfl)
set_option maxHeartbeats 4000000 in
set_option maxRecDepth 100000 in
theorem c_Rv_sweepRecord (l : Launch) (D : va_G) (cI cJ cZ : ClassId) (rh sh mh m0 m1 m2 m3 dh d0 d1 d2 d3 ea cb ch be : Nat) (N : Nat) (p0 : Int32) (U : K_Rv) (r : (Int32 × K_Rv)) (hf : f_Rv_sweepRecord N p0 U = some r) : Cx l y_Rv_sweepRecord ws_Rv_sweepRecord rm_Rv_sweepRecord D vwCl (tyL cI cJ cZ) [.ref rh, .int p0] (w_Rv cI cJ cZ rh sh mh m0 m1 m2 m3 dh d0 d1 d2 d3 ea cb ch be U) (oI r.1) (w_Rv cI cJ cZ rh sh mh m0 m1 m2 m3 dh d0 d1 d2 d3 ea cb ch be r.2) := by
  unfold f_Rv_sweepRecord at hf
  refine Cx.ofW (cc := b_Rv_sweepRecord) (maxL := 4) (ret := (some .int)) (by decide) rfl ?_
  intro p e s m below meth c A C0 hP hK hD hA hns hZ
  obtain ⟨hx, hb, hml, hown, hts0, hr, hlocks, hnm, hno⟩ := C0
  have hown : s.vm.findClass R_Rv = some m.cls := hown
  have hts : ∀ w ∈ tb, w.before [.ref rh, .int p0].toArray s = true := fun w h => hts0 w (List.mem_cons_of_mem _ h)
  have hS : va_S A s.heap s.heap [] := va_S.rf
  have hl := lv_entry ([.ref rh, .int p0]) (n := 4) (Nat.le_of_ble_eq_true rfl)
  rw [lg_entry_eq]
  generalize (lg_sl ([.ref rh, .int p0]) ++ List.replicate (4 - (lg_sl ([.ref rh, .int p0])).length) Slot.unset).toArray = ls at hl ⊢
  have hl : lv_has ls 4 [(0, .ref rh), (1, .int p0)] := hl
  refine lv_aload_n hx hb d_Rv_sweepRecord_0 rfl (lv_at hl 0 rfl) ?_
  refine lv_iload_n hx hb d_Rv_sweepRecord_1 rfl (lv_at hl 1 rfl) ?_
  obtain ⟨z1, hz1, hf⟩ := x_bind hf
  refine x_callV (w2 := (w_Rv cI cJ cZ rh sh mh m0 m1 m2 m3 dh d0 d1 d2 d3 ea cb ch be z1.2)) ⟨hx, hb, hml, hown, hts⟩ (c_Rv_clean l D cI cJ cZ rh sh mh m0 m1 m2 m3 dh d0 d1 d2 d3 ea cb ch be N p0 U z1 hz1) (x_cwV 1 hts rfl k_177 k_178 k_179 k_23 k_180 (by decide +kernel) ⟨(Nat.le_of_ble_eq_true rfl), (Nat.le_of_ble_eq_true rfl)⟩) hK hP hD hS hA hZ [0, 1, 2, 3, 4, 5, 6, 7, 8, 9, 10, 11, 12, 13, 14, 15] [] [0, 1, 2, 3, 4, 5, 6, 7, 8, 9, 10, 11, 12, 13, 14, 15] (by decide) rfl rfl (by decide) (by decide) (by decide) rfl (ci := 2) rfl rfl rfl hl.1 rfl (Nat.le_of_ble_eq_true rfl) d_Rv_sweepRecord_2 ⟨(Nat.le_of_ble_eq_true rfl), (Nat.le_of_ble_eq_true rfl)⟩ (fun H locs hP hD hS => ?_)
  refine W.eq (g2 := F0 m 5 ls [.int z1.1]) rfl ?_
  refine lv_if_ne (tgt := 11) hx hb d_Rv_sweepRecord_5 (by decide) (fun c13 => ?_) (fun c13 => ?_)
  · have hf := x_ifn c13 hf
    refine lv_aload_n hx hb d_Rv_sweepRecord_11 rfl (lv_at hl 0 rfl) ?_
    refine va_get (D := D) (ci := 2) (v := .ref mh) (C := R_Rv) (T := F_Rv) (N := 5) hx hb hts i_Rv hown hK hP 0 rfl rfl 1 (by decide) (hts _ k_92) (fun _ h9 => h9) rfl d_Rv_sweepRecord_12 ?_
    refine lv_aload_n hx hb d_Rv_sweepRecord_15 rfl (lv_at hl 0 rfl) ?_
    obtain ⟨z2, hz2, hf⟩ := x_bind hf
    refine x_callV (w2 := (w_Rv cI cJ cZ rh sh mh m0 m1 m2 m3 dh d0 d1 d2 d3 ea cb ch be z2.2)) ⟨hx, hb, hml, hown, hts⟩ (c_Rv_committedForAll l D cI cJ cZ rh sh mh m0 m1 m2 m3 dh d0 d1 d2 d3 ea cb ch be N  z1.2 z2 hz2) (x_cwV 0 hts rfl k_198 k_199 k_200 k_23 k_201 (by decide +kernel) ⟨(Nat.le_of_ble_eq_true rfl), (Nat.le_of_ble_eq_true rfl)⟩) hK hP hD hS hA hZ [0, 1, 2, 3, 4, 5, 6, 7, 8, 9, 10, 11, 12, 13, 14, 15] [] [0, 1, 2, 3, 4, 5, 6, 7, 8, 9, 10, 11, 12, 13, 14, 15] (by decide) rfl rfl (by decide) (by decide) (by decide) rfl (ci := 2) rfl rfl rfl hl.1 rfl (Nat.le_of_ble_eq_true rfl) d_Rv_sweepRecord_16 ⟨(Nat.le_of_ble_eq_true rfl), (Nat.le_of_ble_eq_true rfl)⟩ (fun H locs hP hD hS => ?_)
    refine W.eq (g2 := F0 m 19 ls [.long z2.1, .ref mh]) rfl ?_
    refine lv_iload_n hx hb d_Rv_sweepRecord_19 rfl (lv_at hl 1 rfl) ?_
    obtain ⟨z3, hz3, hf⟩ := x_bind hf
    refine x_callV (w2 := (w_Rv cI cJ cZ rh sh mh m0 m1 m2 m3 dh d0 d1 d2 d3 ea cb ch be ((z3.2, z2.2.1.2), z2.2.2))) ⟨hx, hb, hml, hown, hts⟩ (c_Co_firstOf l D cI cJ cZ mh m0 m1 m2 m3 N z2.1 p0 z2.2.1.1 z3 hz3) (x_cwV 2 hts rfl k_116 k_117 k_118 k_11 k_119 (by decide +kernel) ⟨(Nat.le_of_ble_eq_true rfl), (Nat.le_of_ble_eq_true rfl)⟩) hK hP hD hS hA hZ [2, 3, 4, 5, 6] [0, 1, 7, 8, 9, 10, 11, 12, 13, 14, 15] [0, 1, 11, 12, 13, 14, 15, 2, 3, 4, 5, 6, 7, 8, 9, 10] (by decide) rfl rfl (by decide) (by decide) (by decide) rfl (ci := 0) rfl rfl rfl hl.1 rfl (Nat.le_of_ble_eq_true rfl) d_Rv_sweepRecord_20 ⟨(Nat.le_of_ble_eq_true rfl), (Nat.le_of_ble_eq_true rfl)⟩ (fun H locs hP hD hS => ?_)
    refine W.eq (g2 := F0 m 23 ls [.int z3.1]) rfl ?_
    refine lv_istore_n (lv' := [(2, .int z3.1), (0, .ref rh), (1, .int p0)]) hx hb d_Rv_sweepRecord_23 rfl hl (by decide) rfl (fun ls hl => ?_)
    refine lv_iload_n hx hb d_Rv_sweepRecord_24 rfl (lv_at hl 0 rfl) ?_
    refine lv_iconst (v := (-1 : Int32)) hx hb d_Rv_sweepRecord_25 (by decide) ?_
    refine lv_icmp_ne (tgt := 31) hx hb d_Rv_sweepRecord_26 (by decide) (fun c12 => ?_) (fun c12 => ?_)
    · have hf := x_ifn c12 hf
      refine lv_aload_n hx hb d_Rv_sweepRecord_31 rfl (lv_at hl 1 rfl) ?_
      refine lv_iload_n hx hb d_Rv_sweepRecord_32 rfl (lv_at hl 2 rfl) ?_
      refine lv_iload_n hx hb d_Rv_sweepRecord_33 rfl (lv_at hl 0 rfl) ?_
      obtain ⟨z4, hz4, hf⟩ := x_bind hf
      refine x_callV (w2 := (w_Rv cI cJ cZ rh sh mh m0 m1 m2 m3 dh d0 d1 d2 d3 ea cb ch be z4.2)) ⟨hx, hb, hml, hown, hts⟩ (c_Rv_cutBehind l D cI cJ cZ rh sh mh m0 m1 m2 m3 dh d0 d1 d2 d3 ea cb ch be N p0 z3.1 ((z3.2, z2.2.1.2), z2.2.2) z4 hz4) (x_cwV 2 hts rfl k_194 k_195 k_196 k_23 k_197 (by decide +kernel) ⟨(Nat.le_of_ble_eq_true rfl), (Nat.le_of_ble_eq_true rfl)⟩) hK hP hD hS hA hZ [0, 1, 2, 3, 4, 5, 6, 7, 8, 9, 10, 11, 12, 13, 14, 15] [] [0, 1, 2, 3, 4, 5, 6, 7, 8, 9, 10, 11, 12, 13, 14, 15] (by decide) rfl rfl (by decide) (by decide) (by decide) rfl (ci := 2) rfl rfl rfl hl.1 rfl (Nat.le_of_ble_eq_true rfl) d_Rv_sweepRecord_34 ⟨(Nat.le_of_ble_eq_true rfl), (Nat.le_of_ble_eq_true rfl)⟩ (fun H locs hP hD hS => ?_)
      refine W.eq (g2 := F0 m 37 ls [.int z4.1]) rfl ?_
      refine lv_istore_n (lv' := [(3, .int z4.1), (2, .int z3.1), (0, .ref rh), (1, .int p0)]) hx hb d_Rv_sweepRecord_37 rfl hl (by decide) rfl (fun ls hl => ?_)
      refine lv_iload_n hx hb d_Rv_sweepRecord_38 rfl (lv_at hl 0 rfl) ?_
      refine lv_bipush (v := (-9 : Int32)) hx hb d_Rv_sweepRecord_39 (by decide) ?_
      refine lv_icmp_eq (tgt := 81) hx hb d_Rv_sweepRecord_41 (by decide) (fun c11 => ?_) (fun c11 => ?_)
      · have hf := x_ifp c11 hf
        refine lv_iload_n hx hb d_Rv_sweepRecord_81 rfl (lv_at hl 0 rfl) ?_
        obtain rfl := Option.some.inj hf
        exact x_iret hx hb hr hlocks hK hP hD hS (Nat.le_of_ble_eq_true rfl) (Nat.le_of_ble_eq_true rfl) d_Rv_sweepRecord_82
      · have hf := x_ifn c11 hf
        refine lv_iload_n hx hb d_Rv_sweepRecord_44 rfl (lv_at hl 1 rfl) ?_
        refine lv_iload_n hx hb d_Rv_sweepRecord_45 rfl (lv_at hl 3 rfl) ?_
        refine lv_icmp_ne (tgt := 81) hx hb d_Rv_sweepRecord_46 (by decide) (fun c10 => ?_) (fun c10 => ?_)
        · have hf := x_ifn c10 hf
          refine lv_iload_n hx hb d_Rv_sweepRecord_81 rfl (lv_at hl 0 rfl) ?_
          obtain rfl := Option.some.inj hf
          exact x_iret hx hb hr hlocks hK hP hD hS (Nat.le_of_ble_eq_true rfl) (Nat.le_of_ble_eq_true rfl) d_Rv_sweepRecord_82
        · have hf := x_ifp c10 hf
          refine lv_aload_n hx hb d_Rv_sweepRecord_49 rfl (lv_at hl 2 rfl) ?_
          refine va_get (D := D) (ci := 2) (v := .ref mh) (C := R_Rv) (T := F_Rv) (N := 5) hx hb hts i_Rv hown hK hP 0 rfl rfl 1 (by decide) (hts _ k_92) (fun _ h9 => h9) rfl d_Rv_sweepRecord_50 ?_
          refine va_get (D := D) (ci := 0) (v := .ref m1) (C := R_Co) (T := F_Co) (N := 4) hx hb hts i_Co hown hK hP 2 rfl rfl 1 (by decide) (hts _ k_126) (fun _ h9 => h9) rfl d_Rv_sweepRecord_53 ?_
          refine lv_iload_n hx hb d_Rv_sweepRecord_56 rfl (lv_at hl 3 rfl) ?_
          obtain ⟨g5, hf⟩ := x_if hf
          refine va_iald hx hb hK hP 4 0 rfl rfl (xi_in g5) d_Rv_sweepRecord_57 ?_
          refine lv_iconst (v := (-1 : Int32)) hx hb d_Rv_sweepRecord_58 (by decide) ?_
          refine lv_icmp_ne (tgt := 81) hx hb d_Rv_sweepRecord_59 (by decide) (fun c9 => ?_) (fun c9 => ?_)
          · have hf := x_ifn c9 hf
            refine lv_iload_n hx hb d_Rv_sweepRecord_81 rfl (lv_at hl 0 rfl) ?_
            obtain rfl := Option.some.inj hf
            exact x_iret hx hb hr hlocks hK hP hD hS (Nat.le_of_ble_eq_true rfl) (Nat.le_of_ble_eq_true rfl) d_Rv_sweepRecord_82
          · have hf := x_ifp c9 hf
            refine lv_aload_n hx hb d_Rv_sweepRecord_62 rfl (lv_at hl 2 rfl) ?_
            refine va_get (D := D) (ci := 2) (v := .ref mh) (C := R_Rv) (T := F_Rv) (N := 5) hx hb hts i_Rv hown hK hP 0 rfl rfl 1 (by decide) (hts _ k_92) (fun _ h9 => h9) rfl d_Rv_sweepRecord_63 ?_
            refine lv_iload_n hx hb d_Rv_sweepRecord_66 rfl (lv_at hl 3 rfl) ?_
            obtain ⟨z6, hz6, hf⟩ := x_bind hf
            refine x_callV (w2 := (w_Rv cI cJ cZ rh sh mh m0 m1 m2 m3 dh d0 d1 d2 d3 ea cb ch be ((z6.2, z4.2.1.2), z4.2.2))) ⟨hx, hb, hml, hown, hts⟩ (c_Co_empty l D cI cJ cZ mh m0 m1 m2 m3 N p0 z4.2.1.1 z6 hz6) (x_cwV 1 hts rfl k_146 k_147 k_148 k_11 k_149 (by decide +kernel) ⟨(Nat.le_of_ble_eq_true rfl), (Nat.le_of_ble_eq_true rfl)⟩) hK hP hD hS hA hZ [2, 3, 4, 5, 6] [0, 1, 7, 8, 9, 10, 11, 12, 13, 14, 15] [0, 1, 11, 12, 13, 14, 15, 2, 3, 4, 5, 6, 7, 8, 9, 10] (by decide) rfl rfl (by decide) (by decide) (by decide) rfl (ci := 0) rfl rfl rfl hl.1 rfl (Nat.le_of_ble_eq_true rfl) d_Rv_sweepRecord_67 ⟨(Nat.le_of_ble_eq_true rfl), (Nat.le_of_ble_eq_true rfl)⟩ (fun H locs hP hD hS => ?_)
            refine W.eq (g2 := F0 m 70 ls []) rfl ?_
            refine lv_aload_n hx hb d_Rv_sweepRecord_70 rfl (lv_at hl 2 rfl) ?_
            refine va_get (D := D) (ci := 2) (v := .ref sh) (C := R_Rv) (T := F_Rv) (N := 5) hx hb hts i_Rv hown hK hP 0 rfl rfl 0 (by decide) (hts _ k_90) (fun _ h9 => h9) rfl d_Rv_sweepRecord_71 ?_
            refine lv_iload_n hx hb d_Rv_sweepRecord_74 rfl (lv_at hl 3 rfl) ?_
            obtain ⟨z7, hz7, hf⟩ := x_bind hf
            refine x_callS (w2 := (w_Rv cI cJ cZ rh sh mh m0 m1 m2 m3 dh d0 d1 d2 d3 ea cb ch be ((z6.2, z4.2.1.2), z4.2.2))) ⟨hx, hb, hml, hown, hts⟩ (c_Rv_pageOf l D cI cJ cZ  N p0  z7 hz7) (x_cwS 1 hts rfl k_143 k_144 k_23 k_145 (by decide +kernel) ⟨(Nat.le_of_ble_eq_true rfl), (Nat.le_of_ble_eq_true rfl)⟩) hK hP hD hS hA hZ [] [0, 1, 2, 3, 4, 5, 6, 7, 8, 9, 10, 11, 12, 13, 14, 15] [0, 1, 2, 3, 4, 5, 6, 7, 8, 9, 10, 11, 12, 13, 14, 15] (by decide) rfl rfl (by decide) (by decide) (by decide) rfl rfl hl.1 rfl (Nat.le_of_ble_eq_true rfl) d_Rv_sweepRecord_75 ⟨(Nat.le_of_ble_eq_true rfl), (Nat.le_of_ble_eq_true rfl)⟩ (fun H locs hP hD hS => ?_)
            refine W.eq (g2 := F0 m 78 ls [.int z7, .ref sh]) rfl ?_
            obtain ⟨z8, hz8, hf⟩ := x_bind hf
            refine x_callV (w2 := (w_Rv cI cJ cZ rh sh mh m0 m1 m2 m3 dh d0 d1 d2 d3 ea cb ch be (z8.2, z4.2.2))) ⟨hx, hb, hml, hown, hts⟩ (c_St_changed l D cI cJ cZ sh mh m0 m1 m2 m3 dh d0 d1 d2 d3 ea N z7 (z6.2, z4.2.1.2) z8 hz8) (x_cwV 1 hts rfl k_101 k_64 k_65 k_55 k_66 (by decide +kernel) ⟨(Nat.le_of_ble_eq_true rfl), (Nat.le_of_ble_eq_true rfl)⟩) hK hP hD hS hA hZ [1, 2, 3, 4, 5, 6, 7, 8, 9, 10, 11, 12] [0, 13, 14, 15] [0, 4, 5, 6, 7, 8, 9, 10, 11, 12, 13, 14, 15, 1, 2, 3] (by decide) rfl rfl (by decide) (by decide) (by decide) rfl (ci := 1) rfl rfl rfl hl.1 rfl (Nat.le_of_ble_eq_true rfl) d_Rv_sweepRecord_78 ⟨(Nat.le_of_ble_eq_true rfl), (Nat.le_of_ble_eq_true rfl)⟩ (fun H locs hP hD hS => ?_)
            refine W.eq (g2 := F0 m 81 ls []) rfl ?_
            refine lv_iload_n hx hb d_Rv_sweepRecord_81 rfl (lv_at hl 0 rfl) ?_
            obtain rfl := Option.some.inj hf
            exact x_iret hx hb hr hlocks hK hP hD hS (Nat.le_of_ble_eq_true rfl) (Nat.le_of_ble_eq_true rfl) d_Rv_sweepRecord_82
    · have hf := x_ifp c12 hf
      refine lv_iconst (v := (0 : Int32)) hx hb d_Rv_sweepRecord_29 (by decide) ?_
      obtain rfl := Option.some.inj hf
      exact x_iret hx hb hr hlocks hK hP hD hS (Nat.le_of_ble_eq_true rfl) (Nat.le_of_ble_eq_true rfl) d_Rv_sweepRecord_30
  · have hf := x_ifp c13 hf
    refine lv_bipush (v := (-9 : Int32)) hx hb d_Rv_sweepRecord_8 (by decide) ?_
    obtain rfl := Option.some.inj hf
    exact x_iret hx hb hr hlocks hK hP hD hS (Nat.le_of_ble_eq_true rfl) (Nat.le_of_ble_eq_true rfl) d_Rv_sweepRecord_10
end
