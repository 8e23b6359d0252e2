theorem k_506 : Cond.instantiable "RecordVersions" 5 ∈ tb := x_in (i := 52) (by decide +kernel) rfl
theorem k_507 : Cond.instantiable "RecordVersionsModel" 19 ∈ tb := x_in (i := 526) (by decide +kernel) rfl
theorem k_508 : Cond.initialized "java/lang/Throwable" ∈ tb := x_in (i := 41) (by decide +kernel) rfl
theorem k_509 : Cond.classLink "RecordVersionsLaw" 8 "RecordVersions" ∈ tb := x_in (i := 51) (by decide +kernel) rfl
theorem k_510 : Cond.methodLink "RecordVersionsLaw" 59 y_Rv_init ∈ tb := x_in (i := 53) (by decide +kernel) rfl
theorem k_511 : Cond.instanceMethod y_Rv_init ∈ tb := x_in (i := 54) (by decide +kernel) rfl
theorem k_512 : Cond.classLink "RecordVersionsLaw" 60 "RecordVersionsModel" ∈ tb := x_in (i := 525) (by decide +kernel) rfl
theorem k_513 : Cond.methodLink "RecordVersionsLaw" 62 y_Mo_init ∈ tb := x_in (i := 527) (by decide +kernel) rfl
theorem k_514 : Cond.instanceMethod y_Mo_init ∈ tb := x_in (i := 528) (by decide +kernel) rfl
/-- THE PURE CLAIM: what is left when the machine is walked: the two functions of class and reference never part -/
def xPure : Prop := ∀ (xs : Nat → Int32) (L : Nat), L ≤ 2048 → ∃ (N : Nat) (U : K_Rv) (V : K_Mo), f_Rv_init N = some U ∧ f_Mo_init N = some V ∧ f_La_law_23 N xs L 520 0 (U, (V, fun _ => 0)) = some 1
set_option maxHeartbeats 8000000 in
set_option maxRecDepth 100000 in
theorem whole_start_open (hp0 : xPure) {p : Program} {e : Env} {s : State} {m : MethodId} {below : List Frame} {meth : Method} {c : Code} (l : Launch) (hL0 : xL l) {b L : Nat} {xs : Nat → Int32} (hL : L ≤ 2048) (C0 : lw_At p s m meth c b L xs) : W p l e room_1 s m #[Value.ref b] below meth c s.heap [] 0 0 (lw_Z below #[Value.ref b] s) (entryFrame m ([Value.ref b] : List Value).toArray 7) := by
  obtain ⟨hx, hb, hr, hml, hown, hts0, hX, hbl, hlocks, hgv⟩ := id C0
  have hown : s.vm.findClass R_La = some m.cls := hown
  have hts : ∀ w ∈ tb, w.before #[Value.ref b] s = true := fun w h => hts0 w (List.mem_filter.mp h).1
  have hA : ∀ q : Nat, s.heap.size ≤ q → (fun q : Nat => s.heap.size ≤ q) q := fun _ h => h
  have hA0 : ∀ q : Nat, q < s.heap.size → ¬ (fun q : Nat => s.heap.size ≤ q) q := fun q h => Nat.not_le.mpr h
  obtain ⟨cc0, iS0, hKn0⟩ := u_known (C := R_Co) (T := F_Co) (N := 4) (n := 4) hts i_Co (hts _ k_42)
  obtain ⟨cc1, iS1, hKn1⟩ := u_known (C := R_St) (T := F_St) (N := 7) (n := 7) hts i_St (hts _ k_86)
  obtain ⟨cc2, iS2, hKn2⟩ := u_known (C := R_Rv) (T := F_Rv) (N := 5) (n := 5) hts i_Rv (hts _ k_506)
  obtain ⟨cc3, iS3, hKn3⟩ := u_known (C := R_Mo) (T := F_Mo) (N := 19) (n := 19) hts i_Mo (hts _ k_507)
  obtain ⟨dC, dI, hKc⟩ : ∃ (dC : Nat → ClassId) (dI : Nat → Nat → Nat), ∀ (k : Nat) (q : vw_C), vwCl[k]? = some q → u_Kn s q.1 q.2.1 q.2.2 (dC k) (dI k) := by
    refine ⟨fun k => match k with | 0 => cc0 | 1 => cc1 | 2 => cc2 | _ => cc3, fun k => match k with | 0 => iS0 | 1 => iS1 | 2 => iS2 | _ => iS3, ?_⟩
    intro k q hq
    match k, hq with
    | 0, hq => cases hq; exact hKn0
    | 1, hq => cases hq; exact hKn1
    | 2, hq => cases hq; exact hKn2
    | 3, hq => cases hq; exact hKn3
    | k + 4, hq => simp [vwCl] at hq
  obtain ⟨cI, kI, cmI, fI, gI, hI⟩ := Cond.arrayClass_spec (type := .int) (hts _ k_3)
  obtain ⟨cJ, kJ, cmJ, fJ, gJ, hJ⟩ := Cond.arrayClass_spec (type := .long) (hts _ k_93)
  obtain ⟨cZ, kZ, cmZ, fZ, gZ, hZ⟩ := Cond.arrayClass_spec (type := .boolean) (hts _ k_233)
  have hK : va_K (dC, dI) vwCl (tyL cI cJ cZ) s := by
    refine ⟨hKc, fun k q hq => ?_⟩
    match k, hq with
    | 0, hq => cases hq; exact ⟨fun n z => ⟨fun k h => (by cases h), kI, gI, cmI, hI⟩, fI⟩
    | 1, hq => cases hq; exact ⟨fun n z => ⟨fun k h => (by cases h), kJ, gJ, cmJ, hJ⟩, fJ⟩
    | 2, hq => cases hq; exact ⟨fun n z => ⟨fun k h => (by cases h), kZ, gZ, cmZ, hZ⟩, fZ⟩
    | k + 3, hq => simp [tyL] at hq
  have hS : va_S (fun q : Nat => s.heap.size ≤ q) s.heap s.heap [] := va_S.rf
  have hP : va_P (dC, dI) vwCl [] s.heap := fun k q h => by simp at h
  have hD : va_D (fun q : Nat => s.heap.size ≤ q) [] := ⟨fun i j p q h => by simp at h, fun k q h => by simp at h⟩
  have hfl := flat_of_before _ hgv
  have hlU : (Cond.laysStatic "java/lang/Throwable" "UNASSIGNED_STACK" "[Ljava/lang/StackTraceElement;").before #[Value.ref b] s = true := hts0 _ (List.mem_of_getElem? (i := 301) (by decide +kernel))
  have hlS : (Cond.laysStatic "java/lang/Throwable" "SUPPRESSED_SENTINEL" "Ljava/util/List;").before #[Value.ref b] s = true := hts0 _ (List.mem_of_getElem? (i := 303) (by decide +kernel))
  have hiT := hts _ k_508
  have hN : xN s := by
    intro C hC T hT hn
    simp only [xEs, List.mem_cons, List.not_mem_nil, or_false] at hC hT
    rcases hC with rfl | rfl | rfl | rfl | rfl <;> rcases hT with rfl | rfl | rfl | rfl | rfl <;> first | exact absurd rfl hn | exact va_Nc.of (hfl _ (by decide +kernel))
  have hZ : xZ (fun q : Nat => s.heap.size ≤ q) s s.heap := ⟨⟨va_Zqof hlU hiT (hfl _ (by decide +kernel)) hA0, va_Zqof hlS hiT (hfl _ (by decide +kernel)) hA0⟩, ⟨xLs.of hlU hA0, xLs.of hlS hA0⟩, hN⟩
  obtain ⟨N, U, V, hU, hV, hf⟩ := hp0 xs L hL
  have hl := lv_entry ([.ref b]) (n := 7) (Nat.le_of_ble_eq_true rfl)
  rw [lg_entry_eq]
  generalize (lg_sl ([.ref b]) ++ List.replicate (7 - (lg_sl ([.ref b])).length) Slot.unset).toArray = ls at hl ⊢
  have hl : lv_has ls 7 [(0, .ref b)] := hl
  refine va_new (ci := 2) (fs := [.null, .null, .null, .null, .null]) (C := R_Rv) (T := F_Rv) (N := 5) hx hb hts i_Rv t_Rv t_Rv_ok hown (hts _ k_509) (hts _ k_506) (hts _ k_23) hK hP hD hS hA rfl (fun j hj => x_fs_Rv j hj) (by simp only [room_1, rm_Rv_init] <;> omega) (by simp only [room_1, rm_Rv_init] <;> omega) d_La_law_0 (fun q1 H hP hD hS => ?_)
  have hP : va_P (dC, dI) vwCl [(q1, .inr (2, [.null, .null, .null, .null, .null]))] H := hP
  have hD : va_D (fun q : Nat => s.heap.size ≤ q) [(q1, .inr (2, [.null, .null, .null, .null, .null]))] := hD
  refine lv_dup hx hb d_La_law_3 rfl ?_
  refine x_callE ⟨hx, hb, hml, hown, hts⟩ (c_Rv_init l (dC, dI) cI cJ cZ q1 N U hU) (x_cwI 0 hts rfl k_510 k_511 k_23 k_504 rfl (by decide +kernel) ⟨(by simp only [room_1, rm_Rv_init, rm_Mo_init] <;> omega), (by simp only [room_1, rm_Rv_init, rm_Mo_init] <;> omega)⟩) hK hP hD hS hA hZ [0] [] (by decide) rfl rfl (by decide) (by decide) rfl hl.1 rfl (Nat.le_of_ble_eq_true rfl) d_La_law_4 ⟨(by simp only [room_1, rm_Rv_init, rm_Mo_init] <;> omega), (by simp only [room_1, rm_Rv_init, rm_Mo_init] <;> omega)⟩ (fun u H locs hP hD hS => ?_)
  refine W.eq (g2 := F0 m 7 ls [.ref q1]) rfl ?_
  have hP : va_P (dC, dI) vwCl (w_Rv cI cJ cZ q1 (u 0) (u 1) (u 2) (u 3) (u 4) (u 5) (u 6) (u 7) (u 8) (u 9) (u 10) (u 11) (u 12) (u 13) (u 14) U) H := hP
  have hD : va_D (fun q : Nat => s.heap.size ≤ q) (w_Rv cI cJ cZ q1 (u 0) (u 1) (u 2) (u 3) (u 4) (u 5) (u 6) (u 7) (u 8) (u 9) (u 10) (u 11) (u 12) (u 13) (u 14) U) := hD
  refine lv_astore_n (lv' := [(1, .ref q1), (0, .ref b)]) hx hb d_La_law_7 rfl hl (by decide) rfl (fun ls hl => ?_)
  refine va_new (ci := 3) (fs := [.int 0, .null, .null, .null, .null, .null, .null, .null, .null, .null, .null, .null, .null, .null, .int 0, .int 0, .int 0, .int 0, .int 0]) (C := R_Mo) (T := F_Mo) (N := 19) hx hb hts i_Mo t_Mo t_Mo_ok hown (hts _ k_512) (hts _ k_507) (hts _ k_246) hK hP hD hS hA rfl (fun j hj => x_fs_Mo j hj) (by simp only [room_1, rm_Rv_init] <;> omega) (by simp only [room_1, rm_Rv_init] <;> omega) d_La_law_8 (fun q2 H hP hD hS => ?_)
  refine lv_dup hx hb d_La_law_11 rfl ?_
  refine x_callE ⟨hx, hb, hml, hown, hts⟩ (c_Mo_init l (dC, dI) cI cJ cZ q2 N V hV) (x_cwI 0 hts rfl k_513 k_514 k_246 k_505 rfl (by decide +kernel) ⟨(by simp only [room_1, rm_Rv_init, rm_Mo_init] <;> omega), (by simp only [room_1, rm_Rv_init, rm_Mo_init] <;> omega)⟩) hK hP hD hS hA hZ [16] [0, 1, 2, 3, 4, 5, 6, 7, 8, 9, 10, 11, 12, 13, 14, 15] (by decide) rfl rfl (by decide) (by decide) rfl hl.1 rfl (Nat.le_of_ble_eq_true rfl) d_La_law_12 ⟨(by simp only [room_1, rm_Rv_init, rm_Mo_init] <;> omega), (by simp only [room_1, rm_Rv_init, rm_Mo_init] <;> omega)⟩ (fun v H locs hP hD hS => ?_)
  refine W.eq (g2 := F0 m 15 ls [.ref q2]) rfl ?_
  have hP : va_P (dC, dI) vwCl ((w_Rv cI cJ cZ q1 (u 0) (u 1) (u 2) (u 3) (u 4) (u 5) (u 6) (u 7) (u 8) (u 9) (u 10) (u 11) (u 12) (u 13) (u 14) U) ++ (w_Mo cI cJ cZ q2 (v 0) (v 1) (v 2) (v 3) (v 4) (v 5) (v 6) (v 7) (v 8) (v 9) (v 10) (v 11) (v 12) V)) H := hP
  have hD : va_D (fun q : Nat => s.heap.size ≤ q) ((w_Rv cI cJ cZ q1 (u 0) (u 1) (u 2) (u 3) (u 4) (u 5) (u 6) (u 7) (u 8) (u 9) (u 10) (u 11) (u 12) (u 13) (u 14) U) ++ (w_Mo cI cJ cZ q2 (v 0) (v 1) (v 2) (v 3) (v 4) (v 5) (v 6) (v 7) (v 8) (v 9) (v 10) (v 11) (v 12) V)) := hD
  refine lv_astore_n (lv' := [(2, .ref q2), (1, .ref q1), (0, .ref b)]) hx hb d_La_law_15 rfl hl (by decide) rfl (fun ls hl => ?_)
  refine lv_iconst (v := (1 : Int32)) hx hb d_La_law_16 (by decide) ?_
  refine x_newL (N := 1) hx hb (hts _ k_93) hK hP hD hS hA (by decide) (by decide) (by decide) (by simp only [room_1, rm_Rv_init, rm_Mo_init] <;> omega) (by simp only [room_1, rm_Rv_init, rm_Mo_init] <;> omega) d_La_law_17 (fun q3 H hP hD hS => ?_)
  have hP : va_P (dC, dI) vwCl (w_La cI cJ cZ q1 (u 0) (u 1) (u 2) (u 3) (u 4) (u 5) (u 6) (u 7) (u 8) (u 9) (u 10) (u 11) (u 12) (u 13) (u 14) q2 (v 0) (v 1) (v 2) (v 3) (v 4) (v 5) (v 6) (v 7) (v 8) (v 9) (v 10) (v 11) (v 12) q3 (U, (V, fun _ => 0))) H := hP
  have hD : va_D (fun q : Nat => s.heap.size ≤ q) (w_La cI cJ cZ q1 (u 0) (u 1) (u 2) (u 3) (u 4) (u 5) (u 6) (u 7) (u 8) (u 9) (u 10) (u 11) (u 12) (u 13) (u 14) q2 (v 0) (v 1) (v 2) (v 3) (v 4) (v 5) (v 6) (v 7) (v 8) (v 9) (v 10) (v 11) (v 12) q3 (U, (V, fun _ => 0))) := hD
  refine lv_astore_n (lv' := [(3, .ref q3), (2, .ref q2), (1, .ref q1), (0, .ref b)]) hx hb d_La_law_19 rfl hl (by decide) rfl (fun ls hl => ?_)
  refine lv_iconst (v := (0 : Int32)) hx hb d_La_law_20 (by decide) ?_
  refine lv_istore (lv' := [(4, .int (0 : Int32)), (3, .ref q3), (2, .ref q2), (1, .ref q1), (0, .ref b)]) hx hb d_La_law_21 hl (by decide) rfl (fun ls hl => ?_)
  refine W.widen (k := 100 + 4 * 0) (n := 2000 + 24 * 0) (by simp only [rm_Rv_init, rm_Mo_init] <;> omega) (by simp only [rm_Rv_init, rm_Mo_init] <;> omega) ?_
  exact law_loop hL0 C0 hK hZ q1 (u 0) (u 1) (u 2) (u 3) (u 4) (u 5) (u 6) (u 7) (u 8) (u 9) (u 10) (u 11) (u 12) (u 13) (u 14) q2 (v 0) (v 1) (v 2) (v 3) (v 4) (v 5) (v 6) (v 7) (v 8) (v 9) (v 10) (v 11) (v 12) q3 N 100 2000 (Nat.le_refl _) (Nat.le_refl _) 520 0 rfl 0 (U, (V, fun _ => 0)) hf _ _ _ hP hD hS (lv_sub hl [4, 3, 2, 1, 0] rfl)
