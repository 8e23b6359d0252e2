set_option maxHeartbeats 4000000 in
set_option maxRecDepth 100000 in
theorem c_Mo_seen (l : Launch) (D : va_G) (cI cJ cZ : ClassId) (oh o0 o1 o2 o3 o4 o5 o6 o7 o8 o9 o10 o11 o12 : Nat) (N : Nat) (p0 : Int32) (p1 : Int32) (U : K_Mo) (r : (Int32 × K_Mo)) (hf : f_Mo_seen N p0 p1 U = some r) : Cx l y_Mo_seen ws_Mo_seen rm_Mo_seen D vwCl (tyL cI cJ cZ) [.ref oh, .int p0, .int p1] (w_Mo cI cJ cZ oh o0 o1 o2 o3 o4 o5 o6 o7 o8 o9 o10 o11 o12 U) (oI r.1) (w_Mo cI cJ cZ oh o0 o1 o2 o3 o4 o5 o6 o7 o8 o9 o10 o11 o12 r.2) := by
  unfold f_Mo_seen at hf
  refine Cx.ofW (cc := b_Mo_seen) (maxL := 3) (ret := (some .boolean)) (by decide) rfl ?_
  intro p e s m below meth c A C0 hP hK hD hA hns hZ
  obtain ⟨hx, hb, hml, hown, hts0, hr, hlocks, hnm, hno⟩ := C0
  have hown : s.vm.findClass R_Mo = some m.cls := hown
  have hts : ∀ w ∈ tb, w.before [.ref oh, .int p0, .int p1].toArray s = true := fun w h => hts0 w (List.mem_cons_of_mem _ h)
  have hS : va_S A s.heap s.heap [] := va_S.rf
  have hl := lv_entry ([.ref oh, .int p0, .int p1]) (n := 3) (Nat.le_of_ble_eq_true rfl)
  rw [lg_entry_eq]
  generalize (lg_sl ([.ref oh, .int p0, .int p1]) ++ List.replicate (3 - (lg_sl ([.ref oh, .int p0, .int p1])).length) Slot.unset).toArray = ls at hl ⊢
  have hl : lv_has ls 3 [(0, .ref oh), (1, .int p0), (2, .int p1)] := hl
  refine lv_aload_n hx hb d_Mo_seen_0 rfl (lv_at hl 0 rfl) ?_
  refine va_get (D := D) (ci := 3) (v := .ref o0) (C := R_Mo) (T := F_Mo) (N := 19) hx hb hts i_Mo hown hK hP 0 rfl rfl 1 (by decide) (hts _ k_225) (fun _ h9 => h9) rfl d_Mo_seen_1 ?_
  refine lv_iload_n hx hb d_Mo_seen_4 rfl (lv_at hl 2 rfl) ?_
  obtain ⟨g1, hf⟩ := x_if hf
  refine va_iald hx hb hK hP 1 0 rfl rfl (xi_in g1) d_Mo_seen_5 ?_
  refine lv_iload_n hx hb d_Mo_seen_6 rfl (lv_at hl 1 rfl) ?_
  refine lv_icmp_eq (tgt := 30) hx hb d_Mo_seen_7 (by decide) (fun c5 => ?_) (fun c5 => ?_)
  · have hf := x_ifp c5 hf
    refine lv_iconst (v := (1 : Int32)) hx hb d_Mo_seen_30 (by decide) ?_
    refine lv_goto (tgt := 35) hx hb d_Mo_seen_31 (by decide) ?_
    obtain rfl := Option.some.inj hf
    exact x_zret hx hb hr hlocks (x_nb (Or.inr rfl)) hK hP hD hS (Nat.le_of_ble_eq_true rfl) (Nat.le_of_ble_eq_true rfl) d_Mo_seen_35
  · have hf := x_ifn c5 hf
    refine lv_aload_n hx hb d_Mo_seen_10 rfl (lv_at hl 0 rfl) ?_
    refine va_get (D := D) (ci := 3) (v := .ref o11) (C := R_Mo) (T := F_Mo) (N := 19) hx hb hts i_Mo hown hK hP 0 rfl rfl 12 (by decide) (hts _ k_237) (fun _ h9 => h9) rfl d_Mo_seen_11 ?_
    refine lv_iload_n hx hb d_Mo_seen_14 rfl (lv_at hl 1 rfl) ?_
    obtain ⟨g2, hf⟩ := x_if hf
    refine va_lald hx hb hK hP 12 1 rfl rfl (xi_in g2) d_Mo_seen_15 ?_
    refine lv_aload_n hx hb d_Mo_seen_16 rfl (lv_at hl 0 rfl) ?_
    refine va_get (D := D) (ci := 3) (v := .ref o0) (C := R_Mo) (T := F_Mo) (N := 19) hx hb hts i_Mo hown hK hP 0 rfl rfl 1 (by decide) (hts _ k_225) (fun _ h9 => h9) rfl d_Mo_seen_17 ?_
    refine lv_iload_n hx hb d_Mo_seen_20 rfl (lv_at hl 2 rfl) ?_
    obtain ⟨g3, hf⟩ := x_if hf
    refine va_iald hx hb hK hP 1 0 rfl rfl (xi_in g3) d_Mo_seen_21 ?_
    refine lv_lshr (v := ((U.2.2.2.2.2.1 p0.toNatClampNeg) >>> ((U.1.1 p1.toNatClampNeg).toInt64 &&& 63))) hx hb d_Mo_seen_22 rfl ?_
    refine lv_lconst (v := (1 : Int64)) hx hb d_Mo_seen_23 (by decide) ?_
    refine lv_land hx hb d_Mo_seen_24 ?_
    refine lv_lconst (v := (0 : Int64)) hx hb d_Mo_seen_25 (by decide) ?_
    refine W.lcmp hx hb d_Mo_seen_26 ?_
    refine lv_if_eq (tgt := 34) hx hb d_Mo_seen_27 (by decide) (fun c4 => ?_) (fun c4 => ?_)
    · have hf := x_ifp c4 hf
      refine lv_iconst (v := (0 : Int32)) hx hb d_Mo_seen_34 (by decide) ?_
      obtain rfl := Option.some.inj hf
      exact x_zret hx hb hr hlocks (x_nb (Or.inl rfl)) hK hP hD hS (Nat.le_of_ble_eq_true rfl) (Nat.le_of_ble_eq_true rfl) d_Mo_seen_35
    · have hf := x_ifn c4 hf
      refine lv_iconst (v := (1 : Int32)) hx hb d_Mo_seen_30 (by decide) ?_
      refine lv_goto (tgt := 35) hx hb d_Mo_seen_31 (by decide) ?_
      obtain rfl := Option.some.inj hf
      exact x_zret hx hb hr hlocks (x_nb (Or.inr rfl)) hK hP hD hS (Nat.le_of_ble_eq_true rfl) (Nat.le_of_ble_eq_true rfl) d_Mo_seen_35
set_option maxHeartbeats 4000000 in
set_option maxRecDepth 100000 in
theorem c_Mo_behind (l : Launch) (D : va_G) (cI cJ cZ : ClassId) (oh o0 o1 o2 o3 o4 o5 o6 o7 o8 o9 o10 o11 o12 : Nat) (N : Nat) (p0 : Int32) (U : K_Mo) (r : (Int32 × K_Mo)) (hf : f_Mo_behind N p0 U = some r) : Cx l y_Mo_behind ws_Mo_behind rm_Mo_behind D vwCl (tyL cI cJ cZ) [.ref oh, .int p0] (w_Mo cI cJ cZ oh o0 o1 o2 o3 o4 o5 o6 o7 o8 o9 o10 o11 o12 U) (oI r.1) (w_Mo cI cJ cZ oh o0 o1 o2 o3 o4 o5 o6 o7 o8 o9 o10 o11 o12 r.2) := by
  unfold f_Mo_behind at hf
  refine Cx.ofW (cc := b_Mo_behind) (maxL := 2) (ret := (some .int)) (by decide) rfl ?_
  intro p e s m below meth c A C0 hP hK hD hA hns hZ
  obtain ⟨hx, hb, hml, hown, hts0, hr, hlocks, hnm, hno⟩ := C0
  have hown : s.vm.findClass R_Mo = some m.cls := hown
  have hts : ∀ w ∈ tb, w.before [.ref oh, .int p0].toArray s = true := fun w h => hts0 w (List.mem_cons_of_mem _ h)
  have hS : va_S A s.heap s.heap [] := va_S.rf
  have hl := lv_entry ([.ref oh, .int p0]) (n := 2) (Nat.le_of_ble_eq_true rfl)
  rw [lg_entry_eq]
  generalize (lg_sl ([.ref oh, .int p0]) ++ List.replicate (2 - (lg_sl ([.ref oh, .int p0])).length) Slot.unset).toArray = ls at hl ⊢
  have hl : lv_has ls 2 [(0, .ref oh), (1, .int p0)] := hl
  refine lv_aload_n hx hb d_Mo_behind_0 rfl (lv_at hl 0 rfl) ?_
  refine va_get (D := D) (ci := 3) (v := .ref o2) (C := R_Mo) (T := F_Mo) (N := 19) hx hb hts i_Mo hown hK hP 0 rfl rfl 3 (by decide) (hts _ k_227) (fun _ h9 => h9) rfl d_Mo_behind_1 ?_
  refine lv_iload_n hx hb d_Mo_behind_4 rfl (lv_at hl 1 rfl) ?_
  obtain ⟨g1, hf⟩ := x_if hf
  refine va_iald hx hb hK hP 3 0 rfl rfl (xi_in g1) d_Mo_behind_5 ?_
  refine lv_if_lt (tgt := 26) hx hb d_Mo_behind_6 (by decide) (fun c6 => ?_) (fun c6 => ?_)
  · have hf := x_ifp c6 hf
    refine lv_iconst (v := (-1 : Int32)) hx hb d_Mo_behind_26 (by decide) ?_
    refine lv_goto (tgt := 39) hx hb d_Mo_behind_27 (by decide) ?_
    obtain rfl := Option.some.inj hf
    exact x_iret hx hb hr hlocks hK hP hD hS (Nat.le_of_ble_eq_true rfl) (Nat.le_of_ble_eq_true rfl) d_Mo_behind_39
  · have hf := x_ifn c6 hf
    refine lv_aload_n hx hb d_Mo_behind_9 rfl (lv_at hl 0 rfl) ?_
    refine va_get (D := D) (ci := 3) (v := .ref o0) (C := R_Mo) (T := F_Mo) (N := 19) hx hb hts i_Mo hown hK hP 0 rfl rfl 1 (by decide) (hts _ k_225) (fun _ h9 => h9) rfl d_Mo_behind_10 ?_
    refine lv_bipush (v := (6 : Int32)) hx hb d_Mo_behind_13 (by decide) ?_
    refine lv_aload_n hx hb d_Mo_behind_15 rfl (lv_at hl 0 rfl) ?_
    refine va_get (D := D) (ci := 3) (v := .ref o2) (C := R_Mo) (T := F_Mo) (N := 19) hx hb hts i_Mo hown hK hP 0 rfl rfl 3 (by decide) (hts _ k_227) (fun _ h9 => h9) rfl d_Mo_behind_16 ?_
    refine lv_iload_n hx hb d_Mo_behind_19 rfl (lv_at hl 1 rfl) ?_
    obtain ⟨g2, hf⟩ := x_if hf
    refine va_iald hx hb hK hP 3 0 rfl rfl (xi_in g2) d_Mo_behind_20 ?_
    refine lv_iadd hx hb d_Mo_behind_21 ?_
    obtain ⟨g3, hf⟩ := x_if hf
    refine va_iald hx hb hK hP 1 0 rfl rfl (xi_in g3) d_Mo_behind_22 ?_
    refine lv_if_ne (tgt := 30) hx hb d_Mo_behind_23 (by decide) (fun c5 => ?_) (fun c5 => ?_)
    · have hf := x_ifn c5 hf
      refine lv_bipush (v := (6 : Int32)) hx hb d_Mo_behind_30 (by decide) ?_
      refine lv_aload_n hx hb d_Mo_behind_32 rfl (lv_at hl 0 rfl) ?_
      refine va_get (D := D) (ci := 3) (v := .ref o2) (C := R_Mo) (T := F_Mo) (N := 19) hx hb hts i_Mo hown hK hP 0 rfl rfl 3 (by decide) (hts _ k_227) (fun _ h9 => h9) rfl d_Mo_behind_33 ?_
      refine lv_iload_n hx hb d_Mo_behind_36 rfl (lv_at hl 1 rfl) ?_
      obtain ⟨g4, hf⟩ := x_if hf
      refine va_iald hx hb hK hP 3 0 rfl rfl (xi_in g4) d_Mo_behind_37 ?_
      refine lv_iadd hx hb d_Mo_behind_38 ?_
      obtain rfl := Option.some.inj hf
      exact x_iret hx hb hr hlocks hK hP hD hS (Nat.le_of_ble_eq_true rfl) (Nat.le_of_ble_eq_true rfl) d_Mo_behind_39
    · have hf := x_ifp c5 hf
      refine lv_iconst (v := (-1 : Int32)) hx hb d_Mo_behind_26 (by decide) ?_
      refine lv_goto (tgt := 39) hx hb d_Mo_behind_27 (by decide) ?_
      obtain rfl := Option.some.inj hf
      exact x_iret hx hb hr hlocks hK hP hD hS (Nat.le_of_ble_eq_true rfl) (Nat.le_of_ble_eq_true rfl) d_Mo_behind_39
set_option maxHeartbeats 4000000 in
set_option maxRecDepth 100000 in
theorem c_Mo_reads (l : Launch) (D : va_G) (cI cJ cZ : ClassId) (oh o0 o1 o2 o3 o4 o5 o6 o7 o8 o9 o10 o11 o12 : Nat) (N : Nat) (p0 : Int32) (p1 : Int32) (U : K_Mo) (r : (Int32 × K_Mo)) (hf : f_Mo_reads N p0 p1 U = some r) : Cx l y_Mo_reads ws_Mo_reads rm_Mo_reads D vwCl (tyL cI cJ cZ) [.ref oh, .int p0, .int p1] (w_Mo cI cJ cZ oh o0 o1 o2 o3 o4 o5 o6 o7 o8 o9 o10 o11 o12 U) (oI r.1) (w_Mo cI cJ cZ oh o0 o1 o2 o3 o4 o5 o6 o7 o8 o9 o10 o11 o12 r.2) := by
  unfold f_Mo_reads at hf
  refine Cx.ofW (cc := b_Mo_reads) (maxL := 4) (ret := (some .int)) (by decide) rfl ?_
  intro p e s m below meth c A C0 hP hK hD hA hns hZ
  obtain ⟨hx, hb, hml, hown, hts0, hr, hlocks, hnm, hno⟩ := C0
  have hown : s.vm.findClass R_Mo = some m.cls := hown
  have hts : ∀ w ∈ tb, w.before [.ref oh, .int p0, .int p1].toArray s = true := fun w h => hts0 w (List.mem_cons_of_mem _ h)
  have hS : va_S A s.heap s.heap [] := va_S.rf
  have hl := lv_entry ([.ref oh, .int p0, .int p1]) (n := 4) (Nat.le_of_ble_eq_true rfl)
  rw [lg_entry_eq]
  generalize (lg_sl ([.ref oh, .int p0, .int p1]) ++ List.replicate (4 - (lg_sl ([.ref oh, .int p0, .int p1])).length) Slot.unset).toArray = ls at hl ⊢
  have hl : lv_has ls 4 [(0, .ref oh), (1, .int p0), (2, .int p1)] := hl
  have L_13 : ∀ n : Nat, ∀ (x1 : Int32) (x3 : Int32) (U : K_Mo), f_Mo_reads_13 N n x1 x3 U = some r → ∀ (H : Heap) (locs : List Loc) (ls : Array Slot), va_P D vwCl (w_Mo cI cJ cZ oh o0 o1 o2 o3 o4 o5 o6 o7 o8 o9 o10 o11 o12 U) H → va_D A (w_Mo cI cJ cZ oh o0 o1 o2 o3 o4 o5 o6 o7 o8 o9 o10 o11 o12 U) → va_S A s.heap H locs → lv_has ls 4 [(0, .ref oh), (1, .int x1), (3, .int x3)] → W p l e (rm_Mo_reads) s m [.ref oh, .int p0, .int p1].toArray below meth c H locs 0 0 (xQ D vwCl (tyL cI cJ cZ) below s A (oI r.1) (w_Mo cI cJ cZ oh o0 o1 o2 o3 o4 o5 o6 o7 o8 o9 o10 o11 o12 r.2) (rm_Mo_reads).cells (rm_Mo_reads).slots) (F0 m 13 ls []) := by
    intro n
    induction n with
    | zero =>
      intro x1 x3 U hf
      have hf : (none : Option (Int32 × K_Mo)) = some r := hf
      cases hf
    | succ n ih =>
      intro x1 x3 U hf H locs ls hP hD hS hl
      rw [f_Mo_reads_13] at hf
      refine lv_iload_n hx hb d_Mo_reads_13 rfl (lv_at hl 2 rfl) ?_
      refine lv_if_lt (tgt := 42) hx hb d_Mo_reads_14 (by decide) (fun c6 => ?_) (fun c6 => ?_)
      · have hf := x_ifp c6 hf
        refine lv_iconst (v := (-1 : Int32)) hx hb d_Mo_reads_42 (by decide) ?_
        obtain rfl := Option.some.inj hf
        exact x_iret hx hb hr hlocks hK hP hD hS (Nat.le_of_ble_eq_true rfl) (Nat.le_of_ble_eq_true rfl) d_Mo_reads_43
      · have hf := x_ifn c6 hf
        refine lv_aload_n hx hb d_Mo_reads_17 rfl (lv_at hl 0 rfl) ?_
        refine lv_iload_n hx hb d_Mo_reads_18 rfl (lv_at hl 1 rfl) ?_
        refine lv_iload_n hx hb d_Mo_reads_19 rfl (lv_at hl 2 rfl) ?_
        obtain ⟨z2, hz2, hf⟩ := x_bind hf
        refine x_callV (w2 := (w_Mo cI cJ cZ oh o0 o1 o2 o3 o4 o5 o6 o7 o8 o9 o10 o11 o12 z2.2)) ⟨hx, hb, hml, hown, hts⟩ (c_Mo_seen l D cI cJ cZ oh o0 o1 o2 o3 o4 o5 o6 o7 o8 o9 o10 o11 o12 N x1 x3 U z2 hz2) (x_cwV 2 hts rfl k_292 k_293 k_294 k_246 k_295 (by decide +kernel) ⟨(Nat.le_of_ble_eq_true rfl), (Nat.le_of_ble_eq_true rfl)⟩) hK hP hD hS hA hZ [0, 1, 2, 3, 4, 5, 6, 7, 8, 9, 10, 11, 12, 13] [] [0, 1, 2, 3, 4, 5, 6, 7, 8, 9, 10, 11, 12, 13] (by decide) rfl rfl (by decide) (by decide) (by decide) rfl (ci := 3) rfl rfl rfl hl.1 rfl (Nat.le_of_ble_eq_true rfl) d_Mo_reads_20 ⟨(Nat.le_of_ble_eq_true rfl), (Nat.le_of_ble_eq_true rfl)⟩ (fun H locs hP hD hS => ?_)
        refine W.eq (g2 := F0 m 23 ls [.int z2.1]) rfl ?_
        refine lv_if_eq (tgt := 33) hx hb d_Mo_reads_23 (by decide) (fun c5 => ?_) (fun c5 => ?_)
        · have hf := x_ifp c5 hf
          refine lv_aload_n hx hb d_Mo_reads_33 rfl (lv_at hl 0 rfl) ?_
          refine lv_iload_n hx hb d_Mo_reads_34 rfl (lv_at hl 2 rfl) ?_
          obtain ⟨z3, hz3, hf⟩ := x_bind hf
          refine x_callV (w2 := (w_Mo cI cJ cZ oh o0 o1 o2 o3 o4 o5 o6 o7 o8 o9 o10 o11 o12 z3.2)) ⟨hx, hb, hml, hown, hts⟩ (c_Mo_behind l D cI cJ cZ oh o0 o1 o2 o3 o4 o5 o6 o7 o8 o9 o10 o11 o12 N x3 z2.2 z3 hz3) (x_cwV 1 hts rfl k_288 k_289 k_290 k_246 k_291 (by decide +kernel) ⟨(Nat.le_of_ble_eq_true rfl), (Nat.le_of_ble_eq_true rfl)⟩) hK hP hD hS hA hZ [0, 1, 2, 3, 4, 5, 6, 7, 8, 9, 10, 11, 12, 13] [] [0, 1, 2, 3, 4, 5, 6, 7, 8, 9, 10, 11, 12, 13] (by decide) rfl rfl (by decide) (by decide) (by decide) rfl (ci := 3) rfl rfl rfl hl.1 rfl (Nat.le_of_ble_eq_true rfl) d_Mo_reads_35 ⟨(Nat.le_of_ble_eq_true rfl), (Nat.le_of_ble_eq_true rfl)⟩ (fun H locs hP hD hS => ?_)
          refine W.eq (g2 := F0 m 38 ls [.int z3.1]) rfl ?_
          refine lv_istore_n (lv' := [(3, .int z3.1), (0, .ref oh), (1, .int x1)]) hx hb d_Mo_reads_38 rfl hl (by decide) rfl (fun ls hl => ?_)
          refine lv_goto (tgt := 13) hx hb d_Mo_reads_39 (by decide) ?_
          exact ih _ _ _ hf _ _ _ hP hD hS (lv_sub hl [1, 2, 0] rfl)
        · have hf := x_ifn c5 hf
          refine lv_aload_n hx hb d_Mo_reads_26 rfl (lv_at hl 0 rfl) ?_
          refine va_get (D := D) (ci := 3) (v := .ref o1) (C := R_Mo) (T := F_Mo) (N := 19) hx hb hts i_Mo hown hK hP 0 rfl rfl 2 (by decide) (hts _ k_226) (fun _ h9 => h9) rfl d_Mo_reads_27 ?_
          refine lv_iload_n hx hb d_Mo_reads_30 rfl (lv_at hl 2 rfl) ?_
          obtain ⟨g4, hf⟩ := x_if hf
          refine va_iald hx hb hK hP 2 0 rfl rfl (xi_in g4) d_Mo_reads_31 ?_
          obtain rfl := Option.some.inj hf
          exact x_iret hx hb hr hlocks hK hP hD hS (Nat.le_of_ble_eq_true rfl) (Nat.le_of_ble_eq_true rfl) d_Mo_reads_32
  refine lv_aload_n hx hb d_Mo_reads_0 rfl (lv_at hl 0 rfl) ?_
  refine va_get (D := D) (ci := 3) (v := .ref o0) (C := R_Mo) (T := F_Mo) (N := 19) hx hb hts i_Mo hown hK hP 0 rfl rfl 1 (by decide) (hts _ k_225) (fun _ h9 => h9) rfl d_Mo_reads_1 ?_
  refine lv_iload_n hx hb d_Mo_reads_4 rfl (lv_at hl 2 rfl) ?_
  obtain ⟨g1, hf⟩ := x_if hf
  refine va_iald hx hb hK hP 1 0 rfl rfl (xi_in g1) d_Mo_reads_5 ?_
  refine lv_if_ne (tgt := 11) hx hb d_Mo_reads_6 (by decide) (fun c7 => ?_) (fun c7 => ?_)
  · have hf := x_ifn c7 hf
    refine lv_iload_n hx hb d_Mo_reads_11 rfl (lv_at hl 2 rfl) ?_
    refine lv_istore_n (lv' := [(3, .int p1), (0, .ref oh), (1, .int p0), (2, .int p1)]) hx hb d_Mo_reads_12 rfl hl (by decide) rfl (fun ls hl => ?_)
    exact L_13 _ _ _ _ hf _ _ _ hP hD hS (lv_sub hl [1, 2, 0] rfl)
  · have hf := x_ifp c7 hf
    refine lv_iconst (v := (-1 : Int32)) hx hb d_Mo_reads_9 (by decide) ?_
    obtain rfl := Option.some.inj hf
    exact x_iret hx hb hr hlocks hK hP hD hS (Nat.le_of_ble_eq_true rfl) (Nat.le_of_ble_eq_true rfl) d_Mo_reads_10
set_option maxHeartbeats 4000000 in
set_option maxRecDepth 100000 in
theorem c_Mo_read (l : Launch) (D : va_G) (cI cJ cZ : ClassId) (oh o0 o1 o2 o3 o4 o5 o6 o7 o8 o9 o10 o11 o12 : Nat) (N : Nat) (p0 : Int32) (p1 : Int32) (U : K_Mo) (r : (Int32 × K_Mo)) (hf : f_Mo_read N p0 p1 U = some r) : Cx l y_Mo_read ws_Mo_read rm_Mo_read D vwCl (tyL cI cJ cZ) [.ref oh, .int p0, .int p1] (w_Mo cI cJ cZ oh o0 o1 o2 o3 o4 o5 o6 o7 o8 o9 o10 o11 o12 U) (oI r.1) (w_Mo cI cJ cZ oh o0 o1 o2 o3 o4 o5 o6 o7 o8 o9 o10 o11 o12 r.2) := by
  unfold f_Mo_read at hf
  refine Cx.ofW (cc := b_Mo_read) (maxL := 4) (ret := (some .int)) (by decide) rfl ?_
  intro p e s m below meth c A C0 hP hK hD hA hns hZ
  obtain ⟨hx, hb, hml, hown, hts0, hr, hlocks, hnm, hno⟩ := C0
  have hown : s.vm.findClass R_Mo = some m.cls := hown
  have hts : ∀ w ∈ tb, w.before [.ref oh, .int p0, .int p1].toArray s = true := fun w h => hts0 w (List.mem_cons_of_mem _ h)
  have hS : va_S A s.heap s.heap [] := va_S.rf
  have hl := lv_entry ([.ref oh, .int p0, .int p1]) (n := 4) (Nat.le_of_ble_eq_true rfl)
  rw [lg_entry_eq]
  generalize (lg_sl ([.ref oh, .int p0, .int p1]) ++ List.replicate (4 - (lg_sl ([.ref oh, .int p0, .int p1])).length) Slot.unset).toArray = ls at hl ⊢
  have hl : lv_has ls 4 [(0, .ref oh), (1, .int p0), (2, .int p1)] := hl
  refine lv_aload_n hx hb d_Mo_read_0 rfl (lv_at hl 0 rfl) ?_
  obtain ⟨z1, hz1, hf⟩ := x_bind hf
  refine x_callV (w2 := (w_Mo cI cJ cZ oh o0 o1 o2 o3 o4 o5 o6 o7 o8 o9 o10 o11 o12 z1.2)) ⟨hx, hb, hml, hown, hts⟩ (c_Mo_begun l D cI cJ cZ oh o0 o1 o2 o3 o4 o5 o6 o7 o8 o9 o10 o11 o12 N  U z1 hz1) (x_cwV 0 hts rfl k_284 k_285 k_286 k_246 k_287 (by decide +kernel) ⟨(Nat.le_of_ble_eq_true rfl), (Nat.le_of_ble_eq_true rfl)⟩) hK hP hD hS hA hZ [0, 1, 2, 3, 4, 5, 6, 7, 8, 9, 10, 11, 12, 13] [] [0, 1, 2, 3, 4, 5, 6, 7, 8, 9, 10, 11, 12, 13] (by decide) rfl rfl (by decide) (by decide) (by decide) rfl (ci := 3) rfl rfl rfl hl.1 rfl (Nat.le_of_ble_eq_true rfl) d_Mo_read_1 ⟨(Nat.le_of_ble_eq_true rfl), (Nat.le_of_ble_eq_true rfl)⟩ (fun H locs hP hD hS => ?_)
  refine W.eq (g2 := F0 m 4 ls []) rfl ?_
  refine lv_iload_n hx hb d_Mo_read_4 rfl (lv_at hl 2 rfl) ?_
  refine lv_iconst (v := (0 : Int32)) hx hb d_Mo_read_5 (by decide) ?_
  refine lv_iconst (v := (5 : Int32)) hx hb d_Mo_read_6 (by decide) ?_
  obtain ⟨z2, hz2, hf⟩ := x_bind hf
  refine x_callS (w2 := (w_Mo cI cJ cZ oh o0 o1 o2 o3 o4 o5 o6 o7 o8 o9 o10 o11 o12 z1.2)) ⟨hx, hb, hml, hown, hts⟩ (c_Mo_in l D cI cJ cZ  N p1 (0 : Int32) (5 : Int32)  z2 hz2) (x_cwS 3 hts rfl k_269 k_270 k_246 k_271 (by decide +kernel) ⟨(Nat.le_of_ble_eq_true rfl), (Nat.le_of_ble_eq_true rfl)⟩) hK hP hD hS hA hZ [] [0, 1, 2, 3, 4, 5, 6, 7, 8, 9, 10, 11, 12, 13] [0, 1, 2, 3, 4, 5, 6, 7, 8, 9, 10, 11, 12, 13] (by decide) rfl rfl (by decide) (by decide) (by decide) rfl rfl hl.1 rfl (Nat.le_of_ble_eq_true rfl) d_Mo_read_7 ⟨(Nat.le_of_ble_eq_true rfl), (Nat.le_of_ble_eq_true rfl)⟩ (fun H locs hP hD hS => ?_)
  refine W.eq (g2 := F0 m 10 ls [.int z2]) rfl ?_
  refine lv_if_ne (tgt := 19) hx hb d_Mo_read_10 (by decide) (fun c10 => ?_) (fun c10 => ?_)
  · have hf := x_ifn c10 hf
    refine lv_aload_n hx hb d_Mo_read_19 rfl (lv_at hl 0 rfl) ?_
    refine lv_iload_n hx hb d_Mo_read_20 rfl (lv_at hl 1 rfl) ?_
    obtain ⟨z3, hz3, hf⟩ := x_bind hf
    refine x_callV (w2 := (w_Mo cI cJ cZ oh o0 o1 o2 o3 o4 o5 o6 o7 o8 o9 o10 o11 o12 z3.2)) ⟨hx, hb, hml, hown, hts⟩ (c_Mo_idle l D cI cJ cZ oh o0 o1 o2 o3 o4 o5 o6 o7 o8 o9 o10 o11 o12 N p0 z1.2 z3 hz3) (x_cwV 1 hts rfl k_300 k_301 k_302 k_246 k_303 (by decide +kernel) ⟨(Nat.le_of_ble_eq_true rfl), (Nat.le_of_ble_eq_true rfl)⟩) hK hP hD hS hA hZ [0, 1, 2, 3, 4, 5, 6, 7, 8, 9, 10, 11, 12, 13] [] [0, 1, 2, 3, 4, 5, 6, 7, 8, 9, 10, 11, 12, 13] (by decide) rfl rfl (by decide) (by decide) (by decide) rfl (ci := 3) rfl rfl rfl hl.1 rfl (Nat.le_of_ble_eq_true rfl) d_Mo_read_21 ⟨(Nat.le_of_ble_eq_true rfl), (Nat.le_of_ble_eq_true rfl)⟩ (fun H locs hP hD hS => ?_)
    refine W.eq (g2 := F0 m 24 ls [.int z3.1]) rfl ?_
    refine lv_if_eq (tgt := 33) hx hb d_Mo_read_24 (by decide) (fun c8 => ?_) (fun c8 => ?_)
    · have hf := x_ifp c8 hf
      refine lv_aload_n hx hb d_Mo_read_33 rfl (lv_at hl 0 rfl) ?_
      refine lv_iload_n hx hb d_Mo_read_34 rfl (lv_at hl 1 rfl) ?_
      refine lv_iload_n hx hb d_Mo_read_35 rfl (lv_at hl 2 rfl) ?_
      obtain ⟨z4, hz4, hf⟩ := x_bind hf
      refine x_callV (w2 := (w_Mo cI cJ cZ oh o0 o1 o2 o3 o4 o5 o6 o7 o8 o9 o10 o11 o12 z4.2)) ⟨hx, hb, hml, hown, hts⟩ (c_Mo_reads l D cI cJ cZ oh o0 o1 o2 o3 o4 o5 o6 o7 o8 o9 o10 o11 o12 N p0 p1 z3.2 z4 hz4) (x_cwV 2 hts rfl k_296 k_297 k_298 k_246 k_299 (by decide +kernel) ⟨(Nat.le_of_ble_eq_true rfl), (Nat.le_of_ble_eq_true rfl)⟩) hK hP hD hS hA hZ [0, 1, 2, 3, 4, 5, 6, 7, 8, 9, 10, 11, 12, 13] [] [0, 1, 2, 3, 4, 5, 6, 7, 8, 9, 10, 11, 12, 13] (by decide) rfl rfl (by decide) (by decide) (by decide) rfl (ci := 3) rfl rfl rfl hl.1 rfl (Nat.le_of_ble_eq_true rfl) d_Mo_read_36 ⟨(Nat.le_of_ble_eq_true rfl), (Nat.le_of_ble_eq_true rfl)⟩ (fun H locs hP hD hS => ?_)
      refine W.eq (g2 := F0 m 39 ls [.int z4.1]) rfl ?_
      refine lv_istore_n (lv' := [(3, .int z4.1), (0, .ref oh), (1, .int p0), (2, .int p1)]) hx hb d_Mo_read_39 rfl hl (by decide) rfl (fun ls hl => ?_)
      refine lv_iload_n hx hb d_Mo_read_40 rfl (lv_at hl 0 rfl) ?_
      refine lv_if_ge (tgt := 52) hx hb d_Mo_read_41 (by decide) (fun c6 => ?_) (fun c6 => ?_)
      · have hf := x_ifp c6 hf
        refine lv_iload_n hx hb d_Mo_read_52 rfl (lv_at hl 0 rfl) ?_
        obtain rfl := Option.some.inj hf
        exact x_iret hx hb hr hlocks hK hP hD hS (Nat.le_of_ble_eq_true rfl) (Nat.le_of_ble_eq_true rfl) d_Mo_read_53
      · have hf := x_ifn c6 hf
        refine lv_aload_n hx hb d_Mo_read_44 rfl (lv_at hl 1 rfl) ?_
        refine lv_iconst (v := (3 : Int32)) hx hb d_Mo_read_45 (by decide) ?_
        obtain ⟨z5, hz5, hf⟩ := x_bind hf
        refine x_callV (w2 := (w_Mo cI cJ cZ oh o0 o1 o2 o3 o4 o5 o6 o7 o8 o9 o10 o11 o12 z5.2)) ⟨hx, hb, hml, hown, hts⟩ (c_Mo_raise l D cI cJ cZ oh o0 o1 o2 o3 o4 o5 o6 o7 o8 o9 o10 o11 o12 N (3 : Int32) z4.2 z5 hz5) (x_cwV 1 hts rfl k_272 k_273 k_274 k_246 k_275 (by decide +kernel) ⟨(Nat.le_of_ble_eq_true rfl), (Nat.le_of_ble_eq_true rfl)⟩) hK hP hD hS hA hZ [0, 1, 2, 3, 4, 5, 6, 7, 8, 9, 10, 11, 12, 13] [] [0, 1, 2, 3, 4, 5, 6, 7, 8, 9, 10, 11, 12, 13] (by decide) rfl rfl (by decide) (by decide) (by decide) rfl (ci := 3) rfl rfl rfl hl.1 rfl (Nat.le_of_ble_eq_true rfl) d_Mo_read_46 ⟨(Nat.le_of_ble_eq_true rfl), (Nat.le_of_ble_eq_true rfl)⟩ (fun H locs hP hD hS => ?_)
        refine W.eq (g2 := F0 m 49 ls [.int z5.1]) rfl ?_
        refine lv_goto (tgt := 53) hx hb d_Mo_read_49 (by decide) ?_
        obtain rfl := Option.some.inj hf
        exact x_iret hx hb hr hlocks hK hP hD hS (Nat.le_of_ble_eq_true rfl) (Nat.le_of_ble_eq_true rfl) d_Mo_read_53
    · have hf := x_ifn c8 hf
      refine lv_aload_n hx hb d_Mo_read_27 rfl (lv_at hl 0 rfl) ?_
      refine lv_iconst (v := (2 : Int32)) hx hb d_Mo_read_28 (by decide) ?_
      obtain ⟨z7, hz7, hf⟩ := x_bind hf
      refine x_callV (w2 := (w_Mo cI cJ cZ oh o0 o1 o2 o3 o4 o5 o6 o7 o8 o9 o10 o11 o12 z7.2)) ⟨hx, hb, hml, hown, hts⟩ (c_Mo_raise l D cI cJ cZ oh o0 o1 o2 o3 o4 o5 o6 o7 o8 o9 o10 o11 o12 N (2 : Int32) z3.2 z7 hz7) (x_cwV 1 hts rfl k_272 k_273 k_274 k_246 k_275 (by decide +kernel) ⟨(Nat.le_of_ble_eq_true rfl), (Nat.le_of_ble_eq_true rfl)⟩) hK hP hD hS hA hZ [0, 1, 2, 3, 4, 5, 6, 7, 8, 9, 10, 11, 12, 13] [] [0, 1, 2, 3, 4, 5, 6, 7, 8, 9, 10, 11, 12, 13] (by decide) rfl rfl (by decide) (by decide) (by decide) rfl (ci := 3) rfl rfl rfl hl.1 rfl (Nat.le_of_ble_eq_true rfl) d_Mo_read_29 ⟨(Nat.le_of_ble_eq_true rfl), (Nat.le_of_ble_eq_true rfl)⟩ (fun H locs hP hD hS => ?_)
      refine W.eq (g2 := F0 m 32 ls [.int z7.1]) rfl ?_
      obtain rfl := Option.some.inj hf
      exact x_iret hx hb hr hlocks hK hP hD hS (Nat.le_of_ble_eq_true rfl) (Nat.le_of_ble_eq_true rfl) d_Mo_read_32
  · have hf := x_ifp c10 hf
    refine lv_aload_n hx hb d_Mo_read_13 rfl (lv_at hl 0 rfl) ?_
    refine lv_iconst (v := (1 : Int32)) hx hb d_Mo_read_14 (by decide) ?_
    obtain ⟨z9, hz9, hf⟩ := x_bind hf
    refine x_callV (w2 := (w_Mo cI cJ cZ oh o0 o1 o2 o3 o4 o5 o6 o7 o8 o9 o10 o11 o12 z9.2)) ⟨hx, hb, hml, hown, hts⟩ (c_Mo_raise l D cI cJ cZ oh o0 o1 o2 o3 o4 o5 o6 o7 o8 o9 o10 o11 o12 N (1 : Int32) z1.2 z9 hz9) (x_cwV 1 hts rfl k_272 k_273 k_274 k_246 k_275 (by decide +kernel) ⟨(Nat.le_of_ble_eq_true rfl), (Nat.le_of_ble_eq_true rfl)⟩) hK hP hD hS hA hZ [0, 1, 2, 3, 4, 5, 6, 7, 8, 9, 10, 11, 12, 13] [] [0, 1, 2, 3, 4, 5, 6, 7, 8, 9, 10, 11, 12, 13] (by decide) rfl rfl (by decide) (by decide) (by decide) rfl (ci := 3) rfl rfl rfl hl.1 rfl (Nat.le_of_ble_eq_true rfl) d_Mo_read_15 ⟨(Nat.le_of_ble_eq_true rfl), (Nat.le_of_ble_eq_true rfl)⟩ (fun H locs hP hD hS => ?_)
    refine W.eq (g2 := F0 m 18 ls [.int z9.1]) rfl ?_
    obtain rfl := Option.some.inj hf
    exact x_iret hx hb hr hlocks hK hP hD hS (Nat.le_of_ble_eq_true rfl) (Nat.le_of_ble_eq_true rfl) d_Mo_read_18
set_option maxHeartbeats 4000000 in
set_option maxRecDepth 100000 in
theorem c_Mo_free (l : Launch) (D : va_G) (cI cJ cZ : ClassId) (oh o0 o1 o2 o3 o4 o5 o6 o7 o8 o9 o10 o11 o12 : Nat) (N : Nat) (p0 : Int32) (U : K_Mo) (r : (Unit × K_Mo)) (hf : f_Mo_free N p0 U = some r) : Cx l y_Mo_free ws_Mo_free rm_Mo_free D vwCl (tyL cI cJ cZ) [.ref oh, .int p0] (w_Mo cI cJ cZ oh o0 o1 o2 o3 o4 o5 o6 o7 o8 o9 o10 o11 o12 U) (oV r.1) (w_Mo cI cJ cZ oh o0 o1 o2 o3 o4 o5 o6 o7 o8 o9 o10 o11 o12 r.2) := by
  unfold f_Mo_free at hf
  refine Cx.ofW (cc := b_Mo_free) (maxL := 2) (ret := none) (by decide) rfl ?_
  intro p e s m below meth c A C0 hP hK hD hA hns hZ
  obtain ⟨hx, hb, hml, hown, hts0, hr, hlocks, hnm, hno⟩ := C0
  have hown : s.vm.findClass R_Mo = some m.cls := hown
  have hts : ∀ w ∈ tb, w.before [.ref oh, .int p0].toArray s = true := fun w h => hts0 w (List.mem_cons_of_mem _ h)
  have hS : va_S A s.heap s.heap [] := va_S.rf
  have hl := lv_entry ([.ref oh, .int p0]) (n := 2) (Nat.le_of_ble_eq_true rfl)
  rw [lg_entry_eq]
  generalize (lg_sl ([.ref oh, .int p0]) ++ List.replicate (2 - (lg_sl ([.ref oh, .int p0])).length) Slot.unset).toArray = ls at hl ⊢
  have hl : lv_has ls 2 [(0, .ref oh), (1, .int p0)] := hl
  refine lv_aload_n hx hb d_Mo_free_0 rfl (lv_at hl 0 rfl) ?_
  refine va_get (D := D) (ci := 3) (v := .ref o0) (C := R_Mo) (T := F_Mo) (N := 19) hx hb hts i_Mo hown hK hP 0 rfl rfl 1 (by decide) (hts _ k_225) (fun _ h9 => h9) rfl d_Mo_free_1 ?_
  refine lv_iload_n hx hb d_Mo_free_4 rfl (lv_at hl 1 rfl) ?_
  refine lv_iconst (v := (0 : Int32)) hx hb d_Mo_free_5 (by decide) ?_
  obtain ⟨g1, hf⟩ := x_if hf
  refine va_iast hx hb hK hP hD hS 1 0 rfl rfl (xi_in g1) d_Mo_free_6 (fun H locs hP hD hS => ?_)
  have hP : va_P D vwCl (w_Mo cI cJ cZ oh o0 o1 o2 o3 o4 o5 o6 o7 o8 o9 o10 o11 o12 (((upd U.1.1 p0.toNatClampNeg (0 : Int32)), U.1.2), U.2)) H := hP
  have hD : va_D A (w_Mo cI cJ cZ oh o0 o1 o2 o3 o4 o5 o6 o7 o8 o9 o10 o11 o12 (((upd U.1.1 p0.toNatClampNeg (0 : Int32)), U.1.2), U.2)) := hD
  refine lv_aload_n hx hb d_Mo_free_7 rfl (lv_at hl 0 rfl) ?_
  refine va_get (D := D) (ci := 3) (v := .ref o1) (C := R_Mo) (T := F_Mo) (N := 19) hx hb hts i_Mo hown hK hP 0 rfl rfl 2 (by decide) (hts _ k_226) (fun _ h9 => h9) rfl d_Mo_free_8 ?_
  refine lv_iload_n hx hb d_Mo_free_11 rfl (lv_at hl 1 rfl) ?_
  refine lv_iconst (v := (0 : Int32)) hx hb d_Mo_free_12 (by decide) ?_
  obtain ⟨g2, hf⟩ := x_if hf
  refine va_iast hx hb hK hP hD hS 2 0 rfl rfl (xi_in g2) d_Mo_free_13 (fun H locs hP hD hS => ?_)
  have hP : va_P D vwCl (w_Mo cI cJ cZ oh o0 o1 o2 o3 o4 o5 o6 o7 o8 o9 o10 o11 o12 (((upd U.1.1 p0.toNatClampNeg (0 : Int32)), ((upd U.1.2.1 p0.toNatClampNeg (0 : Int32)), U.1.2.2)), U.2)) H := hP
  have hD : va_D A (w_Mo cI cJ cZ oh o0 o1 o2 o3 o4 o5 o6 o7 o8 o9 o10 o11 o12 (((upd U.1.1 p0.toNatClampNeg (0 : Int32)), ((upd U.1.2.1 p0.toNatClampNeg (0 : Int32)), U.1.2.2)), U.2)) := hD
  refine lv_aload_n hx hb d_Mo_free_14 rfl (lv_at hl 0 rfl) ?_
  refine va_get (D := D) (ci := 3) (v := .ref o2) (C := R_Mo) (T := F_Mo) (N := 19) hx hb hts i_Mo hown hK hP 0 rfl rfl 3 (by decide) (hts _ k_227) (fun _ h9 => h9) rfl d_Mo_free_15 ?_
  refine lv_iload_n hx hb d_Mo_free_18 rfl (lv_at hl 1 rfl) ?_
  refine lv_iconst (v := (-1 : Int32)) hx hb d_Mo_free_19 (by decide) ?_
  obtain ⟨g3, hf⟩ := x_if hf
  refine va_iast hx hb hK hP hD hS 3 0 rfl rfl (xi_in g3) d_Mo_free_20 (fun H locs hP hD hS => ?_)
  have hP : va_P D vwCl (w_Mo cI cJ cZ oh o0 o1 o2 o3 o4 o5 o6 o7 o8 o9 o10 o11 o12 (((upd U.1.1 p0.toNatClampNeg (0 : Int32)), ((upd U.1.2.1 p0.toNatClampNeg (0 : Int32)), ((upd U.1.2.2.1 p0.toNatClampNeg (-1 : Int32)), U.1.2.2.2))), U.2)) H := hP
  have hD : va_D A (w_Mo cI cJ cZ oh o0 o1 o2 o3 o4 o5 o6 o7 o8 o9 o10 o11 o12 (((upd U.1.1 p0.toNatClampNeg (0 : Int32)), ((upd U.1.2.1 p0.toNatClampNeg (0 : Int32)), ((upd U.1.2.2.1 p0.toNatClampNeg (-1 : Int32)), U.1.2.2.2))), U.2)) := hD
  refine lv_aload_n hx hb d_Mo_free_21 rfl (lv_at hl 0 rfl) ?_
  refine va_get (D := D) (ci := 3) (v := .ref o8) (C := R_Mo) (T := F_Mo) (N := 19) hx hb hts i_Mo hown hK hP 0 rfl rfl 9 (by decide) (hts _ k_234) (fun _ h9 => h9) rfl d_Mo_free_22 ?_
  refine lv_iload_n hx hb d_Mo_free_25 rfl (lv_at hl 1 rfl) ?_
  obtain ⟨z4, hz4, hf⟩ := x_bind hf
  refine x_callS (w2 := (w_Mo cI cJ cZ oh o0 o1 o2 o3 o4 o5 o6 o7 o8 o9 o10 o11 o12 (((upd U.1.1 p0.toNatClampNeg (0 : Int32)), ((upd U.1.2.1 p0.toNatClampNeg (0 : Int32)), ((upd U.1.2.2.1 p0.toNatClampNeg (-1 : Int32)), U.1.2.2.2))), U.2))) ⟨hx, hb, hml, hown, hts⟩ (c_Mo_pageOf l D cI cJ cZ  N p0  z4 hz4) (x_cwS 1 hts rfl k_244 k_245 k_246 k_247 (by decide +kernel) ⟨(Nat.le_of_ble_eq_true rfl), (Nat.le_of_ble_eq_true rfl)⟩) hK hP hD hS hA hZ [] [0, 1, 2, 3, 4, 5, 6, 7, 8, 9, 10, 11, 12, 13] [0, 1, 2, 3, 4, 5, 6, 7, 8, 9, 10, 11, 12, 13] (by decide) rfl rfl (by decide) (by decide) (by decide) rfl rfl hl.1 rfl (Nat.le_of_ble_eq_true rfl) d_Mo_free_26 ⟨(Nat.le_of_ble_eq_true rfl), (Nat.le_of_ble_eq_true rfl)⟩ (fun H locs hP hD hS => ?_)
  refine W.eq (g2 := F0 m 29 ls [.int z4, .ref o8]) rfl ?_
  refine lv_iconst (v := (1 : Int32)) hx hb d_Mo_free_29 (by decide) ?_
  obtain ⟨g5, hf⟩ := x_if hf
  refine va_zast hx hb hK hP hD hS 9 2 rfl rfl (xi_in g5) d_Mo_free_30 (fun H locs hP hD hS => ?_)
  have hP : va_P D vwCl (w_Mo cI cJ cZ oh o0 o1 o2 o3 o4 o5 o6 o7 o8 o9 o10 o11 o12 (((upd U.1.1 p0.toNatClampNeg (0 : Int32)), ((upd U.1.2.1 p0.toNatClampNeg (0 : Int32)), ((upd U.1.2.2.1 p0.toNatClampNeg (-1 : Int32)), U.1.2.2.2))), (U.2.1, ((upd U.2.2.1 z4.toNatClampNeg (vp_nar .boolean (1 : Int32))), U.2.2.2)))) H := hP
  have hD : va_D A (w_Mo cI cJ cZ oh o0 o1 o2 o3 o4 o5 o6 o7 o8 o9 o10 o11 o12 (((upd U.1.1 p0.toNatClampNeg (0 : Int32)), ((upd U.1.2.1 p0.toNatClampNeg (0 : Int32)), ((upd U.1.2.2.1 p0.toNatClampNeg (-1 : Int32)), U.1.2.2.2))), (U.2.1, ((upd U.2.2.1 z4.toNatClampNeg (vp_nar .boolean (1 : Int32))), U.2.2.2)))) := hD
  obtain rfl := Option.some.inj hf
  exact x_vret hx hb hr hlocks hK hP hD hS (Nat.le_of_ble_eq_true rfl) (Nat.le_of_ble_eq_true rfl) d_Mo_free_31
set_option maxHeartbeats 4000000 in
set_option maxRecDepth 100000 in
theorem c_Mo_move (l : Launch) (D : va_G) (cI cJ cZ : ClassId) (oh o0 o1 o2 o3 o4 o5 o6 o7 o8 o9 o10 o11 o12 : Nat) (N : Nat) (p0 : Int32) (p1 : Int32) (U : K_Mo) (r : (Unit × K_Mo)) (hf : f_Mo_move N p0 p1 U = some r) : Cx l y_Mo_move ws_Mo_move rm_Mo_move D vwCl (tyL cI cJ cZ) [.ref oh, .int p0, .int p1] (w_Mo cI cJ cZ oh o0 o1 o2 o3 o4 o5 o6 o7 o8 o9 o10 o11 o12 U) (oV r.1) (w_Mo cI cJ cZ oh o0 o1 o2 o3 o4 o5 o6 o7 o8 o9 o10 o11 o12 r.2) := by
  unfold f_Mo_move at hf
  refine Cx.ofW (cc := b_Mo_move) (maxL := 3) (ret := none) (by decide) rfl ?_
  intro p e s m below meth c A C0 hP hK hD hA hns hZ
  obtain ⟨hx, hb, hml, hown, hts0, hr, hlocks, hnm, hno⟩ := C0
  have hown : s.vm.findClass R_Mo = some m.cls := hown
  have hts : ∀ w ∈ tb, w.before [.ref oh, .int p0, .int p1].toArray s = true := fun w h => hts0 w (List.mem_cons_of_mem _ h)
  have hS : va_S A s.heap s.heap [] := va_S.rf
  have hl := lv_entry ([.ref oh, .int p0, .int p1]) (n := 3) (Nat.le_of_ble_eq_true rfl)
  rw [lg_entry_eq]
  generalize (lg_sl ([.ref oh, .int p0, .int p1]) ++ List.replicate (3 - (lg_sl ([.ref oh, .int p0, .int p1])).length) Slot.unset).toArray = ls at hl ⊢
  have hl : lv_has ls 3 [(0, .ref oh), (1, .int p0), (2, .int p1)] := hl
  refine lv_aload_n hx hb d_Mo_move_0 rfl (lv_at hl 0 rfl) ?_
  refine va_get (D := D) (ci := 3) (v := .ref o0) (C := R_Mo) (T := F_Mo) (N := 19) hx hb hts i_Mo hown hK hP 0 rfl rfl 1 (by decide) (hts _ k_225) (fun _ h9 => h9) rfl d_Mo_move_1 ?_
  refine lv_iload_n hx hb d_Mo_move_4 rfl (lv_at hl 2 rfl) ?_
  refine lv_aload_n hx hb d_Mo_move_5 rfl (lv_at hl 0 rfl) ?_
  refine va_get (D := D) (ci := 3) (v := .ref o0) (C := R_Mo) (T := F_Mo) (N := 19) hx hb hts i_Mo hown hK hP 0 rfl rfl 1 (by decide) (hts _ k_225) (fun _ h9 => h9) rfl d_Mo_move_6 ?_
  refine lv_iload_n hx hb d_Mo_move_9 rfl (lv_at hl 1 rfl) ?_
  obtain ⟨g1, hf⟩ := x_if hf
  refine va_iald hx hb hK hP 1 0 rfl rfl (xi_in g1) d_Mo_move_10 ?_
  obtain ⟨g2, hf⟩ := x_if hf
  refine va_iast hx hb hK hP hD hS 1 0 rfl rfl (xi_in g2) d_Mo_move_11 (fun H locs hP hD hS => ?_)
  have hP : va_P D vwCl (w_Mo cI cJ cZ oh o0 o1 o2 o3 o4 o5 o6 o7 o8 o9 o10 o11 o12 (((upd U.1.1 p1.toNatClampNeg (U.1.1 p0.toNatClampNeg)), U.1.2), U.2)) H := hP
  have hD : va_D A (w_Mo cI cJ cZ oh o0 o1 o2 o3 o4 o5 o6 o7 o8 o9 o10 o11 o12 (((upd U.1.1 p1.toNatClampNeg (U.1.1 p0.toNatClampNeg)), U.1.2), U.2)) := hD
  refine lv_aload_n hx hb d_Mo_move_12 rfl (lv_at hl 0 rfl) ?_
  refine va_get (D := D) (ci := 3) (v := .ref o1) (C := R_Mo) (T := F_Mo) (N := 19) hx hb hts i_Mo hown hK hP 0 rfl rfl 2 (by decide) (hts _ k_226) (fun _ h9 => h9) rfl d_Mo_move_13 ?_
  refine lv_iload_n hx hb d_Mo_move_16 rfl (lv_at hl 2 rfl) ?_
  refine lv_aload_n hx hb d_Mo_move_17 rfl (lv_at hl 0 rfl) ?_
  refine va_get (D := D) (ci := 3) (v := .ref o1) (C := R_Mo) (T := F_Mo) (N := 19) hx hb hts i_Mo hown hK hP 0 rfl rfl 2 (by decide) (hts _ k_226) (fun _ h9 => h9) rfl d_Mo_move_18 ?_
  refine lv_iload_n hx hb d_Mo_move_21 rfl (lv_at hl 1 rfl) ?_
  obtain ⟨g3, hf⟩ := x_if hf
  refine va_iald hx hb hK hP 2 0 rfl rfl (xi_in g3) d_Mo_move_22 ?_
  obtain ⟨g4, hf⟩ := x_if hf
  refine va_iast hx hb hK hP hD hS 2 0 rfl rfl (xi_in g4) d_Mo_move_23 (fun H locs hP hD hS => ?_)
  have hP : va_P D vwCl (w_Mo cI cJ cZ oh o0 o1 o2 o3 o4 o5 o6 o7 o8 o9 o10 o11 o12 (((upd U.1.1 p1.toNatClampNeg (U.1.1 p0.toNatClampNeg)), ((upd U.1.2.1 p1.toNatClampNeg (U.1.2.1 p0.toNatClampNeg)), U.1.2.2)), U.2)) H := hP
  have hD : va_D A (w_Mo cI cJ cZ oh o0 o1 o2 o3 o4 o5 o6 o7 o8 o9 o10 o11 o12 (((upd U.1.1 p1.toNatClampNeg (U.1.1 p0.toNatClampNeg)), ((upd U.1.2.1 p1.toNatClampNeg (U.1.2.1 p0.toNatClampNeg)), U.1.2.2)), U.2)) := hD
  refine lv_aload_n hx hb d_Mo_move_24 rfl (lv_at hl 0 rfl) ?_
  refine va_get (D := D) (ci := 3) (v := .ref o2) (C := R_Mo) (T := F_Mo) (N := 19) hx hb hts i_Mo hown hK hP 0 rfl rfl 3 (by decide) (hts _ k_227) (fun _ h9 => h9) rfl d_Mo_move_25 ?_
  refine lv_iload_n hx hb d_Mo_move_28 rfl (lv_at hl 2 rfl) ?_
  refine lv_aload_n hx hb d_Mo_move_29 rfl (lv_at hl 0 rfl) ?_
  refine va_get (D := D) (ci := 3) (v := .ref o2) (C := R_Mo) (T := F_Mo) (N := 19) hx hb hts i_Mo hown hK hP 0 rfl rfl 3 (by decide) (hts _ k_227) (fun _ h9 => h9) rfl d_Mo_move_30 ?_
  refine lv_iload_n hx hb d_Mo_move_33 rfl (lv_at hl 1 rfl) ?_
  obtain ⟨g5, hf⟩ := x_if hf
  refine va_iald hx hb hK hP 3 0 rfl rfl (xi_in g5) d_Mo_move_34 ?_
  obtain ⟨g6, hf⟩ := x_if hf
  refine va_iast hx hb hK hP hD hS 3 0 rfl rfl (xi_in g6) d_Mo_move_35 (fun H locs hP hD hS => ?_)
  have hP : va_P D vwCl (w_Mo cI cJ cZ oh o0 o1 o2 o3 o4 o5 o6 o7 o8 o9 o10 o11 o12 (((upd U.1.1 p1.toNatClampNeg (U.1.1 p0.toNatClampNeg)), ((upd U.1.2.1 p1.toNatClampNeg (U.1.2.1 p0.toNatClampNeg)), ((upd U.1.2.2.1 p1.toNatClampNeg (U.1.2.2.1 p0.toNatClampNeg)), U.1.2.2.2))), U.2)) H := hP
  have hD : va_D A (w_Mo cI cJ cZ oh o0 o1 o2 o3 o4 o5 o6 o7 o8 o9 o10 o11 o12 (((upd U.1.1 p1.toNatClampNeg (U.1.1 p0.toNatClampNeg)), ((upd U.1.2.1 p1.toNatClampNeg (U.1.2.1 p0.toNatClampNeg)), ((upd U.1.2.2.1 p1.toNatClampNeg (U.1.2.2.1 p0.toNatClampNeg)), U.1.2.2.2))), U.2)) := hD
  refine lv_aload_n hx hb d_Mo_move_36 rfl (lv_at hl 0 rfl) ?_
  refine va_get (D := D) (ci := 3) (v := .ref o8) (C := R_Mo) (T := F_Mo) (N := 19) hx hb hts i_Mo hown hK hP 0 rfl rfl 9 (by decide) (hts _ k_234) (fun _ h9 => h9) rfl d_Mo_move_37 ?_
  refine lv_iload_n hx hb d_Mo_move_40 rfl (lv_at hl 2 rfl) ?_
  obtain ⟨z7, hz7, hf⟩ := x_bind hf
  refine x_callS (w2 := (w_Mo cI cJ cZ oh o0 o1 o2 o3 o4 o5 o6 o7 o8 o9 o10 o11 o12 (((upd U.1.1 p1.toNatClampNeg (U.1.1 p0.toNatClampNeg)), ((upd U.1.2.1 p1.toNatClampNeg (U.1.2.1 p0.toNatClampNeg)), ((upd U.1.2.2.1 p1.toNatClampNeg (U.1.2.2.1 p0.toNatClampNeg)), U.1.2.2.2))), U.2))) ⟨hx, hb, hml, hown, hts⟩ (c_Mo_pageOf l D cI cJ cZ  N p1  z7 hz7) (x_cwS 1 hts rfl k_244 k_245 k_246 k_247 (by decide +kernel) ⟨(Nat.le_of_ble_eq_true rfl), (Nat.le_of_ble_eq_true rfl)⟩) hK hP hD hS hA hZ [] [0, 1, 2, 3, 4, 5, 6, 7, 8, 9, 10, 11, 12, 13] [0, 1, 2, 3, 4, 5, 6, 7, 8, 9, 10, 11, 12, 13] (by decide) rfl rfl (by decide) (by decide) (by decide) rfl rfl hl.1 rfl (Nat.le_of_ble_eq_true rfl) d_Mo_move_41 ⟨(Nat.le_of_ble_eq_true rfl), (Nat.le_of_ble_eq_true rfl)⟩ (fun H locs hP hD hS => ?_)
  refine W.eq (g2 := F0 m 44 ls [.int z7, .ref o8]) rfl ?_
  refine lv_iconst (v := (1 : Int32)) hx hb d_Mo_move_44 (by decide) ?_
  obtain ⟨g8, hf⟩ := x_if hf
  refine va_zast hx hb hK hP hD hS 9 2 rfl rfl (xi_in g8) d_Mo_move_45 (fun H locs hP hD hS => ?_)
  have hP : va_P D vwCl (w_Mo cI cJ cZ oh o0 o1 o2 o3 o4 o5 o6 o7 o8 o9 o10 o11 o12 (((upd U.1.1 p1.toNatClampNeg (U.1.1 p0.toNatClampNeg)), ((upd U.1.2.1 p1.toNatClampNeg (U.1.2.1 p0.toNatClampNeg)), ((upd U.1.2.2.1 p1.toNatClampNeg (U.1.2.2.1 p0.toNatClampNeg)), U.1.2.2.2))), (U.2.1, ((upd U.2.2.1 z7.toNatClampNeg (vp_nar .boolean (1 : Int32))), U.2.2.2)))) H := hP
  have hD : va_D A (w_Mo cI cJ cZ oh o0 o1 o2 o3 o4 o5 o6 o7 o8 o9 o10 o11 o12 (((upd U.1.1 p1.toNatClampNeg (U.1.1 p0.toNatClampNeg)), ((upd U.1.2.1 p1.toNatClampNeg (U.1.2.1 p0.toNatClampNeg)), ((upd U.1.2.2.1 p1.toNatClampNeg (U.1.2.2.1 p0.toNatClampNeg)), U.1.2.2.2))), (U.2.1, ((upd U.2.2.1 z7.toNatClampNeg (vp_nar .boolean (1 : Int32))), U.2.2.2)))) := hD
  obtain rfl := Option.some.inj hf
  exact x_vret hx hb hr hlocks hK hP hD hS (Nat.le_of_ble_eq_true rfl) (Nat.le_of_ble_eq_true rfl) d_Mo_move_46
set_option maxHeartbeats 4000000 in
set_option maxRecDepth 100000 in
theorem c_Mo_clean (l : Launch) (D : va_G) (cI cJ cZ : ClassId) (oh o0 o1 o2 o3 o4 o5 o6 o7 o8 o9 o10 o11 o12 : Nat) (N : Nat) (p0 : Int32) (U : K_Mo) (r : (Unit × K_Mo)) (hf : f_Mo_clean N p0 U = some r) : Cx l y_Mo_clean ws_Mo_clean rm_Mo_clean D vwCl (tyL cI cJ cZ) [.ref oh, .int p0] (w_Mo cI cJ cZ oh o0 o1 o2 o3 o4 o5 o6 o7 o8 o9 o10 o11 o12 U) (oV r.1) (w_Mo cI cJ cZ oh o0 o1 o2 o3 o4 o5 o6 o7 o8 o9 o10 o11 o12 r.2) := by
  unfold f_Mo_clean at hf
  refine Cx.ofW (cc := b_Mo_clean) (maxL := 3) (ret := none) (by decide) rfl ?_
  intro p e s m below meth c A C0 hP hK hD hA hns hZ
  obtain ⟨hx, hb, hml, hown, hts0, hr, hlocks, hnm, hno⟩ := C0
  have hown : s.vm.findClass R_Mo = some m.cls := hown
  have hts : ∀ w ∈ tb, w.before [.ref oh, .int p0].toArray s = true := fun w h => hts0 w (List.mem_cons_of_mem _ h)
  have hS : va_S A s.heap s.heap [] := va_S.rf
  have hl := lv_entry ([.ref oh, .int p0]) (n := 3) (Nat.le_of_ble_eq_true rfl)
  rw [lg_entry_eq]
  generalize (lg_sl ([.ref oh, .int p0]) ++ List.replicate (3 - (lg_sl ([.ref oh, .int p0])).length) Slot.unset).toArray = ls at hl ⊢
  have hl : lv_has ls 3 [(0, .ref oh), (1, .int p0)] := hl
  have L_0 : ∀ n : Nat, ∀ (x1 : Int32) (U : K_Mo), f_Mo_clean_0 N n x1 U = some r → ∀ (H : Heap) (locs : List Loc) (ls : Array Slot), va_P D vwCl (w_Mo cI cJ cZ oh o0 o1 o2 o3 o4 o5 o6 o7 o8 o9 o10 o11 o12 U) H → va_D A (w_Mo cI cJ cZ oh o0 o1 o2 o3 o4 o5 o6 o7 o8 o9 o10 o11 o12 U) → va_S A s.heap H locs → lv_has ls 3 [(0, .ref oh), (1, .int x1)] → W p l e (rm_Mo_clean) s m [.ref oh, .int p0].toArray below meth c H locs 0 0 (xQ D vwCl (tyL cI cJ cZ) below s A (oV r.1) (w_Mo cI cJ cZ oh o0 o1 o2 o3 o4 o5 o6 o7 o8 o9 o10 o11 o12 r.2) (rm_Mo_clean).cells (rm_Mo_clean).slots) (F0 m 0 ls []) := by
    intro n
    induction n with
    | zero =>
      intro x1 U hf
      have hf : (none : Option (Unit × K_Mo)) = some r := hf
      cases hf
    | succ n ih =>
      intro x1 U hf H locs ls hP hD hS hl
      rw [f_Mo_clean_0] at hf
      refine lv_aload_n hx hb d_Mo_clean_0 rfl (lv_at hl 0 rfl) ?_
      refine va_get (D := D) (ci := 3) (v := .int U.2.2.2.2.2.2.2.2.2.2.2.1) (C := R_Mo) (T := F_Mo) (N := 19) hx hb hts i_Mo hown hK hP 0 rfl rfl 17 (by decide) (hts _ k_241) (fun _ h9 => h9) rfl d_Mo_clean_1 ?_
      refine lv_if_ne (tgt := 83) hx hb d_Mo_clean_4 (by decide) (fun c15 => ?_) (fun c15 => ?_)
      · have hf := x_ifn c15 hf
        obtain rfl := Option.some.inj hf
        exact x_vret hx hb hr hlocks hK hP hD hS (Nat.le_of_ble_eq_true rfl) (Nat.le_of_ble_eq_true rfl) d_Mo_clean_83
      · have hf := x_ifp c15 hf
        refine lv_aload_n hx hb d_Mo_clean_7 rfl (lv_at hl 0 rfl) ?_
        refine va_get (D := D) (ci := 3) (v := .ref o0) (C := R_Mo) (T := F_Mo) (N := 19) hx hb hts i_Mo hown hK hP 0 rfl rfl 1 (by decide) (hts _ k_225) (fun _ h9 => h9) rfl d_Mo_clean_8 ?_
        refine lv_iload_n hx hb d_Mo_clean_11 rfl (lv_at hl 1 rfl) ?_
        obtain ⟨g1, hf⟩ := x_if hf
        refine va_iald hx hb hK hP 1 0 rfl rfl (xi_in g1) d_Mo_clean_12 ?_
        refine lv_if_eq (tgt := 83) hx hb d_Mo_clean_13 (by decide) (fun c14 => ?_) (fun c14 => ?_)
        · have hf := x_ifp c14 hf
          obtain rfl := Option.some.inj hf
          exact x_vret hx hb hr hlocks hK hP hD hS (Nat.le_of_ble_eq_true rfl) (Nat.le_of_ble_eq_true rfl) d_Mo_clean_83
        · have hf := x_ifn c14 hf
          refine lv_aload_n hx hb d_Mo_clean_16 rfl (lv_at hl 0 rfl) ?_
          refine va_get (D := D) (ci := 3) (v := .ref o6) (C := R_Mo) (T := F_Mo) (N := 19) hx hb hts i_Mo hown hK hP 0 rfl rfl 7 (by decide) (hts _ k_231) (fun _ h9 => h9) rfl d_Mo_clean_17 ?_
          refine lv_aload_n hx hb d_Mo_clean_20 rfl (lv_at hl 0 rfl) ?_
          refine va_get (D := D) (ci := 3) (v := .ref o0) (C := R_Mo) (T := F_Mo) (N := 19) hx hb hts i_Mo hown hK hP 0 rfl rfl 1 (by decide) (hts _ k_225) (fun _ h9 => h9) rfl d_Mo_clean_21 ?_
          refine lv_iload_n hx hb d_Mo_clean_24 rfl (lv_at hl 1 rfl) ?_
          obtain ⟨g2, hf⟩ := x_if hf
          refine va_iald hx hb hK hP 1 0 rfl rfl (xi_in g2) d_Mo_clean_25 ?_
          obtain ⟨g3, hf⟩ := x_if hf
          refine va_iald hx hb hK hP 7 0 rfl rfl (xi_in g3) d_Mo_clean_26 ?_
          refine lv_iconst (v := (3 : Int32)) hx hb d_Mo_clean_27 (by decide) ?_
          refine lv_icmp_ne (tgt := 83) hx hb d_Mo_clean_28 (by decide) (fun c13 => ?_) (fun c13 => ?_)
          · have hf := x_ifn c13 hf
            obtain rfl := Option.some.inj hf
            exact x_vret hx hb hr hlocks hK hP hD hS (Nat.le_of_ble_eq_true rfl) (Nat.le_of_ble_eq_true rfl) d_Mo_clean_83
          · have hf := x_ifp c13 hf
            refine lv_aload_n hx hb d_Mo_clean_31 rfl (lv_at hl 0 rfl) ?_
            refine lv_iload_n hx hb d_Mo_clean_32 rfl (lv_at hl 1 rfl) ?_
            obtain ⟨z4, hz4, hf⟩ := x_bind hf
            refine x_callV (w2 := (w_Mo cI cJ cZ oh o0 o1 o2 o3 o4 o5 o6 o7 o8 o9 o10 o11 o12 z4.2)) ⟨hx, hb, hml, hown, hts⟩ (c_Mo_behind l D cI cJ cZ oh o0 o1 o2 o3 o4 o5 o6 o7 o8 o9 o10 o11 o12 N x1 U z4 hz4) (x_cwV 1 hts rfl k_288 k_289 k_290 k_246 k_291 (by decide +kernel) ⟨(Nat.le_of_ble_eq_true rfl), (Nat.le_of_ble_eq_true rfl)⟩) hK hP hD hS hA hZ [0, 1, 2, 3, 4, 5, 6, 7, 8, 9, 10, 11, 12, 13] [] [0, 1, 2, 3, 4, 5, 6, 7, 8, 9, 10, 11, 12, 13] (by decide) rfl rfl (by decide) (by decide) (by decide) rfl (ci := 3) rfl rfl rfl hl.1 rfl (Nat.le_of_ble_eq_true rfl) d_Mo_clean_33 ⟨(Nat.le_of_ble_eq_true rfl), (Nat.le_of_ble_eq_true rfl)⟩ (fun H locs hP hD hS => ?_)
            refine W.eq (g2 := F0 m 36 ls [.int z4.1]) rfl ?_
            refine lv_istore_n (lv' := [(2, .int z4.1), (0, .ref oh), (1, .int x1)]) hx hb d_Mo_clean_36 rfl hl (by decide) rfl (fun ls hl => ?_)
            refine lv_iload_n hx hb d_Mo_clean_37 rfl (lv_at hl 0 rfl) ?_
            refine lv_if_ge (tgt := 49) hx hb d_Mo_clean_38 (by decide) (fun c12 => ?_) (fun c12 => ?_)
            · have hf := x_ifp c12 hf
              refine lv_aload_n hx hb d_Mo_clean_49 rfl (lv_at hl 1 rfl) ?_
              refine lv_iload_n hx hb d_Mo_clean_50 rfl (lv_at hl 2 rfl) ?_
              obtain ⟨z5, hz5, hf⟩ := x_bind hf
              refine x_callS (w2 := (w_Mo cI cJ cZ oh o0 o1 o2 o3 o4 o5 o6 o7 o8 o9 o10 o11 o12 z4.2)) ⟨hx, hb, hml, hown, hts⟩ (c_Mo_pageOf l D cI cJ cZ  N x1  z5 hz5) (x_cwS 1 hts rfl k_244 k_245 k_246 k_247 (by decide +kernel) ⟨(Nat.le_of_ble_eq_true rfl), (Nat.le_of_ble_eq_true rfl)⟩) hK hP hD hS hA hZ [] [0, 1, 2, 3, 4, 5, 6, 7, 8, 9, 10, 11, 12, 13] [0, 1, 2, 3, 4, 5, 6, 7, 8, 9, 10, 11, 12, 13] (by decide) rfl rfl (by decide) (by decide) (by decide) rfl rfl hl.1 rfl (Nat.le_of_ble_eq_true rfl) d_Mo_clean_51 ⟨(Nat.le_of_ble_eq_true rfl), (Nat.le_of_ble_eq_true rfl)⟩ (fun H locs hP hD hS => ?_)
              refine W.eq (g2 := F0 m 54 ls [.int z5, .ref oh]) rfl ?_
              refine lv_iload_n hx hb d_Mo_clean_54 rfl (lv_at hl 0 rfl) ?_
              obtain ⟨z6, hz6, hf⟩ := x_bind hf
              refine x_callS (w2 := (w_Mo cI cJ cZ oh o0 o1 o2 o3 o4 o5 o6 o7 o8 o9 o10 o11 o12 z4.2)) ⟨hx, hb, hml, hown, hts⟩ (c_Mo_pageOf l D cI cJ cZ  N z4.1  z6 hz6) (x_cwS 1 hts rfl k_244 k_245 k_246 k_247 (by decide +kernel) ⟨(Nat.le_of_ble_eq_true rfl), (Nat.le_of_ble_eq_true rfl)⟩) hK hP hD hS hA hZ [] [0, 1, 2, 3, 4, 5, 6, 7, 8, 9, 10, 11, 12, 13] [0, 1, 2, 3, 4, 5, 6, 7, 8, 9, 10, 11, 12, 13] (by decide) rfl rfl (by decide) (by decide) (by decide) rfl rfl hl.1 rfl (Nat.le_of_ble_eq_true rfl) d_Mo_clean_55 ⟨(Nat.le_of_ble_eq_true rfl), (Nat.le_of_ble_eq_true rfl)⟩ (fun H locs hP hD hS => ?_)
              refine W.eq (g2 := F0 m 58 ls [.int z6, .int z5, .ref oh]) rfl ?_
              obtain ⟨z7, hz7, hf⟩ := x_bind hf
              refine x_callV (w2 := (w_Mo cI cJ cZ oh o0 o1 o2 o3 o4 o5 o6 o7 o8 o9 o10 o11 o12 z7.2)) ⟨hx, hb, hml, hown, hts⟩ (c_Mo_note l D cI cJ cZ oh o0 o1 o2 o3 o4 o5 o6 o7 o8 o9 o10 o11 o12 N z5 z6 z4.2 z7 hz7) (x_cwV 2 hts rfl k_312 k_313 k_314 k_246 k_315 (by decide +kernel) ⟨(Nat.le_of_ble_eq_true rfl), (Nat.le_of_ble_eq_true rfl)⟩) hK hP hD hS hA hZ [0, 1, 2, 3, 4, 5, 6, 7, 8, 9, 10, 11, 12, 13] [] [0, 1, 2, 3, 4, 5, 6, 7, 8, 9, 10, 11, 12, 13] (by decide) rfl rfl (by decide) (by decide) (by decide) rfl (ci := 3) rfl rfl rfl hl.1 rfl (Nat.le_of_ble_eq_true rfl) d_Mo_clean_58 ⟨(Nat.le_of_ble_eq_true rfl), (Nat.le_of_ble_eq_true rfl)⟩ (fun H locs hP hD hS => ?_)
              refine W.eq (g2 := F0 m 61 ls []) rfl ?_
              refine lv_aload_n hx hb d_Mo_clean_61 rfl (lv_at hl 1 rfl) ?_
              refine va_get (D := D) (ci := 3) (v := .int z7.2.2.2.2.2.2.2.2.2.2.2.2.1) (C := R_Mo) (T := F_Mo) (N := 19) hx hb hts i_Mo hown hK hP 0 rfl rfl 17 (by decide) (hts _ k_241) (fun _ h9 => h9) rfl d_Mo_clean_62 ?_
              refine lv_if_eq (tgt := 69) hx hb d_Mo_clean_65 (by decide) (fun c10 => ?_) (fun c10 => ?_)
              · have hf := x_ifp c10 hf
                refine lv_aload_n hx hb d_Mo_clean_69 rfl (lv_at hl 1 rfl) ?_
                refine lv_iload_n hx hb d_Mo_clean_70 rfl (lv_at hl 0 rfl) ?_
                refine lv_iload_n hx hb d_Mo_clean_71 rfl (lv_at hl 2 rfl) ?_
                obtain ⟨z8, hz8, hf⟩ := x_bind hf
                refine x_callV (w2 := (w_Mo cI cJ cZ oh o0 o1 o2 o3 o4 o5 o6 o7 o8 o9 o10 o11 o12 z8.2)) ⟨hx, hb, hml, hown, hts⟩ (c_Mo_move l D cI cJ cZ oh o0 o1 o2 o3 o4 o5 o6 o7 o8 o9 o10 o11 o12 N z4.1 x1 z7.2 z8 hz8) (x_cwV 2 hts rfl k_308 k_309 k_310 k_246 k_311 (by decide +kernel) ⟨(Nat.le_of_ble_eq_true rfl), (Nat.le_of_ble_eq_true rfl)⟩) hK hP hD hS hA hZ [0, 1, 2, 3, 4, 5, 6, 7, 8, 9, 10, 11, 12, 13] [] [0, 1, 2, 3, 4, 5, 6, 7, 8, 9, 10, 11, 12, 13] (by decide) rfl rfl (by decide) (by decide) (by decide) rfl (ci := 3) rfl rfl rfl hl.1 rfl (Nat.le_of_ble_eq_true rfl) d_Mo_clean_72 ⟨(Nat.le_of_ble_eq_true rfl), (Nat.le_of_ble_eq_true rfl)⟩ (fun H locs hP hD hS => ?_)
                refine W.eq (g2 := F0 m 75 ls []) rfl ?_
                refine lv_aload_n hx hb d_Mo_clean_75 rfl (lv_at hl 1 rfl) ?_
                refine lv_iload_n hx hb d_Mo_clean_76 rfl (lv_at hl 0 rfl) ?_
                obtain ⟨z9, hz9, hf⟩ := x_bind hf
                refine x_callV (w2 := (w_Mo cI cJ cZ oh o0 o1 o2 o3 o4 o5 o6 o7 o8 o9 o10 o11 o12 z9.2)) ⟨hx, hb, hml, hown, hts⟩ (c_Mo_free l D cI cJ cZ oh o0 o1 o2 o3 o4 o5 o6 o7 o8 o9 o10 o11 o12 N z4.1 z8.2 z9 hz9) (x_cwV 1 hts rfl k_304 k_305 k_306 k_246 k_307 (by decide +kernel) ⟨(Nat.le_of_ble_eq_true rfl), (Nat.le_of_ble_eq_true rfl)⟩) hK hP hD hS hA hZ [0, 1, 2, 3, 4, 5, 6, 7, 8, 9, 10, 11, 12, 13] [] [0, 1, 2, 3, 4, 5, 6, 7, 8, 9, 10, 11, 12, 13] (by decide) rfl rfl (by decide) (by decide) (by decide) rfl (ci := 3) rfl rfl rfl hl.1 rfl (Nat.le_of_ble_eq_true rfl) d_Mo_clean_77 ⟨(Nat.le_of_ble_eq_true rfl), (Nat.le_of_ble_eq_true rfl)⟩ (fun H locs hP hD hS => ?_)
                refine W.eq (g2 := F0 m 80 ls []) rfl ?_
                refine lv_goto (tgt := 0) hx hb d_Mo_clean_80 (by decide) ?_
                exact ih _ _ hf _ _ _ hP hD hS (lv_sub hl [1, 2] rfl)
              · have hf := x_ifn c10 hf
                obtain rfl := Option.some.inj hf
                exact x_vret hx hb hr hlocks hK hP hD hS (Nat.le_of_ble_eq_true rfl) (Nat.le_of_ble_eq_true rfl) d_Mo_clean_68
            · have hf := x_ifn c12 hf
              refine lv_aload_n hx hb d_Mo_clean_41 rfl (lv_at hl 1 rfl) ?_
              refine lv_iload_n hx hb d_Mo_clean_42 rfl (lv_at hl 2 rfl) ?_
              obtain ⟨z11, hz11, hf⟩ := x_bind hf
              refine x_callV (w2 := (w_Mo cI cJ cZ oh o0 o1 o2 o3 o4 o5 o6 o7 o8 o9 o10 o11 o12 z11.2)) ⟨hx, hb, hml, hown, hts⟩ (c_Mo_free l D cI cJ cZ oh o0 o1 o2 o3 o4 o5 o6 o7 o8 o9 o10 o11 o12 N x1 z4.2 z11 hz11) (x_cwV 1 hts rfl k_304 k_305 k_306 k_246 k_307 (by decide +kernel) ⟨(Nat.le_of_ble_eq_true rfl), (Nat.le_of_ble_eq_true rfl)⟩) hK hP hD hS hA hZ [0, 1, 2, 3, 4, 5, 6, 7, 8, 9, 10, 11, 12, 13] [] [0, 1, 2, 3, 4, 5, 6, 7, 8, 9, 10, 11, 12, 13] (by decide) rfl rfl (by decide) (by decide) (by decide) rfl (ci := 3) rfl rfl rfl hl.1 rfl (Nat.le_of_ble_eq_true rfl) d_Mo_clean_43 ⟨(Nat.le_of_ble_eq_true rfl), (Nat.le_of_ble_eq_true rfl)⟩ (fun H locs hP hD hS => ?_)
              refine W.eq (g2 := F0 m 46 ls []) rfl ?_
              refine lv_goto (tgt := 0) hx hb d_Mo_clean_46 (by decide) ?_
              exact ih _ _ hf _ _ _ hP hD hS (lv_sub hl [1, 2] rfl)
  exact L_0 _ _ _ hf _ _ _ hP hD hS (lv_sub hl [0, 1] rfl)
