set_option maxHeartbeats 4000000 in
set_option maxRecDepth 100000 in
theorem c_Co_placeAt (l : Launch) (D : va_G) (cI cJ cZ : ClassId) (mh m0 m1 m2 m3 : Nat) (N : Nat) (p0 : Int32) (p1 : Int32) (U : K_Co) (r : (Int32 × K_Co)) (hf : f_Co_placeAt N p0 p1 U = some r) : Cx l y_Co_placeAt ws_Co_placeAt rm_Co_placeAt D vwCl (tyL cI cJ cZ) [.ref mh, .int p0, .int p1] (w_Co cI cJ cZ mh m0 m1 m2 m3 U) (oI r.1) (w_Co cI cJ cZ mh m0 m1 m2 m3 r.2) := by
  unfold f_Co_placeAt at hf
  refine Cx.ofW (cc := b_Co_placeAt) (maxL := 5) (ret := (some .int)) (by decide) rfl ?_
  intro p e s m below meth c A C0 hP hK hD hA hns hZ
  obtain ⟨hx, hb, hml, hown, hts0, hr, hlocks, hnm, hno⟩ := C0
  have hown : s.vm.findClass R_Co = some m.cls := hown
  have hts : ∀ w ∈ tb, w.before [.ref mh, .int p0, .int p1].toArray s = true := fun w h => hts0 w (List.mem_cons_of_mem _ h)
  have hS : va_S A s.heap s.heap [] := va_S.rf
  have hl := lv_entry ([.ref mh, .int p0, .int p1]) (n := 5) (Nat.le_of_ble_eq_true rfl)
  rw [lg_entry_eq]
  generalize (lg_sl ([.ref mh, .int p0, .int p1]) ++ List.replicate (5 - (lg_sl ([.ref mh, .int p0, .int p1])).length) Slot.unset).toArray = ls at hl ⊢
  have hl : lv_has ls 5 [(0, .ref mh), (1, .int p0), (2, .int p1)] := hl
  have L_26 : ∀ n : Nat, ∀ (x2 : Int32) (x3 : Int32) (x4 : Int32) (U : K_Co), f_Co_placeAt_26 N n x2 x3 x4 U = some r → ∀ (H : Heap) (locs : List Loc) (ls : Array Slot), va_P D vwCl (w_Co cI cJ cZ mh m0 m1 m2 m3 U) H → va_D A (w_Co cI cJ cZ mh m0 m1 m2 m3 U) → va_S A s.heap H locs → lv_has ls 5 [(0, .ref mh), (2, .int x2), (3, .int x3), (4, .int x4)] → W p l e (rm_Co_placeAt) s m [.ref mh, .int p0, .int p1].toArray below meth c H locs 0 0 (xQ D vwCl (tyL cI cJ cZ) below s A (oI r.1) (w_Co cI cJ cZ mh m0 m1 m2 m3 r.2) (rm_Co_placeAt).cells (rm_Co_placeAt).slots) (F0 m 26 ls []) := by
    intro n
    induction n with
    | zero =>
      intro x2 x3 x4 U hf
      have hf : (none : Option (Int32 × K_Co)) = some r := hf
      cases hf
    | succ n ih =>
      intro x2 x3 x4 U hf H locs ls hP hD hS hl
      rw [f_Co_placeAt_26] at hf
      refine lv_iload hx hb d_Co_placeAt_26 (lv_at hl 3 rfl) ?_
      refine lv_iload_n hx hb d_Co_placeAt_28 rfl (lv_at hl 1 rfl) ?_
      refine lv_icmp_ge (tgt := 49) hx hb d_Co_placeAt_29 (by decide) (fun c4 => ?_) (fun c4 => ?_)
      · have hf := x_ifp c4 hf
        refine lv_iload_n hx hb d_Co_placeAt_49 rfl (lv_at hl 2 rfl) ?_
        obtain rfl := Option.some.inj hf
        exact x_iret hx hb hr hlocks hK hP hD hS (Nat.le_of_ble_eq_true rfl) (Nat.le_of_ble_eq_true rfl) d_Co_placeAt_50
      · have hf := x_ifn c4 hf
        refine lv_iload_n hx hb d_Co_placeAt_32 rfl (lv_at hl 2 rfl) ?_
        refine lv_iconst (v := (-1 : Int32)) hx hb d_Co_placeAt_33 (by decide) ?_
        refine lv_icmp_eq (tgt := 49) hx hb d_Co_placeAt_34 (by decide) (fun c3 => ?_) (fun c3 => ?_)
        · have hf := x_ifp c3 hf
          refine lv_iload_n hx hb d_Co_placeAt_49 rfl (lv_at hl 2 rfl) ?_
          obtain rfl := Option.some.inj hf
          exact x_iret hx hb hr hlocks hK hP hD hS (Nat.le_of_ble_eq_true rfl) (Nat.le_of_ble_eq_true rfl) d_Co_placeAt_50
        · have hf := x_ifn c3 hf
          refine lv_aload_n hx hb d_Co_placeAt_37 rfl (lv_at hl 0 rfl) ?_
          refine lv_iload_n hx hb d_Co_placeAt_38 rfl (lv_at hl 2 rfl) ?_
          obtain ⟨z2, hz2, hf⟩ := x_bind hf
          refine x_callV (w2 := (w_Co cI cJ cZ mh m0 m1 m2 m3 z2.2)) ⟨hx, hb, hml, hown, hts⟩ (c_Co_next l D cI cJ cZ mh m0 m1 m2 m3 N x3 U z2 hz2) (x_cwV 1 hts rfl k_17 k_18 k_19 k_11 k_20 (by decide +kernel) ⟨(Nat.le_of_ble_eq_true rfl), (Nat.le_of_ble_eq_true rfl)⟩) hK hP hD hS hA hZ [0, 1, 2, 3, 4] [] [0, 1, 2, 3, 4] (by decide) rfl rfl (by decide) (by decide) (by decide) rfl (ci := 0) rfl rfl rfl hl.1 rfl (Nat.le_of_ble_eq_true rfl) d_Co_placeAt_39 ⟨(Nat.le_of_ble_eq_true rfl), (Nat.le_of_ble_eq_true rfl)⟩ (fun H locs hP hD hS => ?_)
          refine W.eq (g2 := F0 m 42 ls [.int z2.1]) rfl ?_
          refine lv_istore_n (lv' := [(3, .int z2.1), (0, .ref mh), (2, .int x2), (4, .int x4)]) hx hb d_Co_placeAt_42 rfl hl (by decide) rfl (fun ls hl => ?_)
          refine lv_iinc (v := (x4 + (1 : Int32))) (lv' := [(4, .int (x4 + (1 : Int32))), (3, .int z2.1), (0, .ref mh), (2, .int x2)]) hx hb d_Co_placeAt_43 hl (k := 3) rfl rfl (by decide) rfl (fun ls hl => ?_)
          refine lv_goto (tgt := 26) hx hb d_Co_placeAt_46 (by decide) ?_
          exact ih _ _ _ _ hf _ _ _ hP hD hS (lv_sub hl [2, 3, 1, 0] rfl)
  refine lv_iload_n hx hb d_Co_placeAt_0 rfl (lv_at hl 2 rfl) ?_
  refine lv_if_lt (tgt := 19) hx hb d_Co_placeAt_1 (by decide) (fun c7 => ?_) (fun c7 => ?_)
  · have hf := x_ifp c7 hf
    refine lv_iconst (v := (-1 : Int32)) hx hb d_Co_placeAt_19 (by decide) ?_
    obtain rfl := Option.some.inj hf
    exact x_iret hx hb hr hlocks hK hP hD hS (Nat.le_of_ble_eq_true rfl) (Nat.le_of_ble_eq_true rfl) d_Co_placeAt_20
  · have hf := x_ifn c7 hf
    refine lv_iload_n hx hb d_Co_placeAt_4 rfl (lv_at hl 2 rfl) ?_
    refine lv_bipush (v := (15 : Int32)) hx hb d_Co_placeAt_5 (by decide) ?_
    refine lv_icmp_ge (tgt := 19) hx hb d_Co_placeAt_7 (by decide) (fun c6 => ?_) (fun c6 => ?_)
    · have hf := x_ifp c6 hf
      refine lv_iconst (v := (-1 : Int32)) hx hb d_Co_placeAt_19 (by decide) ?_
      obtain rfl := Option.some.inj hf
      exact x_iret hx hb hr hlocks hK hP hD hS (Nat.le_of_ble_eq_true rfl) (Nat.le_of_ble_eq_true rfl) d_Co_placeAt_20
    · have hf := x_ifn c6 hf
      refine lv_aload_n hx hb d_Co_placeAt_10 rfl (lv_at hl 0 rfl) ?_
      refine va_get (D := D) (ci := 0) (v := .ref m0) (C := R_Co) (T := F_Co) (N := 4) hx hb hts i_Co hown hK hP 0 rfl rfl 0 (by decide) (hts _ k_4) (fun _ h9 => h9) rfl d_Co_placeAt_11 ?_
      refine lv_iload_n hx hb d_Co_placeAt_14 rfl (lv_at hl 1 rfl) ?_
      obtain ⟨g1, hf⟩ := x_if hf
      refine va_iald hx hb hK hP 1 0 rfl rfl (xi_in g1) d_Co_placeAt_15 ?_
      refine lv_if_ne (tgt := 21) hx hb d_Co_placeAt_16 (by decide) (fun c5 => ?_) (fun c5 => ?_)
      · have hf := x_ifn c5 hf
        refine lv_iload_n hx hb d_Co_placeAt_21 rfl (lv_at hl 1 rfl) ?_
        refine lv_istore_n (lv' := [(3, .int p0), (0, .ref mh), (1, .int p0), (2, .int p1)]) hx hb d_Co_placeAt_22 rfl hl (by decide) rfl (fun ls hl => ?_)
        refine lv_iconst (v := (0 : Int32)) hx hb d_Co_placeAt_23 (by decide) ?_
        refine lv_istore (lv' := [(4, .int (0 : Int32)), (3, .int p0), (0, .ref mh), (1, .int p0), (2, .int p1)]) hx hb d_Co_placeAt_24 hl (by decide) rfl (fun ls hl => ?_)
        exact L_26 _ _ _ _ _ hf _ _ _ hP hD hS (lv_sub hl [2, 4, 1, 0] rfl)
      · have hf := x_ifp c5 hf
        refine lv_iconst (v := (-1 : Int32)) hx hb d_Co_placeAt_19 (by decide) ?_
        obtain rfl := Option.some.inj hf
        exact x_iret hx hb hr hlocks hK hP hD hS (Nat.le_of_ble_eq_true rfl) (Nat.le_of_ble_eq_true rfl) d_Co_placeAt_20
set_option maxHeartbeats 4000000 in
set_option maxRecDepth 100000 in
theorem c_Rv_has (l : Launch) (D : va_G) (cI cJ cZ : ClassId) (N : Nat) (p0 : Int64) (p1 : Int32) (r : Int32) (hf : f_Rv_has N p0 p1 = some r) : Cx l y_Rv_has ws_Rv_has rm_Rv_has D vwCl (tyL cI cJ cZ) [.long p0, .int p1] [] (oI r) [] := by
  unfold f_Rv_has at hf
  refine Cx.ofW (cc := b_Rv_has) (maxL := 3) (ret := (some .boolean)) (by decide) rfl ?_
  intro p e s m below meth c A C0 hP hK hD hA hns hZ
  obtain ⟨hx, hb, hml, hown, hts0, hr, hlocks, hnm, hno⟩ := C0
  have hown : s.vm.findClass R_Rv = some m.cls := hown
  have hts : ∀ w ∈ tb, w.before [.long p0, .int p1].toArray s = true := fun w h => hts0 w (List.mem_cons_of_mem _ h)
  have hS : va_S A s.heap s.heap [] := va_S.rf
  have hl := lv_entry ([.long p0, .int p1]) (n := 3) (Nat.le_of_ble_eq_true rfl)
  rw [lg_entry_eq]
  generalize (lg_sl ([.long p0, .int p1]) ++ List.replicate (3 - (lg_sl ([.long p0, .int p1])).length) Slot.unset).toArray = ls at hl ⊢
  have hl : lv_has ls 3 [(0, .long p0), (2, .int p1)] := hl
  refine lv_lload_n hx hb d_Rv_has_0 rfl (lv_at hl 0 rfl) ?_
  refine lv_iload_n hx hb d_Rv_has_1 rfl (lv_at hl 1 rfl) ?_
  refine lv_lshr (v := (p0 >>> (p1.toInt64 &&& 63))) hx hb d_Rv_has_2 rfl ?_
  refine lv_lconst (v := (1 : Int64)) hx hb d_Rv_has_3 (by decide) ?_
  refine lv_land hx hb d_Rv_has_4 ?_
  refine lv_lconst (v := (0 : Int64)) hx hb d_Rv_has_5 (by decide) ?_
  refine W.lcmp hx hb d_Rv_has_6 ?_
  refine lv_if_eq (tgt := 14) hx hb d_Rv_has_7 (by decide) (fun c1 => ?_) (fun c1 => ?_)
  · have hf := x_ifp c1 hf
    refine lv_iconst (v := (0 : Int32)) hx hb d_Rv_has_14 (by decide) ?_
    obtain rfl := Option.some.inj hf
    exact x_zret hx hb hr hlocks (x_nb (Or.inl rfl)) hK hP hD hS (Nat.le_of_ble_eq_true rfl) (Nat.le_of_ble_eq_true rfl) d_Rv_has_15
  · have hf := x_ifn c1 hf
    refine lv_iconst (v := (1 : Int32)) hx hb d_Rv_has_10 (by decide) ?_
    refine lv_goto (tgt := 15) hx hb d_Rv_has_11 (by decide) ?_
    obtain rfl := Option.some.inj hf
    exact x_zret hx hb hr hlocks (x_nb (Or.inr rfl)) hK hP hD hS (Nat.le_of_ble_eq_true rfl) (Nat.le_of_ble_eq_true rfl) d_Rv_has_15
set_option maxHeartbeats 4000000 in
set_option maxRecDepth 100000 in
theorem c_Co_firstOf (l : Launch) (D : va_G) (cI cJ cZ : ClassId) (mh m0 m1 m2 m3 : Nat) (N : Nat) (p0 : Int64) (p1 : Int32) (U : K_Co) (r : (Int32 × K_Co)) (hf : f_Co_firstOf N p0 p1 U = some r) : Cx l y_Co_firstOf ws_Co_firstOf rm_Co_firstOf D vwCl (tyL cI cJ cZ) [.ref mh, .long p0, .int p1] (w_Co cI cJ cZ mh m0 m1 m2 m3 U) (oI r.1) (w_Co cI cJ cZ mh m0 m1 m2 m3 r.2) := by
  unfold f_Co_firstOf at hf
  refine Cx.ofW (cc := b_Co_firstOf) (maxL := 6) (ret := (some .int)) (by decide) rfl ?_
  intro p e s m below meth c A C0 hP hK hD hA hns hZ
  obtain ⟨hx, hb, hml, hown, hts0, hr, hlocks, hnm, hno⟩ := C0
  have hown : s.vm.findClass R_Co = some m.cls := hown
  have hts : ∀ w ∈ tb, w.before [.ref mh, .long p0, .int p1].toArray s = true := fun w h => hts0 w (List.mem_cons_of_mem _ h)
  have hS : va_S A s.heap s.heap [] := va_S.rf
  have hl := lv_entry ([.ref mh, .long p0, .int p1]) (n := 6) (Nat.le_of_ble_eq_true rfl)
  rw [lg_entry_eq]
  generalize (lg_sl ([.ref mh, .long p0, .int p1]) ++ List.replicate (6 - (lg_sl ([.ref mh, .long p0, .int p1])).length) Slot.unset).toArray = ls at hl ⊢
  have hl : lv_has ls 6 [(0, .ref mh), (1, .long p0), (3, .int p1)] := hl
  have L_11 : ∀ n : Nat, ∀ (x1 : Int64) (x4 : Int32) (x5 : Int32) (U : K_Co), f_Co_firstOf_11 N n x1 x4 x5 U = some r → ∀ (H : Heap) (locs : List Loc) (ls : Array Slot), va_P D vwCl (w_Co cI cJ cZ mh m0 m1 m2 m3 U) H → va_D A (w_Co cI cJ cZ mh m0 m1 m2 m3 U) → va_S A s.heap H locs → lv_has ls 6 [(0, .ref mh), (1, .long x1), (4, .int x4), (5, .int x5)] → W p l e (rm_Co_firstOf) s m [.ref mh, .long p0, .int p1].toArray below meth c H locs 0 0 (xQ D vwCl (tyL cI cJ cZ) below s A (oI r.1) (w_Co cI cJ cZ mh m0 m1 m2 m3 r.2) (rm_Co_firstOf).cells (rm_Co_firstOf).slots) (F0 m 11 ls []) := by
    intro n
    induction n with
    | zero =>
      intro x1 x4 x5 U hf
      have hf : (none : Option (Int32 × K_Co)) = some r := hf
      cases hf
    | succ n ih =>
      intro x1 x4 x5 U hf H locs ls hP hD hS hl
      rw [f_Co_firstOf_11] at hf
      refine lv_iload hx hb d_Co_firstOf_11 (lv_at hl 3 rfl) ?_
      refine lv_bipush (v := (15 : Int32)) hx hb d_Co_firstOf_13 (by decide) ?_
      refine lv_icmp_ge (tgt := 55) hx hb d_Co_firstOf_15 (by decide) (fun c7 => ?_) (fun c7 => ?_)
      · have hf := x_ifp c7 hf
        refine lv_iconst (v := (-1 : Int32)) hx hb d_Co_firstOf_55 (by decide) ?_
        obtain rfl := Option.some.inj hf
        exact x_iret hx hb hr hlocks hK hP hD hS (Nat.le_of_ble_eq_true rfl) (Nat.le_of_ble_eq_true rfl) d_Co_firstOf_56
      · have hf := x_ifn c7 hf
        refine lv_iload hx hb d_Co_firstOf_18 (lv_at hl 2 rfl) ?_
        refine lv_iconst (v := (-1 : Int32)) hx hb d_Co_firstOf_20 (by decide) ?_
        refine lv_icmp_eq (tgt := 55) hx hb d_Co_firstOf_21 (by decide) (fun c6 => ?_) (fun c6 => ?_)
        · have hf := x_ifp c6 hf
          refine lv_iconst (v := (-1 : Int32)) hx hb d_Co_firstOf_55 (by decide) ?_
          obtain rfl := Option.some.inj hf
          exact x_iret hx hb hr hlocks hK hP hD hS (Nat.le_of_ble_eq_true rfl) (Nat.le_of_ble_eq_true rfl) d_Co_firstOf_56
        · have hf := x_ifn c6 hf
          refine lv_lload_n hx hb d_Co_firstOf_24 rfl (lv_at hl 1 rfl) ?_
          refine lv_aload_n hx hb d_Co_firstOf_25 rfl (lv_at hl 0 rfl) ?_
          refine va_get (D := D) (ci := 0) (v := .ref m0) (C := R_Co) (T := F_Co) (N := 4) hx hb hts i_Co hown hK hP 0 rfl rfl 0 (by decide) (hts _ k_4) (fun _ h9 => h9) rfl d_Co_firstOf_26 ?_
          refine lv_iload hx hb d_Co_firstOf_29 (lv_at hl 2 rfl) ?_
          obtain ⟨g2, hf⟩ := x_if hf
          refine va_iald hx hb hK hP 1 0 rfl rfl (xi_in g2) d_Co_firstOf_31 ?_
          obtain ⟨z3, hz3, hf⟩ := x_bind hf
          refine x_callSN (w2 := (w_Co cI cJ cZ mh m0 m1 m2 m3 U)) ⟨hx, hb, hml, hown, hts⟩ (c_Rv_has l D cI cJ cZ  N x1 (U.1 x4.toNatClampNeg)  z3 hz3) (x_cwSN 2 hts rfl k_21 k_22 k_23 k_24 (by decide +kernel) ⟨(Nat.le_of_ble_eq_true rfl), (Nat.le_of_ble_eq_true rfl)⟩) hK hP hD hS hA hZ [] [0, 1, 2, 3, 4] [0, 1, 2, 3, 4] (by decide) rfl rfl (by decide) (by decide) (by decide) rfl rfl hl.1 rfl (Nat.le_of_ble_eq_true rfl) d_Co_firstOf_32 ⟨(Nat.le_of_ble_eq_true rfl), (Nat.le_of_ble_eq_true rfl)⟩ (fun H locs hP hD hS => ?_)
          refine W.eq (g2 := F0 m 35 ls [.int z3]) rfl ?_
          refine lv_if_eq (tgt := 41) hx hb d_Co_firstOf_35 (by decide) (fun c5 => ?_) (fun c5 => ?_)
          · have hf := x_ifp c5 hf
            refine lv_aload_n hx hb d_Co_firstOf_41 rfl (lv_at hl 0 rfl) ?_
            refine lv_iload hx hb d_Co_firstOf_42 (lv_at hl 2 rfl) ?_
            obtain ⟨z4, hz4, hf⟩ := x_bind hf
            refine x_callV (w2 := (w_Co cI cJ cZ mh m0 m1 m2 m3 z4.2)) ⟨hx, hb, hml, hown, hts⟩ (c_Co_next l D cI cJ cZ mh m0 m1 m2 m3 N x4 U z4 hz4) (x_cwV 1 hts rfl k_17 k_18 k_19 k_11 k_20 (by decide +kernel) ⟨(Nat.le_of_ble_eq_true rfl), (Nat.le_of_ble_eq_true rfl)⟩) hK hP hD hS hA hZ [0, 1, 2, 3, 4] [] [0, 1, 2, 3, 4] (by decide) rfl rfl (by decide) (by decide) (by decide) rfl (ci := 0) rfl rfl rfl hl.1 rfl (Nat.le_of_ble_eq_true rfl) d_Co_firstOf_44 ⟨(Nat.le_of_ble_eq_true rfl), (Nat.le_of_ble_eq_true rfl)⟩ (fun H locs hP hD hS => ?_)
            refine W.eq (g2 := F0 m 47 ls [.int z4.1]) rfl ?_
            refine lv_istore (lv' := [(4, .int z4.1), (0, .ref mh), (1, .long x1), (5, .int x5)]) hx hb d_Co_firstOf_47 hl (by decide) rfl (fun ls hl => ?_)
            refine lv_iinc (v := (x5 + (1 : Int32))) (lv' := [(5, .int (x5 + (1 : Int32))), (4, .int z4.1), (0, .ref mh), (1, .long x1)]) hx hb d_Co_firstOf_49 hl (k := 3) rfl rfl (by decide) rfl (fun ls hl => ?_)
            refine lv_goto (tgt := 11) hx hb d_Co_firstOf_52 (by decide) ?_
            exact ih _ _ _ _ hf _ _ _ hP hD hS (lv_sub hl [2, 3, 1, 0] rfl)
          · have hf := x_ifn c5 hf
            refine lv_iload hx hb d_Co_firstOf_38 (lv_at hl 2 rfl) ?_
            obtain rfl := Option.some.inj hf
            exact x_iret hx hb hr hlocks hK hP hD hS (Nat.le_of_ble_eq_true rfl) (Nat.le_of_ble_eq_true rfl) d_Co_firstOf_40
  refine lv_aload_n hx hb d_Co_firstOf_0 rfl (lv_at hl 0 rfl) ?_
  refine lv_iload_n hx hb d_Co_firstOf_1 rfl (lv_at hl 2 rfl) ?_
  refine lv_iconst (v := (0 : Int32)) hx hb d_Co_firstOf_2 (by decide) ?_
  obtain ⟨z1, hz1, hf⟩ := x_bind hf
  refine x_callV (w2 := (w_Co cI cJ cZ mh m0 m1 m2 m3 z1.2)) ⟨hx, hb, hml, hown, hts⟩ (c_Co_placeAt l D cI cJ cZ mh m0 m1 m2 m3 N p1 (0 : Int32) U z1 hz1) (x_cwV 2 hts rfl k_25 k_26 k_27 k_11 k_28 (by decide +kernel) ⟨(Nat.le_of_ble_eq_true rfl), (Nat.le_of_ble_eq_true rfl)⟩) hK hP hD hS hA hZ [0, 1, 2, 3, 4] [] [0, 1, 2, 3, 4] (by decide) rfl rfl (by decide) (by decide) (by decide) rfl (ci := 0) rfl rfl rfl hl.1 rfl (Nat.le_of_ble_eq_true rfl) d_Co_firstOf_3 ⟨(Nat.le_of_ble_eq_true rfl), (Nat.le_of_ble_eq_true rfl)⟩ (fun H locs hP hD hS => ?_)
  refine W.eq (g2 := F0 m 6 ls [.int z1.1]) rfl ?_
  refine lv_istore (lv' := [(4, .int z1.1), (0, .ref mh), (1, .long p0), (3, .int p1)]) hx hb d_Co_firstOf_6 hl (by decide) rfl (fun ls hl => ?_)
  refine lv_iconst (v := (0 : Int32)) hx hb d_Co_firstOf_8 (by decide) ?_
  refine lv_istore (lv' := [(5, .int (0 : Int32)), (4, .int z1.1), (0, .ref mh), (1, .long p0), (3, .int p1)]) hx hb d_Co_firstOf_9 hl (by decide) rfl (fun ls hl => ?_)
  exact L_11 _ _ _ _ _ hf _ _ _ hP hD hS (lv_sub hl [2, 3, 1, 0] rfl)
set_option maxHeartbeats 4000000 in
set_option maxRecDepth 100000 in
theorem c_Co_chainBehind (l : Launch) (D : va_G) (cI cJ cZ : ClassId) (mh m0 m1 m2 m3 be : Nat) (N : Nat) (p0 : Int32) (U : K_CR) (r : (Int32 × K_CR)) (hf : f_Co_chainBehind N p0 U = some r) : Cx l y_Co_chainBehind ws_Co_chainBehind rm_Co_chainBehind D vwCl (tyL cI cJ cZ) [.ref mh, .int p0, .ref be] (w_CR cI cJ cZ mh m0 m1 m2 m3 be U) (oI r.1) (w_CR cI cJ cZ mh m0 m1 m2 m3 be r.2) := by
  unfold f_Co_chainBehind at hf
  refine Cx.ofW (cc := b_Co_chainBehind) (maxL := 5) (ret := (some .int)) (by decide) rfl ?_
  intro p e s m below meth c A C0 hP hK hD hA hns hZ
  obtain ⟨hx, hb, hml, hown, hts0, hr, hlocks, hnm, hno⟩ := C0
  have hown : s.vm.findClass R_Co = some m.cls := hown
  have hts : ∀ w ∈ tb, w.before [.ref mh, .int p0, .ref be].toArray s = true := fun w h => hts0 w (List.mem_cons_of_mem _ h)
  have hS : va_S A s.heap s.heap [] := va_S.rf
  have hl := lv_entry ([.ref mh, .int p0, .ref be]) (n := 5) (Nat.le_of_ble_eq_true rfl)
  rw [lg_entry_eq]
  generalize (lg_sl ([.ref mh, .int p0, .ref be]) ++ List.replicate (5 - (lg_sl ([.ref mh, .int p0, .ref be])).length) Slot.unset).toArray = ls at hl ⊢
  have hl : lv_has ls 5 [(0, .ref mh), (1, .int p0), (2, .ref be)] := hl
  have L_9 : ∀ n : Nat, ∀ (x3 : Int32) (x4 : Int32) (U : K_CR), f_Co_chainBehind_9 N n x3 x4 U = some r → ∀ (H : Heap) (locs : List Loc) (ls : Array Slot), va_P D vwCl (w_CR cI cJ cZ mh m0 m1 m2 m3 be U) H → va_D A (w_CR cI cJ cZ mh m0 m1 m2 m3 be U) → va_S A s.heap H locs → lv_has ls 5 [(0, .ref mh), (2, .ref be), (3, .int x3), (4, .int x4)] → W p l e (rm_Co_chainBehind) s m [.ref mh, .int p0, .ref be].toArray below meth c H locs 0 0 (xQ D vwCl (tyL cI cJ cZ) below s A (oI r.1) (w_CR cI cJ cZ mh m0 m1 m2 m3 be r.2) (rm_Co_chainBehind).cells (rm_Co_chainBehind).slots) (F0 m 9 ls []) := by
    intro n
    induction n with
    | zero =>
      intro x3 x4 U hf
      have hf : (none : Option (Int32 × K_CR)) = some r := hf
      cases hf
    | succ n ih =>
      intro x3 x4 U hf H locs ls hP hD hS hl
      rw [f_Co_chainBehind_9] at hf
      refine lv_iload hx hb d_Co_chainBehind_9 (lv_at hl 3 rfl) ?_
      refine lv_iconst (v := (-1 : Int32)) hx hb d_Co_chainBehind_11 (by decide) ?_
      refine lv_icmp_eq (tgt := 40) hx hb d_Co_chainBehind_12 (by decide) (fun c5 => ?_) (fun c5 => ?_)
      · have hf := x_ifp c5 hf
        refine lv_iload_n hx hb d_Co_chainBehind_40 rfl (lv_at hl 2 rfl) ?_
        obtain rfl := Option.some.inj hf
        exact x_iret hx hb hr hlocks hK hP hD hS (Nat.le_of_ble_eq_true rfl) (Nat.le_of_ble_eq_true rfl) d_Co_chainBehind_41
      · have hf := x_ifn c5 hf
        refine lv_iload_n hx hb d_Co_chainBehind_15 rfl (lv_at hl 2 rfl) ?_
        refine lv_aload_n hx hb d_Co_chainBehind_16 rfl (lv_at hl 1 rfl) ?_
        refine va_alen hx hb hK hP 5 0 (v := (9 : Int32)) rfl rfl rfl d_Co_chainBehind_17 ?_
        refine lv_icmp_ge (tgt := 40) hx hb d_Co_chainBehind_18 (by decide) (fun c4 => ?_) (fun c4 => ?_)
        · have hf := x_ifp c4 hf
          refine lv_iload_n hx hb d_Co_chainBehind_40 rfl (lv_at hl 2 rfl) ?_
          obtain rfl := Option.some.inj hf
          exact x_iret hx hb hr hlocks hK hP hD hS (Nat.le_of_ble_eq_true rfl) (Nat.le_of_ble_eq_true rfl) d_Co_chainBehind_41
        · have hf := x_ifn c4 hf
          refine lv_aload_n hx hb d_Co_chainBehind_21 rfl (lv_at hl 1 rfl) ?_
          refine lv_iload_n hx hb d_Co_chainBehind_22 rfl (lv_at hl 2 rfl) ?_
          refine lv_iload hx hb d_Co_chainBehind_23 (lv_at hl 3 rfl) ?_
          obtain ⟨g2, hf⟩ := x_if hf
          refine va_iast hx hb hK hP hD hS 5 0 rfl rfl (xi_in g2) d_Co_chainBehind_25 (fun H locs hP hD hS => ?_)
          have hP : va_P D vwCl (w_CR cI cJ cZ mh m0 m1 m2 m3 be (U.1, (upd U.2 x3.toNatClampNeg x4))) H := hP
          have hD : va_D A (w_CR cI cJ cZ mh m0 m1 m2 m3 be (U.1, (upd U.2 x3.toNatClampNeg x4))) := hD
          refine lv_iinc (v := (x3 + (1 : Int32))) (lv' := [(3, .int (x3 + (1 : Int32))), (0, .ref mh), (2, .ref be), (4, .int x4)]) hx hb d_Co_chainBehind_26 hl (k := 2) rfl rfl (by decide) rfl (fun ls hl => ?_)
          refine lv_aload_n hx hb d_Co_chainBehind_29 rfl (lv_at hl 1 rfl) ?_
          refine lv_iload hx hb d_Co_chainBehind_30 (lv_at hl 3 rfl) ?_
          obtain ⟨z3, hz3, hf⟩ := x_bind hf
          refine x_callV (w2 := (w_CR cI cJ cZ mh m0 m1 m2 m3 be (z3.2, (upd U.2 x3.toNatClampNeg x4)))) ⟨hx, hb, hml, hown, hts⟩ (c_Co_next l D cI cJ cZ mh m0 m1 m2 m3 N x4 U.1 z3 hz3) (x_cwV 1 hts rfl k_17 k_18 k_19 k_11 k_20 (by decide +kernel) ⟨(Nat.le_of_ble_eq_true rfl), (Nat.le_of_ble_eq_true rfl)⟩) hK hP hD hS hA hZ [0, 1, 2, 3, 4] [5] [1, 2, 3, 4, 5, 0] (by decide) rfl rfl (by decide) (by decide) (by decide) rfl (ci := 0) rfl rfl rfl hl.1 rfl (Nat.le_of_ble_eq_true rfl) d_Co_chainBehind_32 ⟨(Nat.le_of_ble_eq_true rfl), (Nat.le_of_ble_eq_true rfl)⟩ (fun H locs hP hD hS => ?_)
          refine W.eq (g2 := F0 m 35 ls [.int z3.1]) rfl ?_
          refine lv_istore (lv' := [(4, .int z3.1), (3, .int (x3 + (1 : Int32))), (0, .ref mh), (2, .ref be)]) hx hb d_Co_chainBehind_35 hl (by decide) rfl (fun ls hl => ?_)
          refine lv_goto (tgt := 9) hx hb d_Co_chainBehind_37 (by decide) ?_
          exact ih _ _ _ hf _ _ _ hP hD hS (lv_sub hl [2, 3, 1, 0] rfl)
  refine lv_iconst (v := (0 : Int32)) hx hb d_Co_chainBehind_0 (by decide) ?_
  refine lv_istore_n (lv' := [(3, .int (0 : Int32)), (0, .ref mh), (1, .int p0), (2, .ref be)]) hx hb d_Co_chainBehind_1 rfl hl (by decide) rfl (fun ls hl => ?_)
  refine lv_aload_n hx hb d_Co_chainBehind_2 rfl (lv_at hl 1 rfl) ?_
  refine lv_iload_n hx hb d_Co_chainBehind_3 rfl (lv_at hl 2 rfl) ?_
  obtain ⟨z1, hz1, hf⟩ := x_bind hf
  refine x_callV (w2 := (w_CR cI cJ cZ mh m0 m1 m2 m3 be (z1.2, U.2))) ⟨hx, hb, hml, hown, hts⟩ (c_Co_next l D cI cJ cZ mh m0 m1 m2 m3 N p0 U.1 z1 hz1) (x_cwV 1 hts rfl k_17 k_18 k_19 k_11 k_20 (by decide +kernel) ⟨(Nat.le_of_ble_eq_true rfl), (Nat.le_of_ble_eq_true rfl)⟩) hK hP hD hS hA hZ [0, 1, 2, 3, 4] [5] [1, 2, 3, 4, 5, 0] (by decide) rfl rfl (by decide) (by decide) (by decide) rfl (ci := 0) rfl rfl rfl hl.1 rfl (Nat.le_of_ble_eq_true rfl) d_Co_chainBehind_4 ⟨(Nat.le_of_ble_eq_true rfl), (Nat.le_of_ble_eq_true rfl)⟩ (fun H locs hP hD hS => ?_)
  refine W.eq (g2 := F0 m 7 ls [.int z1.1]) rfl ?_
  refine lv_istore (lv' := [(4, .int z1.1), (3, .int (0 : Int32)), (0, .ref mh), (1, .int p0), (2, .ref be)]) hx hb d_Co_chainBehind_7 hl (by decide) rfl (fun ls hl => ?_)
  exact L_9 _ _ _ _ hf _ _ _ hP hD hS (lv_sub hl [2, 4, 1, 0] rfl)
set_option maxHeartbeats 4000000 in
set_option maxRecDepth 100000 in
theorem c_Co_leastFree (l : Launch) (D : va_G) (cI cJ cZ : ClassId) (mh m0 m1 m2 m3 : Nat) (N : Nat) (U : K_Co) (r : (Int32 × K_Co)) (hf : f_Co_leastFree N U = some r) : Cx l y_Co_leastFree ws_Co_leastFree rm_Co_leastFree D vwCl (tyL cI cJ cZ) [.ref mh] (w_Co cI cJ cZ mh m0 m1 m2 m3 U) (oI r.1) (w_Co cI cJ cZ mh m0 m1 m2 m3 r.2) := by
  unfold f_Co_leastFree at hf
  refine Cx.ofW (cc := b_Co_leastFree) (maxL := 2) (ret := (some .int)) (by decide) rfl ?_
  intro p e s m below meth c A C0 hP hK hD hA hns hZ
  obtain ⟨hx, hb, hml, hown, hts0, hr, hlocks, hnm, hno⟩ := C0
  have hown : s.vm.findClass R_Co = some m.cls := hown
  have hts : ∀ w ∈ tb, w.before [.ref mh].toArray s = true := fun w h => hts0 w (List.mem_cons_of_mem _ h)
  have hS : va_S A s.heap s.heap [] := va_S.rf
  have hl := lv_entry ([.ref mh]) (n := 2) (Nat.le_of_ble_eq_true rfl)
  rw [lg_entry_eq]
  generalize (lg_sl ([.ref mh]) ++ List.replicate (2 - (lg_sl ([.ref mh])).length) Slot.unset).toArray = ls at hl ⊢
  have hl : lv_has ls 2 [(0, .ref mh)] := hl
  have L_3 : ∀ n : Nat, ∀ (x1 : Int32) (U : K_Co), f_Co_leastFree_3 N n x1 U = some r → ∀ (H : Heap) (locs : List Loc) (ls : Array Slot), va_P D vwCl (w_Co cI cJ cZ mh m0 m1 m2 m3 U) H → va_D A (w_Co cI cJ cZ mh m0 m1 m2 m3 U) → va_S A s.heap H locs → lv_has ls 2 [(0, .ref mh), (1, .int x1)] → W p l e (rm_Co_leastFree) s m [.ref mh].toArray below meth c H locs 0 0 (xQ D vwCl (tyL cI cJ cZ) below s A (oI r.1) (w_Co cI cJ cZ mh m0 m1 m2 m3 r.2) (rm_Co_leastFree).cells (rm_Co_leastFree).slots) (F0 m 3 ls []) := by
    intro n
    induction n with
    | zero =>
      intro x1 U hf
      have hf : (none : Option (Int32 × K_Co)) = some r := hf
      cases hf
    | succ n ih =>
      intro x1 U hf H locs ls hP hD hS hl
      rw [f_Co_leastFree_3] at hf
      refine lv_iload_n hx hb d_Co_leastFree_3 rfl (lv_at hl 1 rfl) ?_
      refine lv_bipush (v := (15 : Int32)) hx hb d_Co_leastFree_4 (by decide) ?_
      refine lv_icmp_ge (tgt := 26) hx hb d_Co_leastFree_6 (by decide) (fun c3 => ?_) (fun c3 => ?_)
      · have hf := x_ifp c3 hf
        refine lv_iconst (v := (-1 : Int32)) hx hb d_Co_leastFree_26 (by decide) ?_
        obtain rfl := Option.some.inj hf
        exact x_iret hx hb hr hlocks hK hP hD hS (Nat.le_of_ble_eq_true rfl) (Nat.le_of_ble_eq_true rfl) d_Co_leastFree_27
      · have hf := x_ifn c3 hf
        refine lv_aload_n hx hb d_Co_leastFree_9 rfl (lv_at hl 0 rfl) ?_
        refine va_get (D := D) (ci := 0) (v := .ref m0) (C := R_Co) (T := F_Co) (N := 4) hx hb hts i_Co hown hK hP 0 rfl rfl 0 (by decide) (hts _ k_4) (fun _ h9 => h9) rfl d_Co_leastFree_10 ?_
        refine lv_iload_n hx hb d_Co_leastFree_13 rfl (lv_at hl 1 rfl) ?_
        obtain ⟨g1, hf⟩ := x_if hf
        refine va_iald hx hb hK hP 1 0 rfl rfl (xi_in g1) d_Co_leastFree_14 ?_
        refine lv_if_ne (tgt := 20) hx hb d_Co_leastFree_15 (by decide) (fun c2 => ?_) (fun c2 => ?_)
        · have hf := x_ifn c2 hf
          refine lv_iinc (v := (x1 + (1 : Int32))) (lv' := [(1, .int (x1 + (1 : Int32))), (0, .ref mh)]) hx hb d_Co_leastFree_20 hl (k := 1) rfl rfl (by decide) rfl (fun ls hl => ?_)
          refine lv_goto (tgt := 3) hx hb d_Co_leastFree_23 (by decide) ?_
          exact ih _ _ hf _ _ _ hP hD hS (lv_sub hl [1, 0] rfl)
        · have hf := x_ifp c2 hf
          refine lv_iload_n hx hb d_Co_leastFree_18 rfl (lv_at hl 1 rfl) ?_
          obtain rfl := Option.some.inj hf
          exact x_iret hx hb hr hlocks hK hP hD hS (Nat.le_of_ble_eq_true rfl) (Nat.le_of_ble_eq_true rfl) d_Co_leastFree_19
  refine lv_bipush (v := (6 : Int32)) hx hb d_Co_leastFree_0 (by decide) ?_
  refine lv_istore_n (lv' := [(1, .int (6 : Int32)), (0, .ref mh)]) hx hb d_Co_leastFree_2 rfl hl (by decide) rfl (fun ls hl => ?_)
  exact L_3 _ _ _ hf _ _ _ hP hD hS (lv_sub hl [1, 0] rfl)
set_option maxHeartbeats 4000000 in
set_option maxRecDepth 100000 in
theorem c_Co_freeSlots (l : Launch) (D : va_G) (cI cJ cZ : ClassId) (mh m0 m1 m2 m3 : Nat) (N : Nat) (U : K_Co) (r : (Int32 × K_Co)) (hf : f_Co_freeSlots N U = some r) : Cx l y_Co_freeSlots ws_Co_freeSlots rm_Co_freeSlots D vwCl (tyL cI cJ cZ) [.ref mh] (w_Co cI cJ cZ mh m0 m1 m2 m3 U) (oI r.1) (w_Co cI cJ cZ mh m0 m1 m2 m3 r.2) := by
  unfold f_Co_freeSlots at hf
  refine Cx.ofW (cc := b_Co_freeSlots) (maxL := 3) (ret := (some .int)) (by decide) rfl ?_
  intro p e s m below meth c A C0 hP hK hD hA hns hZ
  obtain ⟨hx, hb, hml, hown, hts0, hr, hlocks, hnm, hno⟩ := C0
  have hown : s.vm.findClass R_Co = some m.cls := hown
  have hts : ∀ w ∈ tb, w.before [.ref mh].toArray s = true := fun w h => hts0 w (List.mem_cons_of_mem _ h)
  have hS : va_S A s.heap s.heap [] := va_S.rf
  have hl := lv_entry ([.ref mh]) (n := 3) (Nat.le_of_ble_eq_true rfl)
  rw [lg_entry_eq]
  generalize (lg_sl ([.ref mh]) ++ List.replicate (3 - (lg_sl ([.ref mh])).length) Slot.unset).toArray = ls at hl ⊢
  have hl : lv_has ls 3 [(0, .ref mh)] := hl
  have L_5 : ∀ n : Nat, ∀ (x1 : Int32) (x2 : Int32) (U : K_Co), f_Co_freeSlots_5 N n x1 x2 U = some r → ∀ (H : Heap) (locs : List Loc) (ls : Array Slot), va_P D vwCl (w_Co cI cJ cZ mh m0 m1 m2 m3 U) H → va_D A (w_Co cI cJ cZ mh m0 m1 m2 m3 U) → va_S A s.heap H locs → lv_has ls 3 [(0, .ref mh), (1, .int x1), (2, .int x2)] → W p l e (rm_Co_freeSlots) s m [.ref mh].toArray below meth c H locs 0 0 (xQ D vwCl (tyL cI cJ cZ) below s A (oI r.1) (w_Co cI cJ cZ mh m0 m1 m2 m3 r.2) (rm_Co_freeSlots).cells (rm_Co_freeSlots).slots) (F0 m 5 ls []) := by
    intro n
    induction n with
    | zero =>
      intro x1 x2 U hf
      have hf : (none : Option (Int32 × K_Co)) = some r := hf
      cases hf
    | succ n ih =>
      intro x1 x2 U hf H locs ls hP hD hS hl
      rw [f_Co_freeSlots_5] at hf
      refine lv_iload_n hx hb d_Co_freeSlots_5 rfl (lv_at hl 2 rfl) ?_
      refine lv_bipush (v := (15 : Int32)) hx hb d_Co_freeSlots_6 (by decide) ?_
      refine lv_icmp_ge (tgt := 34) hx hb d_Co_freeSlots_8 (by decide) (fun c3 => ?_) (fun c3 => ?_)
      · have hf := x_ifp c3 hf
        refine lv_iload_n hx hb d_Co_freeSlots_34 rfl (lv_at hl 1 rfl) ?_
        obtain rfl := Option.some.inj hf
        exact x_iret hx hb hr hlocks hK hP hD hS (Nat.le_of_ble_eq_true rfl) (Nat.le_of_ble_eq_true rfl) d_Co_freeSlots_35
      · have hf := x_ifn c3 hf
        refine lv_iload_n hx hb d_Co_freeSlots_11 rfl (lv_at hl 1 rfl) ?_
        refine lv_aload_n hx hb d_Co_freeSlots_12 rfl (lv_at hl 0 rfl) ?_
        refine va_get (D := D) (ci := 0) (v := .ref m0) (C := R_Co) (T := F_Co) (N := 4) hx hb hts i_Co hown hK hP 0 rfl rfl 0 (by decide) (hts _ k_4) (fun _ h9 => h9) rfl d_Co_freeSlots_13 ?_
        refine lv_iload_n hx hb d_Co_freeSlots_16 rfl (lv_at hl 2 rfl) ?_
        obtain ⟨g1, hf⟩ := x_if hf
        refine va_iald hx hb hK hP 1 0 rfl rfl (xi_in g1) d_Co_freeSlots_17 ?_
        refine lv_if_ne (tgt := 25) hx hb d_Co_freeSlots_18 (by decide) (fun c2 => ?_) (fun c2 => ?_)
        · have hf := x_ifn c2 hf
          refine lv_iconst (v := (0 : Int32)) hx hb d_Co_freeSlots_25 (by decide) ?_
          refine lv_iadd hx hb d_Co_freeSlots_26 ?_
          refine lv_istore_n (lv' := [(1, .int (x1 + (0 : Int32))), (0, .ref mh), (2, .int x2)]) hx hb d_Co_freeSlots_27 rfl hl (by decide) rfl (fun ls hl => ?_)
          refine lv_iinc (v := (x2 + (1 : Int32))) (lv' := [(2, .int (x2 + (1 : Int32))), (1, .int (x1 + (0 : Int32))), (0, .ref mh)]) hx hb d_Co_freeSlots_28 hl (k := 2) rfl rfl (by decide) rfl (fun ls hl => ?_)
          refine lv_goto (tgt := 5) hx hb d_Co_freeSlots_31 (by decide) ?_
          exact ih _ _ _ hf _ _ _ hP hD hS (lv_sub hl [2, 1, 0] rfl)
        · have hf := x_ifp c2 hf
          refine lv_iconst (v := (1 : Int32)) hx hb d_Co_freeSlots_21 (by decide) ?_
          refine lv_goto (tgt := 26) hx hb d_Co_freeSlots_22 (by decide) ?_
          refine lv_iadd hx hb d_Co_freeSlots_26 ?_
          refine lv_istore_n (lv' := [(1, .int (x1 + (1 : Int32))), (0, .ref mh), (2, .int x2)]) hx hb d_Co_freeSlots_27 rfl hl (by decide) rfl (fun ls hl => ?_)
          refine lv_iinc (v := (x2 + (1 : Int32))) (lv' := [(2, .int (x2 + (1 : Int32))), (1, .int (x1 + (1 : Int32))), (0, .ref mh)]) hx hb d_Co_freeSlots_28 hl (k := 2) rfl rfl (by decide) rfl (fun ls hl => ?_)
          refine lv_goto (tgt := 5) hx hb d_Co_freeSlots_31 (by decide) ?_
          exact ih _ _ _ hf _ _ _ hP hD hS (lv_sub hl [2, 1, 0] rfl)
  refine lv_iconst (v := (0 : Int32)) hx hb d_Co_freeSlots_0 (by decide) ?_
  refine lv_istore_n (lv' := [(1, .int (0 : Int32)), (0, .ref mh)]) hx hb d_Co_freeSlots_1 rfl hl (by decide) rfl (fun ls hl => ?_)
  refine lv_bipush (v := (6 : Int32)) hx hb d_Co_freeSlots_2 (by decide) ?_
  refine lv_istore_n (lv' := [(2, .int (6 : Int32)), (1, .int (0 : Int32)), (0, .ref mh)]) hx hb d_Co_freeSlots_4 rfl hl (by decide) rfl (fun ls hl => ?_)
  exact L_5 _ _ _ _ hf _ _ _ hP hD hS (lv_sub hl [2, 1, 0] rfl)
set_option maxHeartbeats 4000000 in
set_option maxRecDepth 100000 in
theorem c_Co_leastUnused (l : Launch) (D : va_G) (cI cJ cZ : ClassId) (mh m0 m1 m2 m3 : Nat) (N : Nat) (U : K_Co) (r : (Int32 × K_Co)) (hf : f_Co_leastUnused N U = some r) : Cx l y_Co_leastUnused ws_Co_leastUnused rm_Co_leastUnused D vwCl (tyL cI cJ cZ) [.ref mh] (w_Co cI cJ cZ mh m0 m1 m2 m3 U) (oI r.1) (w_Co cI cJ cZ mh m0 m1 m2 m3 r.2) := by
  unfold f_Co_leastUnused at hf
  refine Cx.ofW (cc := b_Co_leastUnused) (maxL := 2) (ret := (some .int)) (by decide) rfl ?_
  intro p e s m below meth c A C0 hP hK hD hA hns hZ
  obtain ⟨hx, hb, hml, hown, hts0, hr, hlocks, hnm, hno⟩ := C0
  have hown : s.vm.findClass R_Co = some m.cls := hown
  have hts : ∀ w ∈ tb, w.before [.ref mh].toArray s = true := fun w h => hts0 w (List.mem_cons_of_mem _ h)
  have hS : va_S A s.heap s.heap [] := va_S.rf
  have hl := lv_entry ([.ref mh]) (n := 2) (Nat.le_of_ble_eq_true rfl)
  rw [lg_entry_eq]
  generalize (lg_sl ([.ref mh]) ++ List.replicate (2 - (lg_sl ([.ref mh])).length) Slot.unset).toArray = ls at hl ⊢
  have hl : lv_has ls 2 [(0, .ref mh)] := hl
  have L_2 : ∀ n : Nat, ∀ (x1 : Int32) (U : K_Co), f_Co_leastUnused_2 N n x1 U = some r → ∀ (H : Heap) (locs : List Loc) (ls : Array Slot), va_P D vwCl (w_Co cI cJ cZ mh m0 m1 m2 m3 U) H → va_D A (w_Co cI cJ cZ mh m0 m1 m2 m3 U) → va_S A s.heap H locs → lv_has ls 2 [(0, .ref mh), (1, .int x1)] → W p l e (rm_Co_leastUnused) s m [.ref mh].toArray below meth c H locs 0 0 (xQ D vwCl (tyL cI cJ cZ) below s A (oI r.1) (w_Co cI cJ cZ mh m0 m1 m2 m3 r.2) (rm_Co_leastUnused).cells (rm_Co_leastUnused).slots) (F0 m 2 ls []) := by
    intro n
    induction n with
    | zero =>
      intro x1 U hf
      have hf : (none : Option (Int32 × K_Co)) = some r := hf
      cases hf
    | succ n ih =>
      intro x1 U hf H locs ls hP hD hS hl
      rw [f_Co_leastUnused_2] at hf
      refine lv_iload_n hx hb d_Co_leastUnused_2 rfl (lv_at hl 1 rfl) ?_
      refine lv_bipush (v := (40 : Int32)) hx hb d_Co_leastUnused_3 (by decide) ?_
      refine lv_icmp_gt (tgt := 25) hx hb d_Co_leastUnused_5 (by decide) (fun c3 => ?_) (fun c3 => ?_)
      · have hf := x_ifp c3 hf
        refine lv_iconst (v := (0 : Int32)) hx hb d_Co_leastUnused_25 (by decide) ?_
        obtain rfl := Option.some.inj hf
        exact x_iret hx hb hr hlocks hK hP hD hS (Nat.le_of_ble_eq_true rfl) (Nat.le_of_ble_eq_true rfl) d_Co_leastUnused_26
      · have hf := x_ifn c3 hf
        refine lv_aload_n hx hb d_Co_leastUnused_8 rfl (lv_at hl 0 rfl) ?_
        refine va_get (D := D) (ci := 0) (v := .ref m3) (C := R_Co) (T := F_Co) (N := 4) hx hb hts i_Co hown hK hP 0 rfl rfl 3 (by decide) (hts _ k_7) (fun _ h9 => h9) rfl d_Co_leastUnused_9 ?_
        refine lv_iload_n hx hb d_Co_leastUnused_12 rfl (lv_at hl 1 rfl) ?_
        obtain ⟨g1, hf⟩ := x_if hf
        refine va_iald hx hb hK hP 4 0 rfl rfl (xi_in g1) d_Co_leastUnused_13 ?_
        refine lv_if_ne (tgt := 19) hx hb d_Co_leastUnused_14 (by decide) (fun c2 => ?_) (fun c2 => ?_)
        · have hf := x_ifn c2 hf
          refine lv_iinc (v := (x1 + (1 : Int32))) (lv' := [(1, .int (x1 + (1 : Int32))), (0, .ref mh)]) hx hb d_Co_leastUnused_19 hl (k := 1) rfl rfl (by decide) rfl (fun ls hl => ?_)
          refine lv_goto (tgt := 2) hx hb d_Co_leastUnused_22 (by decide) ?_
          exact ih _ _ hf _ _ _ hP hD hS (lv_sub hl [1, 0] rfl)
        · have hf := x_ifp c2 hf
          refine lv_iload_n hx hb d_Co_leastUnused_17 rfl (lv_at hl 1 rfl) ?_
          obtain rfl := Option.some.inj hf
          exact x_iret hx hb hr hlocks hK hP hD hS (Nat.le_of_ble_eq_true rfl) (Nat.le_of_ble_eq_true rfl) d_Co_leastUnused_18
  refine lv_iconst (v := (1 : Int32)) hx hb d_Co_leastUnused_0 (by decide) ?_
  refine lv_istore_n (lv' := [(1, .int (1 : Int32)), (0, .ref mh)]) hx hb d_Co_leastUnused_1 rfl hl (by decide) rfl (fun ls hl => ?_)
  exact L_2 _ _ _ hf _ _ _ hP hD hS (lv_sub hl [1, 0] rfl)
set_option maxHeartbeats 4000000 in
set_option maxRecDepth 100000 in
theorem c_Co_setIn (l : Launch) (D : va_G) (cI cJ cZ : ClassId) (mh m0 m1 m2 m3 : Nat) (N : Nat) (p0 : Int32) (U : K_Co) (r : (Int64 × K_Co)) (hf : f_Co_setIn N p0 U = some r) : Cx l y_Co_setIn ws_Co_setIn rm_Co_setIn D vwCl (tyL cI cJ cZ) [.ref mh, .int p0] (w_Co cI cJ cZ mh m0 m1 m2 m3 U) (oL r.1) (w_Co cI cJ cZ mh m0 m1 m2 m3 r.2) := by
  unfold f_Co_setIn at hf
  refine Cx.ofW (cc := b_Co_setIn) (maxL := 5) (ret := (some .long)) (by decide) rfl ?_
  intro p e s m below meth c A C0 hP hK hD hA hns hZ
  obtain ⟨hx, hb, hml, hown, hts0, hr, hlocks, hnm, hno⟩ := C0
  have hown : s.vm.findClass R_Co = some m.cls := hown
  have hts : ∀ w ∈ tb, w.before [.ref mh, .int p0].toArray s = true := fun w h => hts0 w (List.mem_cons_of_mem _ h)
  have hS : va_S A s.heap s.heap [] := va_S.rf
  have hl := lv_entry ([.ref mh, .int p0]) (n := 5) (Nat.le_of_ble_eq_true rfl)
  rw [lg_entry_eq]
  generalize (lg_sl ([.ref mh, .int p0]) ++ List.replicate (5 - (lg_sl ([.ref mh, .int p0])).length) Slot.unset).toArray = ls at hl ⊢
  have hl : lv_has ls 5 [(0, .ref mh), (1, .int p0)] := hl
  have L_5 : ∀ n : Nat, ∀ (x1 : Int32) (x2 : Int64) (x4 : Int32) (U : K_Co), f_Co_setIn_5 N n x1 x2 x4 U = some r → ∀ (H : Heap) (locs : List Loc) (ls : Array Slot), va_P D vwCl (w_Co cI cJ cZ mh m0 m1 m2 m3 U) H → va_D A (w_Co cI cJ cZ mh m0 m1 m2 m3 U) → va_S A s.heap H locs → lv_has ls 5 [(0, .ref mh), (1, .int x1), (2, .long x2), (4, .int x4)] → W p l e (rm_Co_setIn) s m [.ref mh, .int p0].toArray below meth c H locs 0 0 (xQ D vwCl (tyL cI cJ cZ) below s A (oL r.1) (w_Co cI cJ cZ mh m0 m1 m2 m3 r.2) (rm_Co_setIn).cells (rm_Co_setIn).slots) (F0 m 5 ls []) := by
    intro n
    induction n with
    | zero =>
      intro x1 x2 x4 U hf
      have hf : (none : Option (Int64 × K_Co)) = some r := hf
      cases hf
    | succ n ih =>
      intro x1 x2 x4 U hf H locs ls hP hD hS hl
      rw [f_Co_setIn_5] at hf
      refine lv_iload hx hb d_Co_setIn_5 (lv_at hl 3 rfl) ?_
      refine lv_bipush (v := (40 : Int32)) hx hb d_Co_setIn_7 (by decide) ?_
      refine lv_icmp_gt (tgt := 36) hx hb d_Co_setIn_9 (by decide) (fun c3 => ?_) (fun c3 => ?_)
      · have hf := x_ifp c3 hf
        refine lv_lload_n hx hb d_Co_setIn_36 rfl (lv_at hl 2 rfl) ?_
        obtain rfl := Option.some.inj hf
        exact x_lret hx hb hr hlocks hK hP hD hS (Nat.le_of_ble_eq_true rfl) (Nat.le_of_ble_eq_true rfl) d_Co_setIn_37
      · have hf := x_ifn c3 hf
        refine lv_aload_n hx hb d_Co_setIn_12 rfl (lv_at hl 0 rfl) ?_
        refine va_get (D := D) (ci := 0) (v := .ref m3) (C := R_Co) (T := F_Co) (N := 4) hx hb hts i_Co hown hK hP 0 rfl rfl 3 (by decide) (hts _ k_7) (fun _ h9 => h9) rfl d_Co_setIn_13 ?_
        refine lv_iload hx hb d_Co_setIn_16 (lv_at hl 3 rfl) ?_
        obtain ⟨g1, hf⟩ := x_if hf
        refine va_iald hx hb hK hP 4 0 rfl rfl (xi_in g1) d_Co_setIn_18 ?_
        refine lv_iload_n hx hb d_Co_setIn_19 rfl (lv_at hl 1 rfl) ?_
        refine lv_icmp_ne (tgt := 30) hx hb d_Co_setIn_20 (by decide) (fun c2 => ?_) (fun c2 => ?_)
        · have hf := x_ifn c2 hf
          refine lv_iinc (v := (x4 + (1 : Int32))) (lv' := [(4, .int (x4 + (1 : Int32))), (0, .ref mh), (1, .int x1), (2, .long x2)]) hx hb d_Co_setIn_30 hl (k := 3) rfl rfl (by decide) rfl (fun ls hl => ?_)
          refine lv_goto (tgt := 5) hx hb d_Co_setIn_33 (by decide) ?_
          exact ih _ _ _ _ hf _ _ _ hP hD hS (lv_sub hl [1, 2, 3, 0] rfl)
        · have hf := x_ifp c2 hf
          refine lv_lload_n hx hb d_Co_setIn_23 rfl (lv_at hl 2 rfl) ?_
          refine lv_lconst (v := (1 : Int64)) hx hb d_Co_setIn_24 (by decide) ?_
          refine lv_iload hx hb d_Co_setIn_25 (lv_at hl 3 rfl) ?_
          refine lv_lshl (v := ((1 : Int64) <<< (x4.toInt64 &&& 63))) hx hb d_Co_setIn_27 rfl ?_
          refine lv_lor hx hb d_Co_setIn_28 ?_
          refine lv_lstore_n (lv' := [(2, .long (x2 ||| ((1 : Int64) <<< (x4.toInt64 &&& 63)))), (0, .ref mh), (1, .int x1), (4, .int x4)]) hx hb d_Co_setIn_29 rfl hl (by decide) rfl (fun ls hl => ?_)
          refine lv_iinc (v := (x4 + (1 : Int32))) (lv' := [(4, .int (x4 + (1 : Int32))), (2, .long (x2 ||| ((1 : Int64) <<< (x4.toInt64 &&& 63)))), (0, .ref mh), (1, .int x1)]) hx hb d_Co_setIn_30 hl (k := 3) rfl rfl (by decide) rfl (fun ls hl => ?_)
          refine lv_goto (tgt := 5) hx hb d_Co_setIn_33 (by decide) ?_
          exact ih _ _ _ _ hf _ _ _ hP hD hS (lv_sub hl [2, 3, 1, 0] rfl)
  refine lv_lconst (v := (0 : Int64)) hx hb d_Co_setIn_0 (by decide) ?_
  refine lv_lstore_n (lv' := [(2, .long (0 : Int64)), (0, .ref mh), (1, .int p0)]) hx hb d_Co_setIn_1 rfl hl (by decide) rfl (fun ls hl => ?_)
  refine lv_iconst (v := (1 : Int32)) hx hb d_Co_setIn_2 (by decide) ?_
  refine lv_istore (lv' := [(4, .int (1 : Int32)), (2, .long (0 : Int64)), (0, .ref mh), (1, .int p0)]) hx hb d_Co_setIn_3 hl (by decide) rfl (fun ls hl => ?_)
  exact L_5 _ _ _ _ _ hf _ _ _ hP hD hS (lv_sub hl [2, 3, 1, 0] rfl)
set_option maxHeartbeats 4000000 in
set_option maxRecDepth 100000 in
theorem c_JL_bitCount (l : Launch) (D : va_G) (cI cJ cZ : ClassId) (N : Nat) (p0 : Int64) (r : Int32) (hf : f_JL_bitCount N p0 = some r) : Cx l y_JL_bitCount ws_JL_bitCount rm_JL_bitCount D vwCl (tyL cI cJ cZ) [.long p0] [] (oI r) [] := by
  unfold f_JL_bitCount at hf
  refine Cx.ofW (cc := b_JL_bitCount) (maxL := 2) (ret := (some .int)) (by decide) rfl ?_
  intro p e s m below meth c A C0 hP hK hD hA hns hZ
  obtain ⟨hx, hb, hml, hown, hts0, hr, hlocks, hnm, hno⟩ := C0
  have hown : s.vm.findClass R_JL = some m.cls := hown
  have hts : ∀ w ∈ tb, w.before [.long p0].toArray s = true := fun w h => hts0 w (List.mem_cons_of_mem _ h)
  have hS : va_S A s.heap s.heap [] := va_S.rf
  have hl := lv_entry ([.long p0]) (n := 2) (Nat.le_of_ble_eq_true rfl)
  rw [lg_entry_eq]
  generalize (lg_sl ([.long p0]) ++ List.replicate (2 - (lg_sl ([.long p0])).length) Slot.unset).toArray = ls at hl ⊢
  have hl : lv_has ls 2 [(0, .long p0)] := hl
  refine lv_lload_n hx hb d_JL_bitCount_0 rfl (lv_at hl 0 rfl) ?_
  refine lv_lload_n hx hb d_JL_bitCount_1 rfl (lv_at hl 0 rfl) ?_
  refine lv_iconst (v := (1 : Int32)) hx hb d_JL_bitCount_2 (by decide) ?_
  refine lv_lushr (v := ((p0).toUInt64 >>> (((1 : Int32)).toInt64.toUInt64 &&& Int64.toUInt64 63)).toInt64) hx hb d_JL_bitCount_3 rfl ?_
  refine lv_ldc2 hx hb hown (hts _ k_29) d_JL_bitCount_4 ?_
  refine lv_land hx hb d_JL_bitCount_7 ?_
  refine lv_lsub hx hb d_JL_bitCount_8 ?_
  refine lv_topl (fun y1 ey1 => ?_)
  have hf := x_let ey1 hf
  refine lv_lstore_n (lv' := [(0, .long y1)]) hx hb d_JL_bitCount_9 rfl hl (by decide) rfl (fun ls hl => ?_)
  refine lv_lload_n hx hb d_JL_bitCount_10 rfl (lv_at hl 0 rfl) ?_
  refine lv_ldc2 hx hb hown (hts _ k_30) d_JL_bitCount_11 ?_
  refine lv_land hx hb d_JL_bitCount_14 ?_
  refine lv_lload_n hx hb d_JL_bitCount_15 rfl (lv_at hl 0 rfl) ?_
  refine lv_iconst (v := (2 : Int32)) hx hb d_JL_bitCount_16 (by decide) ?_
  refine lv_lushr (v := ((y1).toUInt64 >>> (((2 : Int32)).toInt64.toUInt64 &&& Int64.toUInt64 63)).toInt64) hx hb d_JL_bitCount_17 rfl ?_
  refine lv_ldc2 hx hb hown (hts _ k_30) d_JL_bitCount_18 ?_
  refine lv_land hx hb d_JL_bitCount_21 ?_
  refine lv_ladd hx hb d_JL_bitCount_22 ?_
  refine lv_topl (fun y2 ey2 => ?_)
  have hf := x_let ey2 hf
  refine lv_lstore_n (lv' := [(0, .long y2)]) hx hb d_JL_bitCount_23 rfl hl (by decide) rfl (fun ls hl => ?_)
  refine lv_lload_n hx hb d_JL_bitCount_24 rfl (lv_at hl 0 rfl) ?_
  refine lv_lload_n hx hb d_JL_bitCount_25 rfl (lv_at hl 0 rfl) ?_
  refine lv_iconst (v := (4 : Int32)) hx hb d_JL_bitCount_26 (by decide) ?_
  refine lv_lushr (v := ((y2).toUInt64 >>> (((4 : Int32)).toInt64.toUInt64 &&& Int64.toUInt64 63)).toInt64) hx hb d_JL_bitCount_27 rfl ?_
  refine lv_ladd hx hb d_JL_bitCount_28 ?_
  refine lv_ldc2 hx hb hown (hts _ k_31) d_JL_bitCount_29 ?_
  refine lv_land hx hb d_JL_bitCount_32 ?_
  refine lv_topl (fun y3 ey3 => ?_)
  have hf := x_let ey3 hf
  refine lv_lstore_n (lv' := [(0, .long y3)]) hx hb d_JL_bitCount_33 rfl hl (by decide) rfl (fun ls hl => ?_)
  refine lv_lload_n hx hb d_JL_bitCount_34 rfl (lv_at hl 0 rfl) ?_
  refine lv_lload_n hx hb d_JL_bitCount_35 rfl (lv_at hl 0 rfl) ?_
  refine lv_bipush (v := (8 : Int32)) hx hb d_JL_bitCount_36 (by decide) ?_
  refine lv_lushr (v := ((y3).toUInt64 >>> (((8 : Int32)).toInt64.toUInt64 &&& Int64.toUInt64 63)).toInt64) hx hb d_JL_bitCount_38 rfl ?_
  refine lv_ladd hx hb d_JL_bitCount_39 ?_
  refine lv_topl (fun y4 ey4 => ?_)
  have hf := x_let ey4 hf
  refine lv_lstore_n (lv' := [(0, .long y4)]) hx hb d_JL_bitCount_40 rfl hl (by decide) rfl (fun ls hl => ?_)
  refine lv_lload_n hx hb d_JL_bitCount_41 rfl (lv_at hl 0 rfl) ?_
  refine lv_lload_n hx hb d_JL_bitCount_42 rfl (lv_at hl 0 rfl) ?_
  refine lv_bipush (v := (16 : Int32)) hx hb d_JL_bitCount_43 (by decide) ?_
  refine lv_lushr (v := ((y4).toUInt64 >>> (((16 : Int32)).toInt64.toUInt64 &&& Int64.toUInt64 63)).toInt64) hx hb d_JL_bitCount_45 rfl ?_
  refine lv_ladd hx hb d_JL_bitCount_46 ?_
  refine lv_topl (fun y5 ey5 => ?_)
  have hf := x_let ey5 hf
  refine lv_lstore_n (lv' := [(0, .long y5)]) hx hb d_JL_bitCount_47 rfl hl (by decide) rfl (fun ls hl => ?_)
  refine lv_lload_n hx hb d_JL_bitCount_48 rfl (lv_at hl 0 rfl) ?_
  refine lv_lload_n hx hb d_JL_bitCount_49 rfl (lv_at hl 0 rfl) ?_
  refine lv_bipush (v := (32 : Int32)) hx hb d_JL_bitCount_50 (by decide) ?_
  refine lv_lushr (v := ((y5).toUInt64 >>> (((32 : Int32)).toInt64.toUInt64 &&& Int64.toUInt64 63)).toInt64) hx hb d_JL_bitCount_52 rfl ?_
  refine lv_ladd hx hb d_JL_bitCount_53 ?_
  refine lv_topl (fun y6 ey6 => ?_)
  have hf := x_let ey6 hf
  refine lv_lstore_n (lv' := [(0, .long y6)]) hx hb d_JL_bitCount_54 rfl hl (by decide) rfl (fun ls hl => ?_)
  refine lv_lload_n hx hb d_JL_bitCount_55 rfl (lv_at hl 0 rfl) ?_
  refine lv_l2i (v := (y6).toInt32) hx hb d_JL_bitCount_56 rfl ?_
  refine lv_bipush (v := (127 : Int32)) hx hb d_JL_bitCount_57 (by decide) ?_
  refine lv_iand hx hb d_JL_bitCount_59 ?_
  obtain rfl := Option.some.inj hf
  exact x_iret hx hb hr hlocks hK hP hD hS (Nat.le_of_ble_eq_true rfl) (Nat.le_of_ble_eq_true rfl) d_JL_bitCount_60
set_option maxHeartbeats 4000000 in
set_option maxRecDepth 100000 in
theorem c_Co_active (l : Launch) (D : va_G) (cI cJ cZ : ClassId) (mh m0 m1 m2 m3 : Nat) (N : Nat) (U : K_Co) (r : (Int32 × K_Co)) (hf : f_Co_active N U = some r) : Cx l y_Co_active ws_Co_active rm_Co_active D vwCl (tyL cI cJ cZ) [.ref mh] (w_Co cI cJ cZ mh m0 m1 m2 m3 U) (oI r.1) (w_Co cI cJ cZ mh m0 m1 m2 m3 r.2) := by
  unfold f_Co_active at hf
  refine Cx.ofW (cc := b_Co_active) (maxL := 1) (ret := (some .int)) (by decide) rfl ?_
  intro p e s m below meth c A C0 hP hK hD hA hns hZ
  obtain ⟨hx, hb, hml, hown, hts0, hr, hlocks, hnm, hno⟩ := C0
  have hown : s.vm.findClass R_Co = some m.cls := hown
  have hts : ∀ w ∈ tb, w.before [.ref mh].toArray s = true := fun w h => hts0 w (List.mem_cons_of_mem _ h)
  have hS : va_S A s.heap s.heap [] := va_S.rf
  have hl := lv_entry ([.ref mh]) (n := 1) (Nat.le_of_ble_eq_true rfl)
  rw [lg_entry_eq]
  generalize (lg_sl ([.ref mh]) ++ List.replicate (1 - (lg_sl ([.ref mh])).length) Slot.unset).toArray = ls at hl ⊢
  have hl : lv_has ls 1 [(0, .ref mh)] := hl
  refine lv_aload_n hx hb d_Co_active_0 rfl (lv_at hl 0 rfl) ?_
  refine lv_iconst (v := (1 : Int32)) hx hb d_Co_active_1 (by decide) ?_
  obtain ⟨z1, hz1, hf⟩ := x_bind hf
  refine x_callV (w2 := (w_Co cI cJ cZ mh m0 m1 m2 m3 z1.2)) ⟨hx, hb, hml, hown, hts⟩ (c_Co_setIn l D cI cJ cZ mh m0 m1 m2 m3 N (1 : Int32) U z1 hz1) (x_cwV 1 hts rfl k_36 k_37 k_38 k_11 k_39 (by decide +kernel) ⟨(Nat.le_of_ble_eq_true rfl), (Nat.le_of_ble_eq_true rfl)⟩) hK hP hD hS hA hZ [0, 1, 2, 3, 4] [] [0, 1, 2, 3, 4] (by decide) rfl rfl (by decide) (by decide) (by decide) rfl (ci := 0) rfl rfl rfl hl.1 rfl (Nat.le_of_ble_eq_true rfl) d_Co_active_2 ⟨(Nat.le_of_ble_eq_true rfl), (Nat.le_of_ble_eq_true rfl)⟩ (fun H locs hP hD hS => ?_)
  refine W.eq (g2 := F0 m 5 ls [.long z1.1]) rfl ?_
  obtain ⟨z2, hz2, hf⟩ := x_bind hf
  refine x_callS (w2 := (w_Co cI cJ cZ mh m0 m1 m2 m3 z1.2)) ⟨hx, hb, hml, hown, hts⟩ (c_JL_bitCount l D cI cJ cZ  N z1.1  z2 hz2) (x_cwS 1 hts rfl k_32 k_33 k_34 k_35 (by decide +kernel) ⟨(Nat.le_of_ble_eq_true rfl), (Nat.le_of_ble_eq_true rfl)⟩) hK hP hD hS hA hZ [] [0, 1, 2, 3, 4] [0, 1, 2, 3, 4] (by decide) rfl rfl (by decide) (by decide) (by decide) rfl rfl hl.1 rfl (Nat.le_of_ble_eq_true rfl) d_Co_active_5 ⟨(Nat.le_of_ble_eq_true rfl), (Nat.le_of_ble_eq_true rfl)⟩ (fun H locs hP hD hS => ?_)
  refine W.eq (g2 := F0 m 8 ls [.int z2]) rfl ?_
  obtain rfl := Option.some.inj hf
  exact x_iret hx hb hr hlocks hK hP hD hS (Nat.le_of_ble_eq_true rfl) (Nat.le_of_ble_eq_true rfl) d_Co_active_8
set_option maxHeartbeats 4000000 in
set_option maxRecDepth 100000 in
theorem c_Co_committed (l : Launch) (D : va_G) (cI cJ cZ : ClassId) (mh m0 m1 m2 m3 : Nat) (N : Nat) (U : K_Co) (r : (Int64 × K_Co)) (hf : f_Co_committed N U = some r) : Cx l y_Co_committed ws_Co_committed rm_Co_committed D vwCl (tyL cI cJ cZ) [.ref mh] (w_Co cI cJ cZ mh m0 m1 m2 m3 U) (oL r.1) (w_Co cI cJ cZ mh m0 m1 m2 m3 r.2) := by
  unfold f_Co_committed at hf
  refine Cx.ofW (cc := b_Co_committed) (maxL := 1) (ret := (some .long)) (by decide) rfl ?_
  intro p e s m below meth c A C0 hP hK hD hA hns hZ
  obtain ⟨hx, hb, hml, hown, hts0, hr, hlocks, hnm, hno⟩ := C0
  have hown : s.vm.findClass R_Co = some m.cls := hown
  have hts : ∀ w ∈ tb, w.before [.ref mh].toArray s = true := fun w h => hts0 w (List.mem_cons_of_mem _ h)
  have hS : va_S A s.heap s.heap [] := va_S.rf
  have hl := lv_entry ([.ref mh]) (n := 1) (Nat.le_of_ble_eq_true rfl)
  rw [lg_entry_eq]
  generalize (lg_sl ([.ref mh]) ++ List.replicate (1 - (lg_sl ([.ref mh])).length) Slot.unset).toArray = ls at hl ⊢
  have hl : lv_has ls 1 [(0, .ref mh)] := hl
  refine lv_aload_n hx hb d_Co_committed_0 rfl (lv_at hl 0 rfl) ?_
  refine lv_iconst (v := (2 : Int32)) hx hb d_Co_committed_1 (by decide) ?_
  obtain ⟨z1, hz1, hf⟩ := x_bind hf
  refine x_callV (w2 := (w_Co cI cJ cZ mh m0 m1 m2 m3 z1.2)) ⟨hx, hb, hml, hown, hts⟩ (c_Co_setIn l D cI cJ cZ mh m0 m1 m2 m3 N (2 : Int32) U z1 hz1) (x_cwV 1 hts rfl k_36 k_37 k_38 k_11 k_39 (by decide +kernel) ⟨(Nat.le_of_ble_eq_true rfl), (Nat.le_of_ble_eq_true rfl)⟩) hK hP hD hS hA hZ [0, 1, 2, 3, 4] [] [0, 1, 2, 3, 4] (by decide) rfl rfl (by decide) (by decide) (by decide) rfl (ci := 0) rfl rfl rfl hl.1 rfl (Nat.le_of_ble_eq_true rfl) d_Co_committed_2 ⟨(Nat.le_of_ble_eq_true rfl), (Nat.le_of_ble_eq_true rfl)⟩ (fun H locs hP hD hS => ?_)
  refine W.eq (g2 := F0 m 5 ls [.long z1.1]) rfl ?_
  obtain rfl := Option.some.inj hf
  exact x_lret hx hb hr hlocks hK hP hD hS (Nat.le_of_ble_eq_true rfl) (Nat.le_of_ble_eq_true rfl) d_Co_committed_5
