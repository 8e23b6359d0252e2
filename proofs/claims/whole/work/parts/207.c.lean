set_option maxHeartbeats 4000000 in
set_option maxRecDepth 100000 in
theorem c_Rv_sweep (l : Launch) (D : va_G) (cI cJ cZ : ClassId) (rh sh mh m0 m1 m2 m3 dh d0 d1 d2 d3 ea cb ch be : Nat) (N : Nat) (U : K_Rv) (r : (Int32 × K_Rv)) (hf : f_Rv_sweep N U = some r) : Cx l y_Rv_sweep ws_Rv_sweep rm_Rv_sweep D vwCl (tyL cI cJ cZ) [.ref rh] (w_Rv cI cJ cZ rh sh mh m0 m1 m2 m3 dh d0 d1 d2 d3 ea cb ch be U) (oI r.1) (w_Rv cI cJ cZ rh sh mh m0 m1 m2 m3 dh d0 d1 d2 d3 ea cb ch be r.2) := by
  unfold f_Rv_sweep at hf
  refine Cx.ofW (cc := b_Rv_sweep) (maxL := 4) (ret := (some .int)) (by decide) rfl ?_
  intro p e s m below meth c A C0 hP hK hD hA hns hZ
  obtain ⟨hx, hb, hml, hown, hts0, hr, hlocks, hnm, hno⟩ := C0
  have hown : s.vm.findClass R_Rv = some m.cls := hown
  have hts : ∀ w ∈ tb, w.before [.ref rh].toArray s = true := fun w h => hts0 w (List.mem_cons_of_mem _ h)
  have hS : va_S A s.heap s.heap [] := va_S.rf
  have hl := lv_entry ([.ref rh]) (n := 4) (Nat.le_of_ble_eq_true rfl)
  rw [lg_entry_eq]
  generalize (lg_sl ([.ref rh]) ++ List.replicate (4 - (lg_sl ([.ref rh])).length) Slot.unset).toArray = ls at hl ⊢
  have hl : lv_has ls 4 [(0, .ref rh)] := hl
  have L_4 : ∀ n : Nat, ∀ (x1 : Int32) (x2 : Int32) (U : K_Rv), f_Rv_sweep_4 N n x1 x2 U = some r → ∀ (H : Heap) (locs : List Loc) (ls : Array Slot), va_P D vwCl (w_Rv cI cJ cZ rh sh mh m0 m1 m2 m3 dh d0 d1 d2 d3 ea cb ch be U) H → va_D A (w_Rv cI cJ cZ rh sh mh m0 m1 m2 m3 dh d0 d1 d2 d3 ea cb ch be U) → va_S A s.heap H locs → lv_has ls 4 [(0, .ref rh), (1, .int x1), (2, .int x2)] → W p l e (rm_Rv_sweep) s m [.ref rh].toArray below meth c H locs 0 0 (xQ D vwCl (tyL cI cJ cZ) below s A (oI r.1) (w_Rv cI cJ cZ rh sh mh m0 m1 m2 m3 dh d0 d1 d2 d3 ea cb ch be r.2) (rm_Rv_sweep).cells (rm_Rv_sweep).slots) (F0 m 4 ls []) := by
    intro n
    induction n with
    | zero =>
      intro x1 x2 U hf
      have hf : (none : Option (Int32 × K_Rv)) = some r := hf
      cases hf
    | succ n ih =>
      intro x1 x2 U hf H locs ls hP hD hS hl
      rw [f_Rv_sweep_4] at hf
      refine lv_iload_n hx hb d_Rv_sweep_4 rfl (lv_at hl 2 rfl) ?_
      refine lv_bipush (v := (6 : Int32)) hx hb d_Rv_sweep_5 (by decide) ?_
      refine lv_icmp_ge (tgt := 35) hx hb d_Rv_sweep_7 (by decide) (fun c3 => ?_) (fun c3 => ?_)
      · have hf := x_ifp c3 hf
        refine lv_iload_n hx hb d_Rv_sweep_35 rfl (lv_at hl 1 rfl) ?_
        obtain rfl := Option.some.inj hf
        exact x_iret hx hb hr hlocks hK hP hD hS (Nat.le_of_ble_eq_true rfl) (Nat.le_of_ble_eq_true rfl) d_Rv_sweep_36
      · have hf := x_ifn c3 hf
        refine lv_aload_n hx hb d_Rv_sweep_10 rfl (lv_at hl 0 rfl) ?_
        refine lv_iload_n hx hb d_Rv_sweep_11 rfl (lv_at hl 2 rfl) ?_
        obtain ⟨z1, hz1, hf⟩ := x_bind hf
        refine x_callV (w2 := (w_Rv cI cJ cZ rh sh mh m0 m1 m2 m3 dh d0 d1 d2 d3 ea cb ch be z1.2)) ⟨hx, hb, hml, hown, hts⟩ (c_Rv_sweepRecord l D cI cJ cZ rh sh mh m0 m1 m2 m3 dh d0 d1 d2 d3 ea cb ch be N x2 U z1 hz1) (x_cwV 1 hts rfl k_202 k_203 k_204 k_23 k_205 (by decide +kernel) ⟨(Nat.le_of_ble_eq_true rfl), (Nat.le_of_ble_eq_true rfl)⟩) hK hP hD hS hA hZ [0, 1, 2, 3, 4, 5, 6, 7, 8, 9, 10, 11, 12, 13, 14, 15] [] [0, 1, 2, 3, 4, 5, 6, 7, 8, 9, 10, 11, 12, 13, 14, 15] (by decide) rfl rfl (by decide) (by decide) (by decide) rfl (ci := 2) rfl rfl rfl hl.1 rfl (Nat.le_of_ble_eq_true rfl) d_Rv_sweep_12 ⟨(Nat.le_of_ble_eq_true rfl), (Nat.le_of_ble_eq_true rfl)⟩ (fun H locs hP hD hS => ?_)
        refine W.eq (g2 := F0 m 15 ls [.int z1.1]) rfl ?_
        refine lv_istore_n (lv' := [(3, .int z1.1), (0, .ref rh), (1, .int x1), (2, .int x2)]) hx hb d_Rv_sweep_15 rfl hl (by decide) rfl (fun ls hl => ?_)
        refine lv_iload_n hx hb d_Rv_sweep_16 rfl (lv_at hl 0 rfl) ?_
        refine lv_bipush (v := (-9 : Int32)) hx hb d_Rv_sweep_17 (by decide) ?_
        refine lv_icmp_ne (tgt := 25) hx hb d_Rv_sweep_19 (by decide) (fun c2 => ?_) (fun c2 => ?_)
        · have hf := x_ifn c2 hf
          refine lv_iload_n hx hb d_Rv_sweep_25 rfl (lv_at hl 2 rfl) ?_
          refine lv_iload_n hx hb d_Rv_sweep_26 rfl (lv_at hl 0 rfl) ?_
          refine lv_iadd hx hb d_Rv_sweep_27 ?_
          refine lv_istore_n (lv' := [(1, .int (x1 + z1.1)), (3, .int z1.1), (0, .ref rh), (2, .int x2)]) hx hb d_Rv_sweep_28 rfl hl (by decide) rfl (fun ls hl => ?_)
          refine lv_iinc (v := (x2 + (1 : Int32))) (lv' := [(2, .int (x2 + (1 : Int32))), (1, .int (x1 + z1.1)), (3, .int z1.1), (0, .ref rh)]) hx hb d_Rv_sweep_29 hl (k := 3) rfl rfl (by decide) rfl (fun ls hl => ?_)
          refine lv_goto (tgt := 4) hx hb d_Rv_sweep_32 (by decide) ?_
          exact ih _ _ _ hf _ _ _ hP hD hS (lv_sub hl [3, 1, 0] rfl)
        · have hf := x_ifp c2 hf
          refine lv_bipush (v := (-9 : Int32)) hx hb d_Rv_sweep_22 (by decide) ?_
          obtain rfl := Option.some.inj hf
          exact x_iret hx hb hr hlocks hK hP hD hS (Nat.le_of_ble_eq_true rfl) (Nat.le_of_ble_eq_true rfl) d_Rv_sweep_24
  refine lv_iconst (v := (0 : Int32)) hx hb d_Rv_sweep_0 (by decide) ?_
  refine lv_istore_n (lv' := [(1, .int (0 : Int32)), (0, .ref rh)]) hx hb d_Rv_sweep_1 rfl hl (by decide) rfl (fun ls hl => ?_)
  refine lv_iconst (v := (0 : Int32)) hx hb d_Rv_sweep_2 (by decide) ?_
  refine lv_istore_n (lv' := [(2, .int (0 : Int32)), (1, .int (0 : Int32)), (0, .ref rh)]) hx hb d_Rv_sweep_3 rfl hl (by decide) rfl (fun ls hl => ?_)
  exact L_4 _ _ _ _ hf _ _ _ hP hD hS (lv_sub hl [2, 1, 0] rfl)
set_option maxHeartbeats 4000000 in
set_option maxRecDepth 100000 in
theorem c_Rv_flush (l : Launch) (D : va_G) (cI cJ cZ : ClassId) (rh sh mh m0 m1 m2 m3 dh d0 d1 d2 d3 ea cb ch be : Nat) (N : Nat) (U : K_Rv) (r : (Int32 × K_Rv)) (hf : f_Rv_flush N U = some r) : Cx l y_Rv_flush ws_Rv_flush rm_Rv_flush D vwCl (tyL cI cJ cZ) [.ref rh] (w_Rv cI cJ cZ rh sh mh m0 m1 m2 m3 dh d0 d1 d2 d3 ea cb ch be U) (oI r.1) (w_Rv cI cJ cZ rh sh mh m0 m1 m2 m3 dh d0 d1 d2 d3 ea cb ch be r.2) := by
  unfold f_Rv_flush at hf
  refine Cx.ofW (cc := b_Rv_flush) (maxL := 2) (ret := (some .int)) (by decide) rfl ?_
  intro p e s m below meth c A C0 hP hK hD hA hns hZ
  obtain ⟨hx, hb, hml, hown, hts0, hr, hlocks, hnm, hno⟩ := C0
  have hown : s.vm.findClass R_Rv = some m.cls := hown
  have hts : ∀ w ∈ tb, w.before [.ref rh].toArray s = true := fun w h => hts0 w (List.mem_cons_of_mem _ h)
  have hS : va_S A s.heap s.heap [] := va_S.rf
  have hl := lv_entry ([.ref rh]) (n := 2) (Nat.le_of_ble_eq_true rfl)
  rw [lg_entry_eq]
  generalize (lg_sl ([.ref rh]) ++ List.replicate (2 - (lg_sl ([.ref rh])).length) Slot.unset).toArray = ls at hl ⊢
  have hl : lv_has ls 2 [(0, .ref rh)] := hl
  refine lv_aload_n hx hb d_Rv_flush_0 rfl (lv_at hl 0 rfl) ?_
  refine va_get (D := D) (ci := 2) (v := .ref sh) (C := R_Rv) (T := F_Rv) (N := 5) hx hb hts i_Rv hown hK hP 0 rfl rfl 0 (by decide) (hts _ k_90) (fun _ h9 => h9) rfl d_Rv_flush_1 ?_
  refine va_get (D := D) (ci := 1) (v := .int U.1.2.2.2.2.1) (C := R_St) (T := F_St) (N := 7) hx hb hts i_St hown hK hP 1 rfl rfl 4 (by decide) (hts _ k_185) (fun _ h9 => h9) rfl d_Rv_flush_4 ?_
  refine lv_istore_n (lv' := [(1, .int U.1.2.2.2.2.1), (0, .ref rh)]) hx hb d_Rv_flush_7 rfl hl (by decide) rfl (fun ls hl => ?_)
  refine lv_aload_n hx hb d_Rv_flush_8 rfl (lv_at hl 1 rfl) ?_
  refine va_get (D := D) (ci := 2) (v := .ref sh) (C := R_Rv) (T := F_Rv) (N := 5) hx hb hts i_Rv hown hK hP 0 rfl rfl 0 (by decide) (hts _ k_90) (fun _ h9 => h9) rfl d_Rv_flush_9 ?_
  refine lv_aload_n hx hb d_Rv_flush_12 rfl (lv_at hl 1 rfl) ?_
  refine va_get (D := D) (ci := 2) (v := .ref sh) (C := R_Rv) (T := F_Rv) (N := 5) hx hb hts i_Rv hown hK hP 0 rfl rfl 0 (by decide) (hts _ k_90) (fun _ h9 => h9) rfl d_Rv_flush_13 ?_
  refine va_get (D := D) (ci := 1) (v := .int U.1.2.2.2.1) (C := R_St) (T := F_St) (N := 7) hx hb hts i_St hown hK hP 1 rfl rfl 3 (by decide) (hts _ k_206) (fun _ h9 => h9) rfl d_Rv_flush_16 ?_
  obtain ⟨z1, hz1, hf⟩ := x_bind hf
  refine x_callV (w2 := (w_Rv cI cJ cZ rh sh mh m0 m1 m2 m3 dh d0 d1 d2 d3 ea cb ch be (z1.2, U.2))) ⟨hx, hb, hml, hown, hts⟩ (c_St_putDirty l D cI cJ cZ sh mh m0 m1 m2 m3 dh d0 d1 d2 d3 ea N U.1.2.2.2.1 U.1 z1 hz1) (x_cwV 1 hts rfl k_186 k_187 k_188 k_55 k_189 (by decide +kernel) ⟨(Nat.le_of_ble_eq_true rfl), (Nat.le_of_ble_eq_true rfl)⟩) hK hP hD hS hA hZ [1, 2, 3, 4, 5, 6, 7, 8, 9, 10, 11, 12] [0, 13, 14, 15] [0, 4, 5, 6, 7, 8, 9, 10, 11, 12, 13, 14, 15, 1, 2, 3] (by decide) rfl rfl (by decide) (by decide) (by decide) rfl (ci := 1) rfl rfl rfl hl.1 rfl (Nat.le_of_ble_eq_true rfl) d_Rv_flush_19 ⟨(Nat.le_of_ble_eq_true rfl), (Nat.le_of_ble_eq_true rfl)⟩ (fun H locs hP hD hS => ?_)
  refine W.eq (g2 := F0 m 22 ls [.int z1.1]) rfl ?_
  refine lv_if_eq (tgt := 37) hx hb d_Rv_flush_22 (by decide) (fun c2 => ?_) (fun c2 => ?_)
  · have hf := x_ifp c2 hf
    refine lv_bipush (v := (-9 : Int32)) hx hb d_Rv_flush_37 (by decide) ?_
    obtain rfl := Option.some.inj hf
    exact x_iret hx hb hr hlocks hK hP hD hS (Nat.le_of_ble_eq_true rfl) (Nat.le_of_ble_eq_true rfl) d_Rv_flush_39
  · have hf := x_ifn c2 hf
    refine lv_aload_n hx hb d_Rv_flush_25 rfl (lv_at hl 1 rfl) ?_
    refine va_get (D := D) (ci := 2) (v := .ref sh) (C := R_Rv) (T := F_Rv) (N := 5) hx hb hts i_Rv hown hK hP 0 rfl rfl 0 (by decide) (hts _ k_90) (fun _ h9 => h9) rfl d_Rv_flush_26 ?_
    refine va_get (D := D) (ci := 1) (v := .int z1.2.2.2.2.2.1) (C := R_St) (T := F_St) (N := 7) hx hb hts i_St hown hK hP 1 rfl rfl 4 (by decide) (hts _ k_185) (fun _ h9 => h9) rfl d_Rv_flush_29 ?_
    refine lv_iload_n hx hb d_Rv_flush_32 rfl (lv_at hl 0 rfl) ?_
    refine lv_isub hx hb d_Rv_flush_33 ?_
    refine lv_goto (tgt := 39) hx hb d_Rv_flush_34 (by decide) ?_
    obtain rfl := Option.some.inj hf
    exact x_iret hx hb hr hlocks hK hP hD hS (Nat.le_of_ble_eq_true rfl) (Nat.le_of_ble_eq_true rfl) d_Rv_flush_39
set_option maxHeartbeats 4000000 in
set_option maxRecDepth 100000 in
theorem c_Rv_fail (l : Launch) (D : va_G) (cI cJ cZ : ClassId) (rh sh mh m0 m1 m2 m3 dh d0 d1 d2 d3 ea cb ch be : Nat) (hL0 : xL l) (N : Nat) (p0 : Int32) (U : K_Rv) (r : ((Int32 ⊕ String) × K_Rv)) (hf : f_Rv_fail N p0 U = some r) : Cx l y_Rv_fail ws_Rv_fail rm_Rv_fail D vwCl (tyL cI cJ cZ) [.ref rh, .int p0] (w_Rv cI cJ cZ rh sh mh m0 m1 m2 m3 dh d0 d1 d2 d3 ea cb ch be U) (tI r.1) (w_Rv cI cJ cZ rh sh mh m0 m1 m2 m3 dh d0 d1 d2 d3 ea cb ch be r.2) := by
  unfold f_Rv_fail at hf
  refine Cx.ofW (cc := b_Rv_fail) (maxL := 3) (ret := (some .int)) (by decide) rfl ?_
  intro p e s m below meth c A C0 hP hK hD hA hns hZ
  obtain ⟨hx, hb, hml, hown, hts0, hr, hlocks, hnm, hno⟩ := C0
  have hown : s.vm.findClass R_Rv = some m.cls := hown
  have hts : ∀ w ∈ tb, w.before [.ref rh, .int p0].toArray s = true := fun w h => hts0 w (List.mem_cons_of_mem _ h)
  have hS : va_S A s.heap s.heap [] := va_S.rf
  have hl := lv_entry ([.ref rh, .int p0]) (n := 3) (Nat.le_of_ble_eq_true rfl)
  rw [lg_entry_eq]
  generalize (lg_sl ([.ref rh, .int p0]) ++ List.replicate (3 - (lg_sl ([.ref rh, .int p0])).length) Slot.unset).toArray = ls at hl ⊢
  have hl : lv_has ls 3 [(0, .ref rh), (1, .int p0)] := hl
  refine lv_iload_n hx hb d_Rv_fail_0 rfl (lv_at hl 1 rfl) ?_
  refine lv_if_lt (tgt := 10) hx hb d_Rv_fail_1 (by decide) (fun c2 => ?_) (fun c2 => ?_)
  · have hf := x_ifp c2 hf
    obtain rfl := Option.some.inj hf
    exact x_throw (cls := "java/lang/IllegalArgumentException") (names := ["java/lang/RuntimeException", "java/lang/Exception"]) hL0 hx hb hml hown hlocks hno (by decide +kernel) (by decide +kernel) (at_Rv_76 hts hZ) (hts _ k_114) (hts _ k_115) hK hP hD hS hns hl.1 (Nat.le_of_ble_eq_true rfl) (Nat.le_of_ble_eq_true rfl) (Nat.le_of_ble_eq_true rfl) (Nat.le_of_ble_eq_true rfl) (Nat.le_of_ble_eq_true rfl) (Nat.le_of_ble_eq_true rfl) d_Rv_fail_10 d_Rv_fail_13 d_Rv_fail_14 d_Rv_fail_17
  · have hf := x_ifn c2 hf
    refine lv_iload_n hx hb d_Rv_fail_4 rfl (lv_at hl 1 rfl) ?_
    refine lv_bipush (v := (50 : Int32)) hx hb d_Rv_fail_5 (by decide) ?_
    refine lv_icmp_le (tgt := 18) hx hb d_Rv_fail_7 (by decide) (fun c1 => ?_) (fun c1 => ?_)
    · have hf := x_ifp c1 hf
      refine lv_aload_n hx hb d_Rv_fail_18 rfl (lv_at hl 0 rfl) ?_
      refine va_get (D := D) (ci := 2) (v := .ref sh) (C := R_Rv) (T := F_Rv) (N := 5) hx hb hts i_Rv hown hK hP 0 rfl rfl 0 (by decide) (hts _ k_90) (fun _ h9 => h9) rfl d_Rv_fail_19 ?_
      refine va_get (D := D) (ci := 1) (v := .int U.1.2.2.2.2.2.2) (C := R_St) (T := F_St) (N := 7) hx hb hts i_St hown hK hP 1 rfl rfl 6 (by decide) (hts _ k_207) (fun _ h9 => h9) rfl d_Rv_fail_22 ?_
      refine lv_istore_n (lv' := [(2, .int U.1.2.2.2.2.2.2), (0, .ref rh), (1, .int p0)]) hx hb d_Rv_fail_25 rfl hl (by decide) rfl (fun ls hl => ?_)
      refine lv_aload_n hx hb d_Rv_fail_26 rfl (lv_at hl 1 rfl) ?_
      refine va_get (D := D) (ci := 2) (v := .ref sh) (C := R_Rv) (T := F_Rv) (N := 5) hx hb hts i_Rv hown hK hP 0 rfl rfl 0 (by decide) (hts _ k_90) (fun _ h9 => h9) rfl d_Rv_fail_27 ?_
      refine lv_iload_n hx hb d_Rv_fail_30 rfl (lv_at hl 2 rfl) ?_
      refine va_put (D := D) (ci := 1) (v := .int p0) (ty := .int) (C := R_St) (T := F_St) (N := 7) hx hb hts i_St t_St t_St_ok n_St hown hK hP hD hS 1 rfl rfl 6 (by decide) (hts _ k_207) (fun _ h9 => h9) rfl (by decide +kernel) rfl rfl (Nat.le_of_ble_eq_true rfl) d_Rv_fail_31 (fun H locs hP hD hS => ?_)
      have hP : va_P D vwCl (w_Rv cI cJ cZ rh sh mh m0 m1 m2 m3 dh d0 d1 d2 d3 ea cb ch be ((U.1.1, (U.1.2.1, (U.1.2.2.1, (U.1.2.2.2.1, (U.1.2.2.2.2.1, (U.1.2.2.2.2.2.1, p0)))))), U.2)) H := hP
      have hD : va_D A (w_Rv cI cJ cZ rh sh mh m0 m1 m2 m3 dh d0 d1 d2 d3 ea cb ch be ((U.1.1, (U.1.2.1, (U.1.2.2.1, (U.1.2.2.2.1, (U.1.2.2.2.2.1, (U.1.2.2.2.2.2.1, p0)))))), U.2)) := hD
      refine lv_iload_n hx hb d_Rv_fail_34 rfl (lv_at hl 0 rfl) ?_
      obtain rfl := Option.some.inj hf
      exact x_iret hx hb hr hlocks hK hP hD hS (Nat.le_of_ble_eq_true rfl) (Nat.le_of_ble_eq_true rfl) d_Rv_fail_35
    · have hf := x_ifn c1 hf
      obtain rfl := Option.some.inj hf
      exact x_throw (cls := "java/lang/IllegalArgumentException") (names := ["java/lang/RuntimeException", "java/lang/Exception"]) hL0 hx hb hml hown hlocks hno (by decide +kernel) (by decide +kernel) (at_Rv_76 hts hZ) (hts _ k_114) (hts _ k_115) hK hP hD hS hns hl.1 (Nat.le_of_ble_eq_true rfl) (Nat.le_of_ble_eq_true rfl) (Nat.le_of_ble_eq_true rfl) (Nat.le_of_ble_eq_true rfl) (Nat.le_of_ble_eq_true rfl) (Nat.le_of_ble_eq_true rfl) d_Rv_fail_10 d_Rv_fail_13 d_Rv_fail_14 d_Rv_fail_17
set_option maxHeartbeats 4000000 in
set_option maxRecDepth 100000 in
theorem c_Rv_crash (l : Launch) (D : va_G) (cI cJ cZ : ClassId) (rh sh mh m0 m1 m2 m3 dh d0 d1 d2 d3 ea cb ch be : Nat) (N : Nat) (U : K_Rv) (r : (Int32 × K_Rv)) (hf : f_Rv_crash N U = some r) : Cx l y_Rv_crash ws_Rv_crash rm_Rv_crash D vwCl (tyL cI cJ cZ) [.ref rh] (w_Rv cI cJ cZ rh sh mh m0 m1 m2 m3 dh d0 d1 d2 d3 ea cb ch be U) (oI r.1) (w_Rv cI cJ cZ rh sh mh m0 m1 m2 m3 dh d0 d1 d2 d3 ea cb ch be r.2) := by
  unfold f_Rv_crash at hf
  refine Cx.ofW (cc := b_Rv_crash) (maxL := 2) (ret := (some .int)) (by decide) rfl ?_
  intro p e s m below meth c A C0 hP hK hD hA hns hZ
  obtain ⟨hx, hb, hml, hown, hts0, hr, hlocks, hnm, hno⟩ := C0
  have hown : s.vm.findClass R_Rv = some m.cls := hown
  have hts : ∀ w ∈ tb, w.before [.ref rh].toArray s = true := fun w h => hts0 w (List.mem_cons_of_mem _ h)
  have hS : va_S A s.heap s.heap [] := va_S.rf
  have hl := lv_entry ([.ref rh]) (n := 2) (Nat.le_of_ble_eq_true rfl)
  rw [lg_entry_eq]
  generalize (lg_sl ([.ref rh]) ++ List.replicate (2 - (lg_sl ([.ref rh])).length) Slot.unset).toArray = ls at hl ⊢
  have hl : lv_has ls 2 [(0, .ref rh)] := hl
  refine lv_aload_n hx hb d_Rv_crash_0 rfl (lv_at hl 0 rfl) ?_
  refine va_get (D := D) (ci := 2) (v := .ref mh) (C := R_Rv) (T := F_Rv) (N := 5) hx hb hts i_Rv hown hK hP 0 rfl rfl 1 (by decide) (hts _ k_92) (fun _ h9 => h9) rfl d_Rv_crash_1 ?_
  obtain ⟨z1, hz1, hf⟩ := x_bind hf
  refine x_callV (w2 := (w_Rv cI cJ cZ rh sh mh m0 m1 m2 m3 dh d0 d1 d2 d3 ea cb ch be ((z1.2, U.1.2), U.2))) ⟨hx, hb, hml, hown, hts⟩ (c_Co_active l D cI cJ cZ mh m0 m1 m2 m3 N  U.1.1 z1 hz1) (x_cwV 0 hts rfl k_106 k_107 k_108 k_11 k_109 (by decide +kernel) ⟨(Nat.le_of_ble_eq_true rfl), (Nat.le_of_ble_eq_true rfl)⟩) hK hP hD hS hA hZ [2, 3, 4, 5, 6] [0, 1, 7, 8, 9, 10, 11, 12, 13, 14, 15] [0, 1, 11, 12, 13, 14, 15, 2, 3, 4, 5, 6, 7, 8, 9, 10] (by decide) rfl rfl (by decide) (by decide) (by decide) rfl (ci := 0) rfl rfl rfl hl.1 rfl (Nat.le_of_ble_eq_true rfl) d_Rv_crash_4 ⟨(Nat.le_of_ble_eq_true rfl), (Nat.le_of_ble_eq_true rfl)⟩ (fun H locs hP hD hS => ?_)
  refine W.eq (g2 := F0 m 7 ls [.int z1.1]) rfl ?_
  refine lv_istore_n (lv' := [(1, .int z1.1), (0, .ref rh)]) hx hb d_Rv_crash_7 rfl hl (by decide) rfl (fun ls hl => ?_)
  refine lv_aload_n hx hb d_Rv_crash_8 rfl (lv_at hl 1 rfl) ?_
  refine va_get (D := D) (ci := 2) (v := .ref sh) (C := R_Rv) (T := F_Rv) (N := 5) hx hb hts i_Rv hown hK hP 0 rfl rfl 0 (by decide) (hts _ k_90) (fun _ h9 => h9) rfl d_Rv_crash_9 ?_
  obtain ⟨z2, hz2, hf⟩ := x_bind hf
  refine x_callV (w2 := (w_Rv cI cJ cZ rh sh mh m0 m1 m2 m3 dh d0 d1 d2 d3 ea cb ch be (z2.2, U.2))) ⟨hx, hb, hml, hown, hts⟩ (c_St_fall l D cI cJ cZ sh mh m0 m1 m2 m3 dh d0 d1 d2 d3 ea N  (z1.2, U.1.2) z2 hz2) (x_cwV 0 hts rfl k_208 k_68 k_69 k_55 k_70 (by decide +kernel) ⟨(Nat.le_of_ble_eq_true rfl), (Nat.le_of_ble_eq_true rfl)⟩) hK hP hD hS hA hZ [1, 2, 3, 4, 5, 6, 7, 8, 9, 10, 11, 12] [0, 13, 14, 15] [0, 4, 5, 6, 7, 8, 9, 10, 11, 12, 13, 14, 15, 1, 2, 3] (by decide) rfl rfl (by decide) (by decide) (by decide) rfl (ci := 1) rfl rfl rfl hl.1 rfl (Nat.le_of_ble_eq_true rfl) d_Rv_crash_12 ⟨(Nat.le_of_ble_eq_true rfl), (Nat.le_of_ble_eq_true rfl)⟩ (fun H locs hP hD hS => ?_)
  refine W.eq (g2 := F0 m 15 ls []) rfl ?_
  refine lv_iload_n hx hb d_Rv_crash_15 rfl (lv_at hl 0 rfl) ?_
  obtain rfl := Option.some.inj hf
  exact x_iret hx hb hr hlocks hK hP hD hS (Nat.le_of_ble_eq_true rfl) (Nat.le_of_ble_eq_true rfl) d_Rv_crash_16
set_option maxHeartbeats 4000000 in
set_option maxRecDepth 100000 in
theorem c_Rv_image (l : Launch) (D : va_G) (cI cJ cZ : ClassId) (rh sh mh m0 m1 m2 m3 dh d0 d1 d2 d3 ea cb ch be : Nat) (hL0 : xL l) (N : Nat) (p0 : Int32) (U : K_Rv) (r : ((Int32 ⊕ String) × K_Rv)) (hf : f_Rv_image N p0 U = some r) : Cx l y_Rv_image ws_Rv_image rm_Rv_image D vwCl (tyL cI cJ cZ) [.ref rh, .int p0] (w_Rv cI cJ cZ rh sh mh m0 m1 m2 m3 dh d0 d1 d2 d3 ea cb ch be U) (tI r.1) (w_Rv cI cJ cZ rh sh mh m0 m1 m2 m3 dh d0 d1 d2 d3 ea cb ch be r.2) := by
  unfold f_Rv_image at hf
  refine Cx.ofW (cc := b_Rv_image) (maxL := 2) (ret := (some .int)) (by decide) rfl ?_
  intro p e s m below meth c A C0 hP hK hD hA hns hZ
  obtain ⟨hx, hb, hml, hown, hts0, hr, hlocks, hnm, hno⟩ := C0
  have hown : s.vm.findClass R_Rv = some m.cls := hown
  have hts : ∀ w ∈ tb, w.before [.ref rh, .int p0].toArray s = true := fun w h => hts0 w (List.mem_cons_of_mem _ h)
  have hS : va_S A s.heap s.heap [] := va_S.rf
  have hl := lv_entry ([.ref rh, .int p0]) (n := 2) (Nat.le_of_ble_eq_true rfl)
  rw [lg_entry_eq]
  generalize (lg_sl ([.ref rh, .int p0]) ++ List.replicate (2 - (lg_sl ([.ref rh, .int p0])).length) Slot.unset).toArray = ls at hl ⊢
  have hl : lv_has ls 2 [(0, .ref rh), (1, .int p0)] := hl
  refine lv_iload_n hx hb d_Rv_image_0 rfl (lv_at hl 1 rfl) ?_
  obtain ⟨v2 | E3, hz1, hf⟩ := x_bind hf
  · dsimp only at hf
    refine x_callS (w2 := (w_Rv cI cJ cZ rh sh mh m0 m1 m2 m3 dh d0 d1 d2 d3 ea cb ch be U)) ⟨hx, hb, hml, hown, hts⟩ (c_Rv_demandRecord l D cI cJ cZ  hL0 N p0  (Sum.inl v2) hz1) (x_cwS 1 hts rfl k_138 k_139 k_23 k_140 (by decide +kernel) ⟨(Nat.le_of_ble_eq_true rfl), (Nat.le_of_ble_eq_true rfl)⟩) hK hP hD hS hA hZ [] [0, 1, 2, 3, 4, 5, 6, 7, 8, 9, 10, 11, 12, 13, 14, 15] [0, 1, 2, 3, 4, 5, 6, 7, 8, 9, 10, 11, 12, 13, 14, 15] (by decide) rfl rfl (by decide) (by decide) (by decide) rfl rfl hl.1 rfl (Nat.le_of_ble_eq_true rfl) d_Rv_image_1 ⟨(Nat.le_of_ble_eq_true rfl), (Nat.le_of_ble_eq_true rfl)⟩ (fun H locs hP hD hS => ?_)
    refine W.eq (g2 := F0 m 4 ls []) rfl ?_
    refine lv_aload_n hx hb d_Rv_image_4 rfl (lv_at hl 0 rfl) ?_
    refine va_get (D := D) (ci := 2) (v := .ref sh) (C := R_Rv) (T := F_Rv) (N := 5) hx hb hts i_Rv hown hK hP 0 rfl rfl 0 (by decide) (hts _ k_90) (fun _ h9 => h9) rfl d_Rv_image_5 ?_
    refine va_get (D := D) (ci := 1) (v := .ref dh) (C := R_St) (T := F_St) (N := 7) hx hb hts i_St hown hK hP 1 rfl rfl 1 (by decide) (hts _ k_209) (fun _ h9 => h9) rfl d_Rv_image_8 ?_
    refine lv_aload_n hx hb d_Rv_image_11 rfl (lv_at hl 0 rfl) ?_
    refine va_get (D := D) (ci := 2) (v := .ref sh) (C := R_Rv) (T := F_Rv) (N := 5) hx hb hts i_Rv hown hK hP 0 rfl rfl 0 (by decide) (hts _ k_90) (fun _ h9 => h9) rfl d_Rv_image_12 ?_
    refine va_get (D := D) (ci := 1) (v := .ref dh) (C := R_St) (T := F_St) (N := 7) hx hb hts i_St hown hK hP 1 rfl rfl 1 (by decide) (hts _ k_209) (fun _ h9 => h9) rfl d_Rv_image_15 ?_
    refine lv_aload_n hx hb d_Rv_image_18 rfl (lv_at hl 0 rfl) ?_
    refine va_get (D := D) (ci := 2) (v := .ref sh) (C := R_Rv) (T := F_Rv) (N := 5) hx hb hts i_Rv hown hK hP 0 rfl rfl 0 (by decide) (hts _ k_90) (fun _ h9 => h9) rfl d_Rv_image_19 ?_
    refine va_get (D := D) (ci := 1) (v := .ref dh) (C := R_St) (T := F_St) (N := 7) hx hb hts i_St hown hK hP 1 rfl rfl 1 (by decide) (hts _ k_209) (fun _ h9 => h9) rfl d_Rv_image_22 ?_
    obtain ⟨z5, hz5, hf⟩ := x_bind hf
    refine x_callV (w2 := (w_Rv cI cJ cZ rh sh mh m0 m1 m2 m3 dh d0 d1 d2 d3 ea cb ch be ((U.1.1, (z5.2, U.1.2.2)), U.2))) ⟨hx, hb, hml, hown, hts⟩ (c_Co_committed l D cI cJ cZ dh d0 d1 d2 d3 N  U.1.2.1 z5 hz5) (x_cwV 0 hts rfl k_102 k_103 k_104 k_11 k_105 (by decide +kernel) ⟨(Nat.le_of_ble_eq_true rfl), (Nat.le_of_ble_eq_true rfl)⟩) hK hP hD hS hA hZ [7, 8, 9, 10, 11] [0, 1, 2, 3, 4, 5, 6, 12, 13, 14, 15] [0, 1, 2, 3, 4, 5, 6, 11, 12, 13, 14, 15, 7, 8, 9, 10] (by decide) rfl rfl (by decide) (by decide) (by decide) rfl (ci := 0) rfl rfl rfl hl.1 rfl (Nat.le_of_ble_eq_true rfl) d_Rv_image_25 ⟨(Nat.le_of_ble_eq_true rfl), (Nat.le_of_ble_eq_true rfl)⟩ (fun H locs hP hD hS => ?_)
    refine W.eq (g2 := F0 m 28 ls [.long z5.1, .ref dh, .ref dh]) rfl ?_
    refine lv_iload_n hx hb d_Rv_image_28 rfl (lv_at hl 1 rfl) ?_
    obtain ⟨z6, hz6, hf⟩ := x_bind hf
    refine x_callV (w2 := (w_Rv cI cJ cZ rh sh mh m0 m1 m2 m3 dh d0 d1 d2 d3 ea cb ch be ((U.1.1, (z6.2, U.1.2.2)), U.2))) ⟨hx, hb, hml, hown, hts⟩ (c_Co_firstOf l D cI cJ cZ dh d0 d1 d2 d3 N z5.1 p0 z5.2 z6 hz6) (x_cwV 2 hts rfl k_116 k_117 k_118 k_11 k_119 (by decide +kernel) ⟨(Nat.le_of_ble_eq_true rfl), (Nat.le_of_ble_eq_true rfl)⟩) hK hP hD hS hA hZ [7, 8, 9, 10, 11] [0, 1, 2, 3, 4, 5, 6, 12, 13, 14, 15] [0, 1, 2, 3, 4, 5, 6, 11, 12, 13, 14, 15, 7, 8, 9, 10] (by decide) rfl rfl (by decide) (by decide) (by decide) rfl (ci := 0) rfl rfl rfl hl.1 rfl (Nat.le_of_ble_eq_true rfl) d_Rv_image_29 ⟨(Nat.le_of_ble_eq_true rfl), (Nat.le_of_ble_eq_true rfl)⟩ (fun H locs hP hD hS => ?_)
    refine W.eq (g2 := F0 m 32 ls [.int z6.1, .ref dh]) rfl ?_
    obtain ⟨⟨v8 | E9, U10⟩, hz7, hf⟩ := x_bind hf
    · dsimp only at hf
      refine x_callS (w2 := (w_Rv cI cJ cZ rh sh mh m0 m1 m2 m3 dh d0 d1 d2 d3 ea cb ch be ((U.1.1, (U10, U.1.2.2)), U.2))) ⟨hx, hb, hml, hown, hts⟩ (c_Rv_demandValue l D cI cJ cZ dh d0 d1 d2 d3 hL0 N z6.1 z6.2 (Sum.inl v8, U10) hz7) (x_cwS 2 hts rfl k_127 k_128 k_23 k_129 (by decide +kernel) ⟨(Nat.le_of_ble_eq_true rfl), (Nat.le_of_ble_eq_true rfl)⟩) hK hP hD hS hA hZ [7, 8, 9, 10, 11] [0, 1, 2, 3, 4, 5, 6, 12, 13, 14, 15] [0, 1, 2, 3, 4, 5, 6, 11, 12, 13, 14, 15, 7, 8, 9, 10] (by decide) rfl rfl (by decide) (by decide) (by decide) rfl rfl hl.1 rfl (Nat.le_of_ble_eq_true rfl) d_Rv_image_32 ⟨(Nat.le_of_ble_eq_true rfl), (Nat.le_of_ble_eq_true rfl)⟩ (fun H locs hP hD hS => ?_)
      refine W.eq (g2 := F0 m 35 ls [.int v8]) rfl ?_
      obtain rfl := Option.some.inj hf
      exact x_iret hx hb hr hlocks hK hP hD hS (Nat.le_of_ble_eq_true rfl) (Nat.le_of_ble_eq_true rfl) d_Rv_image_35
    · dsimp only at hf
      obtain rfl := Option.some.inj hf
      exact x_out (w2 := (w_Rv cI cJ cZ rh sh mh m0 m1 m2 m3 dh d0 d1 d2 d3 ea cb ch be ((U.1.1, (U10, U.1.2.2)), U.2))) (x_noteS ⟨hx, hb, hml, hown, hts⟩ (c_Rv_demandValue l D cI cJ cZ dh d0 d1 d2 d3 hL0 N z6.1 z6.2 (Sum.inr E9, U10) hz7) (x_cwS 2 hts rfl k_127 k_128 k_23 k_129 (by decide +kernel) ⟨(Nat.le_of_ble_eq_true rfl), (Nat.le_of_ble_eq_true rfl)⟩) (x_cut hP hD hK hS hA hZ [7, 8, 9, 10, 11] (by decide) rfl).2 rfl hl.1 rfl (Nat.le_of_ble_eq_true rfl) d_Rv_image_32 ⟨(Nat.le_of_ble_eq_true rfl), (Nat.le_of_ble_eq_true rfl)⟩) hlocks hno hK hP hD hS hA [7, 8, 9, 10, 11] [0, 1, 2, 3, 4, 5, 6, 12, 13, 14, 15] [0, 1, 2, 3, 4, 5, 6, 11, 12, 13, 14, 15, 7, 8, 9, 10] rfl rfl (by decide) (by decide) (by decide) rfl (Nat.le_of_ble_eq_true rfl) (Nat.le_of_ble_eq_true rfl)
  · dsimp only at hf
    obtain rfl := Option.some.inj hf
    exact x_out (w2 := (w_Rv cI cJ cZ rh sh mh m0 m1 m2 m3 dh d0 d1 d2 d3 ea cb ch be U)) (x_noteS ⟨hx, hb, hml, hown, hts⟩ (c_Rv_demandRecord l D cI cJ cZ  hL0 N p0  (Sum.inr E3) hz1) (x_cwS 1 hts rfl k_138 k_139 k_23 k_140 (by decide +kernel) ⟨(Nat.le_of_ble_eq_true rfl), (Nat.le_of_ble_eq_true rfl)⟩) (x_cut hP hD hK hS hA hZ [] (by decide) rfl).2 rfl hl.1 rfl (Nat.le_of_ble_eq_true rfl) d_Rv_image_1 ⟨(Nat.le_of_ble_eq_true rfl), (Nat.le_of_ble_eq_true rfl)⟩) hlocks hno hK hP hD hS hA [] [0, 1, 2, 3, 4, 5, 6, 7, 8, 9, 10, 11, 12, 13, 14, 15] [0, 1, 2, 3, 4, 5, 6, 7, 8, 9, 10, 11, 12, 13, 14, 15] rfl rfl (by decide) (by decide) (by decide) rfl (Nat.le_of_ble_eq_true rfl) (Nat.le_of_ble_eq_true rfl)
set_option maxHeartbeats 4000000 in
set_option maxRecDepth 100000 in
theorem c_Rv_state (l : Launch) (D : va_G) (cI cJ cZ : ClassId) (rh sh mh m0 m1 m2 m3 dh d0 d1 d2 d3 ea cb ch be : Nat) (hL0 : xL l) (N : Nat) (p0 : Int32) (U : K_Rv) (r : ((Int32 ⊕ String) × K_Rv)) (hf : f_Rv_state N p0 U = some r) : Cx l y_Rv_state ws_Rv_state rm_Rv_state D vwCl (tyL cI cJ cZ) [.ref rh, .int p0] (w_Rv cI cJ cZ rh sh mh m0 m1 m2 m3 dh d0 d1 d2 d3 ea cb ch be U) (tI r.1) (w_Rv cI cJ cZ rh sh mh m0 m1 m2 m3 dh d0 d1 d2 d3 ea cb ch be r.2) := by
  unfold f_Rv_state at hf
  refine Cx.ofW (cc := b_Rv_state) (maxL := 2) (ret := (some .int)) (by decide) rfl ?_
  intro p e s m below meth c A C0 hP hK hD hA hns hZ
  obtain ⟨hx, hb, hml, hown, hts0, hr, hlocks, hnm, hno⟩ := C0
  have hown : s.vm.findClass R_Rv = some m.cls := hown
  have hts : ∀ w ∈ tb, w.before [.ref rh, .int p0].toArray s = true := fun w h => hts0 w (List.mem_cons_of_mem _ h)
  have hS : va_S A s.heap s.heap [] := va_S.rf
  have hl := lv_entry ([.ref rh, .int p0]) (n := 2) (Nat.le_of_ble_eq_true rfl)
  rw [lg_entry_eq]
  generalize (lg_sl ([.ref rh, .int p0]) ++ List.replicate (2 - (lg_sl ([.ref rh, .int p0])).length) Slot.unset).toArray = ls at hl ⊢
  have hl : lv_has ls 2 [(0, .ref rh), (1, .int p0)] := hl
  refine lv_iload_n hx hb d_Rv_state_0 rfl (lv_at hl 1 rfl) ?_
  refine lv_iconst (v := (1 : Int32)) hx hb d_Rv_state_1 (by decide) ?_
  refine lv_icmp_lt (tgt := 11) hx hb d_Rv_state_2 (by decide) (fun c3 => ?_) (fun c3 => ?_)
  · have hf := x_ifp c3 hf
    obtain rfl := Option.some.inj hf
    exact x_throw (cls := "java/lang/IllegalArgumentException") (names := ["java/lang/RuntimeException", "java/lang/Exception"]) hL0 hx hb hml hown hlocks hno (by decide +kernel) (by decide +kernel) (at_Rv_76 hts hZ) (hts _ k_114) (hts _ k_115) hK hP hD hS hns hl.1 (Nat.le_of_ble_eq_true rfl) (Nat.le_of_ble_eq_true rfl) (Nat.le_of_ble_eq_true rfl) (Nat.le_of_ble_eq_true rfl) (Nat.le_of_ble_eq_true rfl) (Nat.le_of_ble_eq_true rfl) d_Rv_state_11 d_Rv_state_14 d_Rv_state_15 d_Rv_state_18
  · have hf := x_ifn c3 hf
    refine lv_iload_n hx hb d_Rv_state_5 rfl (lv_at hl 1 rfl) ?_
    refine lv_bipush (v := (40 : Int32)) hx hb d_Rv_state_6 (by decide) ?_
    refine lv_icmp_le (tgt := 19) hx hb d_Rv_state_8 (by decide) (fun c2 => ?_) (fun c2 => ?_)
    · have hf := x_ifp c2 hf
      refine lv_aload_n hx hb d_Rv_state_19 rfl (lv_at hl 0 rfl) ?_
      refine va_get (D := D) (ci := 2) (v := .ref mh) (C := R_Rv) (T := F_Rv) (N := 5) hx hb hts i_Rv hown hK hP 0 rfl rfl 1 (by decide) (hts _ k_92) (fun _ h9 => h9) rfl d_Rv_state_20 ?_
      refine va_get (D := D) (ci := 0) (v := .ref m3) (C := R_Co) (T := F_Co) (N := 4) hx hb hts i_Co hown hK hP 2 rfl rfl 3 (by decide) (hts _ k_99) (fun _ h9 => h9) rfl d_Rv_state_23 ?_
      refine lv_iload_n hx hb d_Rv_state_26 rfl (lv_at hl 1 rfl) ?_
      obtain ⟨g1, hf⟩ := x_if hf
      refine va_iald hx hb hK hP 6 0 rfl rfl (xi_in g1) d_Rv_state_27 ?_
      obtain rfl := Option.some.inj hf
      exact x_iret hx hb hr hlocks hK hP hD hS (Nat.le_of_ble_eq_true rfl) (Nat.le_of_ble_eq_true rfl) d_Rv_state_28
    · have hf := x_ifn c2 hf
      obtain rfl := Option.some.inj hf
      exact x_throw (cls := "java/lang/IllegalArgumentException") (names := ["java/lang/RuntimeException", "java/lang/Exception"]) hL0 hx hb hml hown hlocks hno (by decide +kernel) (by decide +kernel) (at_Rv_76 hts hZ) (hts _ k_114) (hts _ k_115) hK hP hD hS hns hl.1 (Nat.le_of_ble_eq_true rfl) (Nat.le_of_ble_eq_true rfl) (Nat.le_of_ble_eq_true rfl) (Nat.le_of_ble_eq_true rfl) (Nat.le_of_ble_eq_true rfl) (Nat.le_of_ble_eq_true rfl) d_Rv_state_11 d_Rv_state_14 d_Rv_state_15 d_Rv_state_18
set_option maxHeartbeats 4000000 in
set_option maxRecDepth 100000 in
theorem c_Rv_version (l : Launch) (D : va_G) (cI cJ cZ : ClassId) (rh sh mh m0 m1 m2 m3 dh d0 d1 d2 d3 ea cb ch be : Nat) (hL0 : xL l) (N : Nat) (p0 : Int32) (p1 : Int32) (p2 : Int32) (U : K_Rv) (r : ((Int32 ⊕ String) × K_Rv)) (hf : f_Rv_version N p0 p1 p2 U = some r) : Cx l y_Rv_version ws_Rv_version rm_Rv_version D vwCl (tyL cI cJ cZ) [.ref rh, .int p0, .int p1, .int p2] (w_Rv cI cJ cZ rh sh mh m0 m1 m2 m3 dh d0 d1 d2 d3 ea cb ch be U) (tI r.1) (w_Rv cI cJ cZ rh sh mh m0 m1 m2 m3 dh d0 d1 d2 d3 ea cb ch be r.2) := by
  unfold f_Rv_version at hf
  refine Cx.ofW (cc := b_Rv_version) (maxL := 5) (ret := (some .int)) (by decide) rfl ?_
  intro p e s m below meth c A C0 hP hK hD hA hns hZ
  obtain ⟨hx, hb, hml, hown, hts0, hr, hlocks, hnm, hno⟩ := C0
  have hown : s.vm.findClass R_Rv = some m.cls := hown
  have hts : ∀ w ∈ tb, w.before [.ref rh, .int p0, .int p1, .int p2].toArray s = true := fun w h => hts0 w (List.mem_cons_of_mem _ h)
  have hS : va_S A s.heap s.heap [] := va_S.rf
  have hl := lv_entry ([.ref rh, .int p0, .int p1, .int p2]) (n := 5) (Nat.le_of_ble_eq_true rfl)
  rw [lg_entry_eq]
  generalize (lg_sl ([.ref rh, .int p0, .int p1, .int p2]) ++ List.replicate (5 - (lg_sl ([.ref rh, .int p0, .int p1, .int p2])).length) Slot.unset).toArray = ls at hl ⊢
  have hl : lv_has ls 5 [(0, .ref rh), (1, .int p0), (2, .int p1), (3, .int p2)] := hl
  refine lv_iload_n hx hb d_Rv_version_0 rfl (lv_at hl 1 rfl) ?_
  obtain ⟨v2 | E3, hz1, hf⟩ := x_bind hf
  · dsimp only at hf
    refine x_callS (w2 := (w_Rv cI cJ cZ rh sh mh m0 m1 m2 m3 dh d0 d1 d2 d3 ea cb ch be U)) ⟨hx, hb, hml, hown, hts⟩ (c_Rv_demandRecord l D cI cJ cZ  hL0 N p0  (Sum.inl v2) hz1) (x_cwS 1 hts rfl k_138 k_139 k_23 k_140 (by decide +kernel) ⟨(Nat.le_of_ble_eq_true rfl), (Nat.le_of_ble_eq_true rfl)⟩) hK hP hD hS hA hZ [] [0, 1, 2, 3, 4, 5, 6, 7, 8, 9, 10, 11, 12, 13, 14, 15] [0, 1, 2, 3, 4, 5, 6, 7, 8, 9, 10, 11, 12, 13, 14, 15] (by decide) rfl rfl (by decide) (by decide) (by decide) rfl rfl hl.1 rfl (Nat.le_of_ble_eq_true rfl) d_Rv_version_1 ⟨(Nat.le_of_ble_eq_true rfl), (Nat.le_of_ble_eq_true rfl)⟩ (fun H locs hP hD hS => ?_)
    refine W.eq (g2 := F0 m 4 ls []) rfl ?_
    refine lv_iload_n hx hb d_Rv_version_4 rfl (lv_at hl 3 rfl) ?_
    refine lv_if_lt (tgt := 13) hx hb d_Rv_version_5 (by decide) (fun c13 => ?_) (fun c13 => ?_)
    · have hf := x_ifp c13 hf
      obtain rfl := Option.some.inj hf
      exact x_throw (cls := "java/lang/IllegalArgumentException") (names := ["java/lang/RuntimeException", "java/lang/Exception"]) hL0 hx hb hml hown hlocks hno (by decide +kernel) (by decide +kernel) (at_Rv_76 hts hZ) (hts _ k_114) (hts _ k_115) hK hP hD hS hns hl.1 (Nat.le_of_ble_eq_true rfl) (Nat.le_of_ble_eq_true rfl) (Nat.le_of_ble_eq_true rfl) (Nat.le_of_ble_eq_true rfl) (Nat.le_of_ble_eq_true rfl) (Nat.le_of_ble_eq_true rfl) d_Rv_version_13 d_Rv_version_16 d_Rv_version_17 d_Rv_version_20
    · have hf := x_ifn c13 hf
      refine lv_iload_n hx hb d_Rv_version_8 rfl (lv_at hl 3 rfl) ?_
      refine lv_iconst (v := (2 : Int32)) hx hb d_Rv_version_9 (by decide) ?_
      refine lv_icmp_le (tgt := 21) hx hb d_Rv_version_10 (by decide) (fun c12 => ?_) (fun c12 => ?_)
      · have hf := x_ifp c12 hf
        refine lv_aload_n hx hb d_Rv_version_21 rfl (lv_at hl 0 rfl) ?_
        refine va_get (D := D) (ci := 2) (v := .ref mh) (C := R_Rv) (T := F_Rv) (N := 5) hx hb hts i_Rv hown hK hP 0 rfl rfl 1 (by decide) (hts _ k_92) (fun _ h9 => h9) rfl d_Rv_version_22 ?_
        refine lv_iload_n hx hb d_Rv_version_25 rfl (lv_at hl 1 rfl) ?_
        refine lv_iload_n hx hb d_Rv_version_26 rfl (lv_at hl 2 rfl) ?_
        obtain ⟨z5, hz5, hf⟩ := x_bind hf
        refine x_callV (w2 := (w_Rv cI cJ cZ rh sh mh m0 m1 m2 m3 dh d0 d1 d2 d3 ea cb ch be ((z5.2, U.1.2), U.2))) ⟨hx, hb, hml, hown, hts⟩ (c_Co_placeAt l D cI cJ cZ mh m0 m1 m2 m3 N p0 p1 U.1.1 z5 hz5) (x_cwV 2 hts rfl k_210 k_26 k_27 k_11 k_28 (by decide +kernel) ⟨(Nat.le_of_ble_eq_true rfl), (Nat.le_of_ble_eq_true rfl)⟩) hK hP hD hS hA hZ [2, 3, 4, 5, 6] [0, 1, 7, 8, 9, 10, 11, 12, 13, 14, 15] [0, 1, 11, 12, 13, 14, 15, 2, 3, 4, 5, 6, 7, 8, 9, 10] (by decide) rfl rfl (by decide) (by decide) (by decide) rfl (ci := 0) rfl rfl rfl hl.1 rfl (Nat.le_of_ble_eq_true rfl) d_Rv_version_27 ⟨(Nat.le_of_ble_eq_true rfl), (Nat.le_of_ble_eq_true rfl)⟩ (fun H locs hP hD hS => ?_)
        refine W.eq (g2 := F0 m 30 ls [.int z5.1]) rfl ?_
        refine lv_istore (lv' := [(4, .int z5.1), (0, .ref rh), (1, .int p0), (2, .int p1), (3, .int p2)]) hx hb d_Rv_version_30 hl (by decide) rfl (fun ls hl => ?_)
        refine lv_iload hx hb d_Rv_version_32 (lv_at hl 0 rfl) ?_
        refine lv_iconst (v := (-1 : Int32)) hx hb d_Rv_version_34 (by decide) ?_
        refine lv_icmp_ne (tgt := 46) hx hb d_Rv_version_35 (by decide) (fun c11 => ?_) (fun c11 => ?_)
        · have hf := x_ifn c11 hf
          refine lv_iload_n hx hb d_Rv_version_46 rfl (lv_at hl 4 rfl) ?_
          refine lv_if_ne (tgt := 61) hx hb d_Rv_version_47 (by decide) (fun c10 => ?_) (fun c10 => ?_)
          · have hf := x_ifn c10 hf
            refine lv_iload_n hx hb d_Rv_version_61 rfl (lv_at hl 4 rfl) ?_
            refine lv_iconst (v := (1 : Int32)) hx hb d_Rv_version_62 (by decide) ?_
            refine lv_icmp_ne (tgt := 77) hx hb d_Rv_version_63 (by decide) (fun c8 => ?_) (fun c8 => ?_)
            · have hf := x_ifn c8 hf
              refine lv_iload hx hb d_Rv_version_77 (lv_at hl 0 rfl) ?_
              refine lv_bipush (v := (6 : Int32)) hx hb d_Rv_version_79 (by decide) ?_
              refine lv_icmp_ge (tgt := 88) hx hb d_Rv_version_81 (by decide) (fun c6 => ?_) (fun c6 => ?_)
              · have hf := x_ifp c6 hf
                refine lv_iload hx hb d_Rv_version_88 (lv_at hl 0 rfl) ?_
                refine lv_bipush (v := (6 : Int32)) hx hb d_Rv_version_90 (by decide) ?_
                refine lv_isub hx hb d_Rv_version_92 ?_
                obtain rfl := Option.some.inj hf
                exact x_iret hx hb hr hlocks hK hP hD hS (Nat.le_of_ble_eq_true rfl) (Nat.le_of_ble_eq_true rfl) d_Rv_version_93
              · have hf := x_ifn c6 hf
                refine lv_iconst (v := (-1 : Int32)) hx hb d_Rv_version_84 (by decide) ?_
                refine lv_goto (tgt := 93) hx hb d_Rv_version_85 (by decide) ?_
                obtain rfl := Option.some.inj hf
                exact x_iret hx hb hr hlocks hK hP hD hS (Nat.le_of_ble_eq_true rfl) (Nat.le_of_ble_eq_true rfl) d_Rv_version_93
            · have hf := x_ifp c8 hf
              refine lv_aload_n hx hb d_Rv_version_66 rfl (lv_at hl 1 rfl) ?_
              refine va_get (D := D) (ci := 2) (v := .ref mh) (C := R_Rv) (T := F_Rv) (N := 5) hx hb hts i_Rv hown hK hP 0 rfl rfl 1 (by decide) (hts _ k_92) (fun _ h9 => h9) rfl d_Rv_version_67 ?_
              refine va_get (D := D) (ci := 0) (v := .ref m1) (C := R_Co) (T := F_Co) (N := 4) hx hb hts i_Co hown hK hP 2 rfl rfl 1 (by decide) (hts _ k_126) (fun _ h9 => h9) rfl d_Rv_version_70 ?_
              refine lv_iload hx hb d_Rv_version_73 (lv_at hl 0 rfl) ?_
              obtain ⟨g7, hf⟩ := x_if hf
              refine va_iald hx hb hK hP 4 0 rfl rfl (xi_in g7) d_Rv_version_75 ?_
              obtain rfl := Option.some.inj hf
              exact x_iret hx hb hr hlocks hK hP hD hS (Nat.le_of_ble_eq_true rfl) (Nat.le_of_ble_eq_true rfl) d_Rv_version_76
          · have hf := x_ifp c10 hf
            refine lv_aload_n hx hb d_Rv_version_50 rfl (lv_at hl 1 rfl) ?_
            refine va_get (D := D) (ci := 2) (v := .ref mh) (C := R_Rv) (T := F_Rv) (N := 5) hx hb hts i_Rv hown hK hP 0 rfl rfl 1 (by decide) (hts _ k_92) (fun _ h9 => h9) rfl d_Rv_version_51 ?_
            refine va_get (D := D) (ci := 0) (v := .ref m0) (C := R_Co) (T := F_Co) (N := 4) hx hb hts i_Co hown hK hP 2 rfl rfl 0 (by decide) (hts _ k_162) (fun _ h9 => h9) rfl d_Rv_version_54 ?_
            refine lv_iload hx hb d_Rv_version_57 (lv_at hl 0 rfl) ?_
            obtain ⟨g9, hf⟩ := x_if hf
            refine va_iald hx hb hK hP 3 0 rfl rfl (xi_in g9) d_Rv_version_59 ?_
            obtain rfl := Option.some.inj hf
            exact x_iret hx hb hr hlocks hK hP hD hS (Nat.le_of_ble_eq_true rfl) (Nat.le_of_ble_eq_true rfl) d_Rv_version_60
        · have hf := x_ifp c11 hf
          obtain rfl := Option.some.inj hf
          exact x_throw (cls := "java/util/NoSuchElementException") (names := ["java/lang/RuntimeException", "java/lang/Exception"]) hL0 hx hb hml hown hlocks hno (by decide +kernel) (by decide +kernel) (at_Rv_114 hts hZ) (hts _ k_124) (hts _ k_125) hK hP hD hS hns hl.1 (Nat.le_of_ble_eq_true rfl) (Nat.le_of_ble_eq_true rfl) (Nat.le_of_ble_eq_true rfl) (Nat.le_of_ble_eq_true rfl) (Nat.le_of_ble_eq_true rfl) (Nat.le_of_ble_eq_true rfl) d_Rv_version_38 d_Rv_version_41 d_Rv_version_42 d_Rv_version_45
      · have hf := x_ifn c12 hf
        obtain rfl := Option.some.inj hf
        exact x_throw (cls := "java/lang/IllegalArgumentException") (names := ["java/lang/RuntimeException", "java/lang/Exception"]) hL0 hx hb hml hown hlocks hno (by decide +kernel) (by decide +kernel) (at_Rv_76 hts hZ) (hts _ k_114) (hts _ k_115) hK hP hD hS hns hl.1 (Nat.le_of_ble_eq_true rfl) (Nat.le_of_ble_eq_true rfl) (Nat.le_of_ble_eq_true rfl) (Nat.le_of_ble_eq_true rfl) (Nat.le_of_ble_eq_true rfl) (Nat.le_of_ble_eq_true rfl) d_Rv_version_13 d_Rv_version_16 d_Rv_version_17 d_Rv_version_20
  · dsimp only at hf
    obtain rfl := Option.some.inj hf
    exact x_out (w2 := (w_Rv cI cJ cZ rh sh mh m0 m1 m2 m3 dh d0 d1 d2 d3 ea cb ch be U)) (x_noteS ⟨hx, hb, hml, hown, hts⟩ (c_Rv_demandRecord l D cI cJ cZ  hL0 N p0  (Sum.inr E3) hz1) (x_cwS 1 hts rfl k_138 k_139 k_23 k_140 (by decide +kernel) ⟨(Nat.le_of_ble_eq_true rfl), (Nat.le_of_ble_eq_true rfl)⟩) (x_cut hP hD hK hS hA hZ [] (by decide) rfl).2 rfl hl.1 rfl (Nat.le_of_ble_eq_true rfl) d_Rv_version_1 ⟨(Nat.le_of_ble_eq_true rfl), (Nat.le_of_ble_eq_true rfl)⟩) hlocks hno hK hP hD hS hA [] [0, 1, 2, 3, 4, 5, 6, 7, 8, 9, 10, 11, 12, 13, 14, 15] [0, 1, 2, 3, 4, 5, 6, 7, 8, 9, 10, 11, 12, 13, 14, 15] rfl rfl (by decide) (by decide) (by decide) rfl (Nat.le_of_ble_eq_true rfl) (Nat.le_of_ble_eq_true rfl)
set_option maxHeartbeats 4000000 in
set_option maxRecDepth 100000 in
theorem c_Rv_page (l : Launch) (D : va_G) (cI cJ cZ : ClassId) (rh sh mh m0 m1 m2 m3 dh d0 d1 d2 d3 ea cb ch be : Nat) (hL0 : xL l) (N : Nat) (p0 : Int32) (U : K_Rv) (r : ((Int32 ⊕ String) × K_Rv)) (hf : f_Rv_page N p0 U = some r) : Cx l y_Rv_page ws_Rv_page rm_Rv_page D vwCl (tyL cI cJ cZ) [.ref rh, .int p0] (w_Rv cI cJ cZ rh sh mh m0 m1 m2 m3 dh d0 d1 d2 d3 ea cb ch be U) (tI r.1) (w_Rv cI cJ cZ rh sh mh m0 m1 m2 m3 dh d0 d1 d2 d3 ea cb ch be r.2) := by
  unfold f_Rv_page at hf
  refine Cx.ofW (cc := b_Rv_page) (maxL := 2) (ret := (some .int)) (by decide) rfl ?_
  intro p e s m below meth c A C0 hP hK hD hA hns hZ
  obtain ⟨hx, hb, hml, hown, hts0, hr, hlocks, hnm, hno⟩ := C0
  have hown : s.vm.findClass R_Rv = some m.cls := hown
  have hts : ∀ w ∈ tb, w.before [.ref rh, .int p0].toArray s = true := fun w h => hts0 w (List.mem_cons_of_mem _ h)
  have hS : va_S A s.heap s.heap [] := va_S.rf
  have hl := lv_entry ([.ref rh, .int p0]) (n := 2) (Nat.le_of_ble_eq_true rfl)
  rw [lg_entry_eq]
  generalize (lg_sl ([.ref rh, .int p0]) ++ List.replicate (2 - (lg_sl ([.ref rh, .int p0])).length) Slot.unset).toArray = ls at hl ⊢
  have hl : lv_has ls 2 [(0, .ref rh), (1, .int p0)] := hl
  refine lv_iload_n hx hb d_Rv_page_0 rfl (lv_at hl 1 rfl) ?_
  refine lv_if_lt (tgt := 20) hx hb d_Rv_page_1 (by decide) (fun c11 => ?_) (fun c11 => ?_)
  · have hf := x_ifp c11 hf
    refine lv_iload_n hx hb d_Rv_page_20 rfl (lv_at hl 1 rfl) ?_
    refine lv_bipush (v := (10 : Int32)) hx hb d_Rv_page_21 (by decide) ?_
    refine lv_icmp_lt (tgt := 56) hx hb d_Rv_page_23 (by decide) (fun c4 => ?_) (fun c4 => ?_)
    · have hf := x_ifp c4 hf
      obtain rfl := Option.some.inj hf
      exact x_throw (cls := "java/lang/IllegalArgumentException") (names := ["java/lang/RuntimeException", "java/lang/Exception"]) hL0 hx hb hml hown hlocks hno (by decide +kernel) (by decide +kernel) (at_Rv_76 hts hZ) (hts _ k_114) (hts _ k_115) hK hP hD hS hns hl.1 (Nat.le_of_ble_eq_true rfl) (Nat.le_of_ble_eq_true rfl) (Nat.le_of_ble_eq_true rfl) (Nat.le_of_ble_eq_true rfl) (Nat.le_of_ble_eq_true rfl) (Nat.le_of_ble_eq_true rfl) d_Rv_page_56 d_Rv_page_59 d_Rv_page_60 d_Rv_page_63
    · have hf := x_ifn c4 hf
      refine lv_iload_n hx hb d_Rv_page_26 rfl (lv_at hl 1 rfl) ?_
      refine lv_bipush (v := (17 : Int32)) hx hb d_Rv_page_27 (by decide) ?_
      refine lv_icmp_ge (tgt := 56) hx hb d_Rv_page_29 (by decide) (fun c3 => ?_) (fun c3 => ?_)
      · have hf := x_ifp c3 hf
        obtain rfl := Option.some.inj hf
        exact x_throw (cls := "java/lang/IllegalArgumentException") (names := ["java/lang/RuntimeException", "java/lang/Exception"]) hL0 hx hb hml hown hlocks hno (by decide +kernel) (by decide +kernel) (at_Rv_76 hts hZ) (hts _ k_114) (hts _ k_115) hK hP hD hS hns hl.1 (Nat.le_of_ble_eq_true rfl) (Nat.le_of_ble_eq_true rfl) (Nat.le_of_ble_eq_true rfl) (Nat.le_of_ble_eq_true rfl) (Nat.le_of_ble_eq_true rfl) (Nat.le_of_ble_eq_true rfl) d_Rv_page_56 d_Rv_page_59 d_Rv_page_60 d_Rv_page_63
      · have hf := x_ifn c3 hf
        refine lv_aload_n hx hb d_Rv_page_32 rfl (lv_at hl 0 rfl) ?_
        refine va_get (D := D) (ci := 2) (v := .ref sh) (C := R_Rv) (T := F_Rv) (N := 5) hx hb hts i_Rv hown hK hP 0 rfl rfl 0 (by decide) (hts _ k_90) (fun _ h9 => h9) rfl d_Rv_page_33 ?_
        refine va_get (D := D) (ci := 1) (v := .int U.1.2.2.2.1) (C := R_St) (T := F_St) (N := 7) hx hb hts i_St hown hK hP 1 rfl rfl 3 (by decide) (hts _ k_206) (fun _ h9 => h9) rfl d_Rv_page_36 ?_
        refine lv_i2l (v := (U.1.2.2.2.1).toInt64) hx hb d_Rv_page_39 rfl ?_
        refine lv_iload_n hx hb d_Rv_page_40 rfl (lv_at hl 1 rfl) ?_
        refine lv_bipush (v := (10 : Int32)) hx hb d_Rv_page_41 (by decide) ?_
        refine lv_isub hx hb d_Rv_page_43 ?_
        obtain ⟨z1, hz1, hf⟩ := x_bind hf
        refine x_callS (w2 := (w_Rv cI cJ cZ rh sh mh m0 m1 m2 m3 dh d0 d1 d2 d3 ea cb ch be U)) ⟨hx, hb, hml, hown, hts⟩ (c_Rv_has l D cI cJ cZ  N (U.1.2.2.2.1).toInt64 (p0 - (10 : Int32))  z1 hz1) (x_cwS 2 hts rfl k_176 k_22 k_23 k_24 (by decide +kernel) ⟨(Nat.le_of_ble_eq_true rfl), (Nat.le_of_ble_eq_true rfl)⟩) hK hP hD hS hA hZ [] [0, 1, 2, 3, 4, 5, 6, 7, 8, 9, 10, 11, 12, 13, 14, 15] [0, 1, 2, 3, 4, 5, 6, 7, 8, 9, 10, 11, 12, 13, 14, 15] (by decide) rfl rfl (by decide) (by decide) (by decide) rfl rfl hl.1 rfl (Nat.le_of_ble_eq_true rfl) d_Rv_page_44 ⟨(Nat.le_of_ble_eq_true rfl), (Nat.le_of_ble_eq_true rfl)⟩ (fun H locs hP hD hS => ?_)
        refine W.eq (g2 := F0 m 47 ls [.int z1]) rfl ?_
        refine lv_if_eq (tgt := 54) hx hb d_Rv_page_47 (by decide) (fun c2 => ?_) (fun c2 => ?_)
        · have hf := x_ifp c2 hf
          refine lv_iconst (v := (0 : Int32)) hx hb d_Rv_page_54 (by decide) ?_
          obtain rfl := Option.some.inj hf
          exact x_iret hx hb hr hlocks hK hP hD hS (Nat.le_of_ble_eq_true rfl) (Nat.le_of_ble_eq_true rfl) d_Rv_page_55
        · have hf := x_ifn c2 hf
          refine lv_iconst (v := (1 : Int32)) hx hb d_Rv_page_50 (by decide) ?_
          refine lv_goto (tgt := 55) hx hb d_Rv_page_51 (by decide) ?_
          obtain rfl := Option.some.inj hf
          exact x_iret hx hb hr hlocks hK hP hD hS (Nat.le_of_ble_eq_true rfl) (Nat.le_of_ble_eq_true rfl) d_Rv_page_55
  · have hf := x_ifn c11 hf
    refine lv_iload_n hx hb d_Rv_page_4 rfl (lv_at hl 1 rfl) ?_
    refine lv_bipush (v := (7 : Int32)) hx hb d_Rv_page_5 (by decide) ?_
    refine lv_icmp_ge (tgt := 20) hx hb d_Rv_page_7 (by decide) (fun c10 => ?_) (fun c10 => ?_)
    · have hf := x_ifp c10 hf
      refine lv_iload_n hx hb d_Rv_page_20 rfl (lv_at hl 1 rfl) ?_
      refine lv_bipush (v := (10 : Int32)) hx hb d_Rv_page_21 (by decide) ?_
      refine lv_icmp_lt (tgt := 56) hx hb d_Rv_page_23 (by decide) (fun c8 => ?_) (fun c8 => ?_)
      · have hf := x_ifp c8 hf
        obtain rfl := Option.some.inj hf
        exact x_throw (cls := "java/lang/IllegalArgumentException") (names := ["java/lang/RuntimeException", "java/lang/Exception"]) hL0 hx hb hml hown hlocks hno (by decide +kernel) (by decide +kernel) (at_Rv_76 hts hZ) (hts _ k_114) (hts _ k_115) hK hP hD hS hns hl.1 (Nat.le_of_ble_eq_true rfl) (Nat.le_of_ble_eq_true rfl) (Nat.le_of_ble_eq_true rfl) (Nat.le_of_ble_eq_true rfl) (Nat.le_of_ble_eq_true rfl) (Nat.le_of_ble_eq_true rfl) d_Rv_page_56 d_Rv_page_59 d_Rv_page_60 d_Rv_page_63
      · have hf := x_ifn c8 hf
        refine lv_iload_n hx hb d_Rv_page_26 rfl (lv_at hl 1 rfl) ?_
        refine lv_bipush (v := (17 : Int32)) hx hb d_Rv_page_27 (by decide) ?_
        refine lv_icmp_ge (tgt := 56) hx hb d_Rv_page_29 (by decide) (fun c7 => ?_) (fun c7 => ?_)
        · have hf := x_ifp c7 hf
          obtain rfl := Option.some.inj hf
          exact x_throw (cls := "java/lang/IllegalArgumentException") (names := ["java/lang/RuntimeException", "java/lang/Exception"]) hL0 hx hb hml hown hlocks hno (by decide +kernel) (by decide +kernel) (at_Rv_76 hts hZ) (hts _ k_114) (hts _ k_115) hK hP hD hS hns hl.1 (Nat.le_of_ble_eq_true rfl) (Nat.le_of_ble_eq_true rfl) (Nat.le_of_ble_eq_true rfl) (Nat.le_of_ble_eq_true rfl) (Nat.le_of_ble_eq_true rfl) (Nat.le_of_ble_eq_true rfl) d_Rv_page_56 d_Rv_page_59 d_Rv_page_60 d_Rv_page_63
        · have hf := x_ifn c7 hf
          refine lv_aload_n hx hb d_Rv_page_32 rfl (lv_at hl 0 rfl) ?_
          refine va_get (D := D) (ci := 2) (v := .ref sh) (C := R_Rv) (T := F_Rv) (N := 5) hx hb hts i_Rv hown hK hP 0 rfl rfl 0 (by decide) (hts _ k_90) (fun _ h9 => h9) rfl d_Rv_page_33 ?_
          refine va_get (D := D) (ci := 1) (v := .int U.1.2.2.2.1) (C := R_St) (T := F_St) (N := 7) hx hb hts i_St hown hK hP 1 rfl rfl 3 (by decide) (hts _ k_206) (fun _ h9 => h9) rfl d_Rv_page_36 ?_
          refine lv_i2l (v := (U.1.2.2.2.1).toInt64) hx hb d_Rv_page_39 rfl ?_
          refine lv_iload_n hx hb d_Rv_page_40 rfl (lv_at hl 1 rfl) ?_
          refine lv_bipush (v := (10 : Int32)) hx hb d_Rv_page_41 (by decide) ?_
          refine lv_isub hx hb d_Rv_page_43 ?_
          obtain ⟨z5, hz5, hf⟩ := x_bind hf
          refine x_callS (w2 := (w_Rv cI cJ cZ rh sh mh m0 m1 m2 m3 dh d0 d1 d2 d3 ea cb ch be U)) ⟨hx, hb, hml, hown, hts⟩ (c_Rv_has l D cI cJ cZ  N (U.1.2.2.2.1).toInt64 (p0 - (10 : Int32))  z5 hz5) (x_cwS 2 hts rfl k_176 k_22 k_23 k_24 (by decide +kernel) ⟨(Nat.le_of_ble_eq_true rfl), (Nat.le_of_ble_eq_true rfl)⟩) hK hP hD hS hA hZ [] [0, 1, 2, 3, 4, 5, 6, 7, 8, 9, 10, 11, 12, 13, 14, 15] [0, 1, 2, 3, 4, 5, 6, 7, 8, 9, 10, 11, 12, 13, 14, 15] (by decide) rfl rfl (by decide) (by decide) (by decide) rfl rfl hl.1 rfl (Nat.le_of_ble_eq_true rfl) d_Rv_page_44 ⟨(Nat.le_of_ble_eq_true rfl), (Nat.le_of_ble_eq_true rfl)⟩ (fun H locs hP hD hS => ?_)
          refine W.eq (g2 := F0 m 47 ls [.int z5]) rfl ?_
          refine lv_if_eq (tgt := 54) hx hb d_Rv_page_47 (by decide) (fun c6 => ?_) (fun c6 => ?_)
          · have hf := x_ifp c6 hf
            refine lv_iconst (v := (0 : Int32)) hx hb d_Rv_page_54 (by decide) ?_
            obtain rfl := Option.some.inj hf
            exact x_iret hx hb hr hlocks hK hP hD hS (Nat.le_of_ble_eq_true rfl) (Nat.le_of_ble_eq_true rfl) d_Rv_page_55
          · have hf := x_ifn c6 hf
            refine lv_iconst (v := (1 : Int32)) hx hb d_Rv_page_50 (by decide) ?_
            refine lv_goto (tgt := 55) hx hb d_Rv_page_51 (by decide) ?_
            obtain rfl := Option.some.inj hf
            exact x_iret hx hb hr hlocks hK hP hD hS (Nat.le_of_ble_eq_true rfl) (Nat.le_of_ble_eq_true rfl) d_Rv_page_55
    · have hf := x_ifn c10 hf
      refine lv_aload_n hx hb d_Rv_page_10 rfl (lv_at hl 0 rfl) ?_
      refine va_get (D := D) (ci := 2) (v := .ref sh) (C := R_Rv) (T := F_Rv) (N := 5) hx hb hts i_Rv hown hK hP 0 rfl rfl 0 (by decide) (hts _ k_90) (fun _ h9 => h9) rfl d_Rv_page_11 ?_
      refine va_get (D := D) (ci := 1) (v := .ref ea) (C := R_St) (T := F_St) (N := 7) hx hb hts i_St hown hK hP 1 rfl rfl 2 (by decide) (hts _ k_211) (fun _ h9 => h9) rfl d_Rv_page_14 ?_
      refine lv_iload_n hx hb d_Rv_page_17 rfl (lv_at hl 1 rfl) ?_
      obtain ⟨g9, hf⟩ := x_if hf
      refine va_iald hx hb hK hP 12 0 rfl rfl (xi_in g9) d_Rv_page_18 ?_
      obtain rfl := Option.some.inj hf
      exact x_iret hx hb hr hlocks hK hP hD hS (Nat.le_of_ble_eq_true rfl) (Nat.le_of_ble_eq_true rfl) d_Rv_page_19
set_option maxHeartbeats 4000000 in
set_option maxRecDepth 100000 in
theorem c_JI_bitCount (l : Launch) (D : va_G) (cI cJ cZ : ClassId) (N : Nat) (p0 : Int32) (r : Int32) (hf : f_JI_bitCount N p0 = some r) : Cx l y_JI_bitCount ws_JI_bitCount rm_JI_bitCount D vwCl (tyL cI cJ cZ) [.int p0] [] (oI r) [] := by
  unfold f_JI_bitCount at hf
  refine Cx.ofW (cc := b_JI_bitCount) (maxL := 1) (ret := (some .int)) (by decide) rfl ?_
  intro p e s m below meth c A C0 hP hK hD hA hns hZ
  obtain ⟨hx, hb, hml, hown, hts0, hr, hlocks, hnm, hno⟩ := C0
  have hown : s.vm.findClass R_JI = some m.cls := hown
  have hts : ∀ w ∈ tb, w.before [.int p0].toArray s = true := fun w h => hts0 w (List.mem_cons_of_mem _ h)
  have hS : va_S A s.heap s.heap [] := va_S.rf
  have hl := lv_entry ([.int p0]) (n := 1) (Nat.le_of_ble_eq_true rfl)
  rw [lg_entry_eq]
  generalize (lg_sl ([.int p0]) ++ List.replicate (1 - (lg_sl ([.int p0])).length) Slot.unset).toArray = ls at hl ⊢
  have hl : lv_has ls 1 [(0, .int p0)] := hl
  refine lv_iload_n hx hb d_JI_bitCount_0 rfl (lv_at hl 0 rfl) ?_
  refine lv_iload_n hx hb d_JI_bitCount_1 rfl (lv_at hl 0 rfl) ?_
  refine lv_iconst (v := (1 : Int32)) hx hb d_JI_bitCount_2 (by decide) ?_
  refine lv_iushr (v := ((p0).toUInt32 >>> (((1 : Int32)).toUInt32 &&& Int32.toUInt32 31)).toInt32) hx hb d_JI_bitCount_3 rfl ?_
  refine lv_ldcw hx hb hown (hts _ k_217) d_JI_bitCount_4 ?_
  refine lv_iand hx hb d_JI_bitCount_7 ?_
  refine lv_isub hx hb d_JI_bitCount_8 ?_
  refine lv_topi (fun y1 ey1 => ?_)
  have hf := x_let ey1 hf
  refine lv_istore_n (lv' := [(0, .int y1)]) hx hb d_JI_bitCount_9 rfl hl (by decide) rfl (fun ls hl => ?_)
  refine lv_iload_n hx hb d_JI_bitCount_10 rfl (lv_at hl 0 rfl) ?_
  refine lv_ldcw hx hb hown (hts _ k_218) d_JI_bitCount_11 ?_
  refine lv_iand hx hb d_JI_bitCount_14 ?_
  refine lv_iload_n hx hb d_JI_bitCount_15 rfl (lv_at hl 0 rfl) ?_
  refine lv_iconst (v := (2 : Int32)) hx hb d_JI_bitCount_16 (by decide) ?_
  refine lv_iushr (v := ((y1).toUInt32 >>> (((2 : Int32)).toUInt32 &&& Int32.toUInt32 31)).toInt32) hx hb d_JI_bitCount_17 rfl ?_
  refine lv_ldcw hx hb hown (hts _ k_218) d_JI_bitCount_18 ?_
  refine lv_iand hx hb d_JI_bitCount_21 ?_
  refine lv_iadd hx hb d_JI_bitCount_22 ?_
  refine lv_topi (fun y2 ey2 => ?_)
  have hf := x_let ey2 hf
  refine lv_istore_n (lv' := [(0, .int y2)]) hx hb d_JI_bitCount_23 rfl hl (by decide) rfl (fun ls hl => ?_)
  refine lv_iload_n hx hb d_JI_bitCount_24 rfl (lv_at hl 0 rfl) ?_
  refine lv_iload_n hx hb d_JI_bitCount_25 rfl (lv_at hl 0 rfl) ?_
  refine lv_iconst (v := (4 : Int32)) hx hb d_JI_bitCount_26 (by decide) ?_
  refine lv_iushr (v := ((y2).toUInt32 >>> (((4 : Int32)).toUInt32 &&& Int32.toUInt32 31)).toInt32) hx hb d_JI_bitCount_27 rfl ?_
  refine lv_iadd hx hb d_JI_bitCount_28 ?_
  refine lv_ldcw hx hb hown (hts _ k_219) d_JI_bitCount_29 ?_
  refine lv_iand hx hb d_JI_bitCount_32 ?_
  refine lv_topi (fun y3 ey3 => ?_)
  have hf := x_let ey3 hf
  refine lv_istore_n (lv' := [(0, .int y3)]) hx hb d_JI_bitCount_33 rfl hl (by decide) rfl (fun ls hl => ?_)
  refine lv_iload_n hx hb d_JI_bitCount_34 rfl (lv_at hl 0 rfl) ?_
  refine lv_iload_n hx hb d_JI_bitCount_35 rfl (lv_at hl 0 rfl) ?_
  refine lv_bipush (v := (8 : Int32)) hx hb d_JI_bitCount_36 (by decide) ?_
  refine lv_iushr (v := ((y3).toUInt32 >>> (((8 : Int32)).toUInt32 &&& Int32.toUInt32 31)).toInt32) hx hb d_JI_bitCount_38 rfl ?_
  refine lv_iadd hx hb d_JI_bitCount_39 ?_
  refine lv_topi (fun y4 ey4 => ?_)
  have hf := x_let ey4 hf
  refine lv_istore_n (lv' := [(0, .int y4)]) hx hb d_JI_bitCount_40 rfl hl (by decide) rfl (fun ls hl => ?_)
  refine lv_iload_n hx hb d_JI_bitCount_41 rfl (lv_at hl 0 rfl) ?_
  refine lv_iload_n hx hb d_JI_bitCount_42 rfl (lv_at hl 0 rfl) ?_
  refine lv_bipush (v := (16 : Int32)) hx hb d_JI_bitCount_43 (by decide) ?_
  refine lv_iushr (v := ((y4).toUInt32 >>> (((16 : Int32)).toUInt32 &&& Int32.toUInt32 31)).toInt32) hx hb d_JI_bitCount_45 rfl ?_
  refine lv_iadd hx hb d_JI_bitCount_46 ?_
  refine lv_topi (fun y5 ey5 => ?_)
  have hf := x_let ey5 hf
  refine lv_istore_n (lv' := [(0, .int y5)]) hx hb d_JI_bitCount_47 rfl hl (by decide) rfl (fun ls hl => ?_)
  refine lv_iload_n hx hb d_JI_bitCount_48 rfl (lv_at hl 0 rfl) ?_
  refine lv_bipush (v := (63 : Int32)) hx hb d_JI_bitCount_49 (by decide) ?_
  refine lv_iand hx hb d_JI_bitCount_51 ?_
  obtain rfl := Option.some.inj hf
  exact x_iret hx hb hr hlocks hK hP hD hS (Nat.le_of_ble_eq_true rfl) (Nat.le_of_ble_eq_true rfl) d_JI_bitCount_52
