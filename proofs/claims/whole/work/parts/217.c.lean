set_option maxHeartbeats 4000000 in
set_option maxRecDepth 100000 in
theorem c_La_rollback (l : Launch) (D : va_G) (cI cJ cZ : ClassId) (rh sh mh m0 m1 m2 m3 dh d0 d1 d2 d3 ea cb ch be ou : Nat) (hL0 : xL l) (N : Nat) (p1 : Int32) (U : K_LH) (r : (Int32 × K_LH)) (hf : f_La_rollback N p1 U = some r) : Cx l y_La_rollback ws_La_rollback rm_La_rollback D vwCl (tyL cI cJ cZ) [.ref rh, .int p1, .ref ou] (w_LH cI cJ cZ rh sh mh m0 m1 m2 m3 dh d0 d1 d2 d3 ea cb ch be ou U) (oI r.1) (w_LH cI cJ cZ rh sh mh m0 m1 m2 m3 dh d0 d1 d2 d3 ea cb ch be ou r.2) := by
  unfold f_La_rollback at hf
  refine Cx.ofWH (hh := hh_La_rollback) (cc := b_La_rollback) (maxL := 4) (ret := (some .int)) (by decide) rfl ?_
  intro p e s m below meth c A C0 hP hK hD hA hns hZ
  obtain ⟨hx, hb, hml, hown, hts0, hr, hlocks, hnm, htab⟩ := C0
  have hown : s.vm.findClass R_La = some m.cls := hown
  have hts : ∀ w ∈ tb, w.before [.ref rh, .int p1, .ref ou].toArray s = true := fun w h => hts0 w (List.mem_cons_of_mem _ h)
  have hS : va_S A s.heap s.heap [] := va_S.rf
  have hl := lv_entry ([.ref rh, .int p1, .ref ou]) (n := 4) (Nat.le_of_ble_eq_true rfl)
  rw [lg_entry_eq]
  generalize (lg_sl ([.ref rh, .int p1, .ref ou]) ++ List.replicate (4 - (lg_sl ([.ref rh, .int p1, .ref ou])).length) Slot.unset).toArray = ls at hl ⊢
  have hl : lv_has ls 4 [(0, .ref rh), (1, .int p1), (2, .ref ou)] := hl
  refine lv_aload_n hx hb d_La_rollback_0 rfl (lv_at hl 2 rfl) ?_
  refine lv_iconst (v := (0 : Int32)) hx hb d_La_rollback_1 (by decide) ?_
  refine lv_aload_n hx hb d_La_rollback_2 rfl (lv_at hl 0 rfl) ?_
  refine lv_iload_n hx hb d_La_rollback_3 rfl (lv_at hl 1 rfl) ?_
  obtain ⟨⟨v2 | E3, U4⟩, hz1, hf⟩ := x_bind hf
  · dsimp only at hf
    refine x_callV (w2 := (w_LH cI cJ cZ rh sh mh m0 m1 m2 m3 dh d0 d1 d2 d3 ea cb ch be ou (U4, U.2))) ⟨hx, hb, hml, hown, hts⟩ (c_Rv_rollback l D cI cJ cZ rh sh mh m0 m1 m2 m3 dh d0 d1 d2 d3 ea cb ch be hL0 N p1 U.1 (Sum.inl v2, U4) hz1) (x_cwV 1 hts rfl k_363 k_364 k_365 k_23 k_366 (by decide +kernel) ⟨(Nat.le_of_ble_eq_true rfl), (Nat.le_of_ble_eq_true rfl)⟩) hK hP hD hS hA hZ [0, 1, 2, 3, 4, 5, 6, 7, 8, 9, 10, 11, 12, 13, 14, 15] [16] [1, 2, 3, 4, 5, 6, 7, 8, 9, 10, 11, 12, 13, 14, 15, 16, 0] (by decide) rfl rfl (by decide) (by decide) (by decide) rfl (ci := 2) rfl rfl rfl hl.1 rfl (Nat.le_of_ble_eq_true rfl) d_La_rollback_4 ⟨(Nat.le_of_ble_eq_true rfl), (Nat.le_of_ble_eq_true rfl)⟩ (fun H locs hP hD hS => ?_)
    refine W.eq (g2 := F0 m 7 ls [.int v2, .int (0 : Int32), .ref ou]) rfl ?_
    refine lv_i2l (v := (v2).toInt64) hx hb d_La_rollback_7 rfl ?_
    refine va_last hx hb hK hP hD hS 16 1 rfl rfl (xi_in rfl) d_La_rollback_8 (fun H locs hP hD hS => ?_)
    have hP : va_P D vwCl (w_LH cI cJ cZ rh sh mh m0 m1 m2 m3 dh d0 d1 d2 d3 ea cb ch be ou (U4, (vp_updL U.2 (0 : Int32).toNatClampNeg (v2).toInt64))) H := hP
    have hD : va_D A (w_LH cI cJ cZ rh sh mh m0 m1 m2 m3 dh d0 d1 d2 d3 ea cb ch be ou (U4, (vp_updL U.2 (0 : Int32).toNatClampNeg (v2).toInt64))) := hD
    refine lv_goto (tgt := 15) hx hb d_La_rollback_9 (by decide) ?_
    refine lv_iconst (v := (0 : Int32)) hx hb d_La_rollback_15 (by decide) ?_
    obtain rfl := Option.some.inj hf
    exact x_iret hx hb hr hlocks hK hP hD hS (Nat.le_of_ble_eq_true rfl) (Nat.le_of_ble_eq_true rfl) d_La_rollback_16
  · dsimp only at hf
    by_cases c5 : E3 = "java/lang/IllegalStateException"
    · have hf := x_ifp c5 hf
      subst c5
      refine x_catch (w2 := (w_LH cI cJ cZ rh sh mh m0 m1 m2 m3 dh d0 d1 d2 d3 ea cb ch be ou (U4, U.2))) (x_noteV ⟨hx, hb, hml, hown, hts⟩ (c_Rv_rollback l D cI cJ cZ rh sh mh m0 m1 m2 m3 dh d0 d1 d2 d3 ea cb ch be hL0 N p1 U.1 (Sum.inr "java/lang/IllegalStateException", U4) hz1) (x_cwV 1 hts rfl k_363 k_364 k_365 k_23 k_366 (by decide +kernel) ⟨(Nat.le_of_ble_eq_true rfl), (Nat.le_of_ble_eq_true rfl)⟩) hK (x_cut hP hD hK hS hA hZ [0, 1, 2, 3, 4, 5, 6, 7, 8, 9, 10, 11, 12, 13, 14, 15] (by decide) rfl).1 (x_cut hP hD hK hS hA hZ [0, 1, 2, 3, 4, 5, 6, 7, 8, 9, 10, 11, 12, 13, 14, 15] (by decide) rfl).2 (ci := 2) rfl rfl rfl hl.1 rfl (Nat.le_of_ble_eq_true rfl) d_La_rollback_4 ⟨(Nat.le_of_ble_eq_true rfl), (Nat.le_of_ble_eq_true rfl)⟩) hown htab (by decide +kernel) hZ.2.2 [] (0, 9, 12, 13) [] rfl (fun _ h => absurd h List.not_mem_nil) ⟨rfl, by decide⟩ (hts _ k_337) (hts _ k_338) hP hD hS hA [0, 1, 2, 3, 4, 5, 6, 7, 8, 9, 10, 11, 12, 13, 14, 15] [16] [1, 2, 3, 4, 5, 6, 7, 8, 9, 10, 11, 12, 13, 14, 15, 16, 0] rfl rfl (by decide) (by decide) (by decide) rfl (fun xq6 H locs hP hD hS => ?_)
      refine lv_astore_n (lv' := [(3, .ref xq6), (0, .ref rh), (1, .int p1), (2, .ref ou)]) hx hb d_La_rollback_12 rfl hl (by decide) rfl (fun ls hl => ?_)
      refine lv_iconst (v := (1 : Int32)) hx hb d_La_rollback_13 (by decide) ?_
      obtain rfl := Option.some.inj hf
      exact x_iret hx hb hr hlocks hK hP hD hS (Nat.le_of_ble_eq_true rfl) (Nat.le_of_ble_eq_true rfl) d_La_rollback_14
    have hf := x_ifn c5 hf
    cases hf
set_option maxHeartbeats 4000000 in
set_option maxRecDepth 100000 in
theorem c_La_fail (l : Launch) (D : va_G) (cI cJ cZ : ClassId) (rh sh mh m0 m1 m2 m3 dh d0 d1 d2 d3 ea cb ch be ou : Nat) (hL0 : xL l) (N : Nat) (p1 : Int32) (U : K_LH) (r : (Int32 × K_LH)) (hf : f_La_fail N p1 U = some r) : Cx l y_La_fail ws_La_fail rm_La_fail D vwCl (tyL cI cJ cZ) [.ref rh, .int p1, .ref ou] (w_LH cI cJ cZ rh sh mh m0 m1 m2 m3 dh d0 d1 d2 d3 ea cb ch be ou U) (oI r.1) (w_LH cI cJ cZ rh sh mh m0 m1 m2 m3 dh d0 d1 d2 d3 ea cb ch be ou r.2) := by
  unfold f_La_fail at hf
  refine Cx.ofWH (hh := hh_La_fail) (cc := b_La_fail) (maxL := 4) (ret := (some .int)) (by decide) rfl ?_
  intro p e s m below meth c A C0 hP hK hD hA hns hZ
  obtain ⟨hx, hb, hml, hown, hts0, hr, hlocks, hnm, htab⟩ := C0
  have hown : s.vm.findClass R_La = some m.cls := hown
  have hts : ∀ w ∈ tb, w.before [.ref rh, .int p1, .ref ou].toArray s = true := fun w h => hts0 w (List.mem_cons_of_mem _ h)
  have hS : va_S A s.heap s.heap [] := va_S.rf
  have hl := lv_entry ([.ref rh, .int p1, .ref ou]) (n := 4) (Nat.le_of_ble_eq_true rfl)
  rw [lg_entry_eq]
  generalize (lg_sl ([.ref rh, .int p1, .ref ou]) ++ List.replicate (4 - (lg_sl ([.ref rh, .int p1, .ref ou])).length) Slot.unset).toArray = ls at hl ⊢
  have hl : lv_has ls 4 [(0, .ref rh), (1, .int p1), (2, .ref ou)] := hl
  refine lv_aload_n hx hb d_La_fail_0 rfl (lv_at hl 2 rfl) ?_
  refine lv_iconst (v := (0 : Int32)) hx hb d_La_fail_1 (by decide) ?_
  refine lv_aload_n hx hb d_La_fail_2 rfl (lv_at hl 0 rfl) ?_
  refine lv_iload_n hx hb d_La_fail_3 rfl (lv_at hl 1 rfl) ?_
  obtain ⟨⟨v2 | E3, U4⟩, hz1, hf⟩ := x_bind hf
  · dsimp only at hf
    refine x_callV (w2 := (w_LH cI cJ cZ rh sh mh m0 m1 m2 m3 dh d0 d1 d2 d3 ea cb ch be ou (U4, U.2))) ⟨hx, hb, hml, hown, hts⟩ (c_Rv_fail l D cI cJ cZ rh sh mh m0 m1 m2 m3 dh d0 d1 d2 d3 ea cb ch be hL0 N p1 U.1 (Sum.inl v2, U4) hz1) (x_cwV 1 hts rfl k_367 k_368 k_369 k_23 k_370 (by decide +kernel) ⟨(Nat.le_of_ble_eq_true rfl), (Nat.le_of_ble_eq_true rfl)⟩) hK hP hD hS hA hZ [0, 1, 2, 3, 4, 5, 6, 7, 8, 9, 10, 11, 12, 13, 14, 15] [16] [1, 2, 3, 4, 5, 6, 7, 8, 9, 10, 11, 12, 13, 14, 15, 16, 0] (by decide) rfl rfl (by decide) (by decide) (by decide) rfl (ci := 2) rfl rfl rfl hl.1 rfl (Nat.le_of_ble_eq_true rfl) d_La_fail_4 ⟨(Nat.le_of_ble_eq_true rfl), (Nat.le_of_ble_eq_true rfl)⟩ (fun H locs hP hD hS => ?_)
    refine W.eq (g2 := F0 m 7 ls [.int v2, .int (0 : Int32), .ref ou]) rfl ?_
    refine lv_i2l (v := (v2).toInt64) hx hb d_La_fail_7 rfl ?_
    refine va_last hx hb hK hP hD hS 16 1 rfl rfl (xi_in rfl) d_La_fail_8 (fun H locs hP hD hS => ?_)
    have hP : va_P D vwCl (w_LH cI cJ cZ rh sh mh m0 m1 m2 m3 dh d0 d1 d2 d3 ea cb ch be ou (U4, (vp_updL U.2 (0 : Int32).toNatClampNeg (v2).toInt64))) H := hP
    have hD : va_D A (w_LH cI cJ cZ rh sh mh m0 m1 m2 m3 dh d0 d1 d2 d3 ea cb ch be ou (U4, (vp_updL U.2 (0 : Int32).toNatClampNeg (v2).toInt64))) := hD
    refine lv_goto (tgt := 15) hx hb d_La_fail_9 (by decide) ?_
    refine lv_iconst (v := (0 : Int32)) hx hb d_La_fail_15 (by decide) ?_
    obtain rfl := Option.some.inj hf
    exact x_iret hx hb hr hlocks hK hP hD hS (Nat.le_of_ble_eq_true rfl) (Nat.le_of_ble_eq_true rfl) d_La_fail_16
  · dsimp only at hf
    by_cases c5 : E3 = "java/lang/IllegalArgumentException"
    · have hf := x_ifp c5 hf
      subst c5
      refine x_catch (w2 := (w_LH cI cJ cZ rh sh mh m0 m1 m2 m3 dh d0 d1 d2 d3 ea cb ch be ou (U4, U.2))) (x_noteV ⟨hx, hb, hml, hown, hts⟩ (c_Rv_fail l D cI cJ cZ rh sh mh m0 m1 m2 m3 dh d0 d1 d2 d3 ea cb ch be hL0 N p1 U.1 (Sum.inr "java/lang/IllegalArgumentException", U4) hz1) (x_cwV 1 hts rfl k_367 k_368 k_369 k_23 k_370 (by decide +kernel) ⟨(Nat.le_of_ble_eq_true rfl), (Nat.le_of_ble_eq_true rfl)⟩) hK (x_cut hP hD hK hS hA hZ [0, 1, 2, 3, 4, 5, 6, 7, 8, 9, 10, 11, 12, 13, 14, 15] (by decide) rfl).1 (x_cut hP hD hK hS hA hZ [0, 1, 2, 3, 4, 5, 6, 7, 8, 9, 10, 11, 12, 13, 14, 15] (by decide) rfl).2 (ci := 2) rfl rfl rfl hl.1 rfl (Nat.le_of_ble_eq_true rfl) d_La_fail_4 ⟨(Nat.le_of_ble_eq_true rfl), (Nat.le_of_ble_eq_true rfl)⟩) hown htab (by decide +kernel) hZ.2.2 [] (0, 9, 12, 19) [] rfl (fun _ h => absurd h List.not_mem_nil) ⟨rfl, by decide⟩ (hts _ k_343) (hts _ k_344) hP hD hS hA [0, 1, 2, 3, 4, 5, 6, 7, 8, 9, 10, 11, 12, 13, 14, 15] [16] [1, 2, 3, 4, 5, 6, 7, 8, 9, 10, 11, 12, 13, 14, 15, 16, 0] rfl rfl (by decide) (by decide) (by decide) rfl (fun xq6 H locs hP hD hS => ?_)
      refine lv_astore_n (lv' := [(3, .ref xq6), (0, .ref rh), (1, .int p1), (2, .ref ou)]) hx hb d_La_fail_12 rfl hl (by decide) rfl (fun ls hl => ?_)
      refine lv_iconst (v := (1 : Int32)) hx hb d_La_fail_13 (by decide) ?_
      obtain rfl := Option.some.inj hf
      exact x_iret hx hb hr hlocks hK hP hD hS (Nat.le_of_ble_eq_true rfl) (Nat.le_of_ble_eq_true rfl) d_La_fail_14
    have hf := x_ifn c5 hf
    cases hf
set_option maxHeartbeats 4000000 in
set_option maxRecDepth 100000 in
theorem c_La_image (l : Launch) (D : va_G) (cI cJ cZ : ClassId) (rh sh mh m0 m1 m2 m3 dh d0 d1 d2 d3 ea cb ch be ou : Nat) (hL0 : xL l) (N : Nat) (p1 : Int32) (U : K_LH) (r : (Int32 × K_LH)) (hf : f_La_image N p1 U = some r) : Cx l y_La_image ws_La_image rm_La_image D vwCl (tyL cI cJ cZ) [.ref rh, .int p1, .ref ou] (w_LH cI cJ cZ rh sh mh m0 m1 m2 m3 dh d0 d1 d2 d3 ea cb ch be ou U) (oI r.1) (w_LH cI cJ cZ rh sh mh m0 m1 m2 m3 dh d0 d1 d2 d3 ea cb ch be ou r.2) := by
  unfold f_La_image at hf
  refine Cx.ofWH (hh := hh_La_image) (cc := b_La_image) (maxL := 4) (ret := (some .int)) (by decide) rfl ?_
  intro p e s m below meth c A C0 hP hK hD hA hns hZ
  obtain ⟨hx, hb, hml, hown, hts0, hr, hlocks, hnm, htab⟩ := C0
  have hown : s.vm.findClass R_La = some m.cls := hown
  have hts : ∀ w ∈ tb, w.before [.ref rh, .int p1, .ref ou].toArray s = true := fun w h => hts0 w (List.mem_cons_of_mem _ h)
  have hS : va_S A s.heap s.heap [] := va_S.rf
  have hl := lv_entry ([.ref rh, .int p1, .ref ou]) (n := 4) (Nat.le_of_ble_eq_true rfl)
  rw [lg_entry_eq]
  generalize (lg_sl ([.ref rh, .int p1, .ref ou]) ++ List.replicate (4 - (lg_sl ([.ref rh, .int p1, .ref ou])).length) Slot.unset).toArray = ls at hl ⊢
  have hl : lv_has ls 4 [(0, .ref rh), (1, .int p1), (2, .ref ou)] := hl
  refine lv_aload_n hx hb d_La_image_0 rfl (lv_at hl 2 rfl) ?_
  refine lv_iconst (v := (0 : Int32)) hx hb d_La_image_1 (by decide) ?_
  refine lv_aload_n hx hb d_La_image_2 rfl (lv_at hl 0 rfl) ?_
  refine lv_iload_n hx hb d_La_image_3 rfl (lv_at hl 1 rfl) ?_
  obtain ⟨⟨v2 | E3, U4⟩, hz1, hf⟩ := x_bind hf
  · dsimp only at hf
    refine x_callV (w2 := (w_LH cI cJ cZ rh sh mh m0 m1 m2 m3 dh d0 d1 d2 d3 ea cb ch be ou (U4, U.2))) ⟨hx, hb, hml, hown, hts⟩ (c_Rv_image l D cI cJ cZ rh sh mh m0 m1 m2 m3 dh d0 d1 d2 d3 ea cb ch be hL0 N p1 U.1 (Sum.inl v2, U4) hz1) (x_cwV 1 hts rfl k_371 k_372 k_373 k_23 k_374 (by decide +kernel) ⟨(Nat.le_of_ble_eq_true rfl), (Nat.le_of_ble_eq_true rfl)⟩) hK hP hD hS hA hZ [0, 1, 2, 3, 4, 5, 6, 7, 8, 9, 10, 11, 12, 13, 14, 15] [16] [1, 2, 3, 4, 5, 6, 7, 8, 9, 10, 11, 12, 13, 14, 15, 16, 0] (by decide) rfl rfl (by decide) (by decide) (by decide) rfl (ci := 2) rfl rfl rfl hl.1 rfl (Nat.le_of_ble_eq_true rfl) d_La_image_4 ⟨(Nat.le_of_ble_eq_true rfl), (Nat.le_of_ble_eq_true rfl)⟩ (fun H locs hP hD hS => ?_)
    refine W.eq (g2 := F0 m 7 ls [.int v2, .int (0 : Int32), .ref ou]) rfl ?_
    refine lv_i2l (v := (v2).toInt64) hx hb d_La_image_7 rfl ?_
    refine va_last hx hb hK hP hD hS 16 1 rfl rfl (xi_in rfl) d_La_image_8 (fun H locs hP hD hS => ?_)
    have hP : va_P D vwCl (w_LH cI cJ cZ rh sh mh m0 m1 m2 m3 dh d0 d1 d2 d3 ea cb ch be ou (U4, (vp_updL U.2 (0 : Int32).toNatClampNeg (v2).toInt64))) H := hP
    have hD : va_D A (w_LH cI cJ cZ rh sh mh m0 m1 m2 m3 dh d0 d1 d2 d3 ea cb ch be ou (U4, (vp_updL U.2 (0 : Int32).toNatClampNeg (v2).toInt64))) := hD
    refine lv_goto (tgt := 18) hx hb d_La_image_9 (by decide) ?_
    refine lv_iconst (v := (0 : Int32)) hx hb d_La_image_18 (by decide) ?_
    obtain rfl := Option.some.inj hf
    exact x_iret hx hb hr hlocks hK hP hD hS (Nat.le_of_ble_eq_true rfl) (Nat.le_of_ble_eq_true rfl) d_La_image_19
  · dsimp only at hf
    by_cases c5 : E3 = "java/lang/IllegalArgumentException"
    · have hf := x_ifp c5 hf
      subst c5
      refine x_catch (w2 := (w_LH cI cJ cZ rh sh mh m0 m1 m2 m3 dh d0 d1 d2 d3 ea cb ch be ou (U4, U.2))) (x_noteV ⟨hx, hb, hml, hown, hts⟩ (c_Rv_image l D cI cJ cZ rh sh mh m0 m1 m2 m3 dh d0 d1 d2 d3 ea cb ch be hL0 N p1 U.1 (Sum.inr "java/lang/IllegalArgumentException", U4) hz1) (x_cwV 1 hts rfl k_371 k_372 k_373 k_23 k_374 (by decide +kernel) ⟨(Nat.le_of_ble_eq_true rfl), (Nat.le_of_ble_eq_true rfl)⟩) hK (x_cut hP hD hK hS hA hZ [0, 1, 2, 3, 4, 5, 6, 7, 8, 9, 10, 11, 12, 13, 14, 15] (by decide) rfl).1 (x_cut hP hD hK hS hA hZ [0, 1, 2, 3, 4, 5, 6, 7, 8, 9, 10, 11, 12, 13, 14, 15] (by decide) rfl).2 (ci := 2) rfl rfl rfl hl.1 rfl (Nat.le_of_ble_eq_true rfl) d_La_image_4 ⟨(Nat.le_of_ble_eq_true rfl), (Nat.le_of_ble_eq_true rfl)⟩) hown htab (by decide +kernel) hZ.2.2 [] (0, 9, 12, 19) [(0, 9, 15, 21)] rfl (fun _ h => absurd h List.not_mem_nil) ⟨rfl, by decide⟩ (hts _ k_343) (hts _ k_344) hP hD hS hA [0, 1, 2, 3, 4, 5, 6, 7, 8, 9, 10, 11, 12, 13, 14, 15] [16] [1, 2, 3, 4, 5, 6, 7, 8, 9, 10, 11, 12, 13, 14, 15, 16, 0] rfl rfl (by decide) (by decide) (by decide) rfl (fun xq6 H locs hP hD hS => ?_)
      refine lv_astore_n (lv' := [(3, .ref xq6), (0, .ref rh), (1, .int p1), (2, .ref ou)]) hx hb d_La_image_12 rfl hl (by decide) rfl (fun ls hl => ?_)
      refine lv_iconst (v := (1 : Int32)) hx hb d_La_image_13 (by decide) ?_
      obtain rfl := Option.some.inj hf
      exact x_iret hx hb hr hlocks hK hP hD hS (Nat.le_of_ble_eq_true rfl) (Nat.le_of_ble_eq_true rfl) d_La_image_14
    have hf := x_ifn c5 hf
    by_cases c7 : E3 = "java/util/NoSuchElementException"
    · have hf := x_ifp c7 hf
      subst c7
      refine x_catch (w2 := (w_LH cI cJ cZ rh sh mh m0 m1 m2 m3 dh d0 d1 d2 d3 ea cb ch be ou (U4, U.2))) (x_noteV ⟨hx, hb, hml, hown, hts⟩ (c_Rv_image l D cI cJ cZ rh sh mh m0 m1 m2 m3 dh d0 d1 d2 d3 ea cb ch be hL0 N p1 U.1 (Sum.inr "java/util/NoSuchElementException", U4) hz1) (x_cwV 1 hts rfl k_371 k_372 k_373 k_23 k_374 (by decide +kernel) ⟨(Nat.le_of_ble_eq_true rfl), (Nat.le_of_ble_eq_true rfl)⟩) hK (x_cut hP hD hK hS hA hZ [0, 1, 2, 3, 4, 5, 6, 7, 8, 9, 10, 11, 12, 13, 14, 15] (by decide) rfl).1 (x_cut hP hD hK hS hA hZ [0, 1, 2, 3, 4, 5, 6, 7, 8, 9, 10, 11, 12, 13, 14, 15] (by decide) rfl).2 (ci := 2) rfl rfl rfl hl.1 rfl (Nat.le_of_ble_eq_true rfl) d_La_image_4 ⟨(Nat.le_of_ble_eq_true rfl), (Nat.le_of_ble_eq_true rfl)⟩) hown htab (by decide +kernel) hZ.2.2 [(0, 9, 12, 19, "java/lang/IllegalArgumentException")] (0, 9, 15, 21) [] rfl (List.forall_mem_cons.mpr ⟨⟨rfl, by decide, by decide +kernel, by decide +kernel, hts _ k_343⟩, fun _ h => absurd h List.not_mem_nil⟩) ⟨rfl, by decide⟩ (hts _ k_345) (hts _ k_346) hP hD hS hA [0, 1, 2, 3, 4, 5, 6, 7, 8, 9, 10, 11, 12, 13, 14, 15] [16] [1, 2, 3, 4, 5, 6, 7, 8, 9, 10, 11, 12, 13, 14, 15, 16, 0] rfl rfl (by decide) (by decide) (by decide) rfl (fun xq8 H locs hP hD hS => ?_)
      refine lv_astore_n (lv' := [(3, .ref xq8), (0, .ref rh), (1, .int p1), (2, .ref ou)]) hx hb d_La_image_15 rfl hl (by decide) rfl (fun ls hl => ?_)
      refine lv_iconst (v := (2 : Int32)) hx hb d_La_image_16 (by decide) ?_
      obtain rfl := Option.some.inj hf
      exact x_iret hx hb hr hlocks hK hP hD hS (Nat.le_of_ble_eq_true rfl) (Nat.le_of_ble_eq_true rfl) d_La_image_17
    have hf := x_ifn c7 hf
    cases hf
set_option maxHeartbeats 4000000 in
set_option maxRecDepth 100000 in
theorem c_La_state (l : Launch) (D : va_G) (cI cJ cZ : ClassId) (rh sh mh m0 m1 m2 m3 dh d0 d1 d2 d3 ea cb ch be ou : Nat) (hL0 : xL l) (N : Nat) (p1 : Int32) (U : K_LH) (r : (Int32 × K_LH)) (hf : f_La_state N p1 U = some r) : Cx l y_La_state ws_La_state rm_La_state D vwCl (tyL cI cJ cZ) [.ref rh, .int p1, .ref ou] (w_LH cI cJ cZ rh sh mh m0 m1 m2 m3 dh d0 d1 d2 d3 ea cb ch be ou U) (oI r.1) (w_LH cI cJ cZ rh sh mh m0 m1 m2 m3 dh d0 d1 d2 d3 ea cb ch be ou r.2) := by
  unfold f_La_state at hf
  refine Cx.ofWH (hh := hh_La_state) (cc := b_La_state) (maxL := 4) (ret := (some .int)) (by decide) rfl ?_
  intro p e s m below meth c A C0 hP hK hD hA hns hZ
  obtain ⟨hx, hb, hml, hown, hts0, hr, hlocks, hnm, htab⟩ := C0
  have hown : s.vm.findClass R_La = some m.cls := hown
  have hts : ∀ w ∈ tb, w.before [.ref rh, .int p1, .ref ou].toArray s = true := fun w h => hts0 w (List.mem_cons_of_mem _ h)
  have hS : va_S A s.heap s.heap [] := va_S.rf
  have hl := lv_entry ([.ref rh, .int p1, .ref ou]) (n := 4) (Nat.le_of_ble_eq_true rfl)
  rw [lg_entry_eq]
  generalize (lg_sl ([.ref rh, .int p1, .ref ou]) ++ List.replicate (4 - (lg_sl ([.ref rh, .int p1, .ref ou])).length) Slot.unset).toArray = ls at hl ⊢
  have hl : lv_has ls 4 [(0, .ref rh), (1, .int p1), (2, .ref ou)] := hl
  refine lv_aload_n hx hb d_La_state_0 rfl (lv_at hl 2 rfl) ?_
  refine lv_iconst (v := (0 : Int32)) hx hb d_La_state_1 (by decide) ?_
  refine lv_aload_n hx hb d_La_state_2 rfl (lv_at hl 0 rfl) ?_
  refine lv_iload_n hx hb d_La_state_3 rfl (lv_at hl 1 rfl) ?_
  obtain ⟨⟨v2 | E3, U4⟩, hz1, hf⟩ := x_bind hf
  · dsimp only at hf
    refine x_callV (w2 := (w_LH cI cJ cZ rh sh mh m0 m1 m2 m3 dh d0 d1 d2 d3 ea cb ch be ou (U4, U.2))) ⟨hx, hb, hml, hown, hts⟩ (c_Rv_state l D cI cJ cZ rh sh mh m0 m1 m2 m3 dh d0 d1 d2 d3 ea cb ch be hL0 N p1 U.1 (Sum.inl v2, U4) hz1) (x_cwV 1 hts rfl k_375 k_376 k_377 k_23 k_378 (by decide +kernel) ⟨(Nat.le_of_ble_eq_true rfl), (Nat.le_of_ble_eq_true rfl)⟩) hK hP hD hS hA hZ [0, 1, 2, 3, 4, 5, 6, 7, 8, 9, 10, 11, 12, 13, 14, 15] [16] [1, 2, 3, 4, 5, 6, 7, 8, 9, 10, 11, 12, 13, 14, 15, 16, 0] (by decide) rfl rfl (by decide) (by decide) (by decide) rfl (ci := 2) rfl rfl rfl hl.1 rfl (Nat.le_of_ble_eq_true rfl) d_La_state_4 ⟨(Nat.le_of_ble_eq_true rfl), (Nat.le_of_ble_eq_true rfl)⟩ (fun H locs hP hD hS => ?_)
    refine W.eq (g2 := F0 m 7 ls [.int v2, .int (0 : Int32), .ref ou]) rfl ?_
    refine lv_i2l (v := (v2).toInt64) hx hb d_La_state_7 rfl ?_
    refine va_last hx hb hK hP hD hS 16 1 rfl rfl (xi_in rfl) d_La_state_8 (fun H locs hP hD hS => ?_)
    have hP : va_P D vwCl (w_LH cI cJ cZ rh sh mh m0 m1 m2 m3 dh d0 d1 d2 d3 ea cb ch be ou (U4, (vp_updL U.2 (0 : Int32).toNatClampNeg (v2).toInt64))) H := hP
    have hD : va_D A (w_LH cI cJ cZ rh sh mh m0 m1 m2 m3 dh d0 d1 d2 d3 ea cb ch be ou (U4, (vp_updL U.2 (0 : Int32).toNatClampNeg (v2).toInt64))) := hD
    refine lv_goto (tgt := 15) hx hb d_La_state_9 (by decide) ?_
    refine lv_iconst (v := (0 : Int32)) hx hb d_La_state_15 (by decide) ?_
    obtain rfl := Option.some.inj hf
    exact x_iret hx hb hr hlocks hK hP hD hS (Nat.le_of_ble_eq_true rfl) (Nat.le_of_ble_eq_true rfl) d_La_state_16
  · dsimp only at hf
    by_cases c5 : E3 = "java/lang/IllegalArgumentException"
    · have hf := x_ifp c5 hf
      subst c5
      refine x_catch (w2 := (w_LH cI cJ cZ rh sh mh m0 m1 m2 m3 dh d0 d1 d2 d3 ea cb ch be ou (U4, U.2))) (x_noteV ⟨hx, hb, hml, hown, hts⟩ (c_Rv_state l D cI cJ cZ rh sh mh m0 m1 m2 m3 dh d0 d1 d2 d3 ea cb ch be hL0 N p1 U.1 (Sum.inr "java/lang/IllegalArgumentException", U4) hz1) (x_cwV 1 hts rfl k_375 k_376 k_377 k_23 k_378 (by decide +kernel) ⟨(Nat.le_of_ble_eq_true rfl), (Nat.le_of_ble_eq_true rfl)⟩) hK (x_cut hP hD hK hS hA hZ [0, 1, 2, 3, 4, 5, 6, 7, 8, 9, 10, 11, 12, 13, 14, 15] (by decide) rfl).1 (x_cut hP hD hK hS hA hZ [0, 1, 2, 3, 4, 5, 6, 7, 8, 9, 10, 11, 12, 13, 14, 15] (by decide) rfl).2 (ci := 2) rfl rfl rfl hl.1 rfl (Nat.le_of_ble_eq_true rfl) d_La_state_4 ⟨(Nat.le_of_ble_eq_true rfl), (Nat.le_of_ble_eq_true rfl)⟩) hown htab (by decide +kernel) hZ.2.2 [] (0, 9, 12, 19) [] rfl (fun _ h => absurd h List.not_mem_nil) ⟨rfl, by decide⟩ (hts _ k_343) (hts _ k_344) hP hD hS hA [0, 1, 2, 3, 4, 5, 6, 7, 8, 9, 10, 11, 12, 13, 14, 15] [16] [1, 2, 3, 4, 5, 6, 7, 8, 9, 10, 11, 12, 13, 14, 15, 16, 0] rfl rfl (by decide) (by decide) (by decide) rfl (fun xq6 H locs hP hD hS => ?_)
      refine lv_astore_n (lv' := [(3, .ref xq6), (0, .ref rh), (1, .int p1), (2, .ref ou)]) hx hb d_La_state_12 rfl hl (by decide) rfl (fun ls hl => ?_)
      refine lv_iconst (v := (1 : Int32)) hx hb d_La_state_13 (by decide) ?_
      obtain rfl := Option.some.inj hf
      exact x_iret hx hb hr hlocks hK hP hD hS (Nat.le_of_ble_eq_true rfl) (Nat.le_of_ble_eq_true rfl) d_La_state_14
    have hf := x_ifn c5 hf
    cases hf
set_option maxHeartbeats 4000000 in
set_option maxRecDepth 100000 in
theorem c_La_version (l : Launch) (D : va_G) (cI cJ cZ : ClassId) (rh sh mh m0 m1 m2 m3 dh d0 d1 d2 d3 ea cb ch be ou : Nat) (hL0 : xL l) (N : Nat) (p1 : Int32) (p2 : Int32) (p3 : Int32) (U : K_LH) (r : (Int32 × K_LH)) (hf : f_La_version N p1 p2 p3 U = some r) : Cx l y_La_version ws_La_version rm_La_version D vwCl (tyL cI cJ cZ) [.ref rh, .int p1, .int p2, .int p3, .ref ou] (w_LH cI cJ cZ rh sh mh m0 m1 m2 m3 dh d0 d1 d2 d3 ea cb ch be ou U) (oI r.1) (w_LH cI cJ cZ rh sh mh m0 m1 m2 m3 dh d0 d1 d2 d3 ea cb ch be ou r.2) := by
  unfold f_La_version at hf
  refine Cx.ofWH (hh := hh_La_version) (cc := b_La_version) (maxL := 6) (ret := (some .int)) (by decide) rfl ?_
  intro p e s m below meth c A C0 hP hK hD hA hns hZ
  obtain ⟨hx, hb, hml, hown, hts0, hr, hlocks, hnm, htab⟩ := C0
  have hown : s.vm.findClass R_La = some m.cls := hown
  have hts : ∀ w ∈ tb, w.before [.ref rh, .int p1, .int p2, .int p3, .ref ou].toArray s = true := fun w h => hts0 w (List.mem_cons_of_mem _ h)
  have hS : va_S A s.heap s.heap [] := va_S.rf
  have hl := lv_entry ([.ref rh, .int p1, .int p2, .int p3, .ref ou]) (n := 6) (Nat.le_of_ble_eq_true rfl)
  rw [lg_entry_eq]
  generalize (lg_sl ([.ref rh, .int p1, .int p2, .int p3, .ref ou]) ++ List.replicate (6 - (lg_sl ([.ref rh, .int p1, .int p2, .int p3, .ref ou])).length) Slot.unset).toArray = ls at hl ⊢
  have hl : lv_has ls 6 [(0, .ref rh), (1, .int p1), (2, .int p2), (3, .int p3), (4, .ref ou)] := hl
  refine lv_aload hx hb d_La_version_0 (lv_at hl 4 rfl) ?_
  refine lv_iconst (v := (0 : Int32)) hx hb d_La_version_2 (by decide) ?_
  refine lv_aload_n hx hb d_La_version_3 rfl (lv_at hl 0 rfl) ?_
  refine lv_iload_n hx hb d_La_version_4 rfl (lv_at hl 1 rfl) ?_
  refine lv_iload_n hx hb d_La_version_5 rfl (lv_at hl 2 rfl) ?_
  refine lv_iload_n hx hb d_La_version_6 rfl (lv_at hl 3 rfl) ?_
  obtain ⟨⟨v2 | E3, U4⟩, hz1, hf⟩ := x_bind hf
  · dsimp only at hf
    refine x_callV (w2 := (w_LH cI cJ cZ rh sh mh m0 m1 m2 m3 dh d0 d1 d2 d3 ea cb ch be ou (U4, U.2))) ⟨hx, hb, hml, hown, hts⟩ (c_Rv_version l D cI cJ cZ rh sh mh m0 m1 m2 m3 dh d0 d1 d2 d3 ea cb ch be hL0 N p1 p2 p3 U.1 (Sum.inl v2, U4) hz1) (x_cwV 3 hts rfl k_379 k_380 k_381 k_23 k_382 (by decide +kernel) ⟨(Nat.le_of_ble_eq_true rfl), (Nat.le_of_ble_eq_true rfl)⟩) hK hP hD hS hA hZ [0, 1, 2, 3, 4, 5, 6, 7, 8, 9, 10, 11, 12, 13, 14, 15] [16] [1, 2, 3, 4, 5, 6, 7, 8, 9, 10, 11, 12, 13, 14, 15, 16, 0] (by decide) rfl rfl (by decide) (by decide) (by decide) rfl (ci := 2) rfl rfl rfl hl.1 rfl (Nat.le_of_ble_eq_true rfl) d_La_version_7 ⟨(Nat.le_of_ble_eq_true rfl), (Nat.le_of_ble_eq_true rfl)⟩ (fun H locs hP hD hS => ?_)
    refine W.eq (g2 := F0 m 10 ls [.int v2, .int (0 : Int32), .ref ou]) rfl ?_
    refine lv_i2l (v := (v2).toInt64) hx hb d_La_version_10 rfl ?_
    refine va_last hx hb hK hP hD hS 16 1 rfl rfl (xi_in rfl) d_La_version_11 (fun H locs hP hD hS => ?_)
    have hP : va_P D vwCl (w_LH cI cJ cZ rh sh mh m0 m1 m2 m3 dh d0 d1 d2 d3 ea cb ch be ou (U4, (vp_updL U.2 (0 : Int32).toNatClampNeg (v2).toInt64))) H := hP
    have hD : va_D A (w_LH cI cJ cZ rh sh mh m0 m1 m2 m3 dh d0 d1 d2 d3 ea cb ch be ou (U4, (vp_updL U.2 (0 : Int32).toNatClampNeg (v2).toInt64))) := hD
    refine lv_goto (tgt := 23) hx hb d_La_version_12 (by decide) ?_
    refine lv_iconst (v := (0 : Int32)) hx hb d_La_version_23 (by decide) ?_
    obtain rfl := Option.some.inj hf
    exact x_iret hx hb hr hlocks hK hP hD hS (Nat.le_of_ble_eq_true rfl) (Nat.le_of_ble_eq_true rfl) d_La_version_24
  · dsimp only at hf
    by_cases c5 : E3 = "java/lang/IllegalArgumentException"
    · have hf := x_ifp c5 hf
      subst c5
      refine x_catch (w2 := (w_LH cI cJ cZ rh sh mh m0 m1 m2 m3 dh d0 d1 d2 d3 ea cb ch be ou (U4, U.2))) (x_noteV ⟨hx, hb, hml, hown, hts⟩ (c_Rv_version l D cI cJ cZ rh sh mh m0 m1 m2 m3 dh d0 d1 d2 d3 ea cb ch be hL0 N p1 p2 p3 U.1 (Sum.inr "java/lang/IllegalArgumentException", U4) hz1) (x_cwV 3 hts rfl k_379 k_380 k_381 k_23 k_382 (by decide +kernel) ⟨(Nat.le_of_ble_eq_true rfl), (Nat.le_of_ble_eq_true rfl)⟩) hK (x_cut hP hD hK hS hA hZ [0, 1, 2, 3, 4, 5, 6, 7, 8, 9, 10, 11, 12, 13, 14, 15] (by decide) rfl).1 (x_cut hP hD hK hS hA hZ [0, 1, 2, 3, 4, 5, 6, 7, 8, 9, 10, 11, 12, 13, 14, 15] (by decide) rfl).2 (ci := 2) rfl rfl rfl hl.1 rfl (Nat.le_of_ble_eq_true rfl) d_La_version_7 ⟨(Nat.le_of_ble_eq_true rfl), (Nat.le_of_ble_eq_true rfl)⟩) hown htab (by decide +kernel) hZ.2.2 [] (0, 12, 15, 19) [(0, 12, 19, 21)] rfl (fun _ h => absurd h List.not_mem_nil) ⟨rfl, by decide⟩ (hts _ k_343) (hts _ k_344) hP hD hS hA [0, 1, 2, 3, 4, 5, 6, 7, 8, 9, 10, 11, 12, 13, 14, 15] [16] [1, 2, 3, 4, 5, 6, 7, 8, 9, 10, 11, 12, 13, 14, 15, 16, 0] rfl rfl (by decide) (by decide) (by decide) rfl (fun xq6 H locs hP hD hS => ?_)
      refine lv_astore (lv' := [(5, .ref xq6), (0, .ref rh), (1, .int p1), (2, .int p2), (3, .int p3), (4, .ref ou)]) hx hb d_La_version_15 hl (by decide) rfl (fun ls hl => ?_)
      refine lv_iconst (v := (1 : Int32)) hx hb d_La_version_17 (by decide) ?_
      obtain rfl := Option.some.inj hf
      exact x_iret hx hb hr hlocks hK hP hD hS (Nat.le_of_ble_eq_true rfl) (Nat.le_of_ble_eq_true rfl) d_La_version_18
    have hf := x_ifn c5 hf
    by_cases c7 : E3 = "java/util/NoSuchElementException"
    · have hf := x_ifp c7 hf
      subst c7
      refine x_catch (w2 := (w_LH cI cJ cZ rh sh mh m0 m1 m2 m3 dh d0 d1 d2 d3 ea cb ch be ou (U4, U.2))) (x_noteV ⟨hx, hb, hml, hown, hts⟩ (c_Rv_version l D cI cJ cZ rh sh mh m0 m1 m2 m3 dh d0 d1 d2 d3 ea cb ch be hL0 N p1 p2 p3 U.1 (Sum.inr "java/util/NoSuchElementException", U4) hz1) (x_cwV 3 hts rfl k_379 k_380 k_381 k_23 k_382 (by decide +kernel) ⟨(Nat.le_of_ble_eq_true rfl), (Nat.le_of_ble_eq_true rfl)⟩) hK (x_cut hP hD hK hS hA hZ [0, 1, 2, 3, 4, 5, 6, 7, 8, 9, 10, 11, 12, 13, 14, 15] (by decide) rfl).1 (x_cut hP hD hK hS hA hZ [0, 1, 2, 3, 4, 5, 6, 7, 8, 9, 10, 11, 12, 13, 14, 15] (by decide) rfl).2 (ci := 2) rfl rfl rfl hl.1 rfl (Nat.le_of_ble_eq_true rfl) d_La_version_7 ⟨(Nat.le_of_ble_eq_true rfl), (Nat.le_of_ble_eq_true rfl)⟩) hown htab (by decide +kernel) hZ.2.2 [(0, 12, 15, 19, "java/lang/IllegalArgumentException")] (0, 12, 19, 21) [] rfl (List.forall_mem_cons.mpr ⟨⟨rfl, by decide, by decide +kernel, by decide +kernel, hts _ k_343⟩, fun _ h => absurd h List.not_mem_nil⟩) ⟨rfl, by decide⟩ (hts _ k_345) (hts _ k_346) hP hD hS hA [0, 1, 2, 3, 4, 5, 6, 7, 8, 9, 10, 11, 12, 13, 14, 15] [16] [1, 2, 3, 4, 5, 6, 7, 8, 9, 10, 11, 12, 13, 14, 15, 16, 0] rfl rfl (by decide) (by decide) (by decide) rfl (fun xq8 H locs hP hD hS => ?_)
      refine lv_astore (lv' := [(5, .ref xq8), (0, .ref rh), (1, .int p1), (2, .int p2), (3, .int p3), (4, .ref ou)]) hx hb d_La_version_19 hl (by decide) rfl (fun ls hl => ?_)
      refine lv_iconst (v := (2 : Int32)) hx hb d_La_version_21 (by decide) ?_
      obtain rfl := Option.some.inj hf
      exact x_iret hx hb hr hlocks hK hP hD hS (Nat.le_of_ble_eq_true rfl) (Nat.le_of_ble_eq_true rfl) d_La_version_22
    have hf := x_ifn c7 hf
    cases hf
set_option maxHeartbeats 4000000 in
set_option maxRecDepth 100000 in
theorem c_La_page (l : Launch) (D : va_G) (cI cJ cZ : ClassId) (rh sh mh m0 m1 m2 m3 dh d0 d1 d2 d3 ea cb ch be ou : Nat) (hL0 : xL l) (N : Nat) (p1 : Int32) (U : K_LH) (r : (Int32 × K_LH)) (hf : f_La_page N p1 U = some r) : Cx l y_La_page ws_La_page rm_La_page D vwCl (tyL cI cJ cZ) [.ref rh, .int p1, .ref ou] (w_LH cI cJ cZ rh sh mh m0 m1 m2 m3 dh d0 d1 d2 d3 ea cb ch be ou U) (oI r.1) (w_LH cI cJ cZ rh sh mh m0 m1 m2 m3 dh d0 d1 d2 d3 ea cb ch be ou r.2) := by
  unfold f_La_page at hf
  refine Cx.ofWH (hh := hh_La_page) (cc := b_La_page) (maxL := 4) (ret := (some .int)) (by decide) rfl ?_
  intro p e s m below meth c A C0 hP hK hD hA hns hZ
  obtain ⟨hx, hb, hml, hown, hts0, hr, hlocks, hnm, htab⟩ := C0
  have hown : s.vm.findClass R_La = some m.cls := hown
  have hts : ∀ w ∈ tb, w.before [.ref rh, .int p1, .ref ou].toArray s = true := fun w h => hts0 w (List.mem_cons_of_mem _ h)
  have hS : va_S A s.heap s.heap [] := va_S.rf
  have hl := lv_entry ([.ref rh, .int p1, .ref ou]) (n := 4) (Nat.le_of_ble_eq_true rfl)
  rw [lg_entry_eq]
  generalize (lg_sl ([.ref rh, .int p1, .ref ou]) ++ List.replicate (4 - (lg_sl ([.ref rh, .int p1, .ref ou])).length) Slot.unset).toArray = ls at hl ⊢
  have hl : lv_has ls 4 [(0, .ref rh), (1, .int p1), (2, .ref ou)] := hl
  refine lv_aload_n hx hb d_La_page_0 rfl (lv_at hl 2 rfl) ?_
  refine lv_iconst (v := (0 : Int32)) hx hb d_La_page_1 (by decide) ?_
  refine lv_aload_n hx hb d_La_page_2 rfl (lv_at hl 0 rfl) ?_
  refine lv_iload_n hx hb d_La_page_3 rfl (lv_at hl 1 rfl) ?_
  obtain ⟨⟨v2 | E3, U4⟩, hz1, hf⟩ := x_bind hf
  · dsimp only at hf
    refine x_callV (w2 := (w_LH cI cJ cZ rh sh mh m0 m1 m2 m3 dh d0 d1 d2 d3 ea cb ch be ou (U4, U.2))) ⟨hx, hb, hml, hown, hts⟩ (c_Rv_page l D cI cJ cZ rh sh mh m0 m1 m2 m3 dh d0 d1 d2 d3 ea cb ch be hL0 N p1 U.1 (Sum.inl v2, U4) hz1) (x_cwV 1 hts rfl k_383 k_384 k_385 k_23 k_386 (by decide +kernel) ⟨(Nat.le_of_ble_eq_true rfl), (Nat.le_of_ble_eq_true rfl)⟩) hK hP hD hS hA hZ [0, 1, 2, 3, 4, 5, 6, 7, 8, 9, 10, 11, 12, 13, 14, 15] [16] [1, 2, 3, 4, 5, 6, 7, 8, 9, 10, 11, 12, 13, 14, 15, 16, 0] (by decide) rfl rfl (by decide) (by decide) (by decide) rfl (ci := 2) rfl rfl rfl hl.1 rfl (Nat.le_of_ble_eq_true rfl) d_La_page_4 ⟨(Nat.le_of_ble_eq_true rfl), (Nat.le_of_ble_eq_true rfl)⟩ (fun H locs hP hD hS => ?_)
    refine W.eq (g2 := F0 m 7 ls [.int v2, .int (0 : Int32), .ref ou]) rfl ?_
    refine lv_i2l (v := (v2).toInt64) hx hb d_La_page_7 rfl ?_
    refine va_last hx hb hK hP hD hS 16 1 rfl rfl (xi_in rfl) d_La_page_8 (fun H locs hP hD hS => ?_)
    have hP : va_P D vwCl (w_LH cI cJ cZ rh sh mh m0 m1 m2 m3 dh d0 d1 d2 d3 ea cb ch be ou (U4, (vp_updL U.2 (0 : Int32).toNatClampNeg (v2).toInt64))) H := hP
    have hD : va_D A (w_LH cI cJ cZ rh sh mh m0 m1 m2 m3 dh d0 d1 d2 d3 ea cb ch be ou (U4, (vp_updL U.2 (0 : Int32).toNatClampNeg (v2).toInt64))) := hD
    refine lv_goto (tgt := 15) hx hb d_La_page_9 (by decide) ?_
    refine lv_iconst (v := (0 : Int32)) hx hb d_La_page_15 (by decide) ?_
    obtain rfl := Option.some.inj hf
    exact x_iret hx hb hr hlocks hK hP hD hS (Nat.le_of_ble_eq_true rfl) (Nat.le_of_ble_eq_true rfl) d_La_page_16
  · dsimp only at hf
    by_cases c5 : E3 = "java/lang/IllegalArgumentException"
    · have hf := x_ifp c5 hf
      subst c5
      refine x_catch (w2 := (w_LH cI cJ cZ rh sh mh m0 m1 m2 m3 dh d0 d1 d2 d3 ea cb ch be ou (U4, U.2))) (x_noteV ⟨hx, hb, hml, hown, hts⟩ (c_Rv_page l D cI cJ cZ rh sh mh m0 m1 m2 m3 dh d0 d1 d2 d3 ea cb ch be hL0 N p1 U.1 (Sum.inr "java/lang/IllegalArgumentException", U4) hz1) (x_cwV 1 hts rfl k_383 k_384 k_385 k_23 k_386 (by decide +kernel) ⟨(Nat.le_of_ble_eq_true rfl), (Nat.le_of_ble_eq_true rfl)⟩) hK (x_cut hP hD hK hS hA hZ [0, 1, 2, 3, 4, 5, 6, 7, 8, 9, 10, 11, 12, 13, 14, 15] (by decide) rfl).1 (x_cut hP hD hK hS hA hZ [0, 1, 2, 3, 4, 5, 6, 7, 8, 9, 10, 11, 12, 13, 14, 15] (by decide) rfl).2 (ci := 2) rfl rfl rfl hl.1 rfl (Nat.le_of_ble_eq_true rfl) d_La_page_4 ⟨(Nat.le_of_ble_eq_true rfl), (Nat.le_of_ble_eq_true rfl)⟩) hown htab (by decide +kernel) hZ.2.2 [] (0, 9, 12, 19) [] rfl (fun _ h => absurd h List.not_mem_nil) ⟨rfl, by decide⟩ (hts _ k_343) (hts _ k_344) hP hD hS hA [0, 1, 2, 3, 4, 5, 6, 7, 8, 9, 10, 11, 12, 13, 14, 15] [16] [1, 2, 3, 4, 5, 6, 7, 8, 9, 10, 11, 12, 13, 14, 15, 16, 0] rfl rfl (by decide) (by decide) (by decide) rfl (fun xq6 H locs hP hD hS => ?_)
      refine lv_astore_n (lv' := [(3, .ref xq6), (0, .ref rh), (1, .int p1), (2, .ref ou)]) hx hb d_La_page_12 rfl hl (by decide) rfl (fun ls hl => ?_)
      refine lv_iconst (v := (1 : Int32)) hx hb d_La_page_13 (by decide) ?_
      obtain rfl := Option.some.inj hf
      exact x_iret hx hb hr hlocks hK hP hD hS (Nat.le_of_ble_eq_true rfl) (Nat.le_of_ble_eq_true rfl) d_La_page_14
    have hf := x_ifn c5 hf
    cases hf
set_option maxHeartbeats 4000000 in
set_option maxRecDepth 100000 in
theorem c_La_count (l : Launch) (D : va_G) (cI cJ cZ : ClassId) (rh sh mh m0 m1 m2 m3 dh d0 d1 d2 d3 ea cb ch be ou : Nat) (hL0 : xL l) (N : Nat) (p1 : Int32) (U : K_LH) (r : (Int32 × K_LH)) (hf : f_La_count N p1 U = some r) : Cx l y_La_count ws_La_count rm_La_count D vwCl (tyL cI cJ cZ) [.ref rh, .int p1, .ref ou] (w_LH cI cJ cZ rh sh mh m0 m1 m2 m3 dh d0 d1 d2 d3 ea cb ch be ou U) (oI r.1) (w_LH cI cJ cZ rh sh mh m0 m1 m2 m3 dh d0 d1 d2 d3 ea cb ch be ou r.2) := by
  unfold f_La_count at hf
  refine Cx.ofWH (hh := hh_La_count) (cc := b_La_count) (maxL := 4) (ret := (some .int)) (by decide) rfl ?_
  intro p e s m below meth c A C0 hP hK hD hA hns hZ
  obtain ⟨hx, hb, hml, hown, hts0, hr, hlocks, hnm, htab⟩ := C0
  have hown : s.vm.findClass R_La = some m.cls := hown
  have hts : ∀ w ∈ tb, w.before [.ref rh, .int p1, .ref ou].toArray s = true := fun w h => hts0 w (List.mem_cons_of_mem _ h)
  have hS : va_S A s.heap s.heap [] := va_S.rf
  have hl := lv_entry ([.ref rh, .int p1, .ref ou]) (n := 4) (Nat.le_of_ble_eq_true rfl)
  rw [lg_entry_eq]
  generalize (lg_sl ([.ref rh, .int p1, .ref ou]) ++ List.replicate (4 - (lg_sl ([.ref rh, .int p1, .ref ou])).length) Slot.unset).toArray = ls at hl ⊢
  have hl : lv_has ls 4 [(0, .ref rh), (1, .int p1), (2, .ref ou)] := hl
  refine lv_aload_n hx hb d_La_count_0 rfl (lv_at hl 2 rfl) ?_
  refine lv_iconst (v := (0 : Int32)) hx hb d_La_count_1 (by decide) ?_
  refine lv_aload_n hx hb d_La_count_2 rfl (lv_at hl 0 rfl) ?_
  refine lv_iload_n hx hb d_La_count_3 rfl (lv_at hl 1 rfl) ?_
  obtain ⟨⟨v2 | E3, U4⟩, hz1, hf⟩ := x_bind hf
  · dsimp only at hf
    refine x_callV (w2 := (w_LH cI cJ cZ rh sh mh m0 m1 m2 m3 dh d0 d1 d2 d3 ea cb ch be ou (U4, U.2))) ⟨hx, hb, hml, hown, hts⟩ (c_Rv_count l D cI cJ cZ rh sh mh m0 m1 m2 m3 dh d0 d1 d2 d3 ea cb ch be hL0 N p1 U.1 (Sum.inl v2, U4) hz1) (x_cwV 1 hts rfl k_387 k_388 k_389 k_23 k_390 (by decide +kernel) ⟨(Nat.le_of_ble_eq_true rfl), (Nat.le_of_ble_eq_true rfl)⟩) hK hP hD hS hA hZ [0, 1, 2, 3, 4, 5, 6, 7, 8, 9, 10, 11, 12, 13, 14, 15] [16] [1, 2, 3, 4, 5, 6, 7, 8, 9, 10, 11, 12, 13, 14, 15, 16, 0] (by decide) rfl rfl (by decide) (by decide) (by decide) rfl (ci := 2) rfl rfl rfl hl.1 rfl (Nat.le_of_ble_eq_true rfl) d_La_count_4 ⟨(Nat.le_of_ble_eq_true rfl), (Nat.le_of_ble_eq_true rfl)⟩ (fun H locs hP hD hS => ?_)
    refine W.eq (g2 := F0 m 7 ls [.int v2, .int (0 : Int32), .ref ou]) rfl ?_
    refine lv_i2l (v := (v2).toInt64) hx hb d_La_count_7 rfl ?_
    refine va_last hx hb hK hP hD hS 16 1 rfl rfl (xi_in rfl) d_La_count_8 (fun H locs hP hD hS => ?_)
    have hP : va_P D vwCl (w_LH cI cJ cZ rh sh mh m0 m1 m2 m3 dh d0 d1 d2 d3 ea cb ch be ou (U4, (vp_updL U.2 (0 : Int32).toNatClampNeg (v2).toInt64))) H := hP
    have hD : va_D A (w_LH cI cJ cZ rh sh mh m0 m1 m2 m3 dh d0 d1 d2 d3 ea cb ch be ou (U4, (vp_updL U.2 (0 : Int32).toNatClampNeg (v2).toInt64))) := hD
    refine lv_goto (tgt := 15) hx hb d_La_count_9 (by decide) ?_
    refine lv_iconst (v := (0 : Int32)) hx hb d_La_count_15 (by decide) ?_
    obtain rfl := Option.some.inj hf
    exact x_iret hx hb hr hlocks hK hP hD hS (Nat.le_of_ble_eq_true rfl) (Nat.le_of_ble_eq_true rfl) d_La_count_16
  · dsimp only at hf
    by_cases c5 : E3 = "java/lang/IllegalArgumentException"
    · have hf := x_ifp c5 hf
      subst c5
      refine x_catch (w2 := (w_LH cI cJ cZ rh sh mh m0 m1 m2 m3 dh d0 d1 d2 d3 ea cb ch be ou (U4, U.2))) (x_noteV ⟨hx, hb, hml, hown, hts⟩ (c_Rv_count l D cI cJ cZ rh sh mh m0 m1 m2 m3 dh d0 d1 d2 d3 ea cb ch be hL0 N p1 U.1 (Sum.inr "java/lang/IllegalArgumentException", U4) hz1) (x_cwV 1 hts rfl k_387 k_388 k_389 k_23 k_390 (by decide +kernel) ⟨(Nat.le_of_ble_eq_true rfl), (Nat.le_of_ble_eq_true rfl)⟩) hK (x_cut hP hD hK hS hA hZ [0, 1, 2, 3, 4, 5, 6, 7, 8, 9, 10, 11, 12, 13, 14, 15] (by decide) rfl).1 (x_cut hP hD hK hS hA hZ [0, 1, 2, 3, 4, 5, 6, 7, 8, 9, 10, 11, 12, 13, 14, 15] (by decide) rfl).2 (ci := 2) rfl rfl rfl hl.1 rfl (Nat.le_of_ble_eq_true rfl) d_La_count_4 ⟨(Nat.le_of_ble_eq_true rfl), (Nat.le_of_ble_eq_true rfl)⟩) hown htab (by decide +kernel) hZ.2.2 [] (0, 9, 12, 19) [] rfl (fun _ h => absurd h List.not_mem_nil) ⟨rfl, by decide⟩ (hts _ k_343) (hts _ k_344) hP hD hS hA [0, 1, 2, 3, 4, 5, 6, 7, 8, 9, 10, 11, 12, 13, 14, 15] [16] [1, 2, 3, 4, 5, 6, 7, 8, 9, 10, 11, 12, 13, 14, 15, 16, 0] rfl rfl (by decide) (by decide) (by decide) rfl (fun xq6 H locs hP hD hS => ?_)
      refine lv_astore_n (lv' := [(3, .ref xq6), (0, .ref rh), (1, .int p1), (2, .ref ou)]) hx hb d_La_count_12 rfl hl (by decide) rfl (fun ls hl => ?_)
      refine lv_iconst (v := (1 : Int32)) hx hb d_La_count_13 (by decide) ?_
      obtain rfl := Option.some.inj hf
      exact x_iret hx hb hr hlocks hK hP hD hS (Nat.le_of_ble_eq_true rfl) (Nat.le_of_ble_eq_true rfl) d_La_count_14
    have hf := x_ifn c5 hf
    cases hf
