set_option maxHeartbeats 4000000 in
set_option maxRecDepth 100000 in
theorem c_Rv_count (l : Launch) (D : va_G) (cI cJ cZ : ClassId) (rh sh mh m0 m1 m2 m3 dh d0 d1 d2 d3 ea cb ch be : Nat) (hL0 : xL l) (N : Nat) (p0 : Int32) (U : K_Rv) (r : ((Int32 ⊕ String) × K_Rv)) (hf : f_Rv_count N p0 U = some r) : Cx l y_Rv_count ws_Rv_count rm_Rv_count D vwCl (tyL cI cJ cZ) [.ref rh, .int p0] (w_Rv cI cJ cZ rh sh mh m0 m1 m2 m3 dh d0 d1 d2 d3 ea cb ch be U) (tI r.1) (w_Rv cI cJ cZ rh sh mh m0 m1 m2 m3 dh d0 d1 d2 d3 ea cb ch be r.2) := by
  unfold f_Rv_count at hf
  refine Cx.ofW (cc := b_Rv_count) (maxL := 2) (ret := (some .int)) (by decide) rfl ?_
  intro p e s m below meth c A C0 hP hK hD hA hns hZ
  obtain ⟨hx, hb, hml, hown, hts0, hr, hlocks, hnm, hno⟩ := C0
  have hown : s.vm.findClass R_Rv = some m.cls := hown
  have hts : ∀ w ∈ tb, w.before [.ref rh, .int p0].toArray s = true := fun w h => hts0 w (List.mem_cons_of_mem _ h)
  have hS : va_S A s.heap s.heap [] := va_S.rf
  have hl := lv_entry ([.ref rh, .int p0]) (n := 2) (Nat.le_of_ble_eq_true rfl)
  rw [lg_entry_eq]
  generalize (lg_sl ([.ref rh, .int p0]) ++ List.replicate (2 - (lg_sl ([.ref rh, .int p0])).length) Slot.unset).toArray = ls at hl ⊢
  have hl : lv_has ls 2 [(0, .ref rh), (1, .int p0)] := hl
  refine lv_iload_n hx hb d_Rv_count_0 rfl (lv_at hl 1 rfl) ?_
  by_cases c1 : p0 = (0 : Int32)
  · have hf := x_ifp c1 hf
    refine lv_tableIn (tgt := 36) hx hb d_Rv_count_1 (by rw [c1]; decide) (by rw [c1]; decide) (by rw [c1]; rfl) (by decide) ?_
    refine lv_aload_n hx hb d_Rv_count_36 rfl (lv_at hl 0 rfl) ?_
    refine va_get (D := D) (ci := 2) (v := .ref mh) (C := R_Rv) (T := F_Rv) (N := 5) hx hb hts i_Rv hown hK hP 0 rfl rfl 1 (by decide) (hts _ k_92) (fun _ h9 => h9) rfl d_Rv_count_37 ?_
    obtain ⟨z2, hz2, hf⟩ := x_bind hf
    refine x_callV (w2 := (w_Rv cI cJ cZ rh sh mh m0 m1 m2 m3 dh d0 d1 d2 d3 ea cb ch be ((z2.2, U.1.2), U.2))) ⟨hx, hb, hml, hown, hts⟩ (c_Co_freeSlots l D cI cJ cZ mh m0 m1 m2 m3 N  U.1.1 z2 hz2) (x_cwV 0 hts rfl k_212 k_213 k_214 k_11 k_215 (by decide +kernel) ⟨(Nat.le_of_ble_eq_true rfl), (Nat.le_of_ble_eq_true rfl)⟩) hK hP hD hS hA hZ [2, 3, 4, 5, 6] [0, 1, 7, 8, 9, 10, 11, 12, 13, 14, 15] [0, 1, 11, 12, 13, 14, 15, 2, 3, 4, 5, 6, 7, 8, 9, 10] (by decide) rfl rfl (by decide) (by decide) (by decide) rfl (ci := 0) rfl rfl rfl hl.1 rfl (Nat.le_of_ble_eq_true rfl) d_Rv_count_40 ⟨(Nat.le_of_ble_eq_true rfl), (Nat.le_of_ble_eq_true rfl)⟩ (fun H locs hP hD hS => ?_)
    refine W.eq (g2 := F0 m 43 ls [.int z2.1]) rfl ?_
    obtain rfl := Option.some.inj hf
    exact x_iret hx hb hr hlocks hK hP hD hS (Nat.le_of_ble_eq_true rfl) (Nat.le_of_ble_eq_true rfl) d_Rv_count_43
  have hf := x_ifn c1 hf
  by_cases c3 : p0 = (1 : Int32)
  · have hf := x_ifp c3 hf
    refine lv_tableIn (tgt := 44) hx hb d_Rv_count_1 (by rw [c3]; decide) (by rw [c3]; decide) (by rw [c3]; rfl) (by decide) ?_
    refine lv_aload_n hx hb d_Rv_count_44 rfl (lv_at hl 0 rfl) ?_
    refine va_get (D := D) (ci := 2) (v := .ref mh) (C := R_Rv) (T := F_Rv) (N := 5) hx hb hts i_Rv hown hK hP 0 rfl rfl 1 (by decide) (hts _ k_92) (fun _ h9 => h9) rfl d_Rv_count_45 ?_
    obtain ⟨z4, hz4, hf⟩ := x_bind hf
    refine x_callV (w2 := (w_Rv cI cJ cZ rh sh mh m0 m1 m2 m3 dh d0 d1 d2 d3 ea cb ch be ((z4.2, U.1.2), U.2))) ⟨hx, hb, hml, hown, hts⟩ (c_Co_active l D cI cJ cZ mh m0 m1 m2 m3 N  U.1.1 z4 hz4) (x_cwV 0 hts rfl k_106 k_107 k_108 k_11 k_109 (by decide +kernel) ⟨(Nat.le_of_ble_eq_true rfl), (Nat.le_of_ble_eq_true rfl)⟩) hK hP hD hS hA hZ [2, 3, 4, 5, 6] [0, 1, 7, 8, 9, 10, 11, 12, 13, 14, 15] [0, 1, 11, 12, 13, 14, 15, 2, 3, 4, 5, 6, 7, 8, 9, 10] (by decide) rfl rfl (by decide) (by decide) (by decide) rfl (ci := 0) rfl rfl rfl hl.1 rfl (Nat.le_of_ble_eq_true rfl) d_Rv_count_48 ⟨(Nat.le_of_ble_eq_true rfl), (Nat.le_of_ble_eq_true rfl)⟩ (fun H locs hP hD hS => ?_)
    refine W.eq (g2 := F0 m 51 ls [.int z4.1]) rfl ?_
    obtain rfl := Option.some.inj hf
    exact x_iret hx hb hr hlocks hK hP hD hS (Nat.le_of_ble_eq_true rfl) (Nat.le_of_ble_eq_true rfl) d_Rv_count_51
  have hf := x_ifn c3 hf
  by_cases c5 : p0 = (2 : Int32)
  · have hf := x_ifp c5 hf
    refine lv_tableIn (tgt := 52) hx hb d_Rv_count_1 (by rw [c5]; decide) (by rw [c5]; decide) (by rw [c5]; rfl) (by decide) ?_
    refine lv_aload_n hx hb d_Rv_count_52 rfl (lv_at hl 0 rfl) ?_
    refine va_get (D := D) (ci := 2) (v := .ref sh) (C := R_Rv) (T := F_Rv) (N := 5) hx hb hts i_Rv hown hK hP 0 rfl rfl 0 (by decide) (hts _ k_90) (fun _ h9 => h9) rfl d_Rv_count_53 ?_
    refine va_get (D := D) (ci := 1) (v := .int U.1.2.2.2.2.1) (C := R_St) (T := F_St) (N := 7) hx hb hts i_St hown hK hP 1 rfl rfl 4 (by decide) (hts _ k_185) (fun _ h9 => h9) rfl d_Rv_count_56 ?_
    obtain rfl := Option.some.inj hf
    exact x_iret hx hb hr hlocks hK hP hD hS (Nat.le_of_ble_eq_true rfl) (Nat.le_of_ble_eq_true rfl) d_Rv_count_59
  have hf := x_ifn c5 hf
  by_cases c6 : p0 = (3 : Int32)
  · have hf := x_ifp c6 hf
    refine lv_tableIn (tgt := 60) hx hb d_Rv_count_1 (by rw [c6]; decide) (by rw [c6]; decide) (by rw [c6]; rfl) (by decide) ?_
    refine lv_aload_n hx hb d_Rv_count_60 rfl (lv_at hl 0 rfl) ?_
    refine va_get (D := D) (ci := 2) (v := .ref sh) (C := R_Rv) (T := F_Rv) (N := 5) hx hb hts i_Rv hown hK hP 0 rfl rfl 0 (by decide) (hts _ k_90) (fun _ h9 => h9) rfl d_Rv_count_61 ?_
    refine va_get (D := D) (ci := 1) (v := .int U.1.2.2.2.2.2.1) (C := R_St) (T := F_St) (N := 7) hx hb hts i_St hown hK hP 1 rfl rfl 5 (by decide) (hts _ k_216) (fun _ h9 => h9) rfl d_Rv_count_64 ?_
    obtain rfl := Option.some.inj hf
    exact x_iret hx hb hr hlocks hK hP hD hS (Nat.le_of_ble_eq_true rfl) (Nat.le_of_ble_eq_true rfl) d_Rv_count_67
  have hf := x_ifn c6 hf
  by_cases c7 : p0 = (4 : Int32)
  · have hf := x_ifp c7 hf
    refine lv_tableIn (tgt := 68) hx hb d_Rv_count_1 (by rw [c7]; decide) (by rw [c7]; decide) (by rw [c7]; rfl) (by decide) ?_
    refine lv_aload_n hx hb d_Rv_count_68 rfl (lv_at hl 0 rfl) ?_
    refine va_get (D := D) (ci := 2) (v := .ref sh) (C := R_Rv) (T := F_Rv) (N := 5) hx hb hts i_Rv hown hK hP 0 rfl rfl 0 (by decide) (hts _ k_90) (fun _ h9 => h9) rfl d_Rv_count_69 ?_
    refine va_get (D := D) (ci := 1) (v := .int U.1.2.2.2.1) (C := R_St) (T := F_St) (N := 7) hx hb hts i_St hown hK hP 1 rfl rfl 3 (by decide) (hts _ k_206) (fun _ h9 => h9) rfl d_Rv_count_72 ?_
    obtain ⟨z8, hz8, hf⟩ := x_bind hf
    refine x_callS (w2 := (w_Rv cI cJ cZ rh sh mh m0 m1 m2 m3 dh d0 d1 d2 d3 ea cb ch be U)) ⟨hx, hb, hml, hown, hts⟩ (c_JI_bitCount l D cI cJ cZ  N U.1.2.2.2.1  z8 hz8) (x_cwS 1 hts rfl k_220 k_221 k_222 k_223 (by decide +kernel) ⟨(Nat.le_of_ble_eq_true rfl), (Nat.le_of_ble_eq_true rfl)⟩) hK hP hD hS hA hZ [] [0, 1, 2, 3, 4, 5, 6, 7, 8, 9, 10, 11, 12, 13, 14, 15] [0, 1, 2, 3, 4, 5, 6, 7, 8, 9, 10, 11, 12, 13, 14, 15] (by decide) rfl rfl (by decide) (by decide) (by decide) rfl rfl hl.1 rfl (Nat.le_of_ble_eq_true rfl) d_Rv_count_75 ⟨(Nat.le_of_ble_eq_true rfl), (Nat.le_of_ble_eq_true rfl)⟩ (fun H locs hP hD hS => ?_)
    refine W.eq (g2 := F0 m 78 ls [.int z8]) rfl ?_
    obtain rfl := Option.some.inj hf
    exact x_iret hx hb hr hlocks hK hP hD hS (Nat.le_of_ble_eq_true rfl) (Nat.le_of_ble_eq_true rfl) d_Rv_count_78
  have hf := x_ifn c7 hf
  refine lv_tableOut (tgt := 79) hx hb d_Rv_count_1 (x_sw5 c1 c3 c5 c6 c7) (by decide) ?_
  obtain rfl := Option.some.inj hf
  exact x_throw (cls := "java/lang/IllegalArgumentException") (names := ["java/lang/RuntimeException", "java/lang/Exception"]) hL0 hx hb hml hown hlocks hno (by decide +kernel) (by decide +kernel) (at_Rv_76 hts hZ) (hts _ k_114) (hts _ k_115) hK hP hD hS hns hl.1 (Nat.le_of_ble_eq_true rfl) (Nat.le_of_ble_eq_true rfl) (Nat.le_of_ble_eq_true rfl) (Nat.le_of_ble_eq_true rfl) (Nat.le_of_ble_eq_true rfl) (Nat.le_of_ble_eq_true rfl) d_Rv_count_79 d_Rv_count_82 d_Rv_count_83 d_Rv_count_86
set_option maxHeartbeats 4000000 in
set_option maxRecDepth 100000 in
theorem c_Mo_init (l : Launch) (D : va_G) (cI cJ cZ : ClassId) (oh : Nat) (N : Nat) (r : K_Mo) (hf : f_Mo_init N = some r) : Cxe l y_Mo_init ws_Mo_init rm_Mo_init D vwCl (tyL cI cJ cZ) [.ref oh] [(oh, .inr (3, [.int 0, .null, .null, .null, .null, .null, .null, .null, .null, .null, .null, .null, .null, .null, .int 0, .int 0, .int 0, .int 0, .int 0]))] (fun a : Nat → Nat => (w_Mo cI cJ cZ oh (a 0) (a 1) (a 2) (a 3) (a 4) (a 5) (a 6) (a 7) (a 8) (a 9) (a 10) (a 11) (a 12) r)) := by
  unfold f_Mo_init at hf
  refine Cxe.ofW (cc := b_Mo_init) (maxL := 2) (ret := none) (by decide) rfl ?_
  intro p e s m below meth c A C0 hP hK hD hA hns hZ
  obtain ⟨hx, hb, hml, hown, hts0, hr, hlocks, hnm, hno⟩ := C0
  have hown : s.vm.findClass R_Mo = some m.cls := hown
  have hts : ∀ w ∈ tb, w.before [.ref oh].toArray s = true := fun w h => hts0 w (List.mem_cons_of_mem _ h)
  have hS : va_S A s.heap s.heap [] := va_S.rf
  have hl := lv_entry ([.ref oh]) (n := 2) (Nat.le_of_ble_eq_true rfl)
  rw [lg_entry_eq]
  generalize (lg_sl ([.ref oh]) ++ List.replicate (2 - (lg_sl ([.ref oh])).length) Slot.unset).toArray = ls at hl ⊢
  have hl : lv_has ls 2 [(0, .ref oh)] := hl
  refine lv_aload_n hx hb d_Mo_init_0 rfl (lv_at hl 0 rfl) ?_
  refine W.objInit hx hb hown (hts _ k_224) (hts _ k_1) (hts _ k_2) rfl (by rw [hml]; exact hl.1) rfl d_Mo_init_1 (Nat.le_of_ble_eq_true rfl) (Nat.le_of_ble_eq_true rfl) ?_
  refine W.eq (g2 := F0 m 4 ls []) rfl ?_
  refine lv_aload_n hx hb d_Mo_init_4 rfl (lv_at hl 0 rfl) ?_
  refine lv_bipush (v := (15 : Int32)) hx hb d_Mo_init_5 (by decide) ?_
  refine x_newI (N := 15) hx hb (hts _ k_3) hK hP hD hS hA (by decide) (by decide) (by decide) (Nat.le_of_ble_eq_true rfl) (Nat.le_of_ble_eq_true rfl) d_Mo_init_7 (fun q1 H hP hD hS => ?_)
  have hP : va_P D vwCl [(oh, .inr (3, [.int 0, .null, .null, .null, .null, .null, .null, .null, .null, .null, .null, .null, .null, .null, .int 0, .int 0, .int 0, .int 0, .int 0])), (q1, .inl (cI, 15, .inl (fun _ => 0)))] H := hP
  have hD : va_D A [(oh, .inr (3, [.int 0, .null, .null, .null, .null, .null, .null, .null, .null, .null, .null, .null, .null, .null, .int 0, .int 0, .int 0, .int 0, .int 0])), (q1, .inl (cI, 15, .inl (fun _ => 0)))] := hD
  refine va_putF (D := D) (ci := 3) (v := .ref q1) (ty := .array .int) (C := R_Mo) (T := F_Mo) (N := 19) hx hb hts i_Mo t_Mo t_Mo_ok n_Mo hown hK hP hD hS 0 rfl rfl 1 (by decide) (hts _ k_225) (fun _ h9 => h9) rfl hnm rfl (by decide +kernel) rfl rfl (Nat.le_of_ble_eq_true rfl) d_Mo_init_9 (fun H locs hP hD hS => ?_)
  have hP : va_P D vwCl [(oh, .inr (3, [.int 0, .ref q1, .null, .null, .null, .null, .null, .null, .null, .null, .null, .null, .null, .null, .int 0, .int 0, .int 0, .int 0, .int 0])), (q1, .inl (cI, 15, .inl (fun _ => 0)))] H := hP
  have hD : va_D A [(oh, .inr (3, [.int 0, .ref q1, .null, .null, .null, .null, .null, .null, .null, .null, .null, .null, .null, .null, .int 0, .int 0, .int 0, .int 0, .int 0])), (q1, .inl (cI, 15, .inl (fun _ => 0)))] := hD
  refine lv_aload_n hx hb d_Mo_init_12 rfl (lv_at hl 0 rfl) ?_
  refine lv_bipush (v := (15 : Int32)) hx hb d_Mo_init_13 (by decide) ?_
  refine x_newI (N := 15) hx hb (hts _ k_3) hK hP hD hS hA (by decide) (by decide) (by decide) (Nat.le_of_ble_eq_true rfl) (Nat.le_of_ble_eq_true rfl) d_Mo_init_15 (fun q2 H hP hD hS => ?_)
  have hP : va_P D vwCl [(oh, .inr (3, [.int 0, .ref q1, .null, .null, .null, .null, .null, .null, .null, .null, .null, .null, .null, .null, .int 0, .int 0, .int 0, .int 0, .int 0])), (q1, .inl (cI, 15, .inl (fun _ => 0))), (q2, .inl (cI, 15, .inl (fun _ => 0)))] H := hP
  have hD : va_D A [(oh, .inr (3, [.int 0, .ref q1, .null, .null, .null, .null, .null, .null, .null, .null, .null, .null, .null, .null, .int 0, .int 0, .int 0, .int 0, .int 0])), (q1, .inl (cI, 15, .inl (fun _ => 0))), (q2, .inl (cI, 15, .inl (fun _ => 0)))] := hD
  refine va_putF (D := D) (ci := 3) (v := .ref q2) (ty := .array .int) (C := R_Mo) (T := F_Mo) (N := 19) hx hb hts i_Mo t_Mo t_Mo_ok n_Mo hown hK hP hD hS 0 rfl rfl 2 (by decide) (hts _ k_226) (fun _ h9 => h9) rfl hnm rfl (by decide +kernel) rfl rfl (Nat.le_of_ble_eq_true rfl) d_Mo_init_17 (fun H locs hP hD hS => ?_)
  have hP : va_P D vwCl [(oh, .inr (3, [.int 0, .ref q1, .ref q2, .null, .null, .null, .null, .null, .null, .null, .null, .null, .null, .null, .int 0, .int 0, .int 0, .int 0, .int 0])), (q1, .inl (cI, 15, .inl (fun _ => 0))), (q2, .inl (cI, 15, .inl (fun _ => 0)))] H := hP
  have hD : va_D A [(oh, .inr (3, [.int 0, .ref q1, .ref q2, .null, .null, .null, .null, .null, .null, .null, .null, .null, .null, .null, .int 0, .int 0, .int 0, .int 0, .int 0])), (q1, .inl (cI, 15, .inl (fun _ => 0))), (q2, .inl (cI, 15, .inl (fun _ => 0)))] := hD
  refine lv_aload_n hx hb d_Mo_init_20 rfl (lv_at hl 0 rfl) ?_
  refine lv_bipush (v := (15 : Int32)) hx hb d_Mo_init_21 (by decide) ?_
  refine x_newI (N := 15) hx hb (hts _ k_3) hK hP hD hS hA (by decide) (by decide) (by decide) (Nat.le_of_ble_eq_true rfl) (Nat.le_of_ble_eq_true rfl) d_Mo_init_23 (fun q3 H hP hD hS => ?_)
  have hP : va_P D vwCl [(oh, .inr (3, [.int 0, .ref q1, .ref q2, .null, .null, .null, .null, .null, .null, .null, .null, .null, .null, .null, .int 0, .int 0, .int 0, .int 0, .int 0])), (q1, .inl (cI, 15, .inl (fun _ => 0))), (q2, .inl (cI, 15, .inl (fun _ => 0))), (q3, .inl (cI, 15, .inl (fun _ => 0)))] H := hP
  have hD : va_D A [(oh, .inr (3, [.int 0, .ref q1, .ref q2, .null, .null, .null, .null, .null, .null, .null, .null, .null, .null, .null, .int 0, .int 0, .int 0, .int 0, .int 0])), (q1, .inl (cI, 15, .inl (fun _ => 0))), (q2, .inl (cI, 15, .inl (fun _ => 0))), (q3, .inl (cI, 15, .inl (fun _ => 0)))] := hD
  refine va_putF (D := D) (ci := 3) (v := .ref q3) (ty := .array .int) (C := R_Mo) (T := F_Mo) (N := 19) hx hb hts i_Mo t_Mo t_Mo_ok n_Mo hown hK hP hD hS 0 rfl rfl 3 (by decide) (hts _ k_227) (fun _ h9 => h9) rfl hnm rfl (by decide +kernel) rfl rfl (Nat.le_of_ble_eq_true rfl) d_Mo_init_25 (fun H locs hP hD hS => ?_)
  have hP : va_P D vwCl [(oh, .inr (3, [.int 0, .ref q1, .ref q2, .ref q3, .null, .null, .null, .null, .null, .null, .null, .null, .null, .null, .int 0, .int 0, .int 0, .int 0, .int 0])), (q1, .inl (cI, 15, .inl (fun _ => 0))), (q2, .inl (cI, 15, .inl (fun _ => 0))), (q3, .inl (cI, 15, .inl (fun _ => 0)))] H := hP
  have hD : va_D A [(oh, .inr (3, [.int 0, .ref q1, .ref q2, .ref q3, .null, .null, .null, .null, .null, .null, .null, .null, .null, .null, .int 0, .int 0, .int 0, .int 0, .int 0])), (q1, .inl (cI, 15, .inl (fun _ => 0))), (q2, .inl (cI, 15, .inl (fun _ => 0))), (q3, .inl (cI, 15, .inl (fun _ => 0)))] := hD
  refine lv_aload_n hx hb d_Mo_init_28 rfl (lv_at hl 0 rfl) ?_
  refine lv_bipush (v := (15 : Int32)) hx hb d_Mo_init_29 (by decide) ?_
  refine x_newI (N := 15) hx hb (hts _ k_3) hK hP hD hS hA (by decide) (by decide) (by decide) (Nat.le_of_ble_eq_true rfl) (Nat.le_of_ble_eq_true rfl) d_Mo_init_31 (fun q4 H hP hD hS => ?_)
  have hP : va_P D vwCl [(oh, .inr (3, [.int 0, .ref q1, .ref q2, .ref q3, .null, .null, .null, .null, .null, .null, .null, .null, .null, .null, .int 0, .int 0, .int 0, .int 0, .int 0])), (q1, .inl (cI, 15, .inl (fun _ => 0))), (q2, .inl (cI, 15, .inl (fun _ => 0))), (q3, .inl (cI, 15, .inl (fun _ => 0))), (q4, .inl (cI, 15, .inl (fun _ => 0)))] H := hP
  have hD : va_D A [(oh, .inr (3, [.int 0, .ref q1, .ref q2, .ref q3, .null, .null, .null, .null, .null, .null, .null, .null, .null, .null, .int 0, .int 0, .int 0, .int 0, .int 0])), (q1, .inl (cI, 15, .inl (fun _ => 0))), (q2, .inl (cI, 15, .inl (fun _ => 0))), (q3, .inl (cI, 15, .inl (fun _ => 0))), (q4, .inl (cI, 15, .inl (fun _ => 0)))] := hD
  refine va_putF (D := D) (ci := 3) (v := .ref q4) (ty := .array .int) (C := R_Mo) (T := F_Mo) (N := 19) hx hb hts i_Mo t_Mo t_Mo_ok n_Mo hown hK hP hD hS 0 rfl rfl 4 (by decide) (hts _ k_228) (fun _ h9 => h9) rfl hnm rfl (by decide +kernel) rfl rfl (Nat.le_of_ble_eq_true rfl) d_Mo_init_33 (fun H locs hP hD hS => ?_)
  have hP : va_P D vwCl [(oh, .inr (3, [.int 0, .ref q1, .ref q2, .ref q3, .ref q4, .null, .null, .null, .null, .null, .null, .null, .null, .null, .int 0, .int 0, .int 0, .int 0, .int 0])), (q1, .inl (cI, 15, .inl (fun _ => 0))), (q2, .inl (cI, 15, .inl (fun _ => 0))), (q3, .inl (cI, 15, .inl (fun _ => 0))), (q4, .inl (cI, 15, .inl (fun _ => 0)))] H := hP
  have hD : va_D A [(oh, .inr (3, [.int 0, .ref q1, .ref q2, .ref q3, .ref q4, .null, .null, .null, .null, .null, .null, .null, .null, .null, .int 0, .int 0, .int 0, .int 0, .int 0])), (q1, .inl (cI, 15, .inl (fun _ => 0))), (q2, .inl (cI, 15, .inl (fun _ => 0))), (q3, .inl (cI, 15, .inl (fun _ => 0))), (q4, .inl (cI, 15, .inl (fun _ => 0)))] := hD
  refine lv_aload_n hx hb d_Mo_init_36 rfl (lv_at hl 0 rfl) ?_
  refine lv_bipush (v := (15 : Int32)) hx hb d_Mo_init_37 (by decide) ?_
  refine x_newI (N := 15) hx hb (hts _ k_3) hK hP hD hS hA (by decide) (by decide) (by decide) (Nat.le_of_ble_eq_true rfl) (Nat.le_of_ble_eq_true rfl) d_Mo_init_39 (fun q5 H hP hD hS => ?_)
  have hP : va_P D vwCl [(oh, .inr (3, [.int 0, .ref q1, .ref q2, .ref q3, .ref q4, .null, .null, .null, .null, .null, .null, .null, .null, .null, .int 0, .int 0, .int 0, .int 0, .int 0])), (q1, .inl (cI, 15, .inl (fun _ => 0))), (q2, .inl (cI, 15, .inl (fun _ => 0))), (q3, .inl (cI, 15, .inl (fun _ => 0))), (q4, .inl (cI, 15, .inl (fun _ => 0))), (q5, .inl (cI, 15, .inl (fun _ => 0)))] H := hP
  have hD : va_D A [(oh, .inr (3, [.int 0, .ref q1, .ref q2, .ref q3, .ref q4, .null, .null, .null, .null, .null, .null, .null, .null, .null, .int 0, .int 0, .int 0, .int 0, .int 0])), (q1, .inl (cI, 15, .inl (fun _ => 0))), (q2, .inl (cI, 15, .inl (fun _ => 0))), (q3, .inl (cI, 15, .inl (fun _ => 0))), (q4, .inl (cI, 15, .inl (fun _ => 0))), (q5, .inl (cI, 15, .inl (fun _ => 0)))] := hD
  refine va_putF (D := D) (ci := 3) (v := .ref q5) (ty := .array .int) (C := R_Mo) (T := F_Mo) (N := 19) hx hb hts i_Mo t_Mo t_Mo_ok n_Mo hown hK hP hD hS 0 rfl rfl 5 (by decide) (hts _ k_229) (fun _ h9 => h9) rfl hnm rfl (by decide +kernel) rfl rfl (Nat.le_of_ble_eq_true rfl) d_Mo_init_41 (fun H locs hP hD hS => ?_)
  have hP : va_P D vwCl [(oh, .inr (3, [.int 0, .ref q1, .ref q2, .ref q3, .ref q4, .ref q5, .null, .null, .null, .null, .null, .null, .null, .null, .int 0, .int 0, .int 0, .int 0, .int 0])), (q1, .inl (cI, 15, .inl (fun _ => 0))), (q2, .inl (cI, 15, .inl (fun _ => 0))), (q3, .inl (cI, 15, .inl (fun _ => 0))), (q4, .inl (cI, 15, .inl (fun _ => 0))), (q5, .inl (cI, 15, .inl (fun _ => 0)))] H := hP
  have hD : va_D A [(oh, .inr (3, [.int 0, .ref q1, .ref q2, .ref q3, .ref q4, .ref q5, .null, .null, .null, .null, .null, .null, .null, .null, .int 0, .int 0, .int 0, .int 0, .int 0])), (q1, .inl (cI, 15, .inl (fun _ => 0))), (q2, .inl (cI, 15, .inl (fun _ => 0))), (q3, .inl (cI, 15, .inl (fun _ => 0))), (q4, .inl (cI, 15, .inl (fun _ => 0))), (q5, .inl (cI, 15, .inl (fun _ => 0)))] := hD
  refine lv_aload_n hx hb d_Mo_init_44 rfl (lv_at hl 0 rfl) ?_
  refine lv_bipush (v := (15 : Int32)) hx hb d_Mo_init_45 (by decide) ?_
  refine x_newI (N := 15) hx hb (hts _ k_3) hK hP hD hS hA (by decide) (by decide) (by decide) (Nat.le_of_ble_eq_true rfl) (Nat.le_of_ble_eq_true rfl) d_Mo_init_47 (fun q6 H hP hD hS => ?_)
  have hP : va_P D vwCl [(oh, .inr (3, [.int 0, .ref q1, .ref q2, .ref q3, .ref q4, .ref q5, .null, .null, .null, .null, .null, .null, .null, .null, .int 0, .int 0, .int 0, .int 0, .int 0])), (q1, .inl (cI, 15, .inl (fun _ => 0))), (q2, .inl (cI, 15, .inl (fun _ => 0))), (q3, .inl (cI, 15, .inl (fun _ => 0))), (q4, .inl (cI, 15, .inl (fun _ => 0))), (q5, .inl (cI, 15, .inl (fun _ => 0))), (q6, .inl (cI, 15, .inl (fun _ => 0)))] H := hP
  have hD : va_D A [(oh, .inr (3, [.int 0, .ref q1, .ref q2, .ref q3, .ref q4, .ref q5, .null, .null, .null, .null, .null, .null, .null, .null, .int 0, .int 0, .int 0, .int 0, .int 0])), (q1, .inl (cI, 15, .inl (fun _ => 0))), (q2, .inl (cI, 15, .inl (fun _ => 0))), (q3, .inl (cI, 15, .inl (fun _ => 0))), (q4, .inl (cI, 15, .inl (fun _ => 0))), (q5, .inl (cI, 15, .inl (fun _ => 0))), (q6, .inl (cI, 15, .inl (fun _ => 0)))] := hD
  refine va_putF (D := D) (ci := 3) (v := .ref q6) (ty := .array .int) (C := R_Mo) (T := F_Mo) (N := 19) hx hb hts i_Mo t_Mo t_Mo_ok n_Mo hown hK hP hD hS 0 rfl rfl 6 (by decide) (hts _ k_230) (fun _ h9 => h9) rfl hnm rfl (by decide +kernel) rfl rfl (Nat.le_of_ble_eq_true rfl) d_Mo_init_49 (fun H locs hP hD hS => ?_)
  have hP : va_P D vwCl [(oh, .inr (3, [.int 0, .ref q1, .ref q2, .ref q3, .ref q4, .ref q5, .ref q6, .null, .null, .null, .null, .null, .null, .null, .int 0, .int 0, .int 0, .int 0, .int 0])), (q1, .inl (cI, 15, .inl (fun _ => 0))), (q2, .inl (cI, 15, .inl (fun _ => 0))), (q3, .inl (cI, 15, .inl (fun _ => 0))), (q4, .inl (cI, 15, .inl (fun _ => 0))), (q5, .inl (cI, 15, .inl (fun _ => 0))), (q6, .inl (cI, 15, .inl (fun _ => 0)))] H := hP
  have hD : va_D A [(oh, .inr (3, [.int 0, .ref q1, .ref q2, .ref q3, .ref q4, .ref q5, .ref q6, .null, .null, .null, .null, .null, .null, .null, .int 0, .int 0, .int 0, .int 0, .int 0])), (q1, .inl (cI, 15, .inl (fun _ => 0))), (q2, .inl (cI, 15, .inl (fun _ => 0))), (q3, .inl (cI, 15, .inl (fun _ => 0))), (q4, .inl (cI, 15, .inl (fun _ => 0))), (q5, .inl (cI, 15, .inl (fun _ => 0))), (q6, .inl (cI, 15, .inl (fun _ => 0)))] := hD
  refine lv_aload_n hx hb d_Mo_init_52 rfl (lv_at hl 0 rfl) ?_
  refine lv_bipush (v := (41 : Int32)) hx hb d_Mo_init_53 (by decide) ?_
  refine x_newI (N := 41) hx hb (hts _ k_3) hK hP hD hS hA (by decide) (by decide) (by decide) (Nat.le_of_ble_eq_true rfl) (Nat.le_of_ble_eq_true rfl) d_Mo_init_55 (fun q7 H hP hD hS => ?_)
  have hP : va_P D vwCl [(oh, .inr (3, [.int 0, .ref q1, .ref q2, .ref q3, .ref q4, .ref q5, .ref q6, .null, .null, .null, .null, .null, .null, .null, .int 0, .int 0, .int 0, .int 0, .int 0])), (q1, .inl (cI, 15, .inl (fun _ => 0))), (q2, .inl (cI, 15, .inl (fun _ => 0))), (q3, .inl (cI, 15, .inl (fun _ => 0))), (q4, .inl (cI, 15, .inl (fun _ => 0))), (q5, .inl (cI, 15, .inl (fun _ => 0))), (q6, .inl (cI, 15, .inl (fun _ => 0))), (q7, .inl (cI, 41, .inl (fun _ => 0)))] H := hP
  have hD : va_D A [(oh, .inr (3, [.int 0, .ref q1, .ref q2, .ref q3, .ref q4, .ref q5, .ref q6, .null, .null, .null, .null, .null, .null, .null, .int 0, .int 0, .int 0, .int 0, .int 0])), (q1, .inl (cI, 15, .inl (fun _ => 0))), (q2, .inl (cI, 15, .inl (fun _ => 0))), (q3, .inl (cI, 15, .inl (fun _ => 0))), (q4, .inl (cI, 15, .inl (fun _ => 0))), (q5, .inl (cI, 15, .inl (fun _ => 0))), (q6, .inl (cI, 15, .inl (fun _ => 0))), (q7, .inl (cI, 41, .inl (fun _ => 0)))] := hD
  refine va_putF (D := D) (ci := 3) (v := .ref q7) (ty := .array .int) (C := R_Mo) (T := F_Mo) (N := 19) hx hb hts i_Mo t_Mo t_Mo_ok n_Mo hown hK hP hD hS 0 rfl rfl 7 (by decide) (hts _ k_231) (fun _ h9 => h9) rfl hnm rfl (by decide +kernel) rfl rfl (Nat.le_of_ble_eq_true rfl) d_Mo_init_57 (fun H locs hP hD hS => ?_)
  have hP : va_P D vwCl [(oh, .inr (3, [.int 0, .ref q1, .ref q2, .ref q3, .ref q4, .ref q5, .ref q6, .ref q7, .null, .null, .null, .null, .null, .null, .int 0, .int 0, .int 0, .int 0, .int 0])), (q1, .inl (cI, 15, .inl (fun _ => 0))), (q2, .inl (cI, 15, .inl (fun _ => 0))), (q3, .inl (cI, 15, .inl (fun _ => 0))), (q4, .inl (cI, 15, .inl (fun _ => 0))), (q5, .inl (cI, 15, .inl (fun _ => 0))), (q6, .inl (cI, 15, .inl (fun _ => 0))), (q7, .inl (cI, 41, .inl (fun _ => 0)))] H := hP
  have hD : va_D A [(oh, .inr (3, [.int 0, .ref q1, .ref q2, .ref q3, .ref q4, .ref q5, .ref q6, .ref q7, .null, .null, .null, .null, .null, .null, .int 0, .int 0, .int 0, .int 0, .int 0])), (q1, .inl (cI, 15, .inl (fun _ => 0))), (q2, .inl (cI, 15, .inl (fun _ => 0))), (q3, .inl (cI, 15, .inl (fun _ => 0))), (q4, .inl (cI, 15, .inl (fun _ => 0))), (q5, .inl (cI, 15, .inl (fun _ => 0))), (q6, .inl (cI, 15, .inl (fun _ => 0))), (q7, .inl (cI, 41, .inl (fun _ => 0)))] := hD
  refine lv_aload_n hx hb d_Mo_init_60 rfl (lv_at hl 0 rfl) ?_
  refine lv_bipush (v := (41 : Int32)) hx hb d_Mo_init_61 (by decide) ?_
  refine x_newI (N := 41) hx hb (hts _ k_3) hK hP hD hS hA (by decide) (by decide) (by decide) (Nat.le_of_ble_eq_true rfl) (Nat.le_of_ble_eq_true rfl) d_Mo_init_63 (fun q8 H hP hD hS => ?_)
  have hP : va_P D vwCl [(oh, .inr (3, [.int 0, .ref q1, .ref q2, .ref q3, .ref q4, .ref q5, .ref q6, .ref q7, .null, .null, .null, .null, .null, .null, .int 0, .int 0, .int 0, .int 0, .int 0])), (q1, .inl (cI, 15, .inl (fun _ => 0))), (q2, .inl (cI, 15, .inl (fun _ => 0))), (q3, .inl (cI, 15, .inl (fun _ => 0))), (q4, .inl (cI, 15, .inl (fun _ => 0))), (q5, .inl (cI, 15, .inl (fun _ => 0))), (q6, .inl (cI, 15, .inl (fun _ => 0))), (q7, .inl (cI, 41, .inl (fun _ => 0))), (q8, .inl (cI, 41, .inl (fun _ => 0)))] H := hP
  have hD : va_D A [(oh, .inr (3, [.int 0, .ref q1, .ref q2, .ref q3, .ref q4, .ref q5, .ref q6, .ref q7, .null, .null, .null, .null, .null, .null, .int 0, .int 0, .int 0, .int 0, .int 0])), (q1, .inl (cI, 15, .inl (fun _ => 0))), (q2, .inl (cI, 15, .inl (fun _ => 0))), (q3, .inl (cI, 15, .inl (fun _ => 0))), (q4, .inl (cI, 15, .inl (fun _ => 0))), (q5, .inl (cI, 15, .inl (fun _ => 0))), (q6, .inl (cI, 15, .inl (fun _ => 0))), (q7, .inl (cI, 41, .inl (fun _ => 0))), (q8, .inl (cI, 41, .inl (fun _ => 0)))] := hD
  refine va_putF (D := D) (ci := 3) (v := .ref q8) (ty := .array .int) (C := R_Mo) (T := F_Mo) (N := 19) hx hb hts i_Mo t_Mo t_Mo_ok n_Mo hown hK hP hD hS 0 rfl rfl 8 (by decide) (hts _ k_232) (fun _ h9 => h9) rfl hnm rfl (by decide +kernel) rfl rfl (Nat.le_of_ble_eq_true rfl) d_Mo_init_65 (fun H locs hP hD hS => ?_)
  have hP : va_P D vwCl [(oh, .inr (3, [.int 0, .ref q1, .ref q2, .ref q3, .ref q4, .ref q5, .ref q6, .ref q7, .ref q8, .null, .null, .null, .null, .null, .int 0, .int 0, .int 0, .int 0, .int 0])), (q1, .inl (cI, 15, .inl (fun _ => 0))), (q2, .inl (cI, 15, .inl (fun _ => 0))), (q3, .inl (cI, 15, .inl (fun _ => 0))), (q4, .inl (cI, 15, .inl (fun _ => 0))), (q5, .inl (cI, 15, .inl (fun _ => 0))), (q6, .inl (cI, 15, .inl (fun _ => 0))), (q7, .inl (cI, 41, .inl (fun _ => 0))), (q8, .inl (cI, 41, .inl (fun _ => 0)))] H := hP
  have hD : va_D A [(oh, .inr (3, [.int 0, .ref q1, .ref q2, .ref q3, .ref q4, .ref q5, .ref q6, .ref q7, .ref q8, .null, .null, .null, .null, .null, .int 0, .int 0, .int 0, .int 0, .int 0])), (q1, .inl (cI, 15, .inl (fun _ => 0))), (q2, .inl (cI, 15, .inl (fun _ => 0))), (q3, .inl (cI, 15, .inl (fun _ => 0))), (q4, .inl (cI, 15, .inl (fun _ => 0))), (q5, .inl (cI, 15, .inl (fun _ => 0))), (q6, .inl (cI, 15, .inl (fun _ => 0))), (q7, .inl (cI, 41, .inl (fun _ => 0))), (q8, .inl (cI, 41, .inl (fun _ => 0)))] := hD
  refine lv_aload_n hx hb d_Mo_init_68 rfl (lv_at hl 0 rfl) ?_
  refine lv_bipush (v := (7 : Int32)) hx hb d_Mo_init_69 (by decide) ?_
  refine x_newZ (N := 7) hx hb (hts _ k_233) hK hP hD hS hA (by decide) (by decide) (by decide) (Nat.le_of_ble_eq_true rfl) (Nat.le_of_ble_eq_true rfl) d_Mo_init_71 (fun q9 H hP hD hS => ?_)
  have hP : va_P D vwCl [(oh, .inr (3, [.int 0, .ref q1, .ref q2, .ref q3, .ref q4, .ref q5, .ref q6, .ref q7, .ref q8, .null, .null, .null, .null, .null, .int 0, .int 0, .int 0, .int 0, .int 0])), (q1, .inl (cI, 15, .inl (fun _ => 0))), (q2, .inl (cI, 15, .inl (fun _ => 0))), (q3, .inl (cI, 15, .inl (fun _ => 0))), (q4, .inl (cI, 15, .inl (fun _ => 0))), (q5, .inl (cI, 15, .inl (fun _ => 0))), (q6, .inl (cI, 15, .inl (fun _ => 0))), (q7, .inl (cI, 41, .inl (fun _ => 0))), (q8, .inl (cI, 41, .inl (fun _ => 0))), (q9, .inl (cZ, 7, .inl (fun _ => 0)))] H := hP
  have hD : va_D A [(oh, .inr (3, [.int 0, .ref q1, .ref q2, .ref q3, .ref q4, .ref q5, .ref q6, .ref q7, .ref q8, .null, .null, .null, .null, .null, .int 0, .int 0, .int 0, .int 0, .int 0])), (q1, .inl (cI, 15, .inl (fun _ => 0))), (q2, .inl (cI, 15, .inl (fun _ => 0))), (q3, .inl (cI, 15, .inl (fun _ => 0))), (q4, .inl (cI, 15, .inl (fun _ => 0))), (q5, .inl (cI, 15, .inl (fun _ => 0))), (q6, .inl (cI, 15, .inl (fun _ => 0))), (q7, .inl (cI, 41, .inl (fun _ => 0))), (q8, .inl (cI, 41, .inl (fun _ => 0))), (q9, .inl (cZ, 7, .inl (fun _ => 0)))] := hD
  refine va_putF (D := D) (ci := 3) (v := .ref q9) (ty := .array .boolean) (C := R_Mo) (T := F_Mo) (N := 19) hx hb hts i_Mo t_Mo t_Mo_ok n_Mo hown hK hP hD hS 0 rfl rfl 9 (by decide) (hts _ k_234) (fun _ h9 => h9) rfl hnm rfl (by decide +kernel) rfl rfl (Nat.le_of_ble_eq_true rfl) d_Mo_init_73 (fun H locs hP hD hS => ?_)
  have hP : va_P D vwCl [(oh, .inr (3, [.int 0, .ref q1, .ref q2, .ref q3, .ref q4, .ref q5, .ref q6, .ref q7, .ref q8, .ref q9, .null, .null, .null, .null, .int 0, .int 0, .int 0, .int 0, .int 0])), (q1, .inl (cI, 15, .inl (fun _ => 0))), (q2, .inl (cI, 15, .inl (fun _ => 0))), (q3, .inl (cI, 15, .inl (fun _ => 0))), (q4, .inl (cI, 15, .inl (fun _ => 0))), (q5, .inl (cI, 15, .inl (fun _ => 0))), (q6, .inl (cI, 15, .inl (fun _ => 0))), (q7, .inl (cI, 41, .inl (fun _ => 0))), (q8, .inl (cI, 41, .inl (fun _ => 0))), (q9, .inl (cZ, 7, .inl (fun _ => 0)))] H := hP
  have hD : va_D A [(oh, .inr (3, [.int 0, .ref q1, .ref q2, .ref q3, .ref q4, .ref q5, .ref q6, .ref q7, .ref q8, .ref q9, .null, .null, .null, .null, .int 0, .int 0, .int 0, .int 0, .int 0])), (q1, .inl (cI, 15, .inl (fun _ => 0))), (q2, .inl (cI, 15, .inl (fun _ => 0))), (q3, .inl (cI, 15, .inl (fun _ => 0))), (q4, .inl (cI, 15, .inl (fun _ => 0))), (q5, .inl (cI, 15, .inl (fun _ => 0))), (q6, .inl (cI, 15, .inl (fun _ => 0))), (q7, .inl (cI, 41, .inl (fun _ => 0))), (q8, .inl (cI, 41, .inl (fun _ => 0))), (q9, .inl (cZ, 7, .inl (fun _ => 0)))] := hD
  refine lv_aload_n hx hb d_Mo_init_76 rfl (lv_at hl 0 rfl) ?_
  refine lv_bipush (v := (7 : Int32)) hx hb d_Mo_init_77 (by decide) ?_
  refine x_newI (N := 7) hx hb (hts _ k_3) hK hP hD hS hA (by decide) (by decide) (by decide) (Nat.le_of_ble_eq_true rfl) (Nat.le_of_ble_eq_true rfl) d_Mo_init_79 (fun q10 H hP hD hS => ?_)
  have hP : va_P D vwCl [(oh, .inr (3, [.int 0, .ref q1, .ref q2, .ref q3, .ref q4, .ref q5, .ref q6, .ref q7, .ref q8, .ref q9, .null, .null, .null, .null, .int 0, .int 0, .int 0, .int 0, .int 0])), (q1, .inl (cI, 15, .inl (fun _ => 0))), (q2, .inl (cI, 15, .inl (fun _ => 0))), (q3, .inl (cI, 15, .inl (fun _ => 0))), (q4, .inl (cI, 15, .inl (fun _ => 0))), (q5, .inl (cI, 15, .inl (fun _ => 0))), (q6, .inl (cI, 15, .inl (fun _ => 0))), (q7, .inl (cI, 41, .inl (fun _ => 0))), (q8, .inl (cI, 41, .inl (fun _ => 0))), (q9, .inl (cZ, 7, .inl (fun _ => 0))), (q10, .inl (cI, 7, .inl (fun _ => 0)))] H := hP
  have hD : va_D A [(oh, .inr (3, [.int 0, .ref q1, .ref q2, .ref q3, .ref q4, .ref q5, .ref q6, .ref q7, .ref q8, .ref q9, .null, .null, .null, .null, .int 0, .int 0, .int 0, .int 0, .int 0])), (q1, .inl (cI, 15, .inl (fun _ => 0))), (q2, .inl (cI, 15, .inl (fun _ => 0))), (q3, .inl (cI, 15, .inl (fun _ => 0))), (q4, .inl (cI, 15, .inl (fun _ => 0))), (q5, .inl (cI, 15, .inl (fun _ => 0))), (q6, .inl (cI, 15, .inl (fun _ => 0))), (q7, .inl (cI, 41, .inl (fun _ => 0))), (q8, .inl (cI, 41, .inl (fun _ => 0))), (q9, .inl (cZ, 7, .inl (fun _ => 0))), (q10, .inl (cI, 7, .inl (fun _ => 0)))] := hD
  refine va_putF (D := D) (ci := 3) (v := .ref q10) (ty := .array .int) (C := R_Mo) (T := F_Mo) (N := 19) hx hb hts i_Mo t_Mo t_Mo_ok n_Mo hown hK hP hD hS 0 rfl rfl 10 (by decide) (hts _ k_235) (fun _ h9 => h9) rfl hnm rfl (by decide +kernel) rfl rfl (Nat.le_of_ble_eq_true rfl) d_Mo_init_81 (fun H locs hP hD hS => ?_)
  have hP : va_P D vwCl [(oh, .inr (3, [.int 0, .ref q1, .ref q2, .ref q3, .ref q4, .ref q5, .ref q6, .ref q7, .ref q8, .ref q9, .ref q10, .null, .null, .null, .int 0, .int 0, .int 0, .int 0, .int 0])), (q1, .inl (cI, 15, .inl (fun _ => 0))), (q2, .inl (cI, 15, .inl (fun _ => 0))), (q3, .inl (cI, 15, .inl (fun _ => 0))), (q4, .inl (cI, 15, .inl (fun _ => 0))), (q5, .inl (cI, 15, .inl (fun _ => 0))), (q6, .inl (cI, 15, .inl (fun _ => 0))), (q7, .inl (cI, 41, .inl (fun _ => 0))), (q8, .inl (cI, 41, .inl (fun _ => 0))), (q9, .inl (cZ, 7, .inl (fun _ => 0))), (q10, .inl (cI, 7, .inl (fun _ => 0)))] H := hP
  have hD : va_D A [(oh, .inr (3, [.int 0, .ref q1, .ref q2, .ref q3, .ref q4, .ref q5, .ref q6, .ref q7, .ref q8, .ref q9, .ref q10, .null, .null, .null, .int 0, .int 0, .int 0, .int 0, .int 0])), (q1, .inl (cI, 15, .inl (fun _ => 0))), (q2, .inl (cI, 15, .inl (fun _ => 0))), (q3, .inl (cI, 15, .inl (fun _ => 0))), (q4, .inl (cI, 15, .inl (fun _ => 0))), (q5, .inl (cI, 15, .inl (fun _ => 0))), (q6, .inl (cI, 15, .inl (fun _ => 0))), (q7, .inl (cI, 41, .inl (fun _ => 0))), (q8, .inl (cI, 41, .inl (fun _ => 0))), (q9, .inl (cZ, 7, .inl (fun _ => 0))), (q10, .inl (cI, 7, .inl (fun _ => 0)))] := hD
  refine lv_aload_n hx hb d_Mo_init_84 rfl (lv_at hl 0 rfl) ?_
  refine lv_bipush (v := (41 : Int32)) hx hb d_Mo_init_85 (by decide) ?_
  refine x_newI (N := 41) hx hb (hts _ k_3) hK hP hD hS hA (by decide) (by decide) (by decide) (Nat.le_of_ble_eq_true rfl) (Nat.le_of_ble_eq_true rfl) d_Mo_init_87 (fun q11 H hP hD hS => ?_)
  have hP : va_P D vwCl [(oh, .inr (3, [.int 0, .ref q1, .ref q2, .ref q3, .ref q4, .ref q5, .ref q6, .ref q7, .ref q8, .ref q9, .ref q10, .null, .null, .null, .int 0, .int 0, .int 0, .int 0, .int 0])), (q1, .inl (cI, 15, .inl (fun _ => 0))), (q2, .inl (cI, 15, .inl (fun _ => 0))), (q3, .inl (cI, 15, .inl (fun _ => 0))), (q4, .inl (cI, 15, .inl (fun _ => 0))), (q5, .inl (cI, 15, .inl (fun _ => 0))), (q6, .inl (cI, 15, .inl (fun _ => 0))), (q7, .inl (cI, 41, .inl (fun _ => 0))), (q8, .inl (cI, 41, .inl (fun _ => 0))), (q9, .inl (cZ, 7, .inl (fun _ => 0))), (q10, .inl (cI, 7, .inl (fun _ => 0))), (q11, .inl (cI, 41, .inl (fun _ => 0)))] H := hP
  have hD : va_D A [(oh, .inr (3, [.int 0, .ref q1, .ref q2, .ref q3, .ref q4, .ref q5, .ref q6, .ref q7, .ref q8, .ref q9, .ref q10, .null, .null, .null, .int 0, .int 0, .int 0, .int 0, .int 0])), (q1, .inl (cI, 15, .inl (fun _ => 0))), (q2, .inl (cI, 15, .inl (fun _ => 0))), (q3, .inl (cI, 15, .inl (fun _ => 0))), (q4, .inl (cI, 15, .inl (fun _ => 0))), (q5, .inl (cI, 15, .inl (fun _ => 0))), (q6, .inl (cI, 15, .inl (fun _ => 0))), (q7, .inl (cI, 41, .inl (fun _ => 0))), (q8, .inl (cI, 41, .inl (fun _ => 0))), (q9, .inl (cZ, 7, .inl (fun _ => 0))), (q10, .inl (cI, 7, .inl (fun _ => 0))), (q11, .inl (cI, 41, .inl (fun _ => 0)))] := hD
  refine va_putF (D := D) (ci := 3) (v := .ref q11) (ty := .array .int) (C := R_Mo) (T := F_Mo) (N := 19) hx hb hts i_Mo t_Mo t_Mo_ok n_Mo hown hK hP hD hS 0 rfl rfl 11 (by decide) (hts _ k_236) (fun _ h9 => h9) rfl hnm rfl (by decide +kernel) rfl rfl (Nat.le_of_ble_eq_true rfl) d_Mo_init_89 (fun H locs hP hD hS => ?_)
  have hP : va_P D vwCl [(oh, .inr (3, [.int 0, .ref q1, .ref q2, .ref q3, .ref q4, .ref q5, .ref q6, .ref q7, .ref q8, .ref q9, .ref q10, .ref q11, .null, .null, .int 0, .int 0, .int 0, .int 0, .int 0])), (q1, .inl (cI, 15, .inl (fun _ => 0))), (q2, .inl (cI, 15, .inl (fun _ => 0))), (q3, .inl (cI, 15, .inl (fun _ => 0))), (q4, .inl (cI, 15, .inl (fun _ => 0))), (q5, .inl (cI, 15, .inl (fun _ => 0))), (q6, .inl (cI, 15, .inl (fun _ => 0))), (q7, .inl (cI, 41, .inl (fun _ => 0))), (q8, .inl (cI, 41, .inl (fun _ => 0))), (q9, .inl (cZ, 7, .inl (fun _ => 0))), (q10, .inl (cI, 7, .inl (fun _ => 0))), (q11, .inl (cI, 41, .inl (fun _ => 0)))] H := hP
  have hD : va_D A [(oh, .inr (3, [.int 0, .ref q1, .ref q2, .ref q3, .ref q4, .ref q5, .ref q6, .ref q7, .ref q8, .ref q9, .ref q10, .ref q11, .null, .null, .int 0, .int 0, .int 0, .int 0, .int 0])), (q1, .inl (cI, 15, .inl (fun _ => 0))), (q2, .inl (cI, 15, .inl (fun _ => 0))), (q3, .inl (cI, 15, .inl (fun _ => 0))), (q4, .inl (cI, 15, .inl (fun _ => 0))), (q5, .inl (cI, 15, .inl (fun _ => 0))), (q6, .inl (cI, 15, .inl (fun _ => 0))), (q7, .inl (cI, 41, .inl (fun _ => 0))), (q8, .inl (cI, 41, .inl (fun _ => 0))), (q9, .inl (cZ, 7, .inl (fun _ => 0))), (q10, .inl (cI, 7, .inl (fun _ => 0))), (q11, .inl (cI, 41, .inl (fun _ => 0)))] := hD
  refine lv_aload_n hx hb d_Mo_init_92 rfl (lv_at hl 0 rfl) ?_
  refine lv_bipush (v := (41 : Int32)) hx hb d_Mo_init_93 (by decide) ?_
  refine x_newL (N := 41) hx hb (hts _ k_93) hK hP hD hS hA (by decide) (by decide) (by decide) (Nat.le_of_ble_eq_true rfl) (Nat.le_of_ble_eq_true rfl) d_Mo_init_95 (fun q12 H hP hD hS => ?_)
  have hP : va_P D vwCl [(oh, .inr (3, [.int 0, .ref q1, .ref q2, .ref q3, .ref q4, .ref q5, .ref q6, .ref q7, .ref q8, .ref q9, .ref q10, .ref q11, .null, .null, .int 0, .int 0, .int 0, .int 0, .int 0])), (q1, .inl (cI, 15, .inl (fun _ => 0))), (q2, .inl (cI, 15, .inl (fun _ => 0))), (q3, .inl (cI, 15, .inl (fun _ => 0))), (q4, .inl (cI, 15, .inl (fun _ => 0))), (q5, .inl (cI, 15, .inl (fun _ => 0))), (q6, .inl (cI, 15, .inl (fun _ => 0))), (q7, .inl (cI, 41, .inl (fun _ => 0))), (q8, .inl (cI, 41, .inl (fun _ => 0))), (q9, .inl (cZ, 7, .inl (fun _ => 0))), (q10, .inl (cI, 7, .inl (fun _ => 0))), (q11, .inl (cI, 41, .inl (fun _ => 0))), (q12, .inl (cJ, 41, .inr (.inl (fun _ => 0))))] H := hP
  have hD : va_D A [(oh, .inr (3, [.int 0, .ref q1, .ref q2, .ref q3, .ref q4, .ref q5, .ref q6, .ref q7, .ref q8, .ref q9, .ref q10, .ref q11, .null, .null, .int 0, .int 0, .int 0, .int 0, .int 0])), (q1, .inl (cI, 15, .inl (fun _ => 0))), (q2, .inl (cI, 15, .inl (fun _ => 0))), (q3, .inl (cI, 15, .inl (fun _ => 0))), (q4, .inl (cI, 15, .inl (fun _ => 0))), (q5, .inl (cI, 15, .inl (fun _ => 0))), (q6, .inl (cI, 15, .inl (fun _ => 0))), (q7, .inl (cI, 41, .inl (fun _ => 0))), (q8, .inl (cI, 41, .inl (fun _ => 0))), (q9, .inl (cZ, 7, .inl (fun _ => 0))), (q10, .inl (cI, 7, .inl (fun _ => 0))), (q11, .inl (cI, 41, .inl (fun _ => 0))), (q12, .inl (cJ, 41, .inr (.inl (fun _ => 0))))] := hD
  refine va_putF (D := D) (ci := 3) (v := .ref q12) (ty := .array .long) (C := R_Mo) (T := F_Mo) (N := 19) hx hb hts i_Mo t_Mo t_Mo_ok n_Mo hown hK hP hD hS 0 rfl rfl 12 (by decide) (hts _ k_237) (fun _ h9 => h9) rfl hnm rfl (by decide +kernel) rfl rfl (Nat.le_of_ble_eq_true rfl) d_Mo_init_97 (fun H locs hP hD hS => ?_)
  have hP : va_P D vwCl [(oh, .inr (3, [.int 0, .ref q1, .ref q2, .ref q3, .ref q4, .ref q5, .ref q6, .ref q7, .ref q8, .ref q9, .ref q10, .ref q11, .ref q12, .null, .int 0, .int 0, .int 0, .int 0, .int 0])), (q1, .inl (cI, 15, .inl (fun _ => 0))), (q2, .inl (cI, 15, .inl (fun _ => 0))), (q3, .inl (cI, 15, .inl (fun _ => 0))), (q4, .inl (cI, 15, .inl (fun _ => 0))), (q5, .inl (cI, 15, .inl (fun _ => 0))), (q6, .inl (cI, 15, .inl (fun _ => 0))), (q7, .inl (cI, 41, .inl (fun _ => 0))), (q8, .inl (cI, 41, .inl (fun _ => 0))), (q9, .inl (cZ, 7, .inl (fun _ => 0))), (q10, .inl (cI, 7, .inl (fun _ => 0))), (q11, .inl (cI, 41, .inl (fun _ => 0))), (q12, .inl (cJ, 41, .inr (.inl (fun _ => 0))))] H := hP
  have hD : va_D A [(oh, .inr (3, [.int 0, .ref q1, .ref q2, .ref q3, .ref q4, .ref q5, .ref q6, .ref q7, .ref q8, .ref q9, .ref q10, .ref q11, .ref q12, .null, .int 0, .int 0, .int 0, .int 0, .int 0])), (q1, .inl (cI, 15, .inl (fun _ => 0))), (q2, .inl (cI, 15, .inl (fun _ => 0))), (q3, .inl (cI, 15, .inl (fun _ => 0))), (q4, .inl (cI, 15, .inl (fun _ => 0))), (q5, .inl (cI, 15, .inl (fun _ => 0))), (q6, .inl (cI, 15, .inl (fun _ => 0))), (q7, .inl (cI, 41, .inl (fun _ => 0))), (q8, .inl (cI, 41, .inl (fun _ => 0))), (q9, .inl (cZ, 7, .inl (fun _ => 0))), (q10, .inl (cI, 7, .inl (fun _ => 0))), (q11, .inl (cI, 41, .inl (fun _ => 0))), (q12, .inl (cJ, 41, .inr (.inl (fun _ => 0))))] := hD
  refine lv_aload_n hx hb d_Mo_init_100 rfl (lv_at hl 0 rfl) ?_
  refine lv_bipush (v := (8 : Int32)) hx hb d_Mo_init_101 (by decide) ?_
  refine x_newI (N := 8) hx hb (hts _ k_3) hK hP hD hS hA (by decide) (by decide) (by decide) (Nat.le_of_ble_eq_true rfl) (Nat.le_of_ble_eq_true rfl) d_Mo_init_103 (fun q13 H hP hD hS => ?_)
  have hP : va_P D vwCl [(oh, .inr (3, [.int 0, .ref q1, .ref q2, .ref q3, .ref q4, .ref q5, .ref q6, .ref q7, .ref q8, .ref q9, .ref q10, .ref q11, .ref q12, .null, .int 0, .int 0, .int 0, .int 0, .int 0])), (q1, .inl (cI, 15, .inl (fun _ => 0))), (q2, .inl (cI, 15, .inl (fun _ => 0))), (q3, .inl (cI, 15, .inl (fun _ => 0))), (q4, .inl (cI, 15, .inl (fun _ => 0))), (q5, .inl (cI, 15, .inl (fun _ => 0))), (q6, .inl (cI, 15, .inl (fun _ => 0))), (q7, .inl (cI, 41, .inl (fun _ => 0))), (q8, .inl (cI, 41, .inl (fun _ => 0))), (q9, .inl (cZ, 7, .inl (fun _ => 0))), (q10, .inl (cI, 7, .inl (fun _ => 0))), (q11, .inl (cI, 41, .inl (fun _ => 0))), (q12, .inl (cJ, 41, .inr (.inl (fun _ => 0)))), (q13, .inl (cI, 8, .inl (fun _ => 0)))] H := hP
  have hD : va_D A [(oh, .inr (3, [.int 0, .ref q1, .ref q2, .ref q3, .ref q4, .ref q5, .ref q6, .ref q7, .ref q8, .ref q9, .ref q10, .ref q11, .ref q12, .null, .int 0, .int 0, .int 0, .int 0, .int 0])), (q1, .inl (cI, 15, .inl (fun _ => 0))), (q2, .inl (cI, 15, .inl (fun _ => 0))), (q3, .inl (cI, 15, .inl (fun _ => 0))), (q4, .inl (cI, 15, .inl (fun _ => 0))), (q5, .inl (cI, 15, .inl (fun _ => 0))), (q6, .inl (cI, 15, .inl (fun _ => 0))), (q7, .inl (cI, 41, .inl (fun _ => 0))), (q8, .inl (cI, 41, .inl (fun _ => 0))), (q9, .inl (cZ, 7, .inl (fun _ => 0))), (q10, .inl (cI, 7, .inl (fun _ => 0))), (q11, .inl (cI, 41, .inl (fun _ => 0))), (q12, .inl (cJ, 41, .inr (.inl (fun _ => 0)))), (q13, .inl (cI, 8, .inl (fun _ => 0)))] := hD
  refine va_putF (D := D) (ci := 3) (v := .ref q13) (ty := .array .int) (C := R_Mo) (T := F_Mo) (N := 19) hx hb hts i_Mo t_Mo t_Mo_ok n_Mo hown hK hP hD hS 0 rfl rfl 13 (by decide) (hts _ k_238) (fun _ h9 => h9) rfl hnm rfl (by decide +kernel) rfl rfl (Nat.le_of_ble_eq_true rfl) d_Mo_init_105 (fun H locs hP hD hS => ?_)
  have hP : va_P D vwCl [(oh, .inr (3, [.int 0, .ref q1, .ref q2, .ref q3, .ref q4, .ref q5, .ref q6, .ref q7, .ref q8, .ref q9, .ref q10, .ref q11, .ref q12, .ref q13, .int 0, .int 0, .int 0, .int 0, .int 0])), (q1, .inl (cI, 15, .inl (fun _ => 0))), (q2, .inl (cI, 15, .inl (fun _ => 0))), (q3, .inl (cI, 15, .inl (fun _ => 0))), (q4, .inl (cI, 15, .inl (fun _ => 0))), (q5, .inl (cI, 15, .inl (fun _ => 0))), (q6, .inl (cI, 15, .inl (fun _ => 0))), (q7, .inl (cI, 41, .inl (fun _ => 0))), (q8, .inl (cI, 41, .inl (fun _ => 0))), (q9, .inl (cZ, 7, .inl (fun _ => 0))), (q10, .inl (cI, 7, .inl (fun _ => 0))), (q11, .inl (cI, 41, .inl (fun _ => 0))), (q12, .inl (cJ, 41, .inr (.inl (fun _ => 0)))), (q13, .inl (cI, 8, .inl (fun _ => 0)))] H := hP
  have hD : va_D A [(oh, .inr (3, [.int 0, .ref q1, .ref q2, .ref q3, .ref q4, .ref q5, .ref q6, .ref q7, .ref q8, .ref q9, .ref q10, .ref q11, .ref q12, .ref q13, .int 0, .int 0, .int 0, .int 0, .int 0])), (q1, .inl (cI, 15, .inl (fun _ => 0))), (q2, .inl (cI, 15, .inl (fun _ => 0))), (q3, .inl (cI, 15, .inl (fun _ => 0))), (q4, .inl (cI, 15, .inl (fun _ => 0))), (q5, .inl (cI, 15, .inl (fun _ => 0))), (q6, .inl (cI, 15, .inl (fun _ => 0))), (q7, .inl (cI, 41, .inl (fun _ => 0))), (q8, .inl (cI, 41, .inl (fun _ => 0))), (q9, .inl (cZ, 7, .inl (fun _ => 0))), (q10, .inl (cI, 7, .inl (fun _ => 0))), (q11, .inl (cI, 41, .inl (fun _ => 0))), (q12, .inl (cJ, 41, .inr (.inl (fun _ => 0)))), (q13, .inl (cI, 8, .inl (fun _ => 0)))] := hD
  have hP : va_P D vwCl (w_Mo cI cJ cZ oh q1 q2 q3 q4 q5 q6 q7 q8 q9 q10 q11 q12 q13 (((fun _ => 0), ((fun _ => 0), ((fun _ => 0), (fun _ => 0)))), (((fun _ => 0), ((fun _ => 0), ((fun _ => 0), (fun _ => 0)))), ((fun _ => 0), ((fun _ => 0), ((fun _ => 0), ((fun _ => 0), ((fun _ => 0), ((0 : Int32), ((0 : Int32), ((0 : Int32), ((0 : Int32), ((0 : Int32), (0 : Int32)))))))))))))) H := hP.sub [0, 1, 2, 3, 4, 5, 6, 7, 8, 9, 10, 11, 12, 13] rfl
  have hD : va_D A (w_Mo cI cJ cZ oh q1 q2 q3 q4 q5 q6 q7 q8 q9 q10 q11 q12 q13 (((fun _ => 0), ((fun _ => 0), ((fun _ => 0), (fun _ => 0)))), (((fun _ => 0), ((fun _ => 0), ((fun _ => 0), (fun _ => 0)))), ((fun _ => 0), ((fun _ => 0), ((fun _ => 0), ((fun _ => 0), ((fun _ => 0), ((0 : Int32), ((0 : Int32), ((0 : Int32), ((0 : Int32), ((0 : Int32), (0 : Int32)))))))))))))) := hD.sub [0, 1, 2, 3, 4, 5, 6, 7, 8, 9, 10, 11, 12, 13] (by decide) rfl
  have L_110 : ∀ n : Nat, ∀ (x1 : Int32) (U : K_Mo), f_Mo_init_110 N n x1 U = some r → ∀ (H : Heap) (locs : List Loc) (ls : Array Slot), va_P D vwCl (w_Mo cI cJ cZ oh q1 q2 q3 q4 q5 q6 q7 q8 q9 q10 q11 q12 q13 U) H → va_D A (w_Mo cI cJ cZ oh q1 q2 q3 q4 q5 q6 q7 q8 q9 q10 q11 q12 q13 U) → va_S A s.heap H locs → lv_has ls 2 [(0, .ref oh), (1, .int x1)] → W p l e (rm_Mo_init) s m [.ref oh].toArray below meth c H locs 13 276 (xQe D vwCl (tyL cI cJ cZ) below s A (fun a : Nat → Nat => (w_Mo cI cJ cZ oh (a 0) (a 1) (a 2) (a 3) (a 4) (a 5) (a 6) (a 7) (a 8) (a 9) (a 10) (a 11) (a 12) r)) (rm_Mo_init).cells (rm_Mo_init).slots) (F0 m 110 ls []) := by
    intro n
    induction n with
    | zero =>
      intro x1 U hf
      have hf : (none : Option K_Mo) = some r := hf
      cases hf
    | succ n ih =>
      intro x1 U hf H locs ls hP hD hS hl
      rw [f_Mo_init_110] at hf
      refine lv_iload_n hx hb d_Mo_init_110 rfl (lv_at hl 1 rfl) ?_
      refine lv_bipush (v := (15 : Int32)) hx hb d_Mo_init_111 (by decide) ?_
      refine lv_icmp_ge (tgt := 136) hx hb d_Mo_init_113 (by decide) (fun c3 => ?_) (fun c3 => ?_)
      · have hf := x_ifp c3 hf
        obtain rfl := Option.some.inj hf
        exact x_vretE (fun k => match k with | 0 => q1 | 1 => q2 | 2 => q3 | 3 => q4 | 4 => q5 | 5 => q6 | 6 => q7 | 7 => q8 | 8 => q9 | 9 => q10 | 10 => q11 | 11 => q12 | _ => q13) hx hb hr hlocks hK hP hD hS (Nat.le_of_ble_eq_true rfl) (Nat.le_of_ble_eq_true rfl) d_Mo_init_136
      · have hf := x_ifn c3 hf
        refine lv_aload_n hx hb d_Mo_init_116 rfl (lv_at hl 0 rfl) ?_
        refine va_get (D := D) (ci := 3) (v := .ref q3) (C := R_Mo) (T := F_Mo) (N := 19) hx hb hts i_Mo hown hK hP 0 rfl rfl 3 (by decide) (hts _ k_227) (fun _ h9 => h9) rfl d_Mo_init_117 ?_
        refine lv_iload_n hx hb d_Mo_init_120 rfl (lv_at hl 1 rfl) ?_
        refine lv_iconst (v := (-1 : Int32)) hx hb d_Mo_init_121 (by decide) ?_
        obtain ⟨g1, hf⟩ := x_if hf
        refine va_iast hx hb hK hP hD hS 3 0 rfl rfl (xi_in g1) d_Mo_init_122 (fun H locs hP hD hS => ?_)
        have hP : va_P D vwCl (w_Mo cI cJ cZ oh q1 q2 q3 q4 q5 q6 q7 q8 q9 q10 q11 q12 q13 ((U.1.1, (U.1.2.1, ((upd U.1.2.2.1 x1.toNatClampNeg (-1 : Int32)), U.1.2.2.2))), U.2)) H := hP
        have hD : va_D A (w_Mo cI cJ cZ oh q1 q2 q3 q4 q5 q6 q7 q8 q9 q10 q11 q12 q13 ((U.1.1, (U.1.2.1, ((upd U.1.2.2.1 x1.toNatClampNeg (-1 : Int32)), U.1.2.2.2))), U.2)) := hD
        refine lv_aload_n hx hb d_Mo_init_123 rfl (lv_at hl 0 rfl) ?_
        refine va_get (D := D) (ci := 3) (v := .ref q6) (C := R_Mo) (T := F_Mo) (N := 19) hx hb hts i_Mo hown hK hP 0 rfl rfl 6 (by decide) (hts _ k_230) (fun _ h9 => h9) rfl d_Mo_init_124 ?_
        refine lv_iload_n hx hb d_Mo_init_127 rfl (lv_at hl 1 rfl) ?_
        refine lv_iconst (v := (-1 : Int32)) hx hb d_Mo_init_128 (by decide) ?_
        obtain ⟨g2, hf⟩ := x_if hf
        refine va_iast hx hb hK hP hD hS 6 0 rfl rfl (xi_in g2) d_Mo_init_129 (fun H locs hP hD hS => ?_)
        have hP : va_P D vwCl (w_Mo cI cJ cZ oh q1 q2 q3 q4 q5 q6 q7 q8 q9 q10 q11 q12 q13 ((U.1.1, (U.1.2.1, ((upd U.1.2.2.1 x1.toNatClampNeg (-1 : Int32)), U.1.2.2.2))), ((U.2.1.1, (U.2.1.2.1, ((upd U.2.1.2.2.1 x1.toNatClampNeg (-1 : Int32)), U.2.1.2.2.2))), U.2.2))) H := hP
        have hD : va_D A (w_Mo cI cJ cZ oh q1 q2 q3 q4 q5 q6 q7 q8 q9 q10 q11 q12 q13 ((U.1.1, (U.1.2.1, ((upd U.1.2.2.1 x1.toNatClampNeg (-1 : Int32)), U.1.2.2.2))), ((U.2.1.1, (U.2.1.2.1, ((upd U.2.1.2.2.1 x1.toNatClampNeg (-1 : Int32)), U.2.1.2.2.2))), U.2.2))) := hD
        refine lv_iinc (v := (x1 + (1 : Int32))) (lv' := [(1, .int (x1 + (1 : Int32))), (0, .ref oh)]) hx hb d_Mo_init_130 hl (k := 1) rfl rfl (by decide) rfl (fun ls hl => ?_)
        refine lv_goto (tgt := 110) hx hb d_Mo_init_133 (by decide) ?_
        exact ih _ _ hf _ _ _ hP hD hS (lv_sub hl [1, 0] rfl)
  refine lv_iconst (v := (0 : Int32)) hx hb d_Mo_init_108 (by decide) ?_
  refine lv_istore_n (lv' := [(1, .int (0 : Int32)), (0, .ref oh)]) hx hb d_Mo_init_109 rfl hl (by decide) rfl (fun ls hl => ?_)
  exact L_110 _ _ _ hf _ _ _ hP hD hS (lv_sub hl [1, 0] rfl)
set_option maxHeartbeats 4000000 in
set_option maxRecDepth 100000 in
theorem c_Mo_thrown (l : Launch) (D : va_G) (cI cJ cZ : ClassId) (oh o0 o1 o2 o3 o4 o5 o6 o7 o8 o9 o10 o11 o12 : Nat) (N : Nat) (U : K_Mo) (r : (Int32 × K_Mo)) (hf : f_Mo_thrown N U = some r) : Cx l y_Mo_thrown ws_Mo_thrown rm_Mo_thrown D vwCl (tyL cI cJ cZ) [.ref oh] (w_Mo cI cJ cZ oh o0 o1 o2 o3 o4 o5 o6 o7 o8 o9 o10 o11 o12 U) (oI r.1) (w_Mo cI cJ cZ oh o0 o1 o2 o3 o4 o5 o6 o7 o8 o9 o10 o11 o12 r.2) := by
  unfold f_Mo_thrown at hf
  refine Cx.ofW (cc := b_Mo_thrown) (maxL := 1) (ret := (some .int)) (by decide) rfl ?_
  intro p e s m below meth c A C0 hP hK hD hA hns hZ
  obtain ⟨hx, hb, hml, hown, hts0, hr, hlocks, hnm, hno⟩ := C0
  have hown : s.vm.findClass R_Mo = some m.cls := hown
  have hts : ∀ w ∈ tb, w.before [.ref oh].toArray s = true := fun w h => hts0 w (List.mem_cons_of_mem _ h)
  have hS : va_S A s.heap s.heap [] := va_S.rf
  have hl := lv_entry ([.ref oh]) (n := 1) (Nat.le_of_ble_eq_true rfl)
  rw [lg_entry_eq]
  generalize (lg_sl ([.ref oh]) ++ List.replicate (1 - (lg_sl ([.ref oh])).length) Slot.unset).toArray = ls at hl ⊢
  have hl : lv_has ls 1 [(0, .ref oh)] := hl
  refine lv_aload_n hx hb d_Mo_thrown_0 rfl (lv_at hl 0 rfl) ?_
  refine va_get (D := D) (ci := 3) (v := .int U.2.2.2.2.2.2.2.1) (C := R_Mo) (T := F_Mo) (N := 19) hx hb hts i_Mo hown hK hP 0 rfl rfl 0 (by decide) (hts _ k_239) (fun _ h9 => h9) rfl d_Mo_thrown_1 ?_
  obtain rfl := Option.some.inj hf
  exact x_iret hx hb hr hlocks hK hP hD hS (Nat.le_of_ble_eq_true rfl) (Nat.le_of_ble_eq_true rfl) d_Mo_thrown_4
set_option maxHeartbeats 4000000 in
set_option maxRecDepth 100000 in
theorem c_Mo_raise (l : Launch) (D : va_G) (cI cJ cZ : ClassId) (oh o0 o1 o2 o3 o4 o5 o6 o7 o8 o9 o10 o11 o12 : Nat) (N : Nat) (p0 : Int32) (U : K_Mo) (r : (Int32 × K_Mo)) (hf : f_Mo_raise N p0 U = some r) : Cx l y_Mo_raise ws_Mo_raise rm_Mo_raise D vwCl (tyL cI cJ cZ) [.ref oh, .int p0] (w_Mo cI cJ cZ oh o0 o1 o2 o3 o4 o5 o6 o7 o8 o9 o10 o11 o12 U) (oI r.1) (w_Mo cI cJ cZ oh o0 o1 o2 o3 o4 o5 o6 o7 o8 o9 o10 o11 o12 r.2) := by
  unfold f_Mo_raise at hf
  refine Cx.ofW (cc := b_Mo_raise) (maxL := 2) (ret := (some .int)) (by decide) rfl ?_
  intro p e s m below meth c A C0 hP hK hD hA hns hZ
  obtain ⟨hx, hb, hml, hown, hts0, hr, hlocks, hnm, hno⟩ := C0
  have hown : s.vm.findClass R_Mo = some m.cls := hown
  have hts : ∀ w ∈ tb, w.before [.ref oh, .int p0].toArray s = true := fun w h => hts0 w (List.mem_cons_of_mem _ h)
  have hS : va_S A s.heap s.heap [] := va_S.rf
  have hl := lv_entry ([.ref oh, .int p0]) (n := 2) (Nat.le_of_ble_eq_true rfl)
  rw [lg_entry_eq]
  generalize (lg_sl ([.ref oh, .int p0]) ++ List.replicate (2 - (lg_sl ([.ref oh, .int p0])).length) Slot.unset).toArray = ls at hl ⊢
  have hl : lv_has ls 2 [(0, .ref oh), (1, .int p0)] := hl
  refine lv_aload_n hx hb d_Mo_raise_0 rfl (lv_at hl 0 rfl) ?_
  refine lv_iload_n hx hb d_Mo_raise_1 rfl (lv_at hl 1 rfl) ?_
  refine va_put (D := D) (ci := 3) (v := .int p0) (ty := .int) (C := R_Mo) (T := F_Mo) (N := 19) hx hb hts i_Mo t_Mo t_Mo_ok n_Mo hown hK hP hD hS 0 rfl rfl 0 (by decide) (hts _ k_239) (fun _ h9 => h9) rfl (by decide +kernel) rfl rfl (Nat.le_of_ble_eq_true rfl) d_Mo_raise_2 (fun H locs hP hD hS => ?_)
  have hP : va_P D vwCl (w_Mo cI cJ cZ oh o0 o1 o2 o3 o4 o5 o6 o7 o8 o9 o10 o11 o12 (U.1, (U.2.1, (U.2.2.1, (U.2.2.2.1, (U.2.2.2.2.1, (U.2.2.2.2.2.1, (U.2.2.2.2.2.2.1, (p0, U.2.2.2.2.2.2.2.2))))))))) H := hP
  have hD : va_D A (w_Mo cI cJ cZ oh o0 o1 o2 o3 o4 o5 o6 o7 o8 o9 o10 o11 o12 (U.1, (U.2.1, (U.2.2.1, (U.2.2.2.1, (U.2.2.2.2.1, (U.2.2.2.2.2.1, (U.2.2.2.2.2.2.1, (p0, U.2.2.2.2.2.2.2.2))))))))) := hD
  refine lv_iconst (v := (0 : Int32)) hx hb d_Mo_raise_5 (by decide) ?_
  obtain rfl := Option.some.inj hf
  exact x_iret hx hb hr hlocks hK hP hD hS (Nat.le_of_ble_eq_true rfl) (Nat.le_of_ble_eq_true rfl) d_Mo_raise_6
set_option maxHeartbeats 4000000 in
set_option maxRecDepth 100000 in
theorem c_Mo_in (l : Launch) (D : va_G) (cI cJ cZ : ClassId) (N : Nat) (p0 : Int32) (p1 : Int32) (p2 : Int32) (r : Int32) (hf : f_Mo_in N p0 p1 p2 = some r) : Cx l y_Mo_in ws_Mo_in rm_Mo_in D vwCl (tyL cI cJ cZ) [.int p0, .int p1, .int p2] [] (oI r) [] := by
  unfold f_Mo_in at hf
  refine Cx.ofW (cc := b_Mo_in) (maxL := 3) (ret := (some .boolean)) (by decide) rfl ?_
  intro p e s m below meth c A C0 hP hK hD hA hns hZ
  obtain ⟨hx, hb, hml, hown, hts0, hr, hlocks, hnm, hno⟩ := C0
  have hown : s.vm.findClass R_Mo = some m.cls := hown
  have hts : ∀ w ∈ tb, w.before [.int p0, .int p1, .int p2].toArray s = true := fun w h => hts0 w (List.mem_cons_of_mem _ h)
  have hS : va_S A s.heap s.heap [] := va_S.rf
  have hl := lv_entry ([.int p0, .int p1, .int p2]) (n := 3) (Nat.le_of_ble_eq_true rfl)
  rw [lg_entry_eq]
  generalize (lg_sl ([.int p0, .int p1, .int p2]) ++ List.replicate (3 - (lg_sl ([.int p0, .int p1, .int p2])).length) Slot.unset).toArray = ls at hl ⊢
  have hl : lv_has ls 3 [(0, .int p0), (1, .int p1), (2, .int p2)] := hl
  refine lv_iload_n hx hb d_Mo_in_0 rfl (lv_at hl 0 rfl) ?_
  refine lv_iload_n hx hb d_Mo_in_1 rfl (lv_at hl 1 rfl) ?_
  refine lv_icmp_lt (tgt := 14) hx hb d_Mo_in_2 (by decide) (fun c2 => ?_) (fun c2 => ?_)
  · have hf := x_ifp c2 hf
    refine lv_iconst (v := (0 : Int32)) hx hb d_Mo_in_14 (by decide) ?_
    obtain rfl := Option.some.inj hf
    exact x_zret hx hb hr hlocks (x_nb (Or.inl rfl)) hK hP hD hS (Nat.le_of_ble_eq_true rfl) (Nat.le_of_ble_eq_true rfl) d_Mo_in_15
  · have hf := x_ifn c2 hf
    refine lv_iload_n hx hb d_Mo_in_5 rfl (lv_at hl 0 rfl) ?_
    refine lv_iload_n hx hb d_Mo_in_6 rfl (lv_at hl 2 rfl) ?_
    refine lv_icmp_gt (tgt := 14) hx hb d_Mo_in_7 (by decide) (fun c1 => ?_) (fun c1 => ?_)
    · have hf := x_ifp c1 hf
      refine lv_iconst (v := (0 : Int32)) hx hb d_Mo_in_14 (by decide) ?_
      obtain rfl := Option.some.inj hf
      exact x_zret hx hb hr hlocks (x_nb (Or.inl rfl)) hK hP hD hS (Nat.le_of_ble_eq_true rfl) (Nat.le_of_ble_eq_true rfl) d_Mo_in_15
    · have hf := x_ifn c1 hf
      refine lv_iconst (v := (1 : Int32)) hx hb d_Mo_in_10 (by decide) ?_
      refine lv_goto (tgt := 15) hx hb d_Mo_in_11 (by decide) ?_
      obtain rfl := Option.some.inj hf
      exact x_zret hx hb hr hlocks (x_nb (Or.inr rfl)) hK hP hD hS (Nat.le_of_ble_eq_true rfl) (Nat.le_of_ble_eq_true rfl) d_Mo_in_15
set_option maxHeartbeats 4000000 in
set_option maxRecDepth 100000 in
theorem c_Mo_pageOf (l : Launch) (D : va_G) (cI cJ cZ : ClassId) (N : Nat) (p0 : Int32) (r : Int32) (hf : f_Mo_pageOf N p0 = some r) : Cx l y_Mo_pageOf ws_Mo_pageOf rm_Mo_pageOf D vwCl (tyL cI cJ cZ) [.int p0] [] (oI r) [] := by
  unfold f_Mo_pageOf at hf
  refine Cx.ofW (cc := b_Mo_pageOf) (maxL := 1) (ret := (some .int)) (by decide) rfl ?_
  intro p e s m below meth c A C0 hP hK hD hA hns hZ
  obtain ⟨hx, hb, hml, hown, hts0, hr, hlocks, hnm, hno⟩ := C0
  have hown : s.vm.findClass R_Mo = some m.cls := hown
  have hts : ∀ w ∈ tb, w.before [.int p0].toArray s = true := fun w h => hts0 w (List.mem_cons_of_mem _ h)
  have hS : va_S A s.heap s.heap [] := va_S.rf
  have hl := lv_entry ([.int p0]) (n := 1) (Nat.le_of_ble_eq_true rfl)
  rw [lg_entry_eq]
  generalize (lg_sl ([.int p0]) ++ List.replicate (1 - (lg_sl ([.int p0])).length) Slot.unset).toArray = ls at hl ⊢
  have hl : lv_has ls 1 [(0, .int p0)] := hl
  refine lv_iload_n hx hb d_Mo_pageOf_0 rfl (lv_at hl 0 rfl) ?_
  refine lv_bipush (v := (6 : Int32)) hx hb d_Mo_pageOf_1 (by decide) ?_
  refine lv_icmp_ge (tgt := 12) hx hb d_Mo_pageOf_3 (by decide) (fun c1 => ?_) (fun c1 => ?_)
  · have hf := x_ifp c1 hf
    refine lv_iconst (v := (3 : Int32)) hx hb d_Mo_pageOf_12 (by decide) ?_
    refine lv_iload_n hx hb d_Mo_pageOf_13 rfl (lv_at hl 0 rfl) ?_
    refine lv_bipush (v := (6 : Int32)) hx hb d_Mo_pageOf_14 (by decide) ?_
    refine lv_isub hx hb d_Mo_pageOf_16 ?_
    refine lv_iconst (v := (3 : Int32)) hx hb d_Mo_pageOf_17 (by decide) ?_
    refine lv_idiv hx hb d_Mo_pageOf_18 (by decide) ?_
    refine lv_iadd hx hb d_Mo_pageOf_19 ?_
    obtain rfl := Option.some.inj hf
    exact x_iret hx hb hr hlocks hK hP hD hS (Nat.le_of_ble_eq_true rfl) (Nat.le_of_ble_eq_true rfl) d_Mo_pageOf_20
  · have hf := x_ifn c1 hf
    refine lv_iload_n hx hb d_Mo_pageOf_6 rfl (lv_at hl 0 rfl) ?_
    refine lv_iconst (v := (2 : Int32)) hx hb d_Mo_pageOf_7 (by decide) ?_
    refine lv_idiv hx hb d_Mo_pageOf_8 (by decide) ?_
    refine lv_goto (tgt := 20) hx hb d_Mo_pageOf_9 (by decide) ?_
    obtain rfl := Option.some.inj hf
    exact x_iret hx hb hr hlocks hK hP hD hS (Nat.le_of_ble_eq_true rfl) (Nat.le_of_ble_eq_true rfl) d_Mo_pageOf_20
