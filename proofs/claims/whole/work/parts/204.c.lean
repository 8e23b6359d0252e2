set_option maxHeartbeats 4000000 in
set_option maxRecDepth 100000 in
theorem c_Rv_seenBy (l : Launch) (D : va_G) (cI cJ cZ : ClassId) (rh sh mh m0 m1 m2 m3 dh d0 d1 d2 d3 ea cb ch be : Nat) (N : Nat) (p0 : Int32) (U : K_Rv) (r : (Int64 × K_Rv)) (hf : f_Rv_seenBy N p0 U = some r) : Cx l y_Rv_seenBy ws_Rv_seenBy rm_Rv_seenBy D vwCl (tyL cI cJ cZ) [.ref rh, .int p0] (w_Rv cI cJ cZ rh sh mh m0 m1 m2 m3 dh d0 d1 d2 d3 ea cb ch be U) (oL r.1) (w_Rv cI cJ cZ rh sh mh m0 m1 m2 m3 dh d0 d1 d2 d3 ea cb ch be r.2) := by
  unfold f_Rv_seenBy at hf
  refine Cx.ofW (cc := b_Rv_seenBy) (maxL := 2) (ret := (some .long)) (by decide) rfl ?_
  intro p e s m below meth c A C0 hP hK hD hA hns hZ
  obtain ⟨hx, hb, hml, hown, hts0, hr, hlocks, hnm, hno⟩ := C0
  have hown : s.vm.findClass R_Rv = some m.cls := hown
  have hts : ∀ w ∈ tb, w.before [.ref rh, .int p0].toArray s = true := fun w h => hts0 w (List.mem_cons_of_mem _ h)
  have hS : va_S A s.heap s.heap [] := va_S.rf
  have hl := lv_entry ([.ref rh, .int p0]) (n := 2) (Nat.le_of_ble_eq_true rfl)
  rw [lg_entry_eq]
  generalize (lg_sl ([.ref rh, .int p0]) ++ List.replicate (2 - (lg_sl ([.ref rh, .int p0])).length) Slot.unset).toArray = ls at hl ⊢
  have hl : lv_has ls 2 [(0, .ref rh), (1, .int p0)] := hl
  refine lv_aload_n hx hb d_Rv_seenBy_0 rfl (lv_at hl 0 rfl) ?_
  refine va_get (D := D) (ci := 2) (v := .ref cb) (C := R_Rv) (T := F_Rv) (N := 5) hx hb hts i_Rv hown hK hP 0 rfl rfl 2 (by decide) (hts _ k_94) (fun _ h9 => h9) rfl d_Rv_seenBy_1 ?_
  refine lv_iload_n hx hb d_Rv_seenBy_4 rfl (lv_at hl 1 rfl) ?_
  obtain ⟨g1, hf⟩ := x_if hf
  refine va_lald hx hb hK hP 13 1 rfl rfl (xi_in g1) d_Rv_seenBy_5 ?_
  refine lv_lconst (v := (1 : Int64)) hx hb d_Rv_seenBy_6 (by decide) ?_
  refine lv_iload_n hx hb d_Rv_seenBy_7 rfl (lv_at hl 1 rfl) ?_
  refine lv_lshl (v := ((1 : Int64) <<< (p0.toInt64 &&& 63))) hx hb d_Rv_seenBy_8 rfl ?_
  refine lv_lor hx hb d_Rv_seenBy_9 ?_
  obtain rfl := Option.some.inj hf
  exact x_lret hx hb hr hlocks hK hP hD hS (Nat.le_of_ble_eq_true rfl) (Nat.le_of_ble_eq_true rfl) d_Rv_seenBy_10
set_option maxHeartbeats 4000000 in
set_option maxRecDepth 100000 in
theorem c_Rv_placeSeen (l : Launch) (D : va_G) (cI cJ cZ : ClassId) (rh sh mh m0 m1 m2 m3 dh d0 d1 d2 d3 ea cb ch be : Nat) (N : Nat) (p0 : Int32) (p1 : Int32) (U : K_Rv) (r : (Int32 × K_Rv)) (hf : f_Rv_placeSeen N p0 p1 U = some r) : Cx l y_Rv_placeSeen ws_Rv_placeSeen rm_Rv_placeSeen D vwCl (tyL cI cJ cZ) [.ref rh, .int p0, .int p1] (w_Rv cI cJ cZ rh sh mh m0 m1 m2 m3 dh d0 d1 d2 d3 ea cb ch be U) (oI r.1) (w_Rv cI cJ cZ rh sh mh m0 m1 m2 m3 dh d0 d1 d2 d3 ea cb ch be r.2) := by
  unfold f_Rv_placeSeen at hf
  refine Cx.ofW (cc := b_Rv_placeSeen) (maxL := 3) (ret := (some .int)) (by decide) rfl ?_
  intro p e s m below meth c A C0 hP hK hD hA hns hZ
  obtain ⟨hx, hb, hml, hown, hts0, hr, hlocks, hnm, hno⟩ := C0
  have hown : s.vm.findClass R_Rv = some m.cls := hown
  have hts : ∀ w ∈ tb, w.before [.ref rh, .int p0, .int p1].toArray s = true := fun w h => hts0 w (List.mem_cons_of_mem _ h)
  have hS : va_S A s.heap s.heap [] := va_S.rf
  have hl := lv_entry ([.ref rh, .int p0, .int p1]) (n := 3) (Nat.le_of_ble_eq_true rfl)
  rw [lg_entry_eq]
  generalize (lg_sl ([.ref rh, .int p0, .int p1]) ++ List.replicate (3 - (lg_sl ([.ref rh, .int p0, .int p1])).length) Slot.unset).toArray = ls at hl ⊢
  have hl : lv_has ls 3 [(0, .ref rh), (1, .int p0), (2, .int p1)] := hl
  refine lv_aload_n hx hb d_Rv_placeSeen_0 rfl (lv_at hl 0 rfl) ?_
  refine va_get (D := D) (ci := 2) (v := .ref mh) (C := R_Rv) (T := F_Rv) (N := 5) hx hb hts i_Rv hown hK hP 0 rfl rfl 1 (by decide) (hts _ k_92) (fun _ h9 => h9) rfl d_Rv_placeSeen_1 ?_
  refine lv_aload_n hx hb d_Rv_placeSeen_4 rfl (lv_at hl 0 rfl) ?_
  refine lv_iload_n hx hb d_Rv_placeSeen_5 rfl (lv_at hl 1 rfl) ?_
  obtain ⟨z1, hz1, hf⟩ := x_bind hf
  refine x_callV (w2 := (w_Rv cI cJ cZ rh sh mh m0 m1 m2 m3 dh d0 d1 d2 d3 ea cb ch be z1.2)) ⟨hx, hb, hml, hown, hts⟩ (c_Rv_seenBy l D cI cJ cZ rh sh mh m0 m1 m2 m3 dh d0 d1 d2 d3 ea cb ch be N p0 U z1 hz1) (x_cwV 1 hts rfl k_120 k_121 k_122 k_23 k_123 (by decide +kernel) ⟨(Nat.le_of_ble_eq_true rfl), (Nat.le_of_ble_eq_true rfl)⟩) hK hP hD hS hA hZ [0, 1, 2, 3, 4, 5, 6, 7, 8, 9, 10, 11, 12, 13, 14, 15] [] [0, 1, 2, 3, 4, 5, 6, 7, 8, 9, 10, 11, 12, 13, 14, 15] (by decide) rfl rfl (by decide) (by decide) (by decide) rfl (ci := 2) rfl rfl rfl hl.1 rfl (Nat.le_of_ble_eq_true rfl) d_Rv_placeSeen_6 ⟨(Nat.le_of_ble_eq_true rfl), (Nat.le_of_ble_eq_true rfl)⟩ (fun H locs hP hD hS => ?_)
  refine W.eq (g2 := F0 m 9 ls [.long z1.1, .ref mh]) rfl ?_
  refine lv_iload_n hx hb d_Rv_placeSeen_9 rfl (lv_at hl 2 rfl) ?_
  obtain ⟨z2, hz2, hf⟩ := x_bind hf
  refine x_callV (w2 := (w_Rv cI cJ cZ rh sh mh m0 m1 m2 m3 dh d0 d1 d2 d3 ea cb ch be ((z2.2, z1.2.1.2), z1.2.2))) ⟨hx, hb, hml, hown, hts⟩ (c_Co_firstOf l D cI cJ cZ mh m0 m1 m2 m3 N z1.1 p1 z1.2.1.1 z2 hz2) (x_cwV 2 hts rfl k_116 k_117 k_118 k_11 k_119 (by decide +kernel) ⟨(Nat.le_of_ble_eq_true rfl), (Nat.le_of_ble_eq_true rfl)⟩) hK hP hD hS hA hZ [2, 3, 4, 5, 6] [0, 1, 7, 8, 9, 10, 11, 12, 13, 14, 15] [0, 1, 11, 12, 13, 14, 15, 2, 3, 4, 5, 6, 7, 8, 9, 10] (by decide) rfl rfl (by decide) (by decide) (by decide) rfl (ci := 0) rfl rfl rfl hl.1 rfl (Nat.le_of_ble_eq_true rfl) d_Rv_placeSeen_10 ⟨(Nat.le_of_ble_eq_true rfl), (Nat.le_of_ble_eq_true rfl)⟩ (fun H locs hP hD hS => ?_)
  refine W.eq (g2 := F0 m 13 ls [.int z2.1]) rfl ?_
  obtain rfl := Option.some.inj hf
  exact x_iret hx hb hr hlocks hK hP hD hS (Nat.le_of_ble_eq_true rfl) (Nat.le_of_ble_eq_true rfl) d_Rv_placeSeen_13
set_option maxHeartbeats 4000000 in
set_option maxRecDepth 100000 in
theorem c_Rv_demandValue (l : Launch) (D : va_G) (cI cJ cZ : ClassId) (mh m0 m1 m2 m3 : Nat) (hL0 : xL l) (N : Nat) (p1 : Int32) (U : K_Co) (r : ((Int32 ⊕ String) × K_Co)) (hf : f_Rv_demandValue N p1 U = some r) : Cx l y_Rv_demandValue ws_Rv_demandValue rm_Rv_demandValue D vwCl (tyL cI cJ cZ) [.ref mh, .int p1] (w_Co cI cJ cZ mh m0 m1 m2 m3 U) (tI r.1) (w_Co cI cJ cZ mh m0 m1 m2 m3 r.2) := by
  unfold f_Rv_demandValue at hf
  refine Cx.ofW (cc := b_Rv_demandValue) (maxL := 2) (ret := (some .int)) (by decide) rfl ?_
  intro p e s m below meth c A C0 hP hK hD hA hns hZ
  obtain ⟨hx, hb, hml, hown, hts0, hr, hlocks, hnm, hno⟩ := C0
  have hown : s.vm.findClass R_Rv = some m.cls := hown
  have hts : ∀ w ∈ tb, w.before [.ref mh, .int p1].toArray s = true := fun w h => hts0 w (List.mem_cons_of_mem _ h)
  have hS : va_S A s.heap s.heap [] := va_S.rf
  have hl := lv_entry ([.ref mh, .int p1]) (n := 2) (Nat.le_of_ble_eq_true rfl)
  rw [lg_entry_eq]
  generalize (lg_sl ([.ref mh, .int p1]) ++ List.replicate (2 - (lg_sl ([.ref mh, .int p1])).length) Slot.unset).toArray = ls at hl ⊢
  have hl : lv_has ls 2 [(0, .ref mh), (1, .int p1)] := hl
  refine lv_iload_n hx hb d_Rv_demandValue_0 rfl (lv_at hl 1 rfl) ?_
  refine lv_iconst (v := (-1 : Int32)) hx hb d_Rv_demandValue_1 (by decide) ?_
  refine lv_icmp_eq (tgt := 15) hx hb d_Rv_demandValue_2 (by decide) (fun c4 => ?_) (fun c4 => ?_)
  · have hf := x_ifp c4 hf
    obtain rfl := Option.some.inj hf
    exact x_throw (cls := "java/util/NoSuchElementException") (names := ["java/lang/RuntimeException", "java/lang/Exception"]) hL0 hx hb hml hown hlocks hno (by decide +kernel) (by decide +kernel) (at_Rv_114 hts hZ) (hts _ k_124) (hts _ k_125) hK hP hD hS hns hl.1 (Nat.le_of_ble_eq_true rfl) (Nat.le_of_ble_eq_true rfl) (Nat.le_of_ble_eq_true rfl) (Nat.le_of_ble_eq_true rfl) (Nat.le_of_ble_eq_true rfl) (Nat.le_of_ble_eq_true rfl) d_Rv_demandValue_15 d_Rv_demandValue_18 d_Rv_demandValue_19 d_Rv_demandValue_22
  · have hf := x_ifn c4 hf
    refine lv_aload_n hx hb d_Rv_demandValue_5 rfl (lv_at hl 0 rfl) ?_
    refine va_get (D := D) (ci := 0) (v := .ref m1) (C := R_Co) (T := F_Co) (N := 4) hx hb hts i_Co hown hK hP 0 rfl rfl 1 (by decide) (hts _ k_126) (fun _ h9 => h9) rfl d_Rv_demandValue_6 ?_
    refine lv_iload_n hx hb d_Rv_demandValue_9 rfl (lv_at hl 1 rfl) ?_
    obtain ⟨g1, hf⟩ := x_if hf
    refine va_iald hx hb hK hP 2 0 rfl rfl (xi_in g1) d_Rv_demandValue_10 ?_
    refine lv_iconst (v := (-1 : Int32)) hx hb d_Rv_demandValue_11 (by decide) ?_
    refine lv_icmp_ne (tgt := 23) hx hb d_Rv_demandValue_12 (by decide) (fun c3 => ?_) (fun c3 => ?_)
    · have hf := x_ifn c3 hf
      refine lv_aload_n hx hb d_Rv_demandValue_23 rfl (lv_at hl 0 rfl) ?_
      refine va_get (D := D) (ci := 0) (v := .ref m1) (C := R_Co) (T := F_Co) (N := 4) hx hb hts i_Co hown hK hP 0 rfl rfl 1 (by decide) (hts _ k_126) (fun _ h9 => h9) rfl d_Rv_demandValue_24 ?_
      refine lv_iload_n hx hb d_Rv_demandValue_27 rfl (lv_at hl 1 rfl) ?_
      obtain ⟨g2, hf⟩ := x_if hf
      refine va_iald hx hb hK hP 2 0 rfl rfl (xi_in g2) d_Rv_demandValue_28 ?_
      obtain rfl := Option.some.inj hf
      exact x_iret hx hb hr hlocks hK hP hD hS (Nat.le_of_ble_eq_true rfl) (Nat.le_of_ble_eq_true rfl) d_Rv_demandValue_29
    · have hf := x_ifp c3 hf
      obtain rfl := Option.some.inj hf
      exact x_throw (cls := "java/util/NoSuchElementException") (names := ["java/lang/RuntimeException", "java/lang/Exception"]) hL0 hx hb hml hown hlocks hno (by decide +kernel) (by decide +kernel) (at_Rv_114 hts hZ) (hts _ k_124) (hts _ k_125) hK hP hD hS hns hl.1 (Nat.le_of_ble_eq_true rfl) (Nat.le_of_ble_eq_true rfl) (Nat.le_of_ble_eq_true rfl) (Nat.le_of_ble_eq_true rfl) (Nat.le_of_ble_eq_true rfl) (Nat.le_of_ble_eq_true rfl) d_Rv_demandValue_15 d_Rv_demandValue_18 d_Rv_demandValue_19 d_Rv_demandValue_22
set_option maxHeartbeats 4000000 in
set_option maxRecDepth 100000 in
theorem c_Rv_read (l : Launch) (D : va_G) (cI cJ cZ : ClassId) (rh sh mh m0 m1 m2 m3 dh d0 d1 d2 d3 ea cb ch be : Nat) (hL0 : xL l) (N : Nat) (p0 : Int32) (p1 : Int32) (U : K_Rv) (r : ((Int32 ⊕ String) × K_Rv)) (hf : f_Rv_read N p0 p1 U = some r) : Cx l y_Rv_read ws_Rv_read rm_Rv_read D vwCl (tyL cI cJ cZ) [.ref rh, .int p0, .int p1] (w_Rv cI cJ cZ rh sh mh m0 m1 m2 m3 dh d0 d1 d2 d3 ea cb ch be U) (tI r.1) (w_Rv cI cJ cZ rh sh mh m0 m1 m2 m3 dh d0 d1 d2 d3 ea cb ch be r.2) := by
  unfold f_Rv_read at hf
  refine Cx.ofW (cc := b_Rv_read) (maxL := 3) (ret := (some .int)) (by decide) rfl ?_
  intro p e s m below meth c A C0 hP hK hD hA hns hZ
  obtain ⟨hx, hb, hml, hown, hts0, hr, hlocks, hnm, hno⟩ := C0
  have hown : s.vm.findClass R_Rv = some m.cls := hown
  have hts : ∀ w ∈ tb, w.before [.ref rh, .int p0, .int p1].toArray s = true := fun w h => hts0 w (List.mem_cons_of_mem _ h)
  have hS : va_S A s.heap s.heap [] := va_S.rf
  have hl := lv_entry ([.ref rh, .int p0, .int p1]) (n := 3) (Nat.le_of_ble_eq_true rfl)
  rw [lg_entry_eq]
  generalize (lg_sl ([.ref rh, .int p0, .int p1]) ++ List.replicate (3 - (lg_sl ([.ref rh, .int p0, .int p1])).length) Slot.unset).toArray = ls at hl ⊢
  have hl : lv_has ls 3 [(0, .ref rh), (1, .int p0), (2, .int p1)] := hl
  refine lv_iload_n hx hb d_Rv_read_0 rfl (lv_at hl 2 rfl) ?_
  obtain ⟨v2 | E3, hz1, hf⟩ := x_bind hf
  · dsimp only at hf
    refine x_callS (w2 := (w_Rv cI cJ cZ rh sh mh m0 m1 m2 m3 dh d0 d1 d2 d3 ea cb ch be U)) ⟨hx, hb, hml, hown, hts⟩ (c_Rv_demandRecord l D cI cJ cZ  hL0 N p1  (Sum.inl v2) hz1) (x_cwS 1 hts rfl k_138 k_139 k_23 k_140 (by decide +kernel) ⟨(Nat.le_of_ble_eq_true rfl), (Nat.le_of_ble_eq_true rfl)⟩) hK hP hD hS hA hZ [] [0, 1, 2, 3, 4, 5, 6, 7, 8, 9, 10, 11, 12, 13, 14, 15] [0, 1, 2, 3, 4, 5, 6, 7, 8, 9, 10, 11, 12, 13, 14, 15] (by decide) rfl rfl (by decide) (by decide) (by decide) rfl rfl hl.1 rfl (Nat.le_of_ble_eq_true rfl) d_Rv_read_1 ⟨(Nat.le_of_ble_eq_true rfl), (Nat.le_of_ble_eq_true rfl)⟩ (fun H locs hP hD hS => ?_)
    refine W.eq (g2 := F0 m 4 ls []) rfl ?_
    refine lv_aload_n hx hb d_Rv_read_4 rfl (lv_at hl 0 rfl) ?_
    refine lv_iload_n hx hb d_Rv_read_5 rfl (lv_at hl 1 rfl) ?_
    obtain ⟨⟨v6 | E7, U8⟩, hz5, hf⟩ := x_bind hf
    · dsimp only at hf
      refine x_callV (w2 := (w_Rv cI cJ cZ rh sh mh m0 m1 m2 m3 dh d0 d1 d2 d3 ea cb ch be U8)) ⟨hx, hb, hml, hown, hts⟩ (c_Rv_demandActive l D cI cJ cZ rh sh mh m0 m1 m2 m3 dh d0 d1 d2 d3 ea cb ch be hL0 N p0 U (Sum.inl v6, U8) hz5) (x_cwV 1 hts rfl k_134 k_135 k_136 k_23 k_137 (by decide +kernel) ⟨(Nat.le_of_ble_eq_true rfl), (Nat.le_of_ble_eq_true rfl)⟩) hK hP hD hS hA hZ [0, 1, 2, 3, 4, 5, 6, 7, 8, 9, 10, 11, 12, 13, 14, 15] [] [0, 1, 2, 3, 4, 5, 6, 7, 8, 9, 10, 11, 12, 13, 14, 15] (by decide) rfl rfl (by decide) (by decide) (by decide) rfl (ci := 2) rfl rfl rfl hl.1 rfl (Nat.le_of_ble_eq_true rfl) d_Rv_read_6 ⟨(Nat.le_of_ble_eq_true rfl), (Nat.le_of_ble_eq_true rfl)⟩ (fun H locs hP hD hS => ?_)
      refine W.eq (g2 := F0 m 9 ls []) rfl ?_
      refine lv_aload_n hx hb d_Rv_read_9 rfl (lv_at hl 0 rfl) ?_
      refine va_get (D := D) (ci := 2) (v := .ref mh) (C := R_Rv) (T := F_Rv) (N := 5) hx hb hts i_Rv hown hK hP 0 rfl rfl 1 (by decide) (hts _ k_92) (fun _ h9 => h9) rfl d_Rv_read_10 ?_
      refine lv_aload_n hx hb d_Rv_read_13 rfl (lv_at hl 0 rfl) ?_
      refine lv_iload_n hx hb d_Rv_read_14 rfl (lv_at hl 1 rfl) ?_
      refine lv_iload_n hx hb d_Rv_read_15 rfl (lv_at hl 2 rfl) ?_
      obtain ⟨z9, hz9, hf⟩ := x_bind hf
      refine x_callV (w2 := (w_Rv cI cJ cZ rh sh mh m0 m1 m2 m3 dh d0 d1 d2 d3 ea cb ch be z9.2)) ⟨hx, hb, hml, hown, hts⟩ (c_Rv_placeSeen l D cI cJ cZ rh sh mh m0 m1 m2 m3 dh d0 d1 d2 d3 ea cb ch be N p0 p1 U8 z9 hz9) (x_cwV 2 hts rfl k_130 k_131 k_132 k_23 k_133 (by decide +kernel) ⟨(Nat.le_of_ble_eq_true rfl), (Nat.le_of_ble_eq_true rfl)⟩) hK hP hD hS hA hZ [0, 1, 2, 3, 4, 5, 6, 7, 8, 9, 10, 11, 12, 13, 14, 15] [] [0, 1, 2, 3, 4, 5, 6, 7, 8, 9, 10, 11, 12, 13, 14, 15] (by decide) rfl rfl (by decide) (by decide) (by decide) rfl (ci := 2) rfl rfl rfl hl.1 rfl (Nat.le_of_ble_eq_true rfl) d_Rv_read_16 ⟨(Nat.le_of_ble_eq_true rfl), (Nat.le_of_ble_eq_true rfl)⟩ (fun H locs hP hD hS => ?_)
      refine W.eq (g2 := F0 m 19 ls [.int z9.1, .ref mh]) rfl ?_
      obtain ⟨⟨v11 | E12, U13⟩, hz10, hf⟩ := x_bind hf
      · dsimp only at hf
        refine x_callS (w2 := (w_Rv cI cJ cZ rh sh mh m0 m1 m2 m3 dh d0 d1 d2 d3 ea cb ch be ((U13, z9.2.1.2), z9.2.2))) ⟨hx, hb, hml, hown, hts⟩ (c_Rv_demandValue l D cI cJ cZ mh m0 m1 m2 m3 hL0 N z9.1 z9.2.1.1 (Sum.inl v11, U13) hz10) (x_cwS 2 hts rfl k_127 k_128 k_23 k_129 (by decide +kernel) ⟨(Nat.le_of_ble_eq_true rfl), (Nat.le_of_ble_eq_true rfl)⟩) hK hP hD hS hA hZ [2, 3, 4, 5, 6] [0, 1, 7, 8, 9, 10, 11, 12, 13, 14, 15] [0, 1, 11, 12, 13, 14, 15, 2, 3, 4, 5, 6, 7, 8, 9, 10] (by decide) rfl rfl (by decide) (by decide) (by decide) rfl rfl hl.1 rfl (Nat.le_of_ble_eq_true rfl) d_Rv_read_19 ⟨(Nat.le_of_ble_eq_true rfl), (Nat.le_of_ble_eq_true rfl)⟩ (fun H locs hP hD hS => ?_)
        refine W.eq (g2 := F0 m 22 ls [.int v11]) rfl ?_
        obtain rfl := Option.some.inj hf
        exact x_iret hx hb hr hlocks hK hP hD hS (Nat.le_of_ble_eq_true rfl) (Nat.le_of_ble_eq_true rfl) d_Rv_read_22
      · dsimp only at hf
        obtain rfl := Option.some.inj hf
        exact x_out (w2 := (w_Rv cI cJ cZ rh sh mh m0 m1 m2 m3 dh d0 d1 d2 d3 ea cb ch be ((U13, z9.2.1.2), z9.2.2))) (x_noteS ⟨hx, hb, hml, hown, hts⟩ (c_Rv_demandValue l D cI cJ cZ mh m0 m1 m2 m3 hL0 N z9.1 z9.2.1.1 (Sum.inr E12, U13) hz10) (x_cwS 2 hts rfl k_127 k_128 k_23 k_129 (by decide +kernel) ⟨(Nat.le_of_ble_eq_true rfl), (Nat.le_of_ble_eq_true rfl)⟩) (x_cut hP hD hK hS hA hZ [2, 3, 4, 5, 6] (by decide) rfl).2 rfl hl.1 rfl (Nat.le_of_ble_eq_true rfl) d_Rv_read_19 ⟨(Nat.le_of_ble_eq_true rfl), (Nat.le_of_ble_eq_true rfl)⟩) hlocks hno hK hP hD hS hA [2, 3, 4, 5, 6] [0, 1, 7, 8, 9, 10, 11, 12, 13, 14, 15] [0, 1, 11, 12, 13, 14, 15, 2, 3, 4, 5, 6, 7, 8, 9, 10] rfl rfl (by decide) (by decide) (by decide) rfl (Nat.le_of_ble_eq_true rfl) (Nat.le_of_ble_eq_true rfl)
    · dsimp only at hf
      obtain rfl := Option.some.inj hf
      exact x_out (w2 := (w_Rv cI cJ cZ rh sh mh m0 m1 m2 m3 dh d0 d1 d2 d3 ea cb ch be U8)) (x_noteV ⟨hx, hb, hml, hown, hts⟩ (c_Rv_demandActive l D cI cJ cZ rh sh mh m0 m1 m2 m3 dh d0 d1 d2 d3 ea cb ch be hL0 N p0 U (Sum.inr E7, U8) hz5) (x_cwV 1 hts rfl k_134 k_135 k_136 k_23 k_137 (by decide +kernel) ⟨(Nat.le_of_ble_eq_true rfl), (Nat.le_of_ble_eq_true rfl)⟩) hK (x_cut hP hD hK hS hA hZ [0, 1, 2, 3, 4, 5, 6, 7, 8, 9, 10, 11, 12, 13, 14, 15] (by decide) rfl).1 (x_cut hP hD hK hS hA hZ [0, 1, 2, 3, 4, 5, 6, 7, 8, 9, 10, 11, 12, 13, 14, 15] (by decide) rfl).2 (ci := 2) rfl rfl rfl hl.1 rfl (Nat.le_of_ble_eq_true rfl) d_Rv_read_6 ⟨(Nat.le_of_ble_eq_true rfl), (Nat.le_of_ble_eq_true rfl)⟩) hlocks hno hK hP hD hS hA [0, 1, 2, 3, 4, 5, 6, 7, 8, 9, 10, 11, 12, 13, 14, 15] [] [0, 1, 2, 3, 4, 5, 6, 7, 8, 9, 10, 11, 12, 13, 14, 15] rfl rfl (by decide) (by decide) (by decide) rfl (Nat.le_of_ble_eq_true rfl) (Nat.le_of_ble_eq_true rfl)
  · dsimp only at hf
    obtain rfl := Option.some.inj hf
    exact x_out (w2 := (w_Rv cI cJ cZ rh sh mh m0 m1 m2 m3 dh d0 d1 d2 d3 ea cb ch be U)) (x_noteS ⟨hx, hb, hml, hown, hts⟩ (c_Rv_demandRecord l D cI cJ cZ  hL0 N p1  (Sum.inr E3) hz1) (x_cwS 1 hts rfl k_138 k_139 k_23 k_140 (by decide +kernel) ⟨(Nat.le_of_ble_eq_true rfl), (Nat.le_of_ble_eq_true rfl)⟩) (x_cut hP hD hK hS hA hZ [] (by decide) rfl).2 rfl hl.1 rfl (Nat.le_of_ble_eq_true rfl) d_Rv_read_1 ⟨(Nat.le_of_ble_eq_true rfl), (Nat.le_of_ble_eq_true rfl)⟩) hlocks hno hK hP hD hS hA [] [0, 1, 2, 3, 4, 5, 6, 7, 8, 9, 10, 11, 12, 13, 14, 15] [0, 1, 2, 3, 4, 5, 6, 7, 8, 9, 10, 11, 12, 13, 14, 15] rfl rfl (by decide) (by decide) (by decide) rfl (Nat.le_of_ble_eq_true rfl) (Nat.le_of_ble_eq_true rfl)
set_option maxHeartbeats 4000000 in
set_option maxRecDepth 100000 in
theorem c_Rv_pageOf (l : Launch) (D : va_G) (cI cJ cZ : ClassId) (N : Nat) (p0 : Int32) (r : Int32) (hf : f_Rv_pageOf N p0 = some r) : Cx l y_Rv_pageOf ws_Rv_pageOf rm_Rv_pageOf D vwCl (tyL cI cJ cZ) [.int p0] [] (oI r) [] := by
  unfold f_Rv_pageOf at hf
  refine Cx.ofW (cc := b_Rv_pageOf) (maxL := 1) (ret := (some .int)) (by decide) rfl ?_
  intro p e s m below meth c A C0 hP hK hD hA hns hZ
  obtain ⟨hx, hb, hml, hown, hts0, hr, hlocks, hnm, hno⟩ := C0
  have hown : s.vm.findClass R_Rv = some m.cls := hown
  have hts : ∀ w ∈ tb, w.before [.int p0].toArray s = true := fun w h => hts0 w (List.mem_cons_of_mem _ h)
  have hS : va_S A s.heap s.heap [] := va_S.rf
  have hl := lv_entry ([.int p0]) (n := 1) (Nat.le_of_ble_eq_true rfl)
  rw [lg_entry_eq]
  generalize (lg_sl ([.int p0]) ++ List.replicate (1 - (lg_sl ([.int p0])).length) Slot.unset).toArray = ls at hl ⊢
  have hl : lv_has ls 1 [(0, .int p0)] := hl
  refine lv_iload_n hx hb d_Rv_pageOf_0 rfl (lv_at hl 0 rfl) ?_
  refine lv_bipush (v := (6 : Int32)) hx hb d_Rv_pageOf_1 (by decide) ?_
  refine lv_icmp_ge (tgt := 12) hx hb d_Rv_pageOf_3 (by decide) (fun c1 => ?_) (fun c1 => ?_)
  · have hf := x_ifp c1 hf
    refine lv_iconst (v := (3 : Int32)) hx hb d_Rv_pageOf_12 (by decide) ?_
    refine lv_iload_n hx hb d_Rv_pageOf_13 rfl (lv_at hl 0 rfl) ?_
    refine lv_bipush (v := (6 : Int32)) hx hb d_Rv_pageOf_14 (by decide) ?_
    refine lv_isub hx hb d_Rv_pageOf_16 ?_
    refine lv_iconst (v := (3 : Int32)) hx hb d_Rv_pageOf_17 (by decide) ?_
    refine lv_idiv hx hb d_Rv_pageOf_18 (by decide) ?_
    refine lv_iadd hx hb d_Rv_pageOf_19 ?_
    obtain rfl := Option.some.inj hf
    exact x_iret hx hb hr hlocks hK hP hD hS (Nat.le_of_ble_eq_true rfl) (Nat.le_of_ble_eq_true rfl) d_Rv_pageOf_20
  · have hf := x_ifn c1 hf
    refine lv_iload_n hx hb d_Rv_pageOf_6 rfl (lv_at hl 0 rfl) ?_
    refine lv_iconst (v := (2 : Int32)) hx hb d_Rv_pageOf_7 (by decide) ?_
    refine lv_idiv hx hb d_Rv_pageOf_8 (by decide) ?_
    refine lv_goto (tgt := 20) hx hb d_Rv_pageOf_9 (by decide) ?_
    obtain rfl := Option.some.inj hf
    exact x_iret hx hb hr hlocks hK hP hD hS (Nat.le_of_ble_eq_true rfl) (Nat.le_of_ble_eq_true rfl) d_Rv_pageOf_20
set_option maxHeartbeats 4000000 in
set_option maxRecDepth 100000 in
theorem c_Rv_clean (l : Launch) (D : va_G) (cI cJ cZ : ClassId) (rh sh mh m0 m1 m2 m3 dh d0 d1 d2 d3 ea cb ch be : Nat) (N : Nat) (p0 : Int32) (U : K_Rv) (r : (Int32 × K_Rv)) (hf : f_Rv_clean N p0 U = some r) : Cx l y_Rv_clean ws_Rv_clean rm_Rv_clean D vwCl (tyL cI cJ cZ) [.ref rh, .int p0] (w_Rv cI cJ cZ rh sh mh m0 m1 m2 m3 dh d0 d1 d2 d3 ea cb ch be U) (oI r.1) (w_Rv cI cJ cZ rh sh mh m0 m1 m2 m3 dh d0 d1 d2 d3 ea cb ch be r.2) := by
  unfold f_Rv_clean at hf
  refine Cx.ofW (cc := b_Rv_clean) (maxL := 4) (ret := (some .boolean)) (by decide) rfl ?_
  intro p e s m below meth c A C0 hP hK hD hA hns hZ
  obtain ⟨hx, hb, hml, hown, hts0, hr, hlocks, hnm, hno⟩ := C0
  have hown : s.vm.findClass R_Rv = some m.cls := hown
  have hts : ∀ w ∈ tb, w.before [.ref rh, .int p0].toArray s = true := fun w h => hts0 w (List.mem_cons_of_mem _ h)
  have hS : va_S A s.heap s.heap [] := va_S.rf
  have hl := lv_entry ([.ref rh, .int p0]) (n := 4) (Nat.le_of_ble_eq_true rfl)
  rw [lg_entry_eq]
  generalize (lg_sl ([.ref rh, .int p0]) ++ List.replicate (4 - (lg_sl ([.ref rh, .int p0])).length) Slot.unset).toArray = ls at hl ⊢
  have hl : lv_has ls 4 [(0, .ref rh), (1, .int p0)] := hl
  have L_2 : ∀ n : Nat, ∀ (x1 : Int32) (x2 : Int32) (U : K_Rv), f_Rv_clean_2 N n x1 x2 U = some r → ∀ (H : Heap) (locs : List Loc) (ls : Array Slot), va_P D vwCl (w_Rv cI cJ cZ rh sh mh m0 m1 m2 m3 dh d0 d1 d2 d3 ea cb ch be U) H → va_D A (w_Rv cI cJ cZ rh sh mh m0 m1 m2 m3 dh d0 d1 d2 d3 ea cb ch be U) → va_S A s.heap H locs → lv_has ls 4 [(0, .ref rh), (1, .int x1), (2, .int x2)] → W p l e (rm_Rv_clean) s m [.ref rh, .int p0].toArray below meth c H locs 0 0 (xQ D vwCl (tyL cI cJ cZ) below s A (oI r.1) (w_Rv cI cJ cZ rh sh mh m0 m1 m2 m3 dh d0 d1 d2 d3 ea cb ch be r.2) (rm_Rv_clean).cells (rm_Rv_clean).slots) (F0 m 2 ls []) := by
    intro n
    induction n with
    | zero =>
      intro x1 x2 U hf
      have hf : (none : Option (Int32 × K_Rv)) = some r := hf
      cases hf
    | succ n ih =>
      intro x1 x2 U hf H locs ls hP hD hS hl
      rw [f_Rv_clean_2] at hf
      refine lv_iload_n hx hb d_Rv_clean_2 rfl (lv_at hl 2 rfl) ?_
      refine lv_bipush (v := (15 : Int32)) hx hb d_Rv_clean_3 (by decide) ?_
      refine lv_icmp_ge (tgt := 110) hx hb d_Rv_clean_5 (by decide) (fun c18 => ?_) (fun c18 => ?_)
      · have hf := x_ifp c18 hf
        refine lv_iconst (v := (1 : Int32)) hx hb d_Rv_clean_110 (by decide) ?_
        obtain rfl := Option.some.inj hf
        exact x_zret hx hb hr hlocks (x_nb (Or.inr rfl)) hK hP hD hS (Nat.le_of_ble_eq_true rfl) (Nat.le_of_ble_eq_true rfl) d_Rv_clean_111
      · have hf := x_ifn c18 hf
        refine lv_aload_n hx hb d_Rv_clean_8 rfl (lv_at hl 0 rfl) ?_
        refine va_get (D := D) (ci := 2) (v := .ref mh) (C := R_Rv) (T := F_Rv) (N := 5) hx hb hts i_Rv hown hK hP 0 rfl rfl 1 (by decide) (hts _ k_92) (fun _ h9 => h9) rfl d_Rv_clean_9 ?_
        refine lv_iload_n hx hb d_Rv_clean_12 rfl (lv_at hl 1 rfl) ?_
        obtain ⟨z1, hz1, hf⟩ := x_bind hf
        refine x_callV (w2 := (w_Rv cI cJ cZ rh sh mh m0 m1 m2 m3 dh d0 d1 d2 d3 ea cb ch be ((z1.2, U.1.2), U.2))) ⟨hx, hb, hml, hown, hts⟩ (c_Co_isRolled l D cI cJ cZ mh m0 m1 m2 m3 N x1 U.1.1 z1 hz1) (x_cwV 1 hts rfl k_158 k_159 k_160 k_11 k_161 (by decide +kernel) ⟨(Nat.le_of_ble_eq_true rfl), (Nat.le_of_ble_eq_true rfl)⟩) hK hP hD hS hA hZ [2, 3, 4, 5, 6] [0, 1, 7, 8, 9, 10, 11, 12, 13, 14, 15] [0, 1, 11, 12, 13, 14, 15, 2, 3, 4, 5, 6, 7, 8, 9, 10] (by decide) rfl rfl (by decide) (by decide) (by decide) rfl (ci := 0) rfl rfl rfl hl.1 rfl (Nat.le_of_ble_eq_true rfl) d_Rv_clean_13 ⟨(Nat.le_of_ble_eq_true rfl), (Nat.le_of_ble_eq_true rfl)⟩ (fun H locs hP hD hS => ?_)
        refine W.eq (g2 := F0 m 16 ls [.int z1.1]) rfl ?_
        refine lv_if_eq (tgt := 110) hx hb d_Rv_clean_16 (by decide) (fun c17 => ?_) (fun c17 => ?_)
        · have hf := x_ifp c17 hf
          refine lv_iconst (v := (1 : Int32)) hx hb d_Rv_clean_110 (by decide) ?_
          obtain rfl := Option.some.inj hf
          exact x_zret hx hb hr hlocks (x_nb (Or.inr rfl)) hK hP hD hS (Nat.le_of_ble_eq_true rfl) (Nat.le_of_ble_eq_true rfl) d_Rv_clean_111
        · have hf := x_ifn c17 hf
          refine lv_aload_n hx hb d_Rv_clean_19 rfl (lv_at hl 0 rfl) ?_
          refine va_get (D := D) (ci := 2) (v := .ref mh) (C := R_Rv) (T := F_Rv) (N := 5) hx hb hts i_Rv hown hK hP 0 rfl rfl 1 (by decide) (hts _ k_92) (fun _ h9 => h9) rfl d_Rv_clean_20 ?_
          refine va_get (D := D) (ci := 0) (v := .ref m2) (C := R_Co) (T := F_Co) (N := 4) hx hb hts i_Co hown hK hP 2 rfl rfl 2 (by decide) (hts _ k_142) (fun _ h9 => h9) rfl d_Rv_clean_23 ?_
          refine lv_iload_n hx hb d_Rv_clean_26 rfl (lv_at hl 1 rfl) ?_
          obtain ⟨g2, hf⟩ := x_if hf
          refine va_iald hx hb hK hP 5 0 rfl rfl (xi_in g2) d_Rv_clean_27 ?_
          refine lv_istore_n (lv' := [(3, .int (z1.2.2.2.1 x1.toNatClampNeg)), (0, .ref rh), (1, .int x1), (2, .int x2)]) hx hb d_Rv_clean_28 rfl hl (by decide) rfl (fun ls hl => ?_)
          refine lv_iload_n hx hb d_Rv_clean_29 rfl (lv_at hl 0 rfl) ?_
          refine lv_iconst (v := (-1 : Int32)) hx hb d_Rv_clean_30 (by decide) ?_
          refine lv_icmp_ne (tgt := 45) hx hb d_Rv_clean_31 (by decide) (fun c16 => ?_) (fun c16 => ?_)
          · have hf := x_ifn c16 hf
            refine lv_aload_n hx hb d_Rv_clean_45 rfl (lv_at hl 1 rfl) ?_
            refine va_get (D := D) (ci := 2) (v := .ref sh) (C := R_Rv) (T := F_Rv) (N := 5) hx hb hts i_Rv hown hK hP 0 rfl rfl 0 (by decide) (hts _ k_90) (fun _ h9 => h9) rfl d_Rv_clean_46 ?_
            refine lv_iload_n hx hb d_Rv_clean_49 rfl (lv_at hl 2 rfl) ?_
            obtain ⟨z3, hz3, hf⟩ := x_bind hf
            refine x_callS (w2 := (w_Rv cI cJ cZ rh sh mh m0 m1 m2 m3 dh d0 d1 d2 d3 ea cb ch be ((z1.2, U.1.2), U.2))) ⟨hx, hb, hml, hown, hts⟩ (c_Rv_pageOf l D cI cJ cZ  N x1  z3 hz3) (x_cwS 1 hts rfl k_143 k_144 k_23 k_145 (by decide +kernel) ⟨(Nat.le_of_ble_eq_true rfl), (Nat.le_of_ble_eq_true rfl)⟩) hK hP hD hS hA hZ [] [0, 1, 2, 3, 4, 5, 6, 7, 8, 9, 10, 11, 12, 13, 14, 15] [0, 1, 2, 3, 4, 5, 6, 7, 8, 9, 10, 11, 12, 13, 14, 15] (by decide) rfl rfl (by decide) (by decide) (by decide) rfl rfl hl.1 rfl (Nat.le_of_ble_eq_true rfl) d_Rv_clean_50 ⟨(Nat.le_of_ble_eq_true rfl), (Nat.le_of_ble_eq_true rfl)⟩ (fun H locs hP hD hS => ?_)
            refine W.eq (g2 := F0 m 53 ls [.int z3, .ref sh]) rfl ?_
            refine lv_iload_n hx hb d_Rv_clean_53 rfl (lv_at hl 0 rfl) ?_
            obtain ⟨z4, hz4, hf⟩ := x_bind hf
            refine x_callS (w2 := (w_Rv cI cJ cZ rh sh mh m0 m1 m2 m3 dh d0 d1 d2 d3 ea cb ch be ((z1.2, U.1.2), U.2))) ⟨hx, hb, hml, hown, hts⟩ (c_Rv_pageOf l D cI cJ cZ  N (z1.2.2.2.1 x1.toNatClampNeg)  z4 hz4) (x_cwS 1 hts rfl k_143 k_144 k_23 k_145 (by decide +kernel) ⟨(Nat.le_of_ble_eq_true rfl), (Nat.le_of_ble_eq_true rfl)⟩) hK hP hD hS hA hZ [] [0, 1, 2, 3, 4, 5, 6, 7, 8, 9, 10, 11, 12, 13, 14, 15] [0, 1, 2, 3, 4, 5, 6, 7, 8, 9, 10, 11, 12, 13, 14, 15] (by decide) rfl rfl (by decide) (by decide) (by decide) rfl rfl hl.1 rfl (Nat.le_of_ble_eq_true rfl) d_Rv_clean_54 ⟨(Nat.le_of_ble_eq_true rfl), (Nat.le_of_ble_eq_true rfl)⟩ (fun H locs hP hD hS => ?_)
            refine W.eq (g2 := F0 m 57 ls [.int z4, .int z3, .ref sh]) rfl ?_
            obtain ⟨z5, hz5, hf⟩ := x_bind hf
            refine x_callV (w2 := (w_Rv cI cJ cZ rh sh mh m0 m1 m2 m3 dh d0 d1 d2 d3 ea cb ch be (z5.2, U.2))) ⟨hx, hb, hml, hown, hts⟩ (c_St_note l D cI cJ cZ sh mh m0 m1 m2 m3 dh d0 d1 d2 d3 ea N z3 z4 (z1.2, U.1.2) z5 hz5) (x_cwV 2 hts rfl k_154 k_155 k_156 k_55 k_157 (by decide +kernel) ⟨(Nat.le_of_ble_eq_true rfl), (Nat.le_of_ble_eq_true rfl)⟩) hK hP hD hS hA hZ [1, 2, 3, 4, 5, 6, 7, 8, 9, 10, 11, 12] [0, 13, 14, 15] [0, 4, 5, 6, 7, 8, 9, 10, 11, 12, 13, 14, 15, 1, 2, 3] (by decide) rfl rfl (by decide) (by decide) (by decide) rfl (ci := 1) rfl rfl rfl hl.1 rfl (Nat.le_of_ble_eq_true rfl) d_Rv_clean_57 ⟨(Nat.le_of_ble_eq_true rfl), (Nat.le_of_ble_eq_true rfl)⟩ (fun H locs hP hD hS => ?_)
            refine W.eq (g2 := F0 m 60 ls [.int z5.1]) rfl ?_
            refine lv_if_ne (tgt := 65) hx hb d_Rv_clean_60 (by decide) (fun c12 => ?_) (fun c12 => ?_)
            · have hf := x_ifn c12 hf
              refine lv_aload_n hx hb d_Rv_clean_65 rfl (lv_at hl 1 rfl) ?_
              refine va_get (D := D) (ci := 2) (v := .ref mh) (C := R_Rv) (T := F_Rv) (N := 5) hx hb hts i_Rv hown hK hP 0 rfl rfl 1 (by decide) (hts _ k_92) (fun _ h9 => h9) rfl d_Rv_clean_66 ?_
              refine lv_iload_n hx hb d_Rv_clean_69 rfl (lv_at hl 0 rfl) ?_
              refine lv_iload_n hx hb d_Rv_clean_70 rfl (lv_at hl 2 rfl) ?_
              obtain ⟨z6, hz6, hf⟩ := x_bind hf
              refine x_callV (w2 := (w_Rv cI cJ cZ rh sh mh m0 m1 m2 m3 dh d0 d1 d2 d3 ea cb ch be ((z6.2, z5.2.2), U.2))) ⟨hx, hb, hml, hown, hts⟩ (c_Co_move l D cI cJ cZ mh m0 m1 m2 m3 N (z1.2.2.2.1 x1.toNatClampNeg) x1 z5.2.1 z6 hz6) (x_cwV 2 hts rfl k_150 k_151 k_152 k_11 k_153 (by decide +kernel) ⟨(Nat.le_of_ble_eq_true rfl), (Nat.le_of_ble_eq_true rfl)⟩) hK hP hD hS hA hZ [2, 3, 4, 5, 6] [0, 1, 7, 8, 9, 10, 11, 12, 13, 14, 15] [0, 1, 11, 12, 13, 14, 15, 2, 3, 4, 5, 6, 7, 8, 9, 10] (by decide) rfl rfl (by decide) (by decide) (by decide) rfl (ci := 0) rfl rfl rfl hl.1 rfl (Nat.le_of_ble_eq_true rfl) d_Rv_clean_71 ⟨(Nat.le_of_ble_eq_true rfl), (Nat.le_of_ble_eq_true rfl)⟩ (fun H locs hP hD hS => ?_)
              refine W.eq (g2 := F0 m 74 ls []) rfl ?_
              refine lv_aload_n hx hb d_Rv_clean_74 rfl (lv_at hl 1 rfl) ?_
              refine va_get (D := D) (ci := 2) (v := .ref mh) (C := R_Rv) (T := F_Rv) (N := 5) hx hb hts i_Rv hown hK hP 0 rfl rfl 1 (by decide) (hts _ k_92) (fun _ h9 => h9) rfl d_Rv_clean_75 ?_
              refine lv_iload_n hx hb d_Rv_clean_78 rfl (lv_at hl 0 rfl) ?_
              obtain ⟨z7, hz7, hf⟩ := x_bind hf
              refine x_callV (w2 := (w_Rv cI cJ cZ rh sh mh m0 m1 m2 m3 dh d0 d1 d2 d3 ea cb ch be ((z7.2, z5.2.2), U.2))) ⟨hx, hb, hml, hown, hts⟩ (c_Co_empty l D cI cJ cZ mh m0 m1 m2 m3 N (z1.2.2.2.1 x1.toNatClampNeg) z6.2 z7 hz7) (x_cwV 1 hts rfl k_146 k_147 k_148 k_11 k_149 (by decide +kernel) ⟨(Nat.le_of_ble_eq_true rfl), (Nat.le_of_ble_eq_true rfl)⟩) hK hP hD hS hA hZ [2, 3, 4, 5, 6] [0, 1, 7, 8, 9, 10, 11, 12, 13, 14, 15] [0, 1, 11, 12, 13, 14, 15, 2, 3, 4, 5, 6, 7, 8, 9, 10] (by decide) rfl rfl (by decide) (by decide) (by decide) rfl (ci := 0) rfl rfl rfl hl.1 rfl (Nat.le_of_ble_eq_true rfl) d_Rv_clean_79 ⟨(Nat.le_of_ble_eq_true rfl), (Nat.le_of_ble_eq_true rfl)⟩ (fun H locs hP hD hS => ?_)
              refine W.eq (g2 := F0 m 82 ls []) rfl ?_
              refine lv_aload_n hx hb d_Rv_clean_82 rfl (lv_at hl 1 rfl) ?_
              refine va_get (D := D) (ci := 2) (v := .ref sh) (C := R_Rv) (T := F_Rv) (N := 5) hx hb hts i_Rv hown hK hP 0 rfl rfl 0 (by decide) (hts _ k_90) (fun _ h9 => h9) rfl d_Rv_clean_83 ?_
              refine lv_iload_n hx hb d_Rv_clean_86 rfl (lv_at hl 0 rfl) ?_
              obtain ⟨z8, hz8, hf⟩ := x_bind hf
              refine x_callS (w2 := (w_Rv cI cJ cZ rh sh mh m0 m1 m2 m3 dh d0 d1 d2 d3 ea cb ch be ((z7.2, z5.2.2), U.2))) ⟨hx, hb, hml, hown, hts⟩ (c_Rv_pageOf l D cI cJ cZ  N (z1.2.2.2.1 x1.toNatClampNeg)  z8 hz8) (x_cwS 1 hts rfl k_143 k_144 k_23 k_145 (by decide +kernel) ⟨(Nat.le_of_ble_eq_true rfl), (Nat.le_of_ble_eq_true rfl)⟩) hK hP hD hS hA hZ [] [0, 1, 2, 3, 4, 5, 6, 7, 8, 9, 10, 11, 12, 13, 14, 15] [0, 1, 2, 3, 4, 5, 6, 7, 8, 9, 10, 11, 12, 13, 14, 15] (by decide) rfl rfl (by decide) (by decide) (by decide) rfl rfl hl.1 rfl (Nat.le_of_ble_eq_true rfl) d_Rv_clean_87 ⟨(Nat.le_of_ble_eq_true rfl), (Nat.le_of_ble_eq_true rfl)⟩ (fun H locs hP hD hS => ?_)
              refine W.eq (g2 := F0 m 90 ls [.int z8, .ref sh]) rfl ?_
              obtain ⟨z9, hz9, hf⟩ := x_bind hf
              refine x_callV (w2 := (w_Rv cI cJ cZ rh sh mh m0 m1 m2 m3 dh d0 d1 d2 d3 ea cb ch be (z9.2, U.2))) ⟨hx, hb, hml, hown, hts⟩ (c_St_changed l D cI cJ cZ sh mh m0 m1 m2 m3 dh d0 d1 d2 d3 ea N z8 (z7.2, z5.2.2) z9 hz9) (x_cwV 1 hts rfl k_101 k_64 k_65 k_55 k_66 (by decide +kernel) ⟨(Nat.le_of_ble_eq_true rfl), (Nat.le_of_ble_eq_true rfl)⟩) hK hP hD hS hA hZ [1, 2, 3, 4, 5, 6, 7, 8, 9, 10, 11, 12] [0, 13, 14, 15] [0, 4, 5, 6, 7, 8, 9, 10, 11, 12, 13, 14, 15, 1, 2, 3] (by decide) rfl rfl (by decide) (by decide) (by decide) rfl (ci := 1) rfl rfl rfl hl.1 rfl (Nat.le_of_ble_eq_true rfl) d_Rv_clean_90 ⟨(Nat.le_of_ble_eq_true rfl), (Nat.le_of_ble_eq_true rfl)⟩ (fun H locs hP hD hS => ?_)
              refine W.eq (g2 := F0 m 93 ls []) rfl ?_
              refine lv_aload_n hx hb d_Rv_clean_93 rfl (lv_at hl 1 rfl) ?_
              refine va_get (D := D) (ci := 2) (v := .ref sh) (C := R_Rv) (T := F_Rv) (N := 5) hx hb hts i_Rv hown hK hP 0 rfl rfl 0 (by decide) (hts _ k_90) (fun _ h9 => h9) rfl d_Rv_clean_94 ?_
              refine lv_iload_n hx hb d_Rv_clean_97 rfl (lv_at hl 2 rfl) ?_
              obtain ⟨z10, hz10, hf⟩ := x_bind hf
              refine x_callS (w2 := (w_Rv cI cJ cZ rh sh mh m0 m1 m2 m3 dh d0 d1 d2 d3 ea cb ch be (z9.2, U.2))) ⟨hx, hb, hml, hown, hts⟩ (c_Rv_pageOf l D cI cJ cZ  N x1  z10 hz10) (x_cwS 1 hts rfl k_143 k_144 k_23 k_145 (by decide +kernel) ⟨(Nat.le_of_ble_eq_true rfl), (Nat.le_of_ble_eq_true rfl)⟩) hK hP hD hS hA hZ [] [0, 1, 2, 3, 4, 5, 6, 7, 8, 9, 10, 11, 12, 13, 14, 15] [0, 1, 2, 3, 4, 5, 6, 7, 8, 9, 10, 11, 12, 13, 14, 15] (by decide) rfl rfl (by decide) (by decide) (by decide) rfl rfl hl.1 rfl (Nat.le_of_ble_eq_true rfl) d_Rv_clean_98 ⟨(Nat.le_of_ble_eq_true rfl), (Nat.le_of_ble_eq_true rfl)⟩ (fun H locs hP hD hS => ?_)
              refine W.eq (g2 := F0 m 101 ls [.int z10, .ref sh]) rfl ?_
              obtain ⟨z11, hz11, hf⟩ := x_bind hf
              refine x_callV (w2 := (w_Rv cI cJ cZ rh sh mh m0 m1 m2 m3 dh d0 d1 d2 d3 ea cb ch be (z11.2, U.2))) ⟨hx, hb, hml, hown, hts⟩ (c_St_changed l D cI cJ cZ sh mh m0 m1 m2 m3 dh d0 d1 d2 d3 ea N z10 z9.2 z11 hz11) (x_cwV 1 hts rfl k_101 k_64 k_65 k_55 k_66 (by decide +kernel) ⟨(Nat.le_of_ble_eq_true rfl), (Nat.le_of_ble_eq_true rfl)⟩) hK hP hD hS hA hZ [1, 2, 3, 4, 5, 6, 7, 8, 9, 10, 11, 12] [0, 13, 14, 15] [0, 4, 5, 6, 7, 8, 9, 10, 11, 12, 13, 14, 15, 1, 2, 3] (by decide) rfl rfl (by decide) (by decide) (by decide) rfl (ci := 1) rfl rfl rfl hl.1 rfl (Nat.le_of_ble_eq_true rfl) d_Rv_clean_101 ⟨(Nat.le_of_ble_eq_true rfl), (Nat.le_of_ble_eq_true rfl)⟩ (fun H locs hP hD hS => ?_)
              refine W.eq (g2 := F0 m 104 ls []) rfl ?_
              refine lv_iinc (v := (x2 + (1 : Int32))) (lv' := [(2, .int (x2 + (1 : Int32))), (3, .int (z1.2.2.2.1 x1.toNatClampNeg)), (0, .ref rh), (1, .int x1)]) hx hb d_Rv_clean_104 hl (k := 3) rfl rfl (by decide) rfl (fun ls hl => ?_)
              refine lv_goto (tgt := 2) hx hb d_Rv_clean_107 (by decide) ?_
              exact ih _ _ _ hf _ _ _ hP hD hS (lv_sub hl [2, 3, 0] rfl)
            · have hf := x_ifp c12 hf
              refine lv_iconst (v := (0 : Int32)) hx hb d_Rv_clean_63 (by decide) ?_
              obtain rfl := Option.some.inj hf
              exact x_zret hx hb hr hlocks (x_nb (Or.inl rfl)) hK hP hD hS (Nat.le_of_ble_eq_true rfl) (Nat.le_of_ble_eq_true rfl) d_Rv_clean_64
          · have hf := x_ifp c16 hf
            refine lv_aload_n hx hb d_Rv_clean_34 rfl (lv_at hl 1 rfl) ?_
            refine va_get (D := D) (ci := 2) (v := .ref mh) (C := R_Rv) (T := F_Rv) (N := 5) hx hb hts i_Rv hown hK hP 0 rfl rfl 1 (by decide) (hts _ k_92) (fun _ h9 => h9) rfl d_Rv_clean_35 ?_
            refine lv_iload_n hx hb d_Rv_clean_38 rfl (lv_at hl 2 rfl) ?_
            obtain ⟨z13, hz13, hf⟩ := x_bind hf
            refine x_callV (w2 := (w_Rv cI cJ cZ rh sh mh m0 m1 m2 m3 dh d0 d1 d2 d3 ea cb ch be ((z13.2, U.1.2), U.2))) ⟨hx, hb, hml, hown, hts⟩ (c_Co_empty l D cI cJ cZ mh m0 m1 m2 m3 N x1 z1.2 z13 hz13) (x_cwV 1 hts rfl k_146 k_147 k_148 k_11 k_149 (by decide +kernel) ⟨(Nat.le_of_ble_eq_true rfl), (Nat.le_of_ble_eq_true rfl)⟩) hK hP hD hS hA hZ [2, 3, 4, 5, 6] [0, 1, 7, 8, 9, 10, 11, 12, 13, 14, 15] [0, 1, 11, 12, 13, 14, 15, 2, 3, 4, 5, 6, 7, 8, 9, 10] (by decide) rfl rfl (by decide) (by decide) (by decide) rfl (ci := 0) rfl rfl rfl hl.1 rfl (Nat.le_of_ble_eq_true rfl) d_Rv_clean_39 ⟨(Nat.le_of_ble_eq_true rfl), (Nat.le_of_ble_eq_true rfl)⟩ (fun H locs hP hD hS => ?_)
            refine W.eq (g2 := F0 m 42 ls []) rfl ?_
            refine lv_goto (tgt := 93) hx hb d_Rv_clean_42 (by decide) ?_
            refine lv_aload_n hx hb d_Rv_clean_93 rfl (lv_at hl 1 rfl) ?_
            refine va_get (D := D) (ci := 2) (v := .ref sh) (C := R_Rv) (T := F_Rv) (N := 5) hx hb hts i_Rv hown hK hP 0 rfl rfl 0 (by decide) (hts _ k_90) (fun _ h9 => h9) rfl d_Rv_clean_94 ?_
            refine lv_iload_n hx hb d_Rv_clean_97 rfl (lv_at hl 2 rfl) ?_
            obtain ⟨z14, hz14, hf⟩ := x_bind hf
            refine x_callS (w2 := (w_Rv cI cJ cZ rh sh mh m0 m1 m2 m3 dh d0 d1 d2 d3 ea cb ch be ((z13.2, U.1.2), U.2))) ⟨hx, hb, hml, hown, hts⟩ (c_Rv_pageOf l D cI cJ cZ  N x1  z14 hz14) (x_cwS 1 hts rfl k_143 k_144 k_23 k_145 (by decide +kernel) ⟨(Nat.le_of_ble_eq_true rfl), (Nat.le_of_ble_eq_true rfl)⟩) hK hP hD hS hA hZ [] [0, 1, 2, 3, 4, 5, 6, 7, 8, 9, 10, 11, 12, 13, 14, 15] [0, 1, 2, 3, 4, 5, 6, 7, 8, 9, 10, 11, 12, 13, 14, 15] (by decide) rfl rfl (by decide) (by decide) (by decide) rfl rfl hl.1 rfl (Nat.le_of_ble_eq_true rfl) d_Rv_clean_98 ⟨(Nat.le_of_ble_eq_true rfl), (Nat.le_of_ble_eq_true rfl)⟩ (fun H locs hP hD hS => ?_)
            refine W.eq (g2 := F0 m 101 ls [.int z14, .ref sh]) rfl ?_
            obtain ⟨z15, hz15, hf⟩ := x_bind hf
            refine x_callV (w2 := (w_Rv cI cJ cZ rh sh mh m0 m1 m2 m3 dh d0 d1 d2 d3 ea cb ch be (z15.2, U.2))) ⟨hx, hb, hml, hown, hts⟩ (c_St_changed l D cI cJ cZ sh mh m0 m1 m2 m3 dh d0 d1 d2 d3 ea N z14 (z13.2, U.1.2) z15 hz15) (x_cwV 1 hts rfl k_101 k_64 k_65 k_55 k_66 (by decide +kernel) ⟨(Nat.le_of_ble_eq_true rfl), (Nat.le_of_ble_eq_true rfl)⟩) hK hP hD hS hA hZ [1, 2, 3, 4, 5, 6, 7, 8, 9, 10, 11, 12] [0, 13, 14, 15] [0, 4, 5, 6, 7, 8, 9, 10, 11, 12, 13, 14, 15, 1, 2, 3] (by decide) rfl rfl (by decide) (by decide) (by decide) rfl (ci := 1) rfl rfl rfl hl.1 rfl (Nat.le_of_ble_eq_true rfl) d_Rv_clean_101 ⟨(Nat.le_of_ble_eq_true rfl), (Nat.le_of_ble_eq_true rfl)⟩ (fun H locs hP hD hS => ?_)
            refine W.eq (g2 := F0 m 104 ls []) rfl ?_
            refine lv_iinc (v := (x2 + (1 : Int32))) (lv' := [(2, .int (x2 + (1 : Int32))), (3, .int (z1.2.2.2.1 x1.toNatClampNeg)), (0, .ref rh), (1, .int x1)]) hx hb d_Rv_clean_104 hl (k := 3) rfl rfl (by decide) rfl (fun ls hl => ?_)
            refine lv_goto (tgt := 2) hx hb d_Rv_clean_107 (by decide) ?_
            exact ih _ _ _ hf _ _ _ hP hD hS (lv_sub hl [2, 3, 0] rfl)
  refine lv_iconst (v := (0 : Int32)) hx hb d_Rv_clean_0 (by decide) ?_
  refine lv_istore_n (lv' := [(2, .int (0 : Int32)), (0, .ref rh), (1, .int p0)]) hx hb d_Rv_clean_1 rfl hl (by decide) rfl (fun ls hl => ?_)
  exact L_2 _ _ _ _ hf _ _ _ hP hD hS (lv_sub hl [1, 2, 0] rfl)
set_option maxHeartbeats 4000000 in
set_option maxRecDepth 100000 in
theorem c_Rv_changedBy (l : Launch) (D : va_G) (cI cJ cZ : ClassId) (rh sh mh m0 m1 m2 m3 dh d0 d1 d2 d3 ea cb ch be : Nat) (N : Nat) (p0 : Int32) (p1 : Int32) (U : K_Rv) (r : (Unit × K_Rv)) (hf : f_Rv_changedBy N p0 p1 U = some r) : Cx l y_Rv_changedBy ws_Rv_changedBy rm_Rv_changedBy D vwCl (tyL cI cJ cZ) [.ref rh, .int p0, .int p1] (w_Rv cI cJ cZ rh sh mh m0 m1 m2 m3 dh d0 d1 d2 d3 ea cb ch be U) (oV r.1) (w_Rv cI cJ cZ rh sh mh m0 m1 m2 m3 dh d0 d1 d2 d3 ea cb ch be r.2) := by
  unfold f_Rv_changedBy at hf
  refine Cx.ofW (cc := b_Rv_changedBy) (maxL := 3) (ret := none) (by decide) rfl ?_
  intro p e s m below meth c A C0 hP hK hD hA hns hZ
  obtain ⟨hx, hb, hml, hown, hts0, hr, hlocks, hnm, hno⟩ := C0
  have hown : s.vm.findClass R_Rv = some m.cls := hown
  have hts : ∀ w ∈ tb, w.before [.ref rh, .int p0, .int p1].toArray s = true := fun w h => hts0 w (List.mem_cons_of_mem _ h)
  have hS : va_S A s.heap s.heap [] := va_S.rf
  have hl := lv_entry ([.ref rh, .int p0, .int p1]) (n := 3) (Nat.le_of_ble_eq_true rfl)
  rw [lg_entry_eq]
  generalize (lg_sl ([.ref rh, .int p0, .int p1]) ++ List.replicate (3 - (lg_sl ([.ref rh, .int p0, .int p1])).length) Slot.unset).toArray = ls at hl ⊢
  have hl : lv_has ls 3 [(0, .ref rh), (1, .int p0), (2, .int p1)] := hl
  refine lv_aload_n hx hb d_Rv_changedBy_0 rfl (lv_at hl 0 rfl) ?_
  refine va_get (D := D) (ci := 2) (v := .ref sh) (C := R_Rv) (T := F_Rv) (N := 5) hx hb hts i_Rv hown hK hP 0 rfl rfl 0 (by decide) (hts _ k_90) (fun _ h9 => h9) rfl d_Rv_changedBy_1 ?_
  refine lv_iload_n hx hb d_Rv_changedBy_4 rfl (lv_at hl 2 rfl) ?_
  obtain ⟨z1, hz1, hf⟩ := x_bind hf
  refine x_callS (w2 := (w_Rv cI cJ cZ rh sh mh m0 m1 m2 m3 dh d0 d1 d2 d3 ea cb ch be U)) ⟨hx, hb, hml, hown, hts⟩ (c_Rv_pageOf l D cI cJ cZ  N p1  z1 hz1) (x_cwS 1 hts rfl k_143 k_144 k_23 k_145 (by decide +kernel) ⟨(Nat.le_of_ble_eq_true rfl), (Nat.le_of_ble_eq_true rfl)⟩) hK hP hD hS hA hZ [] [0, 1, 2, 3, 4, 5, 6, 7, 8, 9, 10, 11, 12, 13, 14, 15] [0, 1, 2, 3, 4, 5, 6, 7, 8, 9, 10, 11, 12, 13, 14, 15] (by decide) rfl rfl (by decide) (by decide) (by decide) rfl rfl hl.1 rfl (Nat.le_of_ble_eq_true rfl) d_Rv_changedBy_5 ⟨(Nat.le_of_ble_eq_true rfl), (Nat.le_of_ble_eq_true rfl)⟩ (fun H locs hP hD hS => ?_)
  refine W.eq (g2 := F0 m 8 ls [.int z1, .ref sh]) rfl ?_
  obtain ⟨z2, hz2, hf⟩ := x_bind hf
  refine x_callV (w2 := (w_Rv cI cJ cZ rh sh mh m0 m1 m2 m3 dh d0 d1 d2 d3 ea cb ch be (z2.2, U.2))) ⟨hx, hb, hml, hown, hts⟩ (c_St_changed l D cI cJ cZ sh mh m0 m1 m2 m3 dh d0 d1 d2 d3 ea N z1 U.1 z2 hz2) (x_cwV 1 hts rfl k_101 k_64 k_65 k_55 k_66 (by decide +kernel) ⟨(Nat.le_of_ble_eq_true rfl), (Nat.le_of_ble_eq_true rfl)⟩) hK hP hD hS hA hZ [1, 2, 3, 4, 5, 6, 7, 8, 9, 10, 11, 12] [0, 13, 14, 15] [0, 4, 5, 6, 7, 8, 9, 10, 11, 12, 13, 14, 15, 1, 2, 3] (by decide) rfl rfl (by decide) (by decide) (by decide) rfl (ci := 1) rfl rfl rfl hl.1 rfl (Nat.le_of_ble_eq_true rfl) d_Rv_changedBy_8 ⟨(Nat.le_of_ble_eq_true rfl), (Nat.le_of_ble_eq_true rfl)⟩ (fun H locs hP hD hS => ?_)
  refine W.eq (g2 := F0 m 11 ls []) rfl ?_
  refine lv_aload_n hx hb d_Rv_changedBy_11 rfl (lv_at hl 0 rfl) ?_
  refine va_get (D := D) (ci := 2) (v := .ref ch) (C := R_Rv) (T := F_Rv) (N := 5) hx hb hts i_Rv hown hK hP 0 rfl rfl 3 (by decide) (hts _ k_95) (fun _ h9 => h9) rfl d_Rv_changedBy_12 ?_
  refine lv_iload_n hx hb d_Rv_changedBy_15 rfl (lv_at hl 1 rfl) ?_
  refine lv_dup2_11 hx hb d_Rv_changedBy_16 rfl rfl ?_
  obtain ⟨g3, hf⟩ := x_if hf
  refine va_iald hx hb hK hP 14 0 rfl rfl (xi_in g3) d_Rv_changedBy_17 ?_
  refine lv_iconst (v := (1 : Int32)) hx hb d_Rv_changedBy_18 (by decide) ?_
  refine lv_iload_n hx hb d_Rv_changedBy_19 rfl (lv_at hl 2 rfl) ?_
  obtain ⟨z4, hz4, hf⟩ := x_bind hf
  refine x_callS (w2 := (w_Rv cI cJ cZ rh sh mh m0 m1 m2 m3 dh d0 d1 d2 d3 ea cb ch be (z2.2, U.2))) ⟨hx, hb, hml, hown, hts⟩ (c_Rv_pageOf l D cI cJ cZ  N p1  z4 hz4) (x_cwS 1 hts rfl k_143 k_144 k_23 k_145 (by decide +kernel) ⟨(Nat.le_of_ble_eq_true rfl), (Nat.le_of_ble_eq_true rfl)⟩) hK hP hD hS hA hZ [] [0, 1, 2, 3, 4, 5, 6, 7, 8, 9, 10, 11, 12, 13, 14, 15] [0, 1, 2, 3, 4, 5, 6, 7, 8, 9, 10, 11, 12, 13, 14, 15] (by decide) rfl rfl (by decide) (by decide) (by decide) rfl rfl hl.1 rfl (Nat.le_of_ble_eq_true rfl) d_Rv_changedBy_20 ⟨(Nat.le_of_ble_eq_true rfl), (Nat.le_of_ble_eq_true rfl)⟩ (fun H locs hP hD hS => ?_)
  refine W.eq (g2 := F0 m 23 ls [.int z4, .int (1 : Int32), .int (U.2.2.1 p0.toNatClampNeg), .int p0, .ref ch]) rfl ?_
  refine lv_ishl hx hb d_Rv_changedBy_23 ?_
  refine lv_ior hx hb d_Rv_changedBy_24 ?_
  obtain ⟨g5, hf⟩ := x_if hf
  refine va_iast hx hb hK hP hD hS 14 0 rfl rfl (xi_in g5) d_Rv_changedBy_25 (fun H locs hP hD hS => ?_)
  have hP : va_P D vwCl (w_Rv cI cJ cZ rh sh mh m0 m1 m2 m3 dh d0 d1 d2 d3 ea cb ch be (z2.2, (U.2.1, ((upd U.2.2.1 p0.toNatClampNeg ((U.2.2.1 p0.toNatClampNeg) ||| ((1 : Int32) <<< (z4 &&& 31)))), U.2.2.2)))) H := hP
  have hD : va_D A (w_Rv cI cJ cZ rh sh mh m0 m1 m2 m3 dh d0 d1 d2 d3 ea cb ch be (z2.2, (U.2.1, ((upd U.2.2.1 p0.toNatClampNeg ((U.2.2.1 p0.toNatClampNeg) ||| ((1 : Int32) <<< (z4 &&& 31)))), U.2.2.2)))) := hD
  obtain rfl := Option.some.inj hf
  exact x_vret hx hb hr hlocks hK hP hD hS (Nat.le_of_ble_eq_true rfl) (Nat.le_of_ble_eq_true rfl) d_Rv_changedBy_26
