set_option maxHeartbeats 4000000 in
set_option maxRecDepth 100000 in
theorem c_Rv_change (l : Launch) (D : va_G) (cI cJ cZ : ClassId) (rh sh mh m0 m1 m2 m3 dh d0 d1 d2 d3 ea cb ch be : Nat) (hL0 : xL l) (N : Nat) (p0 : Int32) (p1 : Int32) (p2 : Int32) (U : K_Rv) (r : ((Int32 ⊕ String) × K_Rv)) (hf : f_Rv_change N p0 p1 p2 U = some r) : Cx l y_Rv_change ws_Rv_change rm_Rv_change D vwCl (tyL cI cJ cZ) [.ref rh, .int p0, .int p1, .int p2] (w_Rv cI cJ cZ rh sh mh m0 m1 m2 m3 dh d0 d1 d2 d3 ea cb ch be U) (tI r.1) (w_Rv cI cJ cZ rh sh mh m0 m1 m2 m3 dh d0 d1 d2 d3 ea cb ch be r.2) := by
  unfold f_Rv_change at hf
  refine Cx.ofW (cc := b_Rv_change) (maxL := 6) (ret := (some .int)) (by decide) rfl ?_
  intro p e s m below meth c A C0 hP hK hD hA hns hZ
  obtain ⟨hx, hb, hml, hown, hts0, hr, hlocks, hnm, hno⟩ := C0
  have hown : s.vm.findClass R_Rv = some m.cls := hown
  have hts : ∀ w ∈ tb, w.before [.ref rh, .int p0, .int p1, .int p2].toArray s = true := fun w h => hts0 w (List.mem_cons_of_mem _ h)
  have hS : va_S A s.heap s.heap [] := va_S.rf
  have hl := lv_entry ([.ref rh, .int p0, .int p1, .int p2]) (n := 6) (Nat.le_of_ble_eq_true rfl)
  rw [lg_entry_eq]
  generalize (lg_sl ([.ref rh, .int p0, .int p1, .int p2]) ++ List.replicate (6 - (lg_sl ([.ref rh, .int p0, .int p1, .int p2])).length) Slot.unset).toArray = ls at hl ⊢
  have hl : lv_has ls 6 [(0, .ref rh), (1, .int p0), (2, .int p1), (3, .int p2)] := hl
  refine lv_aload_n hx hb d_Rv_change_0 rfl (lv_at hl 0 rfl) ?_
  refine lv_iload_n hx hb d_Rv_change_1 rfl (lv_at hl 2 rfl) ?_
  obtain ⟨z1, hz1, hf⟩ := x_bind hf
  refine x_callV (w2 := (w_Rv cI cJ cZ rh sh mh m0 m1 m2 m3 dh d0 d1 d2 d3 ea cb ch be z1.2)) ⟨hx, hb, hml, hown, hts⟩ (c_Rv_clean l D cI cJ cZ rh sh mh m0 m1 m2 m3 dh d0 d1 d2 d3 ea cb ch be N p1 U z1 hz1) (x_cwV 1 hts rfl k_177 k_178 k_179 k_23 k_180 (by decide +kernel) ⟨(Nat.le_of_ble_eq_true rfl), (Nat.le_of_ble_eq_true rfl)⟩) hK hP hD hS hA hZ [0, 1, 2, 3, 4, 5, 6, 7, 8, 9, 10, 11, 12, 13, 14, 15] [] [0, 1, 2, 3, 4, 5, 6, 7, 8, 9, 10, 11, 12, 13, 14, 15] (by decide) rfl rfl (by decide) (by decide) (by decide) rfl (ci := 2) rfl rfl rfl hl.1 rfl (Nat.le_of_ble_eq_true rfl) d_Rv_change_2 ⟨(Nat.le_of_ble_eq_true rfl), (Nat.le_of_ble_eq_true rfl)⟩ (fun H locs hP hD hS => ?_)
  refine W.eq (g2 := F0 m 5 ls [.int z1.1]) rfl ?_
  refine lv_if_ne (tgt := 11) hx hb d_Rv_change_5 (by decide) (fun c39 => ?_) (fun c39 => ?_)
  · have hf := x_ifn c39 hf
    refine lv_aload_n hx hb d_Rv_change_11 rfl (lv_at hl 0 rfl) ?_
    refine va_get (D := D) (ci := 2) (v := .ref mh) (C := R_Rv) (T := F_Rv) (N := 5) hx hb hts i_Rv hown hK hP 0 rfl rfl 1 (by decide) (hts _ k_92) (fun _ h9 => h9) rfl d_Rv_change_12 ?_
    refine va_get (D := D) (ci := 0) (v := .ref m0) (C := R_Co) (T := F_Co) (N := 4) hx hb hts i_Co hown hK hP 2 rfl rfl 0 (by decide) (hts _ k_162) (fun _ h9 => h9) rfl d_Rv_change_15 ?_
    refine lv_iload_n hx hb d_Rv_change_18 rfl (lv_at hl 2 rfl) ?_
    obtain ⟨g2, hf⟩ := x_if hf
    refine va_iald hx hb hK hP 3 0 rfl rfl (xi_in g2) d_Rv_change_19 ?_
    refine lv_istore (lv' := [(4, .int (z1.2.1.1.1 p1.toNatClampNeg)), (0, .ref rh), (1, .int p0), (2, .int p1), (3, .int p2)]) hx hb d_Rv_change_20 hl (by decide) rfl (fun ls hl => ?_)
    refine lv_iload hx hb d_Rv_change_22 (lv_at hl 0 rfl) ?_
    refine lv_if_eq (tgt := 48) hx hb d_Rv_change_24 (by decide) (fun c38 => ?_) (fun c38 => ?_)
    · have hf := x_ifp c38 hf
      refine lv_iload hx hb d_Rv_change_48 (lv_at hl 0 rfl) ?_
      refine lv_if_ne (tgt := 67) hx hb d_Rv_change_50 (by decide) (fun c18 => ?_) (fun c18 => ?_)
      · have hf := x_ifn c18 hf
        refine lv_iload hx hb d_Rv_change_67 (lv_at hl 0 rfl) ?_
        refine lv_iload_n hx hb d_Rv_change_69 rfl (lv_at hl 2 rfl) ?_
        refine lv_icmp_ne (tgt := 86) hx hb d_Rv_change_70 (by decide) (fun c15 => ?_) (fun c15 => ?_)
        · have hf := x_ifn c15 hf
          refine lv_aload_n hx hb d_Rv_change_86 rfl (lv_at hl 1 rfl) ?_
          refine va_get (D := D) (ci := 2) (v := .ref mh) (C := R_Rv) (T := F_Rv) (N := 5) hx hb hts i_Rv hown hK hP 0 rfl rfl 1 (by decide) (hts _ k_92) (fun _ h9 => h9) rfl d_Rv_change_87 ?_
          obtain ⟨z3, hz3, hf⟩ := x_bind hf
          refine x_callV (w2 := (w_Rv cI cJ cZ rh sh mh m0 m1 m2 m3 dh d0 d1 d2 d3 ea cb ch be ((z3.2, z1.2.1.2), z1.2.2))) ⟨hx, hb, hml, hown, hts⟩ (c_Co_leastFree l D cI cJ cZ mh m0 m1 m2 m3 N  z1.2.1.1 z3 hz3) (x_cwV 0 hts rfl k_170 k_171 k_172 k_11 k_173 (by decide +kernel) ⟨(Nat.le_of_ble_eq_true rfl), (Nat.le_of_ble_eq_true rfl)⟩) hK hP hD hS hA hZ [2, 3, 4, 5, 6] [0, 1, 7, 8, 9, 10, 11, 12, 13, 14, 15] [0, 1, 11, 12, 13, 14, 15, 2, 3, 4, 5, 6, 7, 8, 9, 10] (by decide) rfl rfl (by decide) (by decide) (by decide) rfl (ci := 0) rfl rfl rfl hl.1 rfl (Nat.le_of_ble_eq_true rfl) d_Rv_change_90 ⟨(Nat.le_of_ble_eq_true rfl), (Nat.le_of_ble_eq_true rfl)⟩ (fun H locs hP hD hS => ?_)
          refine W.eq (g2 := F0 m 93 ls [.int z3.1]) rfl ?_
          refine lv_istore (lv' := [(5, .int z3.1), (4, .int (z1.2.1.1.1 p1.toNatClampNeg)), (0, .ref rh), (1, .int p0), (2, .int p1), (3, .int p2)]) hx hb d_Rv_change_93 hl (by decide) rfl (fun ls hl => ?_)
          refine lv_iload hx hb d_Rv_change_95 (lv_at hl 0 rfl) ?_
          refine lv_iconst (v := (-1 : Int32)) hx hb d_Rv_change_97 (by decide) ?_
          refine lv_icmp_ne (tgt := 109) hx hb d_Rv_change_98 (by decide) (fun c12 => ?_) (fun c12 => ?_)
          · have hf := x_ifn c12 hf
            refine lv_aload_n hx hb d_Rv_change_109 rfl (lv_at hl 2 rfl) ?_
            refine va_get (D := D) (ci := 2) (v := .ref sh) (C := R_Rv) (T := F_Rv) (N := 5) hx hb hts i_Rv hown hK hP 0 rfl rfl 0 (by decide) (hts _ k_90) (fun _ h9 => h9) rfl d_Rv_change_110 ?_
            refine lv_iload hx hb d_Rv_change_113 (lv_at hl 0 rfl) ?_
            obtain ⟨z4, hz4, hf⟩ := x_bind hf
            refine x_callS (w2 := (w_Rv cI cJ cZ rh sh mh m0 m1 m2 m3 dh d0 d1 d2 d3 ea cb ch be ((z3.2, z1.2.1.2), z1.2.2))) ⟨hx, hb, hml, hown, hts⟩ (c_Rv_pageOf l D cI cJ cZ  N z3.1  z4 hz4) (x_cwS 1 hts rfl k_143 k_144 k_23 k_145 (by decide +kernel) ⟨(Nat.le_of_ble_eq_true rfl), (Nat.le_of_ble_eq_true rfl)⟩) hK hP hD hS hA hZ [] [0, 1, 2, 3, 4, 5, 6, 7, 8, 9, 10, 11, 12, 13, 14, 15] [0, 1, 2, 3, 4, 5, 6, 7, 8, 9, 10, 11, 12, 13, 14, 15] (by decide) rfl rfl (by decide) (by decide) (by decide) rfl rfl hl.1 rfl (Nat.le_of_ble_eq_true rfl) d_Rv_change_115 ⟨(Nat.le_of_ble_eq_true rfl), (Nat.le_of_ble_eq_true rfl)⟩ (fun H locs hP hD hS => ?_)
            refine W.eq (g2 := F0 m 118 ls [.int z4, .ref sh]) rfl ?_
            refine lv_iload_n hx hb d_Rv_change_118 rfl (lv_at hl 4 rfl) ?_
            obtain ⟨z5, hz5, hf⟩ := x_bind hf
            refine x_callS (w2 := (w_Rv cI cJ cZ rh sh mh m0 m1 m2 m3 dh d0 d1 d2 d3 ea cb ch be ((z3.2, z1.2.1.2), z1.2.2))) ⟨hx, hb, hml, hown, hts⟩ (c_Rv_pageOf l D cI cJ cZ  N p1  z5 hz5) (x_cwS 1 hts rfl k_143 k_144 k_23 k_145 (by decide +kernel) ⟨(Nat.le_of_ble_eq_true rfl), (Nat.le_of_ble_eq_true rfl)⟩) hK hP hD hS hA hZ [] [0, 1, 2, 3, 4, 5, 6, 7, 8, 9, 10, 11, 12, 13, 14, 15] [0, 1, 2, 3, 4, 5, 6, 7, 8, 9, 10, 11, 12, 13, 14, 15] (by decide) rfl rfl (by decide) (by decide) (by decide) rfl rfl hl.1 rfl (Nat.le_of_ble_eq_true rfl) d_Rv_change_119 ⟨(Nat.le_of_ble_eq_true rfl), (Nat.le_of_ble_eq_true rfl)⟩ (fun H locs hP hD hS => ?_)
            refine W.eq (g2 := F0 m 122 ls [.int z5, .int z4, .ref sh]) rfl ?_
            obtain ⟨z6, hz6, hf⟩ := x_bind hf
            refine x_callV (w2 := (w_Rv cI cJ cZ rh sh mh m0 m1 m2 m3 dh d0 d1 d2 d3 ea cb ch be (z6.2, z1.2.2))) ⟨hx, hb, hml, hown, hts⟩ (c_St_note l D cI cJ cZ sh mh m0 m1 m2 m3 dh d0 d1 d2 d3 ea N z4 z5 (z3.2, z1.2.1.2) z6 hz6) (x_cwV 2 hts rfl k_154 k_155 k_156 k_55 k_157 (by decide +kernel) ⟨(Nat.le_of_ble_eq_true rfl), (Nat.le_of_ble_eq_true rfl)⟩) hK hP hD hS hA hZ [1, 2, 3, 4, 5, 6, 7, 8, 9, 10, 11, 12] [0, 13, 14, 15] [0, 4, 5, 6, 7, 8, 9, 10, 11, 12, 13, 14, 15, 1, 2, 3] (by decide) rfl rfl (by decide) (by decide) (by decide) rfl (ci := 1) rfl rfl rfl hl.1 rfl (Nat.le_of_ble_eq_true rfl) d_Rv_change_122 ⟨(Nat.le_of_ble_eq_true rfl), (Nat.le_of_ble_eq_true rfl)⟩ (fun H locs hP hD hS => ?_)
            refine W.eq (g2 := F0 m 125 ls [.int z6.1]) rfl ?_
            refine lv_if_ne (tgt := 131) hx hb d_Rv_change_125 (by decide) (fun c11 => ?_) (fun c11 => ?_)
            · have hf := x_ifn c11 hf
              refine lv_aload_n hx hb d_Rv_change_131 rfl (lv_at hl 2 rfl) ?_
              refine va_get (D := D) (ci := 2) (v := .ref mh) (C := R_Rv) (T := F_Rv) (N := 5) hx hb hts i_Rv hown hK hP 0 rfl rfl 1 (by decide) (hts _ k_92) (fun _ h9 => h9) rfl d_Rv_change_132 ?_
              refine lv_iload_n hx hb d_Rv_change_135 rfl (lv_at hl 4 rfl) ?_
              refine lv_iload hx hb d_Rv_change_136 (lv_at hl 0 rfl) ?_
              obtain ⟨z7, hz7, hf⟩ := x_bind hf
              refine x_callV (w2 := (w_Rv cI cJ cZ rh sh mh m0 m1 m2 m3 dh d0 d1 d2 d3 ea cb ch be ((z7.2, z6.2.2), z1.2.2))) ⟨hx, hb, hml, hown, hts⟩ (c_Co_move l D cI cJ cZ mh m0 m1 m2 m3 N p1 z3.1 z6.2.1 z7 hz7) (x_cwV 2 hts rfl k_150 k_151 k_152 k_11 k_153 (by decide +kernel) ⟨(Nat.le_of_ble_eq_true rfl), (Nat.le_of_ble_eq_true rfl)⟩) hK hP hD hS hA hZ [2, 3, 4, 5, 6] [0, 1, 7, 8, 9, 10, 11, 12, 13, 14, 15] [0, 1, 11, 12, 13, 14, 15, 2, 3, 4, 5, 6, 7, 8, 9, 10] (by decide) rfl rfl (by decide) (by decide) (by decide) rfl (ci := 0) rfl rfl rfl hl.1 rfl (Nat.le_of_ble_eq_true rfl) d_Rv_change_138 ⟨(Nat.le_of_ble_eq_true rfl), (Nat.le_of_ble_eq_true rfl)⟩ (fun H locs hP hD hS => ?_)
              refine W.eq (g2 := F0 m 141 ls []) rfl ?_
              refine lv_aload_n hx hb d_Rv_change_141 rfl (lv_at hl 2 rfl) ?_
              refine va_get (D := D) (ci := 2) (v := .ref mh) (C := R_Rv) (T := F_Rv) (N := 5) hx hb hts i_Rv hown hK hP 0 rfl rfl 1 (by decide) (hts _ k_92) (fun _ h9 => h9) rfl d_Rv_change_142 ?_
              refine lv_iload_n hx hb d_Rv_change_145 rfl (lv_at hl 4 rfl) ?_
              refine lv_iload_n hx hb d_Rv_change_146 rfl (lv_at hl 3 rfl) ?_
              refine lv_iload_n hx hb d_Rv_change_147 rfl (lv_at hl 5 rfl) ?_
              refine lv_iload hx hb d_Rv_change_148 (lv_at hl 0 rfl) ?_
              obtain ⟨z8, hz8, hf⟩ := x_bind hf
              refine x_callV (w2 := (w_Rv cI cJ cZ rh sh mh m0 m1 m2 m3 dh d0 d1 d2 d3 ea cb ch be ((z8.2, z6.2.2), z1.2.2))) ⟨hx, hb, hml, hown, hts⟩ (c_Co_fill l D cI cJ cZ mh m0 m1 m2 m3 N p1 p0 p2 z3.1 z7.2 z8 hz8) (x_cwV 4 hts rfl k_167 k_9 k_10 k_11 k_12 (by decide +kernel) ⟨(Nat.le_of_ble_eq_true rfl), (Nat.le_of_ble_eq_true rfl)⟩) hK hP hD hS hA hZ [2, 3, 4, 5, 6] [0, 1, 7, 8, 9, 10, 11, 12, 13, 14, 15] [0, 1, 11, 12, 13, 14, 15, 2, 3, 4, 5, 6, 7, 8, 9, 10] (by decide) rfl rfl (by decide) (by decide) (by decide) rfl (ci := 0) rfl rfl rfl hl.1 rfl (Nat.le_of_ble_eq_true rfl) d_Rv_change_150 ⟨(Nat.le_of_ble_eq_true rfl), (Nat.le_of_ble_eq_true rfl)⟩ (fun H locs hP hD hS => ?_)
              refine W.eq (g2 := F0 m 153 ls []) rfl ?_
              refine lv_aload_n hx hb d_Rv_change_153 rfl (lv_at hl 2 rfl) ?_
              refine lv_iload_n hx hb d_Rv_change_154 rfl (lv_at hl 3 rfl) ?_
              refine lv_iload hx hb d_Rv_change_155 (lv_at hl 0 rfl) ?_
              obtain ⟨z9, hz9, hf⟩ := x_bind hf
              refine x_callV (w2 := (w_Rv cI cJ cZ rh sh mh m0 m1 m2 m3 dh d0 d1 d2 d3 ea cb ch be z9.2)) ⟨hx, hb, hml, hown, hts⟩ (c_Rv_changedBy l D cI cJ cZ rh sh mh m0 m1 m2 m3 dh d0 d1 d2 d3 ea cb ch be N p0 z3.1 ((z8.2, z6.2.2), z1.2.2) z9 hz9) (x_cwV 2 hts rfl k_163 k_164 k_165 k_23 k_166 (by decide +kernel) ⟨(Nat.le_of_ble_eq_true rfl), (Nat.le_of_ble_eq_true rfl)⟩) hK hP hD hS hA hZ [0, 1, 2, 3, 4, 5, 6, 7, 8, 9, 10, 11, 12, 13, 14, 15] [] [0, 1, 2, 3, 4, 5, 6, 7, 8, 9, 10, 11, 12, 13, 14, 15] (by decide) rfl rfl (by decide) (by decide) (by decide) rfl (ci := 2) rfl rfl rfl hl.1 rfl (Nat.le_of_ble_eq_true rfl) d_Rv_change_157 ⟨(Nat.le_of_ble_eq_true rfl), (Nat.le_of_ble_eq_true rfl)⟩ (fun H locs hP hD hS => ?_)
              refine W.eq (g2 := F0 m 160 ls []) rfl ?_
              refine lv_aload_n hx hb d_Rv_change_160 rfl (lv_at hl 2 rfl) ?_
              refine lv_iload_n hx hb d_Rv_change_161 rfl (lv_at hl 3 rfl) ?_
              refine lv_iload_n hx hb d_Rv_change_162 rfl (lv_at hl 4 rfl) ?_
              obtain ⟨z10, hz10, hf⟩ := x_bind hf
              refine x_callV (w2 := (w_Rv cI cJ cZ rh sh mh m0 m1 m2 m3 dh d0 d1 d2 d3 ea cb ch be z10.2)) ⟨hx, hb, hml, hown, hts⟩ (c_Rv_changedBy l D cI cJ cZ rh sh mh m0 m1 m2 m3 dh d0 d1 d2 d3 ea cb ch be N p0 p1 z9.2 z10 hz10) (x_cwV 2 hts rfl k_163 k_164 k_165 k_23 k_166 (by decide +kernel) ⟨(Nat.le_of_ble_eq_true rfl), (Nat.le_of_ble_eq_true rfl)⟩) hK hP hD hS hA hZ [0, 1, 2, 3, 4, 5, 6, 7, 8, 9, 10, 11, 12, 13, 14, 15] [] [0, 1, 2, 3, 4, 5, 6, 7, 8, 9, 10, 11, 12, 13, 14, 15] (by decide) rfl rfl (by decide) (by decide) (by decide) rfl (ci := 2) rfl rfl rfl hl.1 rfl (Nat.le_of_ble_eq_true rfl) d_Rv_change_163 ⟨(Nat.le_of_ble_eq_true rfl), (Nat.le_of_ble_eq_true rfl)⟩ (fun H locs hP hD hS => ?_)
              refine W.eq (g2 := F0 m 166 ls []) rfl ?_
              refine lv_iconst (v := (1 : Int32)) hx hb d_Rv_change_166 (by decide) ?_
              obtain rfl := Option.some.inj hf
              exact x_iret hx hb hr hlocks hK hP hD hS (Nat.le_of_ble_eq_true rfl) (Nat.le_of_ble_eq_true rfl) d_Rv_change_167
            · have hf := x_ifp c11 hf
              refine lv_bipush (v := (-9 : Int32)) hx hb d_Rv_change_128 (by decide) ?_
              obtain rfl := Option.some.inj hf
              exact x_iret hx hb hr hlocks hK hP hD hS (Nat.le_of_ble_eq_true rfl) (Nat.le_of_ble_eq_true rfl) d_Rv_change_130
          · have hf := x_ifp c12 hf
            obtain rfl := Option.some.inj hf
            exact x_throw (cls := "java/lang/IndexOutOfBoundsException") (names := ["java/lang/RuntimeException", "java/lang/Exception"]) hL0 hx hb hml hown hlocks hno (by decide +kernel) (by decide +kernel) (at_Rv_158 hts hZ) (hts _ k_168) (hts _ k_169) hK hP hD hS hns hl.1 (Nat.le_of_ble_eq_true rfl) (Nat.le_of_ble_eq_true rfl) (Nat.le_of_ble_eq_true rfl) (Nat.le_of_ble_eq_true rfl) (Nat.le_of_ble_eq_true rfl) (Nat.le_of_ble_eq_true rfl) d_Rv_change_101 d_Rv_change_104 d_Rv_change_105 d_Rv_change_108
        · have hf := x_ifp c15 hf
          refine lv_aload_n hx hb d_Rv_change_73 rfl (lv_at hl 1 rfl) ?_
          refine va_get (D := D) (ci := 2) (v := .ref mh) (C := R_Rv) (T := F_Rv) (N := 5) hx hb hts i_Rv hown hK hP 0 rfl rfl 1 (by decide) (hts _ k_92) (fun _ h9 => h9) rfl d_Rv_change_74 ?_
          refine va_get (D := D) (ci := 0) (v := .ref m1) (C := R_Co) (T := F_Co) (N := 4) hx hb hts i_Co hown hK hP 2 rfl rfl 1 (by decide) (hts _ k_126) (fun _ h9 => h9) rfl d_Rv_change_77 ?_
          refine lv_iload_n hx hb d_Rv_change_80 rfl (lv_at hl 3 rfl) ?_
          refine lv_iload_n hx hb d_Rv_change_81 rfl (lv_at hl 4 rfl) ?_
          obtain ⟨g13, hf⟩ := x_if hf
          refine va_iast hx hb hK hP hD hS 4 0 rfl rfl (xi_in g13) d_Rv_change_82 (fun H locs hP hD hS => ?_)
          have hP : va_P D vwCl (w_Rv cI cJ cZ rh sh mh m0 m1 m2 m3 dh d0 d1 d2 d3 ea cb ch be (((z1.2.1.1.1, ((upd z1.2.1.1.2.1 p1.toNatClampNeg p2), z1.2.1.1.2.2)), z1.2.1.2), z1.2.2)) H := hP
          have hD : va_D A (w_Rv cI cJ cZ rh sh mh m0 m1 m2 m3 dh d0 d1 d2 d3 ea cb ch be (((z1.2.1.1.1, ((upd z1.2.1.1.2.1 p1.toNatClampNeg p2), z1.2.1.1.2.2)), z1.2.1.2), z1.2.2)) := hD
          refine lv_goto (tgt := 160) hx hb d_Rv_change_83 (by decide) ?_
          refine lv_aload_n hx hb d_Rv_change_160 rfl (lv_at hl 1 rfl) ?_
          refine lv_iload_n hx hb d_Rv_change_161 rfl (lv_at hl 2 rfl) ?_
          refine lv_iload_n hx hb d_Rv_change_162 rfl (lv_at hl 3 rfl) ?_
          obtain ⟨z14, hz14, hf⟩ := x_bind hf
          refine x_callV (w2 := (w_Rv cI cJ cZ rh sh mh m0 m1 m2 m3 dh d0 d1 d2 d3 ea cb ch be z14.2)) ⟨hx, hb, hml, hown, hts⟩ (c_Rv_changedBy l D cI cJ cZ rh sh mh m0 m1 m2 m3 dh d0 d1 d2 d3 ea cb ch be N p0 p1 (((z1.2.1.1.1, ((upd z1.2.1.1.2.1 p1.toNatClampNeg p2), z1.2.1.1.2.2)), z1.2.1.2), z1.2.2) z14 hz14) (x_cwV 2 hts rfl k_163 k_164 k_165 k_23 k_166 (by decide +kernel) ⟨(Nat.le_of_ble_eq_true rfl), (Nat.le_of_ble_eq_true rfl)⟩) hK hP hD hS hA hZ [0, 1, 2, 3, 4, 5, 6, 7, 8, 9, 10, 11, 12, 13, 14, 15] [] [0, 1, 2, 3, 4, 5, 6, 7, 8, 9, 10, 11, 12, 13, 14, 15] (by decide) rfl rfl (by decide) (by decide) (by decide) rfl (ci := 2) rfl rfl rfl hl.1 rfl (Nat.le_of_ble_eq_true rfl) d_Rv_change_163 ⟨(Nat.le_of_ble_eq_true rfl), (Nat.le_of_ble_eq_true rfl)⟩ (fun H locs hP hD hS => ?_)
          refine W.eq (g2 := F0 m 166 ls []) rfl ?_
          refine lv_iconst (v := (1 : Int32)) hx hb d_Rv_change_166 (by decide) ?_
          obtain rfl := Option.some.inj hf
          exact x_iret hx hb hr hlocks hK hP hD hS (Nat.le_of_ble_eq_true rfl) (Nat.le_of_ble_eq_true rfl) d_Rv_change_167
      · have hf := x_ifp c18 hf
        refine lv_aload_n hx hb d_Rv_change_53 rfl (lv_at hl 1 rfl) ?_
        refine va_get (D := D) (ci := 2) (v := .ref mh) (C := R_Rv) (T := F_Rv) (N := 5) hx hb hts i_Rv hown hK hP 0 rfl rfl 1 (by decide) (hts _ k_92) (fun _ h9 => h9) rfl d_Rv_change_54 ?_
        refine lv_iload_n hx hb d_Rv_change_57 rfl (lv_at hl 3 rfl) ?_
        refine lv_iload_n hx hb d_Rv_change_58 rfl (lv_at hl 2 rfl) ?_
        refine lv_iload_n hx hb d_Rv_change_59 rfl (lv_at hl 4 rfl) ?_
        refine lv_iconst (v := (-1 : Int32)) hx hb d_Rv_change_60 (by decide) ?_
        obtain ⟨z16, hz16, hf⟩ := x_bind hf
        refine x_callV (w2 := (w_Rv cI cJ cZ rh sh mh m0 m1 m2 m3 dh d0 d1 d2 d3 ea cb ch be ((z16.2, z1.2.1.2), z1.2.2))) ⟨hx, hb, hml, hown, hts⟩ (c_Co_fill l D cI cJ cZ mh m0 m1 m2 m3 N p1 p0 p2 (-1 : Int32) z1.2.1.1 z16 hz16) (x_cwV 4 hts rfl k_167 k_9 k_10 k_11 k_12 (by decide +kernel) ⟨(Nat.le_of_ble_eq_true rfl), (Nat.le_of_ble_eq_true rfl)⟩) hK hP hD hS hA hZ [2, 3, 4, 5, 6] [0, 1, 7, 8, 9, 10, 11, 12, 13, 14, 15] [0, 1, 11, 12, 13, 14, 15, 2, 3, 4, 5, 6, 7, 8, 9, 10] (by decide) rfl rfl (by decide) (by decide) (by decide) rfl (ci := 0) rfl rfl rfl hl.1 rfl (Nat.le_of_ble_eq_true rfl) d_Rv_change_61 ⟨(Nat.le_of_ble_eq_true rfl), (Nat.le_of_ble_eq_true rfl)⟩ (fun H locs hP hD hS => ?_)
        refine W.eq (g2 := F0 m 64 ls []) rfl ?_
        refine lv_goto (tgt := 160) hx hb d_Rv_change_64 (by decide) ?_
        refine lv_aload_n hx hb d_Rv_change_160 rfl (lv_at hl 1 rfl) ?_
        refine lv_iload_n hx hb d_Rv_change_161 rfl (lv_at hl 2 rfl) ?_
        refine lv_iload_n hx hb d_Rv_change_162 rfl (lv_at hl 3 rfl) ?_
        obtain ⟨z17, hz17, hf⟩ := x_bind hf
        refine x_callV (w2 := (w_Rv cI cJ cZ rh sh mh m0 m1 m2 m3 dh d0 d1 d2 d3 ea cb ch be z17.2)) ⟨hx, hb, hml, hown, hts⟩ (c_Rv_changedBy l D cI cJ cZ rh sh mh m0 m1 m2 m3 dh d0 d1 d2 d3 ea cb ch be N p0 p1 ((z16.2, z1.2.1.2), z1.2.2) z17 hz17) (x_cwV 2 hts rfl k_163 k_164 k_165 k_23 k_166 (by decide +kernel) ⟨(Nat.le_of_ble_eq_true rfl), (Nat.le_of_ble_eq_true rfl)⟩) hK hP hD hS hA hZ [0, 1, 2, 3, 4, 5, 6, 7, 8, 9, 10, 11, 12, 13, 14, 15] [] [0, 1, 2, 3, 4, 5, 6, 7, 8, 9, 10, 11, 12, 13, 14, 15] (by decide) rfl rfl (by decide) (by decide) (by decide) rfl (ci := 2) rfl rfl rfl hl.1 rfl (Nat.le_of_ble_eq_true rfl) d_Rv_change_163 ⟨(Nat.le_of_ble_eq_true rfl), (Nat.le_of_ble_eq_true rfl)⟩ (fun H locs hP hD hS => ?_)
        refine W.eq (g2 := F0 m 166 ls []) rfl ?_
        refine lv_iconst (v := (1 : Int32)) hx hb d_Rv_change_166 (by decide) ?_
        obtain rfl := Option.some.inj hf
        exact x_iret hx hb hr hlocks hK hP hD hS (Nat.le_of_ble_eq_true rfl) (Nat.le_of_ble_eq_true rfl) d_Rv_change_167
    · have hf := x_ifn c38 hf
      refine lv_aload_n hx hb d_Rv_change_27 rfl (lv_at hl 1 rfl) ?_
      refine lv_iload_n hx hb d_Rv_change_28 rfl (lv_at hl 2 rfl) ?_
      obtain ⟨z19, hz19, hf⟩ := x_bind hf
      refine x_callV (w2 := (w_Rv cI cJ cZ rh sh mh m0 m1 m2 m3 dh d0 d1 d2 d3 ea cb ch be z19.2)) ⟨hx, hb, hml, hown, hts⟩ (c_Rv_seenBy l D cI cJ cZ rh sh mh m0 m1 m2 m3 dh d0 d1 d2 d3 ea cb ch be N p0 z1.2 z19 hz19) (x_cwV 1 hts rfl k_120 k_121 k_122 k_23 k_123 (by decide +kernel) ⟨(Nat.le_of_ble_eq_true rfl), (Nat.le_of_ble_eq_true rfl)⟩) hK hP hD hS hA hZ [0, 1, 2, 3, 4, 5, 6, 7, 8, 9, 10, 11, 12, 13, 14, 15] [] [0, 1, 2, 3, 4, 5, 6, 7, 8, 9, 10, 11, 12, 13, 14, 15] (by decide) rfl rfl (by decide) (by decide) (by decide) rfl (ci := 2) rfl rfl rfl hl.1 rfl (Nat.le_of_ble_eq_true rfl) d_Rv_change_29 ⟨(Nat.le_of_ble_eq_true rfl), (Nat.le_of_ble_eq_true rfl)⟩ (fun H locs hP hD hS => ?_)
      refine W.eq (g2 := F0 m 32 ls [.long z19.1]) rfl ?_
      refine lv_iload hx hb d_Rv_change_32 (lv_at hl 0 rfl) ?_
      obtain ⟨z20, hz20, hf⟩ := x_bind hf
      refine x_callS (w2 := (w_Rv cI cJ cZ rh sh mh m0 m1 m2 m3 dh d0 d1 d2 d3 ea cb ch be z19.2)) ⟨hx, hb, hml, hown, hts⟩ (c_Rv_has l D cI cJ cZ  N z19.1 (z1.2.1.1.1 p1.toNatClampNeg)  z20 hz20) (x_cwS 2 hts rfl k_176 k_22 k_23 k_24 (by decide +kernel) ⟨(Nat.le_of_ble_eq_true rfl), (Nat.le_of_ble_eq_true rfl)⟩) hK hP hD hS hA hZ [] [0, 1, 2, 3, 4, 5, 6, 7, 8, 9, 10, 11, 12, 13, 14, 15] [0, 1, 2, 3, 4, 5, 6, 7, 8, 9, 10, 11, 12, 13, 14, 15] (by decide) rfl rfl (by decide) (by decide) (by decide) rfl rfl hl.1 rfl (Nat.le_of_ble_eq_true rfl) d_Rv_change_34 ⟨(Nat.le_of_ble_eq_true rfl), (Nat.le_of_ble_eq_true rfl)⟩ (fun H locs hP hD hS => ?_)
      refine W.eq (g2 := F0 m 37 ls [.int z20]) rfl ?_
      refine lv_if_ne (tgt := 48) hx hb d_Rv_change_37 (by decide) (fun c37 => ?_) (fun c37 => ?_)
      · have hf := x_ifn c37 hf
        refine lv_iload hx hb d_Rv_change_48 (lv_at hl 0 rfl) ?_
        refine lv_if_ne (tgt := 67) hx hb d_Rv_change_50 (by decide) (fun c36 => ?_) (fun c36 => ?_)
        · have hf := x_ifn c36 hf
          refine lv_iload hx hb d_Rv_change_67 (lv_at hl 0 rfl) ?_
          refine lv_iload_n hx hb d_Rv_change_69 rfl (lv_at hl 2 rfl) ?_
          refine lv_icmp_ne (tgt := 86) hx hb d_Rv_change_70 (by decide) (fun c33 => ?_) (fun c33 => ?_)
          · have hf := x_ifn c33 hf
            refine lv_aload_n hx hb d_Rv_change_86 rfl (lv_at hl 1 rfl) ?_
            refine va_get (D := D) (ci := 2) (v := .ref mh) (C := R_Rv) (T := F_Rv) (N := 5) hx hb hts i_Rv hown hK hP 0 rfl rfl 1 (by decide) (hts _ k_92) (fun _ h9 => h9) rfl d_Rv_change_87 ?_
            obtain ⟨z21, hz21, hf⟩ := x_bind hf
            refine x_callV (w2 := (w_Rv cI cJ cZ rh sh mh m0 m1 m2 m3 dh d0 d1 d2 d3 ea cb ch be ((z21.2, z19.2.1.2), z19.2.2))) ⟨hx, hb, hml, hown, hts⟩ (c_Co_leastFree l D cI cJ cZ mh m0 m1 m2 m3 N  z19.2.1.1 z21 hz21) (x_cwV 0 hts rfl k_170 k_171 k_172 k_11 k_173 (by decide +kernel) ⟨(Nat.le_of_ble_eq_true rfl), (Nat.le_of_ble_eq_true rfl)⟩) hK hP hD hS hA hZ [2, 3, 4, 5, 6] [0, 1, 7, 8, 9, 10, 11, 12, 13, 14, 15] [0, 1, 11, 12, 13, 14, 15, 2, 3, 4, 5, 6, 7, 8, 9, 10] (by decide) rfl rfl (by decide) (by decide) (by decide) rfl (ci := 0) rfl rfl rfl hl.1 rfl (Nat.le_of_ble_eq_true rfl) d_Rv_change_90 ⟨(Nat.le_of_ble_eq_true rfl), (Nat.le_of_ble_eq_true rfl)⟩ (fun H locs hP hD hS => ?_)
            refine W.eq (g2 := F0 m 93 ls [.int z21.1]) rfl ?_
            refine lv_istore (lv' := [(5, .int z21.1), (4, .int (z1.2.1.1.1 p1.toNatClampNeg)), (0, .ref rh), (1, .int p0), (2, .int p1), (3, .int p2)]) hx hb d_Rv_change_93 hl (by decide) rfl (fun ls hl => ?_)
            refine lv_iload hx hb d_Rv_change_95 (lv_at hl 0 rfl) ?_
            refine lv_iconst (v := (-1 : Int32)) hx hb d_Rv_change_97 (by decide) ?_
            refine lv_icmp_ne (tgt := 109) hx hb d_Rv_change_98 (by decide) (fun c30 => ?_) (fun c30 => ?_)
            · have hf := x_ifn c30 hf
              refine lv_aload_n hx hb d_Rv_change_109 rfl (lv_at hl 2 rfl) ?_
              refine va_get (D := D) (ci := 2) (v := .ref sh) (C := R_Rv) (T := F_Rv) (N := 5) hx hb hts i_Rv hown hK hP 0 rfl rfl 0 (by decide) (hts _ k_90) (fun _ h9 => h9) rfl d_Rv_change_110 ?_
              refine lv_iload hx hb d_Rv_change_113 (lv_at hl 0 rfl) ?_
              obtain ⟨z22, hz22, hf⟩ := x_bind hf
              refine x_callS (w2 := (w_Rv cI cJ cZ rh sh mh m0 m1 m2 m3 dh d0 d1 d2 d3 ea cb ch be ((z21.2, z19.2.1.2), z19.2.2))) ⟨hx, hb, hml, hown, hts⟩ (c_Rv_pageOf l D cI cJ cZ  N z21.1  z22 hz22) (x_cwS 1 hts rfl k_143 k_144 k_23 k_145 (by decide +kernel) ⟨(Nat.le_of_ble_eq_true rfl), (Nat.le_of_ble_eq_true rfl)⟩) hK hP hD hS hA hZ [] [0, 1, 2, 3, 4, 5, 6, 7, 8, 9, 10, 11, 12, 13, 14, 15] [0, 1, 2, 3, 4, 5, 6, 7, 8, 9, 10, 11, 12, 13, 14, 15] (by decide) rfl rfl (by decide) (by decide) (by decide) rfl rfl hl.1 rfl (Nat.le_of_ble_eq_true rfl) d_Rv_change_115 ⟨(Nat.le_of_ble_eq_true rfl), (Nat.le_of_ble_eq_true rfl)⟩ (fun H locs hP hD hS => ?_)
              refine W.eq (g2 := F0 m 118 ls [.int z22, .ref sh]) rfl ?_
              refine lv_iload_n hx hb d_Rv_change_118 rfl (lv_at hl 4 rfl) ?_
              obtain ⟨z23, hz23, hf⟩ := x_bind hf
              refine x_callS (w2 := (w_Rv cI cJ cZ rh sh mh m0 m1 m2 m3 dh d0 d1 d2 d3 ea cb ch be ((z21.2, z19.2.1.2), z19.2.2))) ⟨hx, hb, hml, hown, hts⟩ (c_Rv_pageOf l D cI cJ cZ  N p1  z23 hz23) (x_cwS 1 hts rfl k_143 k_144 k_23 k_145 (by decide +kernel) ⟨(Nat.le_of_ble_eq_true rfl), (Nat.le_of_ble_eq_true rfl)⟩) hK hP hD hS hA hZ [] [0, 1, 2, 3, 4, 5, 6, 7, 8, 9, 10, 11, 12, 13, 14, 15] [0, 1, 2, 3, 4, 5, 6, 7, 8, 9, 10, 11, 12, 13, 14, 15] (by decide) rfl rfl (by decide) (by decide) (by decide) rfl rfl hl.1 rfl (Nat.le_of_ble_eq_true rfl) d_Rv_change_119 ⟨(Nat.le_of_ble_eq_true rfl), (Nat.le_of_ble_eq_true rfl)⟩ (fun H locs hP hD hS => ?_)
              refine W.eq (g2 := F0 m 122 ls [.int z23, .int z22, .ref sh]) rfl ?_
              obtain ⟨z24, hz24, hf⟩ := x_bind hf
              refine x_callV (w2 := (w_Rv cI cJ cZ rh sh mh m0 m1 m2 m3 dh d0 d1 d2 d3 ea cb ch be (z24.2, z19.2.2))) ⟨hx, hb, hml, hown, hts⟩ (c_St_note l D cI cJ cZ sh mh m0 m1 m2 m3 dh d0 d1 d2 d3 ea N z22 z23 (z21.2, z19.2.1.2) z24 hz24) (x_cwV 2 hts rfl k_154 k_155 k_156 k_55 k_157 (by decide +kernel) ⟨(Nat.le_of_ble_eq_true rfl), (Nat.le_of_ble_eq_true rfl)⟩) hK hP hD hS hA hZ [1, 2, 3, 4, 5, 6, 7, 8, 9, 10, 11, 12] [0, 13, 14, 15] [0, 4, 5, 6, 7, 8, 9, 10, 11, 12, 13, 14, 15, 1, 2, 3] (by decide) rfl rfl (by decide) (by decide) (by decide) rfl (ci := 1) rfl rfl rfl hl.1 rfl (Nat.le_of_ble_eq_true rfl) d_Rv_change_122 ⟨(Nat.le_of_ble_eq_true rfl), (Nat.le_of_ble_eq_true rfl)⟩ (fun H locs hP hD hS => ?_)
              refine W.eq (g2 := F0 m 125 ls [.int z24.1]) rfl ?_
              refine lv_if_ne (tgt := 131) hx hb d_Rv_change_125 (by decide) (fun c29 => ?_) (fun c29 => ?_)
              · have hf := x_ifn c29 hf
                refine lv_aload_n hx hb d_Rv_change_131 rfl (lv_at hl 2 rfl) ?_
                refine va_get (D := D) (ci := 2) (v := .ref mh) (C := R_Rv) (T := F_Rv) (N := 5) hx hb hts i_Rv hown hK hP 0 rfl rfl 1 (by decide) (hts _ k_92) (fun _ h9 => h9) rfl d_Rv_change_132 ?_
                refine lv_iload_n hx hb d_Rv_change_135 rfl (lv_at hl 4 rfl) ?_
                refine lv_iload hx hb d_Rv_change_136 (lv_at hl 0 rfl) ?_
                obtain ⟨z25, hz25, hf⟩ := x_bind hf
                refine x_callV (w2 := (w_Rv cI cJ cZ rh sh mh m0 m1 m2 m3 dh d0 d1 d2 d3 ea cb ch be ((z25.2, z24.2.2), z19.2.2))) ⟨hx, hb, hml, hown, hts⟩ (c_Co_move l D cI cJ cZ mh m0 m1 m2 m3 N p1 z21.1 z24.2.1 z25 hz25) (x_cwV 2 hts rfl k_150 k_151 k_152 k_11 k_153 (by decide +kernel) ⟨(Nat.le_of_ble_eq_true rfl), (Nat.le_of_ble_eq_true rfl)⟩) hK hP hD hS hA hZ [2, 3, 4, 5, 6] [0, 1, 7, 8, 9, 10, 11, 12, 13, 14, 15] [0, 1, 11, 12, 13, 14, 15, 2, 3, 4, 5, 6, 7, 8, 9, 10] (by decide) rfl rfl (by decide) (by decide) (by decide) rfl (ci := 0) rfl rfl rfl hl.1 rfl (Nat.le_of_ble_eq_true rfl) d_Rv_change_138 ⟨(Nat.le_of_ble_eq_true rfl), (Nat.le_of_ble_eq_true rfl)⟩ (fun H locs hP hD hS => ?_)
                refine W.eq (g2 := F0 m 141 ls []) rfl ?_
                refine lv_aload_n hx hb d_Rv_change_141 rfl (lv_at hl 2 rfl) ?_
                refine va_get (D := D) (ci := 2) (v := .ref mh) (C := R_Rv) (T := F_Rv) (N := 5) hx hb hts i_Rv hown hK hP 0 rfl rfl 1 (by decide) (hts _ k_92) (fun _ h9 => h9) rfl d_Rv_change_142 ?_
                refine lv_iload_n hx hb d_Rv_change_145 rfl (lv_at hl 4 rfl) ?_
                refine lv_iload_n hx hb d_Rv_change_146 rfl (lv_at hl 3 rfl) ?_
                refine lv_iload_n hx hb d_Rv_change_147 rfl (lv_at hl 5 rfl) ?_
                refine lv_iload hx hb d_Rv_change_148 (lv_at hl 0 rfl) ?_
                obtain ⟨z26, hz26, hf⟩ := x_bind hf
                refine x_callV (w2 := (w_Rv cI cJ cZ rh sh mh m0 m1 m2 m3 dh d0 d1 d2 d3 ea cb ch be ((z26.2, z24.2.2), z19.2.2))) ⟨hx, hb, hml, hown, hts⟩ (c_Co_fill l D cI cJ cZ mh m0 m1 m2 m3 N p1 p0 p2 z21.1 z25.2 z26 hz26) (x_cwV 4 hts rfl k_167 k_9 k_10 k_11 k_12 (by decide +kernel) ⟨(Nat.le_of_ble_eq_true rfl), (Nat.le_of_ble_eq_true rfl)⟩) hK hP hD hS hA hZ [2, 3, 4, 5, 6] [0, 1, 7, 8, 9, 10, 11, 12, 13, 14, 15] [0, 1, 11, 12, 13, 14, 15, 2, 3, 4, 5, 6, 7, 8, 9, 10] (by decide) rfl rfl (by decide) (by decide) (by decide) rfl (ci := 0) rfl rfl rfl hl.1 rfl (Nat.le_of_ble_eq_true rfl) d_Rv_change_150 ⟨(Nat.le_of_ble_eq_true rfl), (Nat.le_of_ble_eq_true rfl)⟩ (fun H locs hP hD hS => ?_)
                refine W.eq (g2 := F0 m 153 ls []) rfl ?_
                refine lv_aload_n hx hb d_Rv_change_153 rfl (lv_at hl 2 rfl) ?_
                refine lv_iload_n hx hb d_Rv_change_154 rfl (lv_at hl 3 rfl) ?_
                refine lv_iload hx hb d_Rv_change_155 (lv_at hl 0 rfl) ?_
                obtain ⟨z27, hz27, hf⟩ := x_bind hf
                refine x_callV (w2 := (w_Rv cI cJ cZ rh sh mh m0 m1 m2 m3 dh d0 d1 d2 d3 ea cb ch be z27.2)) ⟨hx, hb, hml, hown, hts⟩ (c_Rv_changedBy l D cI cJ cZ rh sh mh m0 m1 m2 m3 dh d0 d1 d2 d3 ea cb ch be N p0 z21.1 ((z26.2, z24.2.2), z19.2.2) z27 hz27) (x_cwV 2 hts rfl k_163 k_164 k_165 k_23 k_166 (by decide +kernel) ⟨(Nat.le_of_ble_eq_true rfl), (Nat.le_of_ble_eq_true rfl)⟩) hK hP hD hS hA hZ [0, 1, 2, 3, 4, 5, 6, 7, 8, 9, 10, 11, 12, 13, 14, 15] [] [0, 1, 2, 3, 4, 5, 6, 7, 8, 9, 10, 11, 12, 13, 14, 15] (by decide) rfl rfl (by decide) (by decide) (by decide) rfl (ci := 2) rfl rfl rfl hl.1 rfl (Nat.le_of_ble_eq_true rfl) d_Rv_change_157 ⟨(Nat.le_of_ble_eq_true rfl), (Nat.le_of_ble_eq_true rfl)⟩ (fun H locs hP hD hS => ?_)
                refine W.eq (g2 := F0 m 160 ls []) rfl ?_
                refine lv_aload_n hx hb d_Rv_change_160 rfl (lv_at hl 2 rfl) ?_
                refine lv_iload_n hx hb d_Rv_change_161 rfl (lv_at hl 3 rfl) ?_
                refine lv_iload_n hx hb d_Rv_change_162 rfl (lv_at hl 4 rfl) ?_
                obtain ⟨z28, hz28, hf⟩ := x_bind hf
                refine x_callV (w2 := (w_Rv cI cJ cZ rh sh mh m0 m1 m2 m3 dh d0 d1 d2 d3 ea cb ch be z28.2)) ⟨hx, hb, hml, hown, hts⟩ (c_Rv_changedBy l D cI cJ cZ rh sh mh m0 m1 m2 m3 dh d0 d1 d2 d3 ea cb ch be N p0 p1 z27.2 z28 hz28) (x_cwV 2 hts rfl k_163 k_164 k_165 k_23 k_166 (by decide +kernel) ⟨(Nat.le_of_ble_eq_true rfl), (Nat.le_of_ble_eq_true rfl)⟩) hK hP hD hS hA hZ [0, 1, 2, 3, 4, 5, 6, 7, 8, 9, 10, 11, 12, 13, 14, 15] [] [0, 1, 2, 3, 4, 5, 6, 7, 8, 9, 10, 11, 12, 13, 14, 15] (by decide) rfl rfl (by decide) (by decide) (by decide) rfl (ci := 2) rfl rfl rfl hl.1 rfl (Nat.le_of_ble_eq_true rfl) d_Rv_change_163 ⟨(Nat.le_of_ble_eq_true rfl), (Nat.le_of_ble_eq_true rfl)⟩ (fun H locs hP hD hS => ?_)
                refine W.eq (g2 := F0 m 166 ls []) rfl ?_
                refine lv_iconst (v := (1 : Int32)) hx hb d_Rv_change_166 (by decide) ?_
                obtain rfl := Option.some.inj hf
                exact x_iret hx hb hr hlocks hK hP hD hS (Nat.le_of_ble_eq_true rfl) (Nat.le_of_ble_eq_true rfl) d_Rv_change_167
              · have hf := x_ifp c29 hf
                refine lv_bipush (v := (-9 : Int32)) hx hb d_Rv_change_128 (by decide) ?_
                obtain rfl := Option.some.inj hf
                exact x_iret hx hb hr hlocks hK hP hD hS (Nat.le_of_ble_eq_true rfl) (Nat.le_of_ble_eq_true rfl) d_Rv_change_130
            · have hf := x_ifp c30 hf
              obtain rfl := Option.some.inj hf
              exact x_throw (cls := "java/lang/IndexOutOfBoundsException") (names := ["java/lang/RuntimeException", "java/lang/Exception"]) hL0 hx hb hml hown hlocks hno (by decide +kernel) (by decide +kernel) (at_Rv_158 hts hZ) (hts _ k_168) (hts _ k_169) hK hP hD hS hns hl.1 (Nat.le_of_ble_eq_true rfl) (Nat.le_of_ble_eq_true rfl) (Nat.le_of_ble_eq_true rfl) (Nat.le_of_ble_eq_true rfl) (Nat.le_of_ble_eq_true rfl) (Nat.le_of_ble_eq_true rfl) d_Rv_change_101 d_Rv_change_104 d_Rv_change_105 d_Rv_change_108
          · have hf := x_ifp c33 hf
            refine lv_aload_n hx hb d_Rv_change_73 rfl (lv_at hl 1 rfl) ?_
            refine va_get (D := D) (ci := 2) (v := .ref mh) (C := R_Rv) (T := F_Rv) (N := 5) hx hb hts i_Rv hown hK hP 0 rfl rfl 1 (by decide) (hts _ k_92) (fun _ h9 => h9) rfl d_Rv_change_74 ?_
            refine va_get (D := D) (ci := 0) (v := .ref m1) (C := R_Co) (T := F_Co) (N := 4) hx hb hts i_Co hown hK hP 2 rfl rfl 1 (by decide) (hts _ k_126) (fun _ h9 => h9) rfl d_Rv_change_77 ?_
            refine lv_iload_n hx hb d_Rv_change_80 rfl (lv_at hl 3 rfl) ?_
            refine lv_iload_n hx hb d_Rv_change_81 rfl (lv_at hl 4 rfl) ?_
            obtain ⟨g31, hf⟩ := x_if hf
            refine va_iast hx hb hK hP hD hS 4 0 rfl rfl (xi_in g31) d_Rv_change_82 (fun H locs hP hD hS => ?_)
            have hP : va_P D vwCl (w_Rv cI cJ cZ rh sh mh m0 m1 m2 m3 dh d0 d1 d2 d3 ea cb ch be (((z19.2.1.1.1, ((upd z19.2.1.1.2.1 p1.toNatClampNeg p2), z19.2.1.1.2.2)), z19.2.1.2), z19.2.2)) H := hP
            have hD : va_D A (w_Rv cI cJ cZ rh sh mh m0 m1 m2 m3 dh d0 d1 d2 d3 ea cb ch be (((z19.2.1.1.1, ((upd z19.2.1.1.2.1 p1.toNatClampNeg p2), z19.2.1.1.2.2)), z19.2.1.2), z19.2.2)) := hD
            refine lv_goto (tgt := 160) hx hb d_Rv_change_83 (by decide) ?_
            refine lv_aload_n hx hb d_Rv_change_160 rfl (lv_at hl 1 rfl) ?_
            refine lv_iload_n hx hb d_Rv_change_161 rfl (lv_at hl 2 rfl) ?_
            refine lv_iload_n hx hb d_Rv_change_162 rfl (lv_at hl 3 rfl) ?_
            obtain ⟨z32, hz32, hf⟩ := x_bind hf
            refine x_callV (w2 := (w_Rv cI cJ cZ rh sh mh m0 m1 m2 m3 dh d0 d1 d2 d3 ea cb ch be z32.2)) ⟨hx, hb, hml, hown, hts⟩ (c_Rv_changedBy l D cI cJ cZ rh sh mh m0 m1 m2 m3 dh d0 d1 d2 d3 ea cb ch be N p0 p1 (((z19.2.1.1.1, ((upd z19.2.1.1.2.1 p1.toNatClampNeg p2), z19.2.1.1.2.2)), z19.2.1.2), z19.2.2) z32 hz32) (x_cwV 2 hts rfl k_163 k_164 k_165 k_23 k_166 (by decide +kernel) ⟨(Nat.le_of_ble_eq_true rfl), (Nat.le_of_ble_eq_true rfl)⟩) hK hP hD hS hA hZ [0, 1, 2, 3, 4, 5, 6, 7, 8, 9, 10, 11, 12, 13, 14, 15] [] [0, 1, 2, 3, 4, 5, 6, 7, 8, 9, 10, 11, 12, 13, 14, 15] (by decide) rfl rfl (by decide) (by decide) (by decide) rfl (ci := 2) rfl rfl rfl hl.1 rfl (Nat.le_of_ble_eq_true rfl) d_Rv_change_163 ⟨(Nat.le_of_ble_eq_true rfl), (Nat.le_of_ble_eq_true rfl)⟩ (fun H locs hP hD hS => ?_)
            refine W.eq (g2 := F0 m 166 ls []) rfl ?_
            refine lv_iconst (v := (1 : Int32)) hx hb d_Rv_change_166 (by decide) ?_
            obtain rfl := Option.some.inj hf
            exact x_iret hx hb hr hlocks hK hP hD hS (Nat.le_of_ble_eq_true rfl) (Nat.le_of_ble_eq_true rfl) d_Rv_change_167
        · have hf := x_ifp c36 hf
          refine lv_aload_n hx hb d_Rv_change_53 rfl (lv_at hl 1 rfl) ?_
          refine va_get (D := D) (ci := 2) (v := .ref mh) (C := R_Rv) (T := F_Rv) (N := 5) hx hb hts i_Rv hown hK hP 0 rfl rfl 1 (by decide) (hts _ k_92) (fun _ h9 => h9) rfl d_Rv_change_54 ?_
          refine lv_iload_n hx hb d_Rv_change_57 rfl (lv_at hl 3 rfl) ?_
          refine lv_iload_n hx hb d_Rv_change_58 rfl (lv_at hl 2 rfl) ?_
          refine lv_iload_n hx hb d_Rv_change_59 rfl (lv_at hl 4 rfl) ?_
          refine lv_iconst (v := (-1 : Int32)) hx hb d_Rv_change_60 (by decide) ?_
          obtain ⟨z34, hz34, hf⟩ := x_bind hf
          refine x_callV (w2 := (w_Rv cI cJ cZ rh sh mh m0 m1 m2 m3 dh d0 d1 d2 d3 ea cb ch be ((z34.2, z19.2.1.2), z19.2.2))) ⟨hx, hb, hml, hown, hts⟩ (c_Co_fill l D cI cJ cZ mh m0 m1 m2 m3 N p1 p0 p2 (-1 : Int32) z19.2.1.1 z34 hz34) (x_cwV 4 hts rfl k_167 k_9 k_10 k_11 k_12 (by decide +kernel) ⟨(Nat.le_of_ble_eq_true rfl), (Nat.le_of_ble_eq_true rfl)⟩) hK hP hD hS hA hZ [2, 3, 4, 5, 6] [0, 1, 7, 8, 9, 10, 11, 12, 13, 14, 15] [0, 1, 11, 12, 13, 14, 15, 2, 3, 4, 5, 6, 7, 8, 9, 10] (by decide) rfl rfl (by decide) (by decide) (by decide) rfl (ci := 0) rfl rfl rfl hl.1 rfl (Nat.le_of_ble_eq_true rfl) d_Rv_change_61 ⟨(Nat.le_of_ble_eq_true rfl), (Nat.le_of_ble_eq_true rfl)⟩ (fun H locs hP hD hS => ?_)
          refine W.eq (g2 := F0 m 64 ls []) rfl ?_
          refine lv_goto (tgt := 160) hx hb d_Rv_change_64 (by decide) ?_
          refine lv_aload_n hx hb d_Rv_change_160 rfl (lv_at hl 1 rfl) ?_
          refine lv_iload_n hx hb d_Rv_change_161 rfl (lv_at hl 2 rfl) ?_
          refine lv_iload_n hx hb d_Rv_change_162 rfl (lv_at hl 3 rfl) ?_
          obtain ⟨z35, hz35, hf⟩ := x_bind hf
          refine x_callV (w2 := (w_Rv cI cJ cZ rh sh mh m0 m1 m2 m3 dh d0 d1 d2 d3 ea cb ch be z35.2)) ⟨hx, hb, hml, hown, hts⟩ (c_Rv_changedBy l D cI cJ cZ rh sh mh m0 m1 m2 m3 dh d0 d1 d2 d3 ea cb ch be N p0 p1 ((z34.2, z19.2.1.2), z19.2.2) z35 hz35) (x_cwV 2 hts rfl k_163 k_164 k_165 k_23 k_166 (by decide +kernel) ⟨(Nat.le_of_ble_eq_true rfl), (Nat.le_of_ble_eq_true rfl)⟩) hK hP hD hS hA hZ [0, 1, 2, 3, 4, 5, 6, 7, 8, 9, 10, 11, 12, 13, 14, 15] [] [0, 1, 2, 3, 4, 5, 6, 7, 8, 9, 10, 11, 12, 13, 14, 15] (by decide) rfl rfl (by decide) (by decide) (by decide) rfl (ci := 2) rfl rfl rfl hl.1 rfl (Nat.le_of_ble_eq_true rfl) d_Rv_change_163 ⟨(Nat.le_of_ble_eq_true rfl), (Nat.le_of_ble_eq_true rfl)⟩ (fun H locs hP hD hS => ?_)
          refine W.eq (g2 := F0 m 166 ls []) rfl ?_
          refine lv_iconst (v := (1 : Int32)) hx hb d_Rv_change_166 (by decide) ?_
          obtain rfl := Option.some.inj hf
          exact x_iret hx hb hr hlocks hK hP hD hS (Nat.le_of_ble_eq_true rfl) (Nat.le_of_ble_eq_true rfl) d_Rv_change_167
      · have hf := x_ifp c37 hf
        obtain rfl := Option.some.inj hf
        exact x_throw (cls := "java/lang/UnsupportedOperationException") (names := ["java/lang/RuntimeException", "java/lang/Exception"]) hL0 hx hb hml hown hlocks hno (by decide +kernel) (by decide +kernel) (at_Rv_148 hts hZ) (hts _ k_174) (hts _ k_175) hK hP hD hS hns hl.1 (Nat.le_of_ble_eq_true rfl) (Nat.le_of_ble_eq_true rfl) (Nat.le_of_ble_eq_true rfl) (Nat.le_of_ble_eq_true rfl) (Nat.le_of_ble_eq_true rfl) (Nat.le_of_ble_eq_true rfl) d_Rv_change_40 d_Rv_change_43 d_Rv_change_44 d_Rv_change_47
  · have hf := x_ifp c39 hf
    refine lv_bipush (v := (-9 : Int32)) hx hb d_Rv_change_8 (by decide) ?_
    obtain rfl := Option.some.inj hf
    exact x_iret hx hb hr hlocks hK hP hD hS (Nat.le_of_ble_eq_true rfl) (Nat.le_of_ble_eq_true rfl) d_Rv_change_10
set_option maxHeartbeats 4000000 in
set_option maxRecDepth 100000 in
theorem c_Rv_write (l : Launch) (D : va_G) (cI cJ cZ : ClassId) (rh sh mh m0 m1 m2 m3 dh d0 d1 d2 d3 ea cb ch be : Nat) (hL0 : xL l) (N : Nat) (p0 : Int32) (p1 : Int32) (p2 : Int32) (U : K_Rv) (r : ((Int32 ⊕ String) × K_Rv)) (hf : f_Rv_write N p0 p1 p2 U = some r) : Cx l y_Rv_write ws_Rv_write rm_Rv_write D vwCl (tyL cI cJ cZ) [.ref rh, .int p0, .int p1, .int p2] (w_Rv cI cJ cZ rh sh mh m0 m1 m2 m3 dh d0 d1 d2 d3 ea cb ch be U) (tI r.1) (w_Rv cI cJ cZ rh sh mh m0 m1 m2 m3 dh d0 d1 d2 d3 ea cb ch be r.2) := by
  unfold f_Rv_write at hf
  refine Cx.ofW (cc := b_Rv_write) (maxL := 4) (ret := (some .int)) (by decide) rfl ?_
  intro p e s m below meth c A C0 hP hK hD hA hns hZ
  obtain ⟨hx, hb, hml, hown, hts0, hr, hlocks, hnm, hno⟩ := C0
  have hown : s.vm.findClass R_Rv = some m.cls := hown
  have hts : ∀ w ∈ tb, w.before [.ref rh, .int p0, .int p1, .int p2].toArray s = true := fun w h => hts0 w (List.mem_cons_of_mem _ h)
  have hS : va_S A s.heap s.heap [] := va_S.rf
  have hl := lv_entry ([.ref rh, .int p0, .int p1, .int p2]) (n := 4) (Nat.le_of_ble_eq_true rfl)
  rw [lg_entry_eq]
  generalize (lg_sl ([.ref rh, .int p0, .int p1, .int p2]) ++ List.replicate (4 - (lg_sl ([.ref rh, .int p0, .int p1, .int p2])).length) Slot.unset).toArray = ls at hl ⊢
  have hl : lv_has ls 4 [(0, .ref rh), (1, .int p0), (2, .int p1), (3, .int p2)] := hl
  refine lv_iload_n hx hb d_Rv_write_0 rfl (lv_at hl 2 rfl) ?_
  obtain ⟨v2 | E3, hz1, hf⟩ := x_bind hf
  · dsimp only at hf
    refine x_callS (w2 := (w_Rv cI cJ cZ rh sh mh m0 m1 m2 m3 dh d0 d1 d2 d3 ea cb ch be U)) ⟨hx, hb, hml, hown, hts⟩ (c_Rv_demandRecord l D cI cJ cZ  hL0 N p1  (Sum.inl v2) hz1) (x_cwS 1 hts rfl k_138 k_139 k_23 k_140 (by decide +kernel) ⟨(Nat.le_of_ble_eq_true rfl), (Nat.le_of_ble_eq_true rfl)⟩) hK hP hD hS hA hZ [] [0, 1, 2, 3, 4, 5, 6, 7, 8, 9, 10, 11, 12, 13, 14, 15] [0, 1, 2, 3, 4, 5, 6, 7, 8, 9, 10, 11, 12, 13, 14, 15] (by decide) rfl rfl (by decide) (by decide) (by decide) rfl rfl hl.1 rfl (Nat.le_of_ble_eq_true rfl) d_Rv_write_1 ⟨(Nat.le_of_ble_eq_true rfl), (Nat.le_of_ble_eq_true rfl)⟩ (fun H locs hP hD hS => ?_)
    refine W.eq (g2 := F0 m 4 ls []) rfl ?_
    refine lv_iload_n hx hb d_Rv_write_4 rfl (lv_at hl 3 rfl) ?_
    refine lv_if_lt (tgt := 14) hx hb d_Rv_write_5 (by decide) (fun c14 => ?_) (fun c14 => ?_)
    · have hf := x_ifp c14 hf
      obtain rfl := Option.some.inj hf
      exact x_throw (cls := "java/lang/IllegalArgumentException") (names := ["java/lang/RuntimeException", "java/lang/Exception"]) hL0 hx hb hml hown hlocks hno (by decide +kernel) (by decide +kernel) (at_Rv_76 hts hZ) (hts _ k_114) (hts _ k_115) hK hP hD hS hns hl.1 (Nat.le_of_ble_eq_true rfl) (Nat.le_of_ble_eq_true rfl) (Nat.le_of_ble_eq_true rfl) (Nat.le_of_ble_eq_true rfl) (Nat.le_of_ble_eq_true rfl) (Nat.le_of_ble_eq_true rfl) d_Rv_write_14 d_Rv_write_17 d_Rv_write_18 d_Rv_write_21
    · have hf := x_ifn c14 hf
      refine lv_iload_n hx hb d_Rv_write_8 rfl (lv_at hl 3 rfl) ?_
      refine lv_ldc hx hb hown (hts _ k_141) d_Rv_write_9 ?_
      refine lv_icmp_le (tgt := 22) hx hb d_Rv_write_11 (by decide) (fun c13 => ?_) (fun c13 => ?_)
      · have hf := x_ifp c13 hf
        refine lv_aload_n hx hb d_Rv_write_22 rfl (lv_at hl 0 rfl) ?_
        refine lv_iload_n hx hb d_Rv_write_23 rfl (lv_at hl 1 rfl) ?_
        obtain ⟨⟨v6 | E7, U8⟩, hz5, hf⟩ := x_bind hf
        · dsimp only at hf
          refine x_callV (w2 := (w_Rv cI cJ cZ rh sh mh m0 m1 m2 m3 dh d0 d1 d2 d3 ea cb ch be U8)) ⟨hx, hb, hml, hown, hts⟩ (c_Rv_demandActive l D cI cJ cZ rh sh mh m0 m1 m2 m3 dh d0 d1 d2 d3 ea cb ch be hL0 N p0 U (Sum.inl v6, U8) hz5) (x_cwV 1 hts rfl k_134 k_135 k_136 k_23 k_137 (by decide +kernel) ⟨(Nat.le_of_ble_eq_true rfl), (Nat.le_of_ble_eq_true rfl)⟩) hK hP hD hS hA hZ [0, 1, 2, 3, 4, 5, 6, 7, 8, 9, 10, 11, 12, 13, 14, 15] [] [0, 1, 2, 3, 4, 5, 6, 7, 8, 9, 10, 11, 12, 13, 14, 15] (by decide) rfl rfl (by decide) (by decide) (by decide) rfl (ci := 2) rfl rfl rfl hl.1 rfl (Nat.le_of_ble_eq_true rfl) d_Rv_write_24 ⟨(Nat.le_of_ble_eq_true rfl), (Nat.le_of_ble_eq_true rfl)⟩ (fun H locs hP hD hS => ?_)
          refine W.eq (g2 := F0 m 27 ls []) rfl ?_
          refine lv_aload_n hx hb d_Rv_write_27 rfl (lv_at hl 0 rfl) ?_
          refine lv_iload_n hx hb d_Rv_write_28 rfl (lv_at hl 1 rfl) ?_
          refine lv_iload_n hx hb d_Rv_write_29 rfl (lv_at hl 2 rfl) ?_
          refine lv_iload_n hx hb d_Rv_write_30 rfl (lv_at hl 3 rfl) ?_
          obtain ⟨⟨v10 | E11, U12⟩, hz9, hf⟩ := x_bind hf
          · dsimp only at hf
            refine x_callV (w2 := (w_Rv cI cJ cZ rh sh mh m0 m1 m2 m3 dh d0 d1 d2 d3 ea cb ch be U12)) ⟨hx, hb, hml, hown, hts⟩ (c_Rv_change l D cI cJ cZ rh sh mh m0 m1 m2 m3 dh d0 d1 d2 d3 ea cb ch be hL0 N p0 p1 p2 U8 (Sum.inl v10, U12) hz9) (x_cwV 3 hts rfl k_181 k_182 k_183 k_23 k_184 (by decide +kernel) ⟨(Nat.le_of_ble_eq_true rfl), (Nat.le_of_ble_eq_true rfl)⟩) hK hP hD hS hA hZ [0, 1, 2, 3, 4, 5, 6, 7, 8, 9, 10, 11, 12, 13, 14, 15] [] [0, 1, 2, 3, 4, 5, 6, 7, 8, 9, 10, 11, 12, 13, 14, 15] (by decide) rfl rfl (by decide) (by decide) (by decide) rfl (ci := 2) rfl rfl rfl hl.1 rfl (Nat.le_of_ble_eq_true rfl) d_Rv_write_31 ⟨(Nat.le_of_ble_eq_true rfl), (Nat.le_of_ble_eq_true rfl)⟩ (fun H locs hP hD hS => ?_)
            refine W.eq (g2 := F0 m 34 ls [.int v10]) rfl ?_
            obtain rfl := Option.some.inj hf
            exact x_iret hx hb hr hlocks hK hP hD hS (Nat.le_of_ble_eq_true rfl) (Nat.le_of_ble_eq_true rfl) d_Rv_write_34
          · dsimp only at hf
            obtain rfl := Option.some.inj hf
            exact x_out (w2 := (w_Rv cI cJ cZ rh sh mh m0 m1 m2 m3 dh d0 d1 d2 d3 ea cb ch be U12)) (x_noteV ⟨hx, hb, hml, hown, hts⟩ (c_Rv_change l D cI cJ cZ rh sh mh m0 m1 m2 m3 dh d0 d1 d2 d3 ea cb ch be hL0 N p0 p1 p2 U8 (Sum.inr E11, U12) hz9) (x_cwV 3 hts rfl k_181 k_182 k_183 k_23 k_184 (by decide +kernel) ⟨(Nat.le_of_ble_eq_true rfl), (Nat.le_of_ble_eq_true rfl)⟩) hK (x_cut hP hD hK hS hA hZ [0, 1, 2, 3, 4, 5, 6, 7, 8, 9, 10, 11, 12, 13, 14, 15] (by decide) rfl).1 (x_cut hP hD hK hS hA hZ [0, 1, 2, 3, 4, 5, 6, 7, 8, 9, 10, 11, 12, 13, 14, 15] (by decide) rfl).2 (ci := 2) rfl rfl rfl hl.1 rfl (Nat.le_of_ble_eq_true rfl) d_Rv_write_31 ⟨(Nat.le_of_ble_eq_true rfl), (Nat.le_of_ble_eq_true rfl)⟩) hlocks hno hK hP hD hS hA [0, 1, 2, 3, 4, 5, 6, 7, 8, 9, 10, 11, 12, 13, 14, 15] [] [0, 1, 2, 3, 4, 5, 6, 7, 8, 9, 10, 11, 12, 13, 14, 15] rfl rfl (by decide) (by decide) (by decide) rfl (Nat.le_of_ble_eq_true rfl) (Nat.le_of_ble_eq_true rfl)
        · dsimp only at hf
          obtain rfl := Option.some.inj hf
          exact x_out (w2 := (w_Rv cI cJ cZ rh sh mh m0 m1 m2 m3 dh d0 d1 d2 d3 ea cb ch be U8)) (x_noteV ⟨hx, hb, hml, hown, hts⟩ (c_Rv_demandActive l D cI cJ cZ rh sh mh m0 m1 m2 m3 dh d0 d1 d2 d3 ea cb ch be hL0 N p0 U (Sum.inr E7, U8) hz5) (x_cwV 1 hts rfl k_134 k_135 k_136 k_23 k_137 (by decide +kernel) ⟨(Nat.le_of_ble_eq_true rfl), (Nat.le_of_ble_eq_true rfl)⟩) hK (x_cut hP hD hK hS hA hZ [0, 1, 2, 3, 4, 5, 6, 7, 8, 9, 10, 11, 12, 13, 14, 15] (by decide) rfl).1 (x_cut hP hD hK hS hA hZ [0, 1, 2, 3, 4, 5, 6, 7, 8, 9, 10, 11, 12, 13, 14, 15] (by decide) rfl).2 (ci := 2) rfl rfl rfl hl.1 rfl (Nat.le_of_ble_eq_true rfl) d_Rv_write_24 ⟨(Nat.le_of_ble_eq_true rfl), (Nat.le_of_ble_eq_true rfl)⟩) hlocks hno hK hP hD hS hA [0, 1, 2, 3, 4, 5, 6, 7, 8, 9, 10, 11, 12, 13, 14, 15] [] [0, 1, 2, 3, 4, 5, 6, 7, 8, 9, 10, 11, 12, 13, 14, 15] rfl rfl (by decide) (by decide) (by decide) rfl (Nat.le_of_ble_eq_true rfl) (Nat.le_of_ble_eq_true rfl)
      · have hf := x_ifn c13 hf
        obtain rfl := Option.some.inj hf
        exact x_throw (cls := "java/lang/IllegalArgumentException") (names := ["java/lang/RuntimeException", "java/lang/Exception"]) hL0 hx hb hml hown hlocks hno (by decide +kernel) (by decide +kernel) (at_Rv_76 hts hZ) (hts _ k_114) (hts _ k_115) hK hP hD hS hns hl.1 (Nat.le_of_ble_eq_true rfl) (Nat.le_of_ble_eq_true rfl) (Nat.le_of_ble_eq_true rfl) (Nat.le_of_ble_eq_true rfl) (Nat.le_of_ble_eq_true rfl) (Nat.le_of_ble_eq_true rfl) d_Rv_write_14 d_Rv_write_17 d_Rv_write_18 d_Rv_write_21
  · dsimp only at hf
    obtain rfl := Option.some.inj hf
    exact x_out (w2 := (w_Rv cI cJ cZ rh sh mh m0 m1 m2 m3 dh d0 d1 d2 d3 ea cb ch be U)) (x_noteS ⟨hx, hb, hml, hown, hts⟩ (c_Rv_demandRecord l D cI cJ cZ  hL0 N p1  (Sum.inr E3) hz1) (x_cwS 1 hts rfl k_138 k_139 k_23 k_140 (by decide +kernel) ⟨(Nat.le_of_ble_eq_true rfl), (Nat.le_of_ble_eq_true rfl)⟩) (x_cut hP hD hK hS hA hZ [] (by decide) rfl).2 rfl hl.1 rfl (Nat.le_of_ble_eq_true rfl) d_Rv_write_1 ⟨(Nat.le_of_ble_eq_true rfl), (Nat.le_of_ble_eq_true rfl)⟩) hlocks hno hK hP hD hS hA [] [0, 1, 2, 3, 4, 5, 6, 7, 8, 9, 10, 11, 12, 13, 14, 15] [0, 1, 2, 3, 4, 5, 6, 7, 8, 9, 10, 11, 12, 13, 14, 15] rfl rfl (by decide) (by decide) (by decide) rfl (Nat.le_of_ble_eq_true rfl) (Nat.le_of_ble_eq_true rfl)
set_option maxHeartbeats 4000000 in
set_option maxRecDepth 100000 in
theorem c_Rv_erase (l : Launch) (D : va_G) (cI cJ cZ : ClassId) (rh sh mh m0 m1 m2 m3 dh d0 d1 d2 d3 ea cb ch be : Nat) (hL0 : xL l) (N : Nat) (p0 : Int32) (p1 : Int32) (U : K_Rv) (r : ((Int32 ⊕ String) × K_Rv)) (hf : f_Rv_erase N p0 p1 U = some r) : Cx l y_Rv_erase ws_Rv_erase rm_Rv_erase D vwCl (tyL cI cJ cZ) [.ref rh, .int p0, .int p1] (w_Rv cI cJ cZ rh sh mh m0 m1 m2 m3 dh d0 d1 d2 d3 ea cb ch be U) (tI r.1) (w_Rv cI cJ cZ rh sh mh m0 m1 m2 m3 dh d0 d1 d2 d3 ea cb ch be r.2) := by
  unfold f_Rv_erase at hf
  refine Cx.ofW (cc := b_Rv_erase) (maxL := 3) (ret := (some .int)) (by decide) rfl ?_
  intro p e s m below meth c A C0 hP hK hD hA hns hZ
  obtain ⟨hx, hb, hml, hown, hts0, hr, hlocks, hnm, hno⟩ := C0
  have hown : s.vm.findClass R_Rv = some m.cls := hown
  have hts : ∀ w ∈ tb, w.before [.ref rh, .int p0, .int p1].toArray s = true := fun w h => hts0 w (List.mem_cons_of_mem _ h)
  have hS : va_S A s.heap s.heap [] := va_S.rf
  have hl := lv_entry ([.ref rh, .int p0, .int p1]) (n := 3) (Nat.le_of_ble_eq_true rfl)
  rw [lg_entry_eq]
  generalize (lg_sl ([.ref rh, .int p0, .int p1]) ++ List.replicate (3 - (lg_sl ([.ref rh, .int p0, .int p1])).length) Slot.unset).toArray = ls at hl ⊢
  have hl : lv_has ls 3 [(0, .ref rh), (1, .int p0), (2, .int p1)] := hl
  refine lv_iload_n hx hb d_Rv_erase_0 rfl (lv_at hl 2 rfl) ?_
  obtain ⟨v2 | E3, hz1, hf⟩ := x_bind hf
  · dsimp only at hf
    refine x_callS (w2 := (w_Rv cI cJ cZ rh sh mh m0 m1 m2 m3 dh d0 d1 d2 d3 ea cb ch be U)) ⟨hx, hb, hml, hown, hts⟩ (c_Rv_demandRecord l D cI cJ cZ  hL0 N p1  (Sum.inl v2) hz1) (x_cwS 1 hts rfl k_138 k_139 k_23 k_140 (by decide +kernel) ⟨(Nat.le_of_ble_eq_true rfl), (Nat.le_of_ble_eq_true rfl)⟩) hK hP hD hS hA hZ [] [0, 1, 2, 3, 4, 5, 6, 7, 8, 9, 10, 11, 12, 13, 14, 15] [0, 1, 2, 3, 4, 5, 6, 7, 8, 9, 10, 11, 12, 13, 14, 15] (by decide) rfl rfl (by decide) (by decide) (by decide) rfl rfl hl.1 rfl (Nat.le_of_ble_eq_true rfl) d_Rv_erase_1 ⟨(Nat.le_of_ble_eq_true rfl), (Nat.le_of_ble_eq_true rfl)⟩ (fun H locs hP hD hS => ?_)
    refine W.eq (g2 := F0 m 4 ls []) rfl ?_
    refine lv_aload_n hx hb d_Rv_erase_4 rfl (lv_at hl 0 rfl) ?_
    refine lv_iload_n hx hb d_Rv_erase_5 rfl (lv_at hl 1 rfl) ?_
    obtain ⟨⟨v6 | E7, U8⟩, hz5, hf⟩ := x_bind hf
    · dsimp only at hf
      refine x_callV (w2 := (w_Rv cI cJ cZ rh sh mh m0 m1 m2 m3 dh d0 d1 d2 d3 ea cb ch be U8)) ⟨hx, hb, hml, hown, hts⟩ (c_Rv_demandActive l D cI cJ cZ rh sh mh m0 m1 m2 m3 dh d0 d1 d2 d3 ea cb ch be hL0 N p0 U (Sum.inl v6, U8) hz5) (x_cwV 1 hts rfl k_134 k_135 k_136 k_23 k_137 (by decide +kernel) ⟨(Nat.le_of_ble_eq_true rfl), (Nat.le_of_ble_eq_true rfl)⟩) hK hP hD hS hA hZ [0, 1, 2, 3, 4, 5, 6, 7, 8, 9, 10, 11, 12, 13, 14, 15] [] [0, 1, 2, 3, 4, 5, 6, 7, 8, 9, 10, 11, 12, 13, 14, 15] (by decide) rfl rfl (by decide) (by decide) (by decide) rfl (ci := 2) rfl rfl rfl hl.1 rfl (Nat.le_of_ble_eq_true rfl) d_Rv_erase_6 ⟨(Nat.le_of_ble_eq_true rfl), (Nat.le_of_ble_eq_true rfl)⟩ (fun H locs hP hD hS => ?_)
      refine W.eq (g2 := F0 m 9 ls []) rfl ?_
      refine lv_aload_n hx hb d_Rv_erase_9 rfl (lv_at hl 0 rfl) ?_
      refine va_get (D := D) (ci := 2) (v := .ref mh) (C := R_Rv) (T := F_Rv) (N := 5) hx hb hts i_Rv hown hK hP 0 rfl rfl 1 (by decide) (hts _ k_92) (fun _ h9 => h9) rfl d_Rv_erase_10 ?_
      refine lv_aload_n hx hb d_Rv_erase_13 rfl (lv_at hl 0 rfl) ?_
      refine lv_iload_n hx hb d_Rv_erase_14 rfl (lv_at hl 1 rfl) ?_
      refine lv_iload_n hx hb d_Rv_erase_15 rfl (lv_at hl 2 rfl) ?_
      obtain ⟨z9, hz9, hf⟩ := x_bind hf
      refine x_callV (w2 := (w_Rv cI cJ cZ rh sh mh m0 m1 m2 m3 dh d0 d1 d2 d3 ea cb ch be z9.2)) ⟨hx, hb, hml, hown, hts⟩ (c_Rv_placeSeen l D cI cJ cZ rh sh mh m0 m1 m2 m3 dh d0 d1 d2 d3 ea cb ch be N p0 p1 U8 z9 hz9) (x_cwV 2 hts rfl k_130 k_131 k_132 k_23 k_133 (by decide +kernel) ⟨(Nat.le_of_ble_eq_true rfl), (Nat.le_of_ble_eq_true rfl)⟩) hK hP hD hS hA hZ [0, 1, 2, 3, 4, 5, 6, 7, 8, 9, 10, 11, 12, 13, 14, 15] [] [0, 1, 2, 3, 4, 5, 6, 7, 8, 9, 10, 11, 12, 13, 14, 15] (by decide) rfl rfl (by decide) (by decide) (by decide) rfl (ci := 2) rfl rfl rfl hl.1 rfl (Nat.le_of_ble_eq_true rfl) d_Rv_erase_16 ⟨(Nat.le_of_ble_eq_true rfl), (Nat.le_of_ble_eq_true rfl)⟩ (fun H locs hP hD hS => ?_)
      refine W.eq (g2 := F0 m 19 ls [.int z9.1, .ref mh]) rfl ?_
      obtain ⟨⟨v11 | E12, U13⟩, hz10, hf⟩ := x_bind hf
      · dsimp only at hf
        refine x_callS (w2 := (w_Rv cI cJ cZ rh sh mh m0 m1 m2 m3 dh d0 d1 d2 d3 ea cb ch be ((U13, z9.2.1.2), z9.2.2))) ⟨hx, hb, hml, hown, hts⟩ (c_Rv_demandValue l D cI cJ cZ mh m0 m1 m2 m3 hL0 N z9.1 z9.2.1.1 (Sum.inl v11, U13) hz10) (x_cwS 2 hts rfl k_127 k_128 k_23 k_129 (by decide +kernel) ⟨(Nat.le_of_ble_eq_true rfl), (Nat.le_of_ble_eq_true rfl)⟩) hK hP hD hS hA hZ [2, 3, 4, 5, 6] [0, 1, 7, 8, 9, 10, 11, 12, 13, 14, 15] [0, 1, 11, 12, 13, 14, 15, 2, 3, 4, 5, 6, 7, 8, 9, 10] (by decide) rfl rfl (by decide) (by decide) (by decide) rfl rfl hl.1 rfl (Nat.le_of_ble_eq_true rfl) d_Rv_erase_19 ⟨(Nat.le_of_ble_eq_true rfl), (Nat.le_of_ble_eq_true rfl)⟩ (fun H locs hP hD hS => ?_)
        refine W.eq (g2 := F0 m 22 ls [.int v11]) rfl ?_
        refine lv_pop hx hb d_Rv_erase_22 rfl ?_
        refine lv_aload_n hx hb d_Rv_erase_23 rfl (lv_at hl 0 rfl) ?_
        refine lv_iload_n hx hb d_Rv_erase_24 rfl (lv_at hl 1 rfl) ?_
        refine lv_iload_n hx hb d_Rv_erase_25 rfl (lv_at hl 2 rfl) ?_
        refine lv_iconst (v := (-1 : Int32)) hx hb d_Rv_erase_26 (by decide) ?_
        obtain ⟨⟨v15 | E16, U17⟩, hz14, hf⟩ := x_bind hf
        · dsimp only at hf
          refine x_callV (w2 := (w_Rv cI cJ cZ rh sh mh m0 m1 m2 m3 dh d0 d1 d2 d3 ea cb ch be U17)) ⟨hx, hb, hml, hown, hts⟩ (c_Rv_change l D cI cJ cZ rh sh mh m0 m1 m2 m3 dh d0 d1 d2 d3 ea cb ch be hL0 N p0 p1 (-1 : Int32) ((U13, z9.2.1.2), z9.2.2) (Sum.inl v15, U17) hz14) (x_cwV 3 hts rfl k_181 k_182 k_183 k_23 k_184 (by decide +kernel) ⟨(Nat.le_of_ble_eq_true rfl), (Nat.le_of_ble_eq_true rfl)⟩) hK hP hD hS hA hZ [0, 1, 2, 3, 4, 5, 6, 7, 8, 9, 10, 11, 12, 13, 14, 15] [] [0, 1, 2, 3, 4, 5, 6, 7, 8, 9, 10, 11, 12, 13, 14, 15] (by decide) rfl rfl (by decide) (by decide) (by decide) rfl (ci := 2) rfl rfl rfl hl.1 rfl (Nat.le_of_ble_eq_true rfl) d_Rv_erase_27 ⟨(Nat.le_of_ble_eq_true rfl), (Nat.le_of_ble_eq_true rfl)⟩ (fun H locs hP hD hS => ?_)
          refine W.eq (g2 := F0 m 30 ls [.int v15]) rfl ?_
          obtain rfl := Option.some.inj hf
          exact x_iret hx hb hr hlocks hK hP hD hS (Nat.le_of_ble_eq_true rfl) (Nat.le_of_ble_eq_true rfl) d_Rv_erase_30
        · dsimp only at hf
          obtain rfl := Option.some.inj hf
          exact x_out (w2 := (w_Rv cI cJ cZ rh sh mh m0 m1 m2 m3 dh d0 d1 d2 d3 ea cb ch be U17)) (x_noteV ⟨hx, hb, hml, hown, hts⟩ (c_Rv_change l D cI cJ cZ rh sh mh m0 m1 m2 m3 dh d0 d1 d2 d3 ea cb ch be hL0 N p0 p1 (-1 : Int32) ((U13, z9.2.1.2), z9.2.2) (Sum.inr E16, U17) hz14) (x_cwV 3 hts rfl k_181 k_182 k_183 k_23 k_184 (by decide +kernel) ⟨(Nat.le_of_ble_eq_true rfl), (Nat.le_of_ble_eq_true rfl)⟩) hK (x_cut hP hD hK hS hA hZ [0, 1, 2, 3, 4, 5, 6, 7, 8, 9, 10, 11, 12, 13, 14, 15] (by decide) rfl).1 (x_cut hP hD hK hS hA hZ [0, 1, 2, 3, 4, 5, 6, 7, 8, 9, 10, 11, 12, 13, 14, 15] (by decide) rfl).2 (ci := 2) rfl rfl rfl hl.1 rfl (Nat.le_of_ble_eq_true rfl) d_Rv_erase_27 ⟨(Nat.le_of_ble_eq_true rfl), (Nat.le_of_ble_eq_true rfl)⟩) hlocks hno hK hP hD hS hA [0, 1, 2, 3, 4, 5, 6, 7, 8, 9, 10, 11, 12, 13, 14, 15] [] [0, 1, 2, 3, 4, 5, 6, 7, 8, 9, 10, 11, 12, 13, 14, 15] rfl rfl (by decide) (by decide) (by decide) rfl (Nat.le_of_ble_eq_true rfl) (Nat.le_of_ble_eq_true rfl)
      · dsimp only at hf
        obtain rfl := Option.some.inj hf
        exact x_out (w2 := (w_Rv cI cJ cZ rh sh mh m0 m1 m2 m3 dh d0 d1 d2 d3 ea cb ch be ((U13, z9.2.1.2), z9.2.2))) (x_noteS ⟨hx, hb, hml, hown, hts⟩ (c_Rv_demandValue l D cI cJ cZ mh m0 m1 m2 m3 hL0 N z9.1 z9.2.1.1 (Sum.inr E12, U13) hz10) (x_cwS 2 hts rfl k_127 k_128 k_23 k_129 (by decide +kernel) ⟨(Nat.le_of_ble_eq_true rfl), (Nat.le_of_ble_eq_true rfl)⟩) (x_cut hP hD hK hS hA hZ [2, 3, 4, 5, 6] (by decide) rfl).2 rfl hl.1 rfl (Nat.le_of_ble_eq_true rfl) d_Rv_erase_19 ⟨(Nat.le_of_ble_eq_true rfl), (Nat.le_of_ble_eq_true rfl)⟩) hlocks hno hK hP hD hS hA [2, 3, 4, 5, 6] [0, 1, 7, 8, 9, 10, 11, 12, 13, 14, 15] [0, 1, 11, 12, 13, 14, 15, 2, 3, 4, 5, 6, 7, 8, 9, 10] rfl rfl (by decide) (by decide) (by decide) rfl (Nat.le_of_ble_eq_true rfl) (Nat.le_of_ble_eq_true rfl)
    · dsimp only at hf
      obtain rfl := Option.some.inj hf
      exact x_out (w2 := (w_Rv cI cJ cZ rh sh mh m0 m1 m2 m3 dh d0 d1 d2 d3 ea cb ch be U8)) (x_noteV ⟨hx, hb, hml, hown, hts⟩ (c_Rv_demandActive l D cI cJ cZ rh sh mh m0 m1 m2 m3 dh d0 d1 d2 d3 ea cb ch be hL0 N p0 U (Sum.inr E7, U8) hz5) (x_cwV 1 hts rfl k_134 k_135 k_136 k_23 k_137 (by decide +kernel) ⟨(Nat.le_of_ble_eq_true rfl), (Nat.le_of_ble_eq_true rfl)⟩) hK (x_cut hP hD hK hS hA hZ [0, 1, 2, 3, 4, 5, 6, 7, 8, 9, 10, 11, 12, 13, 14, 15] (by decide) rfl).1 (x_cut hP hD hK hS hA hZ [0, 1, 2, 3, 4, 5, 6, 7, 8, 9, 10, 11, 12, 13, 14, 15] (by decide) rfl).2 (ci := 2) rfl rfl rfl hl.1 rfl (Nat.le_of_ble_eq_true rfl) d_Rv_erase_6 ⟨(Nat.le_of_ble_eq_true rfl), (Nat.le_of_ble_eq_true rfl)⟩) hlocks hno hK hP hD hS hA [0, 1, 2, 3, 4, 5, 6, 7, 8, 9, 10, 11, 12, 13, 14, 15] [] [0, 1, 2, 3, 4, 5, 6, 7, 8, 9, 10, 11, 12, 13, 14, 15] rfl rfl (by decide) (by decide) (by decide) rfl (Nat.le_of_ble_eq_true rfl) (Nat.le_of_ble_eq_true rfl)
  · dsimp only at hf
    obtain rfl := Option.some.inj hf
    exact x_out (w2 := (w_Rv cI cJ cZ rh sh mh m0 m1 m2 m3 dh d0 d1 d2 d3 ea cb ch be U)) (x_noteS ⟨hx, hb, hml, hown, hts⟩ (c_Rv_demandRecord l D cI cJ cZ  hL0 N p1  (Sum.inr E3) hz1) (x_cwS 1 hts rfl k_138 k_139 k_23 k_140 (by decide +kernel) ⟨(Nat.le_of_ble_eq_true rfl), (Nat.le_of_ble_eq_true rfl)⟩) (x_cut hP hD hK hS hA hZ [] (by decide) rfl).2 rfl hl.1 rfl (Nat.le_of_ble_eq_true rfl) d_Rv_erase_1 ⟨(Nat.le_of_ble_eq_true rfl), (Nat.le_of_ble_eq_true rfl)⟩) hlocks hno hK hP hD hS hA [] [0, 1, 2, 3, 4, 5, 6, 7, 8, 9, 10, 11, 12, 13, 14, 15] [0, 1, 2, 3, 4, 5, 6, 7, 8, 9, 10, 11, 12, 13, 14, 15] rfl rfl (by decide) (by decide) (by decide) rfl (Nat.le_of_ble_eq_true rfl) (Nat.le_of_ble_eq_true rfl)
