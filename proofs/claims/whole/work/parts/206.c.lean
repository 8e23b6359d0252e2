set_option maxHeartbeats 4000000 in
set_option maxRecDepth 100000 in
theorem c_Rv_commit (l : Launch) (D : va_G) (cI cJ cZ : ClassId) (rh sh mh m0 m1 m2 m3 dh d0 d1 d2 d3 ea cb ch be : Nat) (hL0 : xL l) (N : Nat) (p0 : Int32) (U : K_Rv) (r : ((Int32 ⊕ String) × K_Rv)) (hf : f_Rv_commit N p0 U = some r) : Cx l y_Rv_commit ws_Rv_commit rm_Rv_commit D vwCl (tyL cI cJ cZ) [.ref rh, .int p0] (w_Rv cI cJ cZ rh sh mh m0 m1 m2 m3 dh d0 d1 d2 d3 ea cb ch be U) (tI r.1) (w_Rv cI cJ cZ rh sh mh m0 m1 m2 m3 dh d0 d1 d2 d3 ea cb ch be r.2) := by
  unfold f_Rv_commit at hf
  refine Cx.ofW (cc := b_Rv_commit) (maxL := 3) (ret := (some .int)) (by decide) rfl ?_
  intro p e s m below meth c A C0 hP hK hD hA hns hZ
  obtain ⟨hx, hb, hml, hown, hts0, hr, hlocks, hnm, hno⟩ := C0
  have hown : s.vm.findClass R_Rv = some m.cls := hown
  have hts : ∀ w ∈ tb, w.before [.ref rh, .int p0].toArray s = true := fun w h => hts0 w (List.mem_cons_of_mem _ h)
  have hS : va_S A s.heap s.heap [] := va_S.rf
  have hl := lv_entry ([.ref rh, .int p0]) (n := 3) (Nat.le_of_ble_eq_true rfl)
  rw [lg_entry_eq]
  generalize (lg_sl ([.ref rh, .int p0]) ++ List.replicate (3 - (lg_sl ([.ref rh, .int p0])).length) Slot.unset).toArray = ls at hl ⊢
  have hl : lv_has ls 3 [(0, .ref rh), (1, .int p0)] := hl
  refine lv_aload_n hx hb d_Rv_commit_0 rfl (lv_at hl 0 rfl) ?_
  refine lv_iload_n hx hb d_Rv_commit_1 rfl (lv_at hl 1 rfl) ?_
  obtain ⟨⟨v2 | E3, U4⟩, hz1, hf⟩ := x_bind hf
  · dsimp only at hf
    refine x_callV (w2 := (w_Rv cI cJ cZ rh sh mh m0 m1 m2 m3 dh d0 d1 d2 d3 ea cb ch be U4)) ⟨hx, hb, hml, hown, hts⟩ (c_Rv_demandActive l D cI cJ cZ rh sh mh m0 m1 m2 m3 dh d0 d1 d2 d3 ea cb ch be hL0 N p0 U (Sum.inl v2, U4) hz1) (x_cwV 1 hts rfl k_134 k_135 k_136 k_23 k_137 (by decide +kernel) ⟨(Nat.le_of_ble_eq_true rfl), (Nat.le_of_ble_eq_true rfl)⟩) hK hP hD hS hA hZ [0, 1, 2, 3, 4, 5, 6, 7, 8, 9, 10, 11, 12, 13, 14, 15] [] [0, 1, 2, 3, 4, 5, 6, 7, 8, 9, 10, 11, 12, 13, 14, 15] (by decide) rfl rfl (by decide) (by decide) (by decide) rfl (ci := 2) rfl rfl rfl hl.1 rfl (Nat.le_of_ble_eq_true rfl) d_Rv_commit_2 ⟨(Nat.le_of_ble_eq_true rfl), (Nat.le_of_ble_eq_true rfl)⟩ (fun H locs hP hD hS => ?_)
    refine W.eq (g2 := F0 m 5 ls []) rfl ?_
    refine lv_aload_n hx hb d_Rv_commit_5 rfl (lv_at hl 0 rfl) ?_
    refine va_get (D := D) (ci := 2) (v := .ref sh) (C := R_Rv) (T := F_Rv) (N := 5) hx hb hts i_Rv hown hK hP 0 rfl rfl 0 (by decide) (hts _ k_90) (fun _ h9 => h9) rfl d_Rv_commit_6 ?_
    refine va_get (D := D) (ci := 1) (v := .int U4.1.2.2.2.2.1) (C := R_St) (T := F_St) (N := 7) hx hb hts i_St hown hK hP 1 rfl rfl 4 (by decide) (hts _ k_185) (fun _ h9 => h9) rfl d_Rv_commit_9 ?_
    refine lv_istore_n (lv' := [(2, .int U4.1.2.2.2.2.1), (0, .ref rh), (1, .int p0)]) hx hb d_Rv_commit_12 rfl hl (by decide) rfl (fun ls hl => ?_)
    refine lv_aload_n hx hb d_Rv_commit_13 rfl (lv_at hl 1 rfl) ?_
    refine va_get (D := D) (ci := 2) (v := .ref sh) (C := R_Rv) (T := F_Rv) (N := 5) hx hb hts i_Rv hown hK hP 0 rfl rfl 0 (by decide) (hts _ k_90) (fun _ h9 => h9) rfl d_Rv_commit_14 ?_
    refine lv_aload_n hx hb d_Rv_commit_17 rfl (lv_at hl 1 rfl) ?_
    refine va_get (D := D) (ci := 2) (v := .ref ch) (C := R_Rv) (T := F_Rv) (N := 5) hx hb hts i_Rv hown hK hP 0 rfl rfl 3 (by decide) (hts _ k_95) (fun _ h9 => h9) rfl d_Rv_commit_18 ?_
    refine lv_iload_n hx hb d_Rv_commit_21 rfl (lv_at hl 2 rfl) ?_
    obtain ⟨g5, hf⟩ := x_if hf
    refine va_iald hx hb hK hP 14 0 rfl rfl (xi_in g5) d_Rv_commit_22 ?_
    obtain ⟨z6, hz6, hf⟩ := x_bind hf
    refine x_callV (w2 := (w_Rv cI cJ cZ rh sh mh m0 m1 m2 m3 dh d0 d1 d2 d3 ea cb ch be (z6.2, U4.2))) ⟨hx, hb, hml, hown, hts⟩ (c_St_putDirty l D cI cJ cZ sh mh m0 m1 m2 m3 dh d0 d1 d2 d3 ea N (U4.2.2.1 p0.toNatClampNeg) U4.1 z6 hz6) (x_cwV 1 hts rfl k_186 k_187 k_188 k_55 k_189 (by decide +kernel) ⟨(Nat.le_of_ble_eq_true rfl), (Nat.le_of_ble_eq_true rfl)⟩) hK hP hD hS hA hZ [1, 2, 3, 4, 5, 6, 7, 8, 9, 10, 11, 12] [0, 13, 14, 15] [0, 4, 5, 6, 7, 8, 9, 10, 11, 12, 13, 14, 15, 1, 2, 3] (by decide) rfl rfl (by decide) (by decide) (by decide) rfl (ci := 1) rfl rfl rfl hl.1 rfl (Nat.le_of_ble_eq_true rfl) d_Rv_commit_23 ⟨(Nat.le_of_ble_eq_true rfl), (Nat.le_of_ble_eq_true rfl)⟩ (fun H locs hP hD hS => ?_)
    refine W.eq (g2 := F0 m 26 ls [.int z6.1]) rfl ?_
    refine lv_if_ne (tgt := 32) hx hb d_Rv_commit_26 (by decide) (fun c11 => ?_) (fun c11 => ?_)
    · have hf := x_ifn c11 hf
      refine lv_aload_n hx hb d_Rv_commit_32 rfl (lv_at hl 1 rfl) ?_
      refine va_get (D := D) (ci := 2) (v := .ref mh) (C := R_Rv) (T := F_Rv) (N := 5) hx hb hts i_Rv hown hK hP 0 rfl rfl 1 (by decide) (hts _ k_92) (fun _ h9 => h9) rfl d_Rv_commit_33 ?_
      refine va_get (D := D) (ci := 0) (v := .ref m3) (C := R_Co) (T := F_Co) (N := 4) hx hb hts i_Co hown hK hP 2 rfl rfl 3 (by decide) (hts _ k_99) (fun _ h9 => h9) rfl d_Rv_commit_36 ?_
      refine lv_iload_n hx hb d_Rv_commit_39 rfl (lv_at hl 2 rfl) ?_
      refine lv_iconst (v := (2 : Int32)) hx hb d_Rv_commit_40 (by decide) ?_
      obtain ⟨g7, hf⟩ := x_if hf
      refine va_iast hx hb hK hP hD hS 6 0 rfl rfl (xi_in g7) d_Rv_commit_41 (fun H locs hP hD hS => ?_)
      have hP : va_P D vwCl (w_Rv cI cJ cZ rh sh mh m0 m1 m2 m3 dh d0 d1 d2 d3 ea cb ch be (((z6.2.1.1, (z6.2.1.2.1, (z6.2.1.2.2.1, (upd z6.2.1.2.2.2 p0.toNatClampNeg (2 : Int32))))), z6.2.2), U4.2)) H := hP
      have hD : va_D A (w_Rv cI cJ cZ rh sh mh m0 m1 m2 m3 dh d0 d1 d2 d3 ea cb ch be (((z6.2.1.1, (z6.2.1.2.1, (z6.2.1.2.2.1, (upd z6.2.1.2.2.2 p0.toNatClampNeg (2 : Int32))))), z6.2.2), U4.2)) := hD
      refine lv_aload_n hx hb d_Rv_commit_42 rfl (lv_at hl 1 rfl) ?_
      refine va_get (D := D) (ci := 2) (v := .ref sh) (C := R_Rv) (T := F_Rv) (N := 5) hx hb hts i_Rv hown hK hP 0 rfl rfl 0 (by decide) (hts _ k_90) (fun _ h9 => h9) rfl d_Rv_commit_43 ?_
      refine lv_bipush (v := (6 : Int32)) hx hb d_Rv_commit_46 (by decide) ?_
      obtain ⟨z8, hz8, hf⟩ := x_bind hf
      refine x_callV (w2 := (w_Rv cI cJ cZ rh sh mh m0 m1 m2 m3 dh d0 d1 d2 d3 ea cb ch be (z8.2, U4.2))) ⟨hx, hb, hml, hown, hts⟩ (c_St_changed l D cI cJ cZ sh mh m0 m1 m2 m3 dh d0 d1 d2 d3 ea N (6 : Int32) ((z6.2.1.1, (z6.2.1.2.1, (z6.2.1.2.2.1, (upd z6.2.1.2.2.2 p0.toNatClampNeg (2 : Int32))))), z6.2.2) z8 hz8) (x_cwV 1 hts rfl k_101 k_64 k_65 k_55 k_66 (by decide +kernel) ⟨(Nat.le_of_ble_eq_true rfl), (Nat.le_of_ble_eq_true rfl)⟩) hK hP hD hS hA hZ [1, 2, 3, 4, 5, 6, 7, 8, 9, 10, 11, 12] [0, 13, 14, 15] [0, 4, 5, 6, 7, 8, 9, 10, 11, 12, 13, 14, 15, 1, 2, 3] (by decide) rfl rfl (by decide) (by decide) (by decide) rfl (ci := 1) rfl rfl rfl hl.1 rfl (Nat.le_of_ble_eq_true rfl) d_Rv_commit_48 ⟨(Nat.le_of_ble_eq_true rfl), (Nat.le_of_ble_eq_true rfl)⟩ (fun H locs hP hD hS => ?_)
      refine W.eq (g2 := F0 m 51 ls []) rfl ?_
      refine lv_aload_n hx hb d_Rv_commit_51 rfl (lv_at hl 1 rfl) ?_
      refine va_get (D := D) (ci := 2) (v := .ref sh) (C := R_Rv) (T := F_Rv) (N := 5) hx hb hts i_Rv hown hK hP 0 rfl rfl 0 (by decide) (hts _ k_90) (fun _ h9 => h9) rfl d_Rv_commit_52 ?_
      refine lv_bipush (v := (6 : Int32)) hx hb d_Rv_commit_55 (by decide) ?_
      refine lv_iconst (v := (0 : Int32)) hx hb d_Rv_commit_57 (by decide) ?_
      obtain ⟨z9, hz9, hf⟩ := x_bind hf
      refine x_callVN (w2 := (w_Rv cI cJ cZ rh sh mh m0 m1 m2 m3 dh d0 d1 d2 d3 ea cb ch be (z9.2, U4.2))) ⟨hx, hb, hml, hown, hts⟩ (c_St_put l D cI cJ cZ sh mh m0 m1 m2 m3 dh d0 d1 d2 d3 ea N 9 (6 : Int32) (0 : Int32) z8.2 z9 hz9) (x_cwVN 2 hts rfl k_100 k_76 k_77 k_55 k_78 (by decide +kernel) ⟨(Nat.le_of_ble_eq_true rfl), (Nat.le_of_ble_eq_true rfl)⟩) hK hP hD hS hA hZ [1, 2, 3, 4, 5, 6, 7, 8, 9, 10, 11, 12] [0, 13, 14, 15] [0, 4, 5, 6, 7, 8, 9, 10, 11, 12, 13, 14, 15, 1, 2, 3] (by decide) rfl rfl (by decide) (by decide) (by decide) rfl (ci := 1) rfl rfl rfl hl.1 rfl (Nat.le_of_ble_eq_true rfl) d_Rv_commit_58 ⟨(Nat.le_of_ble_eq_true rfl), (Nat.le_of_ble_eq_true rfl)⟩ (fun H locs hP hD hS => ?_)
      refine W.eq (g2 := F0 m 61 ls [.int z9.1]) rfl ?_
      refine lv_if_eq (tgt := 76) hx hb d_Rv_commit_61 (by decide) (fun c10 => ?_) (fun c10 => ?_)
      · have hf := x_ifp c10 hf
        refine lv_bipush (v := (-9 : Int32)) hx hb d_Rv_commit_76 (by decide) ?_
        obtain rfl := Option.some.inj hf
        exact x_iret hx hb hr hlocks hK hP hD hS (Nat.le_of_ble_eq_true rfl) (Nat.le_of_ble_eq_true rfl) d_Rv_commit_78
      · have hf := x_ifn c10 hf
        refine lv_aload_n hx hb d_Rv_commit_64 rfl (lv_at hl 1 rfl) ?_
        refine va_get (D := D) (ci := 2) (v := .ref sh) (C := R_Rv) (T := F_Rv) (N := 5) hx hb hts i_Rv hown hK hP 0 rfl rfl 0 (by decide) (hts _ k_90) (fun _ h9 => h9) rfl d_Rv_commit_65 ?_
        refine va_get (D := D) (ci := 1) (v := .int z9.2.2.2.2.2.1) (C := R_St) (T := F_St) (N := 7) hx hb hts i_St hown hK hP 1 rfl rfl 4 (by decide) (hts _ k_185) (fun _ h9 => h9) rfl d_Rv_commit_68 ?_
        refine lv_iload_n hx hb d_Rv_commit_71 rfl (lv_at hl 0 rfl) ?_
        refine lv_isub hx hb d_Rv_commit_72 ?_
        refine lv_goto (tgt := 78) hx hb d_Rv_commit_73 (by decide) ?_
        obtain rfl := Option.some.inj hf
        exact x_iret hx hb hr hlocks hK hP hD hS (Nat.le_of_ble_eq_true rfl) (Nat.le_of_ble_eq_true rfl) d_Rv_commit_78
    · have hf := x_ifp c11 hf
      refine lv_bipush (v := (-9 : Int32)) hx hb d_Rv_commit_29 (by decide) ?_
      obtain rfl := Option.some.inj hf
      exact x_iret hx hb hr hlocks hK hP hD hS (Nat.le_of_ble_eq_true rfl) (Nat.le_of_ble_eq_true rfl) d_Rv_commit_31
  · dsimp only at hf
    obtain rfl := Option.some.inj hf
    exact x_out (w2 := (w_Rv cI cJ cZ rh sh mh m0 m1 m2 m3 dh d0 d1 d2 d3 ea cb ch be U4)) (x_noteV ⟨hx, hb, hml, hown, hts⟩ (c_Rv_demandActive l D cI cJ cZ rh sh mh m0 m1 m2 m3 dh d0 d1 d2 d3 ea cb ch be hL0 N p0 U (Sum.inr E3, U4) hz1) (x_cwV 1 hts rfl k_134 k_135 k_136 k_23 k_137 (by decide +kernel) ⟨(Nat.le_of_ble_eq_true rfl), (Nat.le_of_ble_eq_true rfl)⟩) hK (x_cut hP hD hK hS hA hZ [0, 1, 2, 3, 4, 5, 6, 7, 8, 9, 10, 11, 12, 13, 14, 15] (by decide) rfl).1 (x_cut hP hD hK hS hA hZ [0, 1, 2, 3, 4, 5, 6, 7, 8, 9, 10, 11, 12, 13, 14, 15] (by decide) rfl).2 (ci := 2) rfl rfl rfl hl.1 rfl (Nat.le_of_ble_eq_true rfl) d_Rv_commit_2 ⟨(Nat.le_of_ble_eq_true rfl), (Nat.le_of_ble_eq_true rfl)⟩) hlocks hno hK hP hD hS hA [0, 1, 2, 3, 4, 5, 6, 7, 8, 9, 10, 11, 12, 13, 14, 15] [] [0, 1, 2, 3, 4, 5, 6, 7, 8, 9, 10, 11, 12, 13, 14, 15] rfl rfl (by decide) (by decide) (by decide) rfl (Nat.le_of_ble_eq_true rfl) (Nat.le_of_ble_eq_true rfl)
set_option maxHeartbeats 4000000 in
set_option maxRecDepth 100000 in
theorem c_Rv_rollback (l : Launch) (D : va_G) (cI cJ cZ : ClassId) (rh sh mh m0 m1 m2 m3 dh d0 d1 d2 d3 ea cb ch be : Nat) (hL0 : xL l) (N : Nat) (p0 : Int32) (U : K_Rv) (r : ((Int32 ⊕ String) × K_Rv)) (hf : f_Rv_rollback N p0 U = some r) : Cx l y_Rv_rollback ws_Rv_rollback rm_Rv_rollback D vwCl (tyL cI cJ cZ) [.ref rh, .int p0] (w_Rv cI cJ cZ rh sh mh m0 m1 m2 m3 dh d0 d1 d2 d3 ea cb ch be U) (tI r.1) (w_Rv cI cJ cZ rh sh mh m0 m1 m2 m3 dh d0 d1 d2 d3 ea cb ch be r.2) := by
  unfold f_Rv_rollback at hf
  refine Cx.ofW (cc := b_Rv_rollback) (maxL := 2) (ret := (some .int)) (by decide) rfl ?_
  intro p e s m below meth c A C0 hP hK hD hA hns hZ
  obtain ⟨hx, hb, hml, hown, hts0, hr, hlocks, hnm, hno⟩ := C0
  have hown : s.vm.findClass R_Rv = some m.cls := hown
  have hts : ∀ w ∈ tb, w.before [.ref rh, .int p0].toArray s = true := fun w h => hts0 w (List.mem_cons_of_mem _ h)
  have hS : va_S A s.heap s.heap [] := va_S.rf
  have hl := lv_entry ([.ref rh, .int p0]) (n := 2) (Nat.le_of_ble_eq_true rfl)
  rw [lg_entry_eq]
  generalize (lg_sl ([.ref rh, .int p0]) ++ List.replicate (2 - (lg_sl ([.ref rh, .int p0])).length) Slot.unset).toArray = ls at hl ⊢
  have hl : lv_has ls 2 [(0, .ref rh), (1, .int p0)] := hl
  refine lv_aload_n hx hb d_Rv_rollback_0 rfl (lv_at hl 0 rfl) ?_
  refine lv_iload_n hx hb d_Rv_rollback_1 rfl (lv_at hl 1 rfl) ?_
  obtain ⟨⟨v2 | E3, U4⟩, hz1, hf⟩ := x_bind hf
  · dsimp only at hf
    refine x_callV (w2 := (w_Rv cI cJ cZ rh sh mh m0 m1 m2 m3 dh d0 d1 d2 d3 ea cb ch be U4)) ⟨hx, hb, hml, hown, hts⟩ (c_Rv_demandActive l D cI cJ cZ rh sh mh m0 m1 m2 m3 dh d0 d1 d2 d3 ea cb ch be hL0 N p0 U (Sum.inl v2, U4) hz1) (x_cwV 1 hts rfl k_134 k_135 k_136 k_23 k_137 (by decide +kernel) ⟨(Nat.le_of_ble_eq_true rfl), (Nat.le_of_ble_eq_true rfl)⟩) hK hP hD hS hA hZ [0, 1, 2, 3, 4, 5, 6, 7, 8, 9, 10, 11, 12, 13, 14, 15] [] [0, 1, 2, 3, 4, 5, 6, 7, 8, 9, 10, 11, 12, 13, 14, 15] (by decide) rfl rfl (by decide) (by decide) (by decide) rfl (ci := 2) rfl rfl rfl hl.1 rfl (Nat.le_of_ble_eq_true rfl) d_Rv_rollback_2 ⟨(Nat.le_of_ble_eq_true rfl), (Nat.le_of_ble_eq_true rfl)⟩ (fun H locs hP hD hS => ?_)
    refine W.eq (g2 := F0 m 5 ls []) rfl ?_
    refine lv_aload_n hx hb d_Rv_rollback_5 rfl (lv_at hl 0 rfl) ?_
    refine va_get (D := D) (ci := 2) (v := .ref mh) (C := R_Rv) (T := F_Rv) (N := 5) hx hb hts i_Rv hown hK hP 0 rfl rfl 1 (by decide) (hts _ k_92) (fun _ h9 => h9) rfl d_Rv_rollback_6 ?_
    refine va_get (D := D) (ci := 0) (v := .ref m3) (C := R_Co) (T := F_Co) (N := 4) hx hb hts i_Co hown hK hP 2 rfl rfl 3 (by decide) (hts _ k_99) (fun _ h9 => h9) rfl d_Rv_rollback_9 ?_
    refine lv_iload_n hx hb d_Rv_rollback_12 rfl (lv_at hl 1 rfl) ?_
    refine lv_iconst (v := (3 : Int32)) hx hb d_Rv_rollback_13 (by decide) ?_
    obtain ⟨g5, hf⟩ := x_if hf
    refine va_iast hx hb hK hP hD hS 6 0 rfl rfl (xi_in g5) d_Rv_rollback_14 (fun H locs hP hD hS => ?_)
    have hP : va_P D vwCl (w_Rv cI cJ cZ rh sh mh m0 m1 m2 m3 dh d0 d1 d2 d3 ea cb ch be (((U4.1.1.1, (U4.1.1.2.1, (U4.1.1.2.2.1, (upd U4.1.1.2.2.2 p0.toNatClampNeg (3 : Int32))))), U4.1.2), U4.2)) H := hP
    have hD : va_D A (w_Rv cI cJ cZ rh sh mh m0 m1 m2 m3 dh d0 d1 d2 d3 ea cb ch be (((U4.1.1.1, (U4.1.1.2.1, (U4.1.1.2.2.1, (upd U4.1.1.2.2.2 p0.toNatClampNeg (3 : Int32))))), U4.1.2), U4.2)) := hD
    refine lv_aload_n hx hb d_Rv_rollback_15 rfl (lv_at hl 0 rfl) ?_
    refine va_get (D := D) (ci := 2) (v := .ref sh) (C := R_Rv) (T := F_Rv) (N := 5) hx hb hts i_Rv hown hK hP 0 rfl rfl 0 (by decide) (hts _ k_90) (fun _ h9 => h9) rfl d_Rv_rollback_16 ?_
    refine lv_bipush (v := (6 : Int32)) hx hb d_Rv_rollback_19 (by decide) ?_
    obtain ⟨z6, hz6, hf⟩ := x_bind hf
    refine x_callV (w2 := (w_Rv cI cJ cZ rh sh mh m0 m1 m2 m3 dh d0 d1 d2 d3 ea cb ch be (z6.2, U4.2))) ⟨hx, hb, hml, hown, hts⟩ (c_St_changed l D cI cJ cZ sh mh m0 m1 m2 m3 dh d0 d1 d2 d3 ea N (6 : Int32) ((U4.1.1.1, (U4.1.1.2.1, (U4.1.1.2.2.1, (upd U4.1.1.2.2.2 p0.toNatClampNeg (3 : Int32))))), U4.1.2) z6 hz6) (x_cwV 1 hts rfl k_101 k_64 k_65 k_55 k_66 (by decide +kernel) ⟨(Nat.le_of_ble_eq_true rfl), (Nat.le_of_ble_eq_true rfl)⟩) hK hP hD hS hA hZ [1, 2, 3, 4, 5, 6, 7, 8, 9, 10, 11, 12] [0, 13, 14, 15] [0, 4, 5, 6, 7, 8, 9, 10, 11, 12, 13, 14, 15, 1, 2, 3] (by decide) rfl rfl (by decide) (by decide) (by decide) rfl (ci := 1) rfl rfl rfl hl.1 rfl (Nat.le_of_ble_eq_true rfl) d_Rv_rollback_21 ⟨(Nat.le_of_ble_eq_true rfl), (Nat.le_of_ble_eq_true rfl)⟩ (fun H locs hP hD hS => ?_)
    refine W.eq (g2 := F0 m 24 ls []) rfl ?_
    refine lv_iconst (v := (1 : Int32)) hx hb d_Rv_rollback_24 (by decide) ?_
    obtain rfl := Option.some.inj hf
    exact x_iret hx hb hr hlocks hK hP hD hS (Nat.le_of_ble_eq_true rfl) (Nat.le_of_ble_eq_true rfl) d_Rv_rollback_25
  · dsimp only at hf
    obtain rfl := Option.some.inj hf
    exact x_out (w2 := (w_Rv cI cJ cZ rh sh mh m0 m1 m2 m3 dh d0 d1 d2 d3 ea cb ch be U4)) (x_noteV ⟨hx, hb, hml, hown, hts⟩ (c_Rv_demandActive l D cI cJ cZ rh sh mh m0 m1 m2 m3 dh d0 d1 d2 d3 ea cb ch be hL0 N p0 U (Sum.inr E3, U4) hz1) (x_cwV 1 hts rfl k_134 k_135 k_136 k_23 k_137 (by decide +kernel) ⟨(Nat.le_of_ble_eq_true rfl), (Nat.le_of_ble_eq_true rfl)⟩) hK (x_cut hP hD hK hS hA hZ [0, 1, 2, 3, 4, 5, 6, 7, 8, 9, 10, 11, 12, 13, 14, 15] (by decide) rfl).1 (x_cut hP hD hK hS hA hZ [0, 1, 2, 3, 4, 5, 6, 7, 8, 9, 10, 11, 12, 13, 14, 15] (by decide) rfl).2 (ci := 2) rfl rfl rfl hl.1 rfl (Nat.le_of_ble_eq_true rfl) d_Rv_rollback_2 ⟨(Nat.le_of_ble_eq_true rfl), (Nat.le_of_ble_eq_true rfl)⟩) hlocks hno hK hP hD hS hA [0, 1, 2, 3, 4, 5, 6, 7, 8, 9, 10, 11, 12, 13, 14, 15] [] [0, 1, 2, 3, 4, 5, 6, 7, 8, 9, 10, 11, 12, 13, 14, 15] rfl rfl (by decide) (by decide) (by decide) rfl (Nat.le_of_ble_eq_true rfl) (Nat.le_of_ble_eq_true rfl)
set_option maxHeartbeats 4000000 in
set_option maxRecDepth 100000 in
theorem c_Rv_committedForAll (l : Launch) (D : va_G) (cI cJ cZ : ClassId) (rh sh mh m0 m1 m2 m3 dh d0 d1 d2 d3 ea cb ch be : Nat) (N : Nat) (U : K_Rv) (r : (Int64 × K_Rv)) (hf : f_Rv_committedForAll N U = some r) : Cx l y_Rv_committedForAll ws_Rv_committedForAll rm_Rv_committedForAll D vwCl (tyL cI cJ cZ) [.ref rh] (w_Rv cI cJ cZ rh sh mh m0 m1 m2 m3 dh d0 d1 d2 d3 ea cb ch be U) (oL r.1) (w_Rv cI cJ cZ rh sh mh m0 m1 m2 m3 dh d0 d1 d2 d3 ea cb ch be r.2) := by
  unfold f_Rv_committedForAll at hf
  refine Cx.ofW (cc := b_Rv_committedForAll) (maxL := 4) (ret := (some .long)) (by decide) rfl ?_
  intro p e s m below meth c A C0 hP hK hD hA hns hZ
  obtain ⟨hx, hb, hml, hown, hts0, hr, hlocks, hnm, hno⟩ := C0
  have hown : s.vm.findClass R_Rv = some m.cls := hown
  have hts : ∀ w ∈ tb, w.before [.ref rh].toArray s = true := fun w h => hts0 w (List.mem_cons_of_mem _ h)
  have hS : va_S A s.heap s.heap [] := va_S.rf
  have hl := lv_entry ([.ref rh]) (n := 4) (Nat.le_of_ble_eq_true rfl)
  rw [lg_entry_eq]
  generalize (lg_sl ([.ref rh]) ++ List.replicate (4 - (lg_sl ([.ref rh])).length) Slot.unset).toArray = ls at hl ⊢
  have hl : lv_has ls 4 [(0, .ref rh)] := hl
  have L_10 : ∀ n : Nat, ∀ (x1 : Int64) (x3 : Int32) (U : K_Rv), f_Rv_committedForAll_10 N n x1 x3 U = some r → ∀ (H : Heap) (locs : List Loc) (ls : Array Slot), va_P D vwCl (w_Rv cI cJ cZ rh sh mh m0 m1 m2 m3 dh d0 d1 d2 d3 ea cb ch be U) H → va_D A (w_Rv cI cJ cZ rh sh mh m0 m1 m2 m3 dh d0 d1 d2 d3 ea cb ch be U) → va_S A s.heap H locs → lv_has ls 4 [(0, .ref rh), (1, .long x1), (3, .int x3)] → W p l e (rm_Rv_committedForAll) s m [.ref rh].toArray below meth c H locs 0 0 (xQ D vwCl (tyL cI cJ cZ) below s A (oL r.1) (w_Rv cI cJ cZ rh sh mh m0 m1 m2 m3 dh d0 d1 d2 d3 ea cb ch be r.2) (rm_Rv_committedForAll).cells (rm_Rv_committedForAll).slots) (F0 m 10 ls []) := by
    intro n
    induction n with
    | zero =>
      intro x1 x3 U hf
      have hf : (none : Option (Int64 × K_Rv)) = some r := hf
      cases hf
    | succ n ih =>
      intro x1 x3 U hf H locs ls hP hD hS hl
      rw [f_Rv_committedForAll_10] at hf
      refine lv_iload_n hx hb d_Rv_committedForAll_10 rfl (lv_at hl 2 rfl) ?_
      refine lv_bipush (v := (40 : Int32)) hx hb d_Rv_committedForAll_11 (by decide) ?_
      refine lv_icmp_gt (tgt := 44) hx hb d_Rv_committedForAll_13 (by decide) (fun c5 => ?_) (fun c5 => ?_)
      · have hf := x_ifp c5 hf
        refine lv_lload_n hx hb d_Rv_committedForAll_44 rfl (lv_at hl 1 rfl) ?_
        obtain rfl := Option.some.inj hf
        exact x_lret hx hb hr hlocks hK hP hD hS (Nat.le_of_ble_eq_true rfl) (Nat.le_of_ble_eq_true rfl) d_Rv_committedForAll_45
      · have hf := x_ifn c5 hf
        refine lv_aload_n hx hb d_Rv_committedForAll_16 rfl (lv_at hl 0 rfl) ?_
        refine va_get (D := D) (ci := 2) (v := .ref mh) (C := R_Rv) (T := F_Rv) (N := 5) hx hb hts i_Rv hown hK hP 0 rfl rfl 1 (by decide) (hts _ k_92) (fun _ h9 => h9) rfl d_Rv_committedForAll_17 ?_
        refine va_get (D := D) (ci := 0) (v := .ref m3) (C := R_Co) (T := F_Co) (N := 4) hx hb hts i_Co hown hK hP 2 rfl rfl 3 (by decide) (hts _ k_99) (fun _ h9 => h9) rfl d_Rv_committedForAll_20 ?_
        refine lv_iload_n hx hb d_Rv_committedForAll_23 rfl (lv_at hl 2 rfl) ?_
        obtain ⟨g2, hf⟩ := x_if hf
        refine va_iald hx hb hK hP 6 0 rfl rfl (xi_in g2) d_Rv_committedForAll_24 ?_
        refine lv_iconst (v := (1 : Int32)) hx hb d_Rv_committedForAll_25 (by decide) ?_
        refine lv_icmp_ne (tgt := 38) hx hb d_Rv_committedForAll_26 (by decide) (fun c4 => ?_) (fun c4 => ?_)
        · have hf := x_ifn c4 hf
          refine lv_iinc (v := (x3 + (1 : Int32))) (lv' := [(3, .int (x3 + (1 : Int32))), (0, .ref rh), (1, .long x1)]) hx hb d_Rv_committedForAll_38 hl (k := 2) rfl rfl (by decide) rfl (fun ls hl => ?_)
          refine lv_goto (tgt := 10) hx hb d_Rv_committedForAll_41 (by decide) ?_
          exact ih _ _ _ hf _ _ _ hP hD hS (lv_sub hl [1, 2, 0] rfl)
        · have hf := x_ifp c4 hf
          refine lv_lload_n hx hb d_Rv_committedForAll_29 rfl (lv_at hl 1 rfl) ?_
          refine lv_aload_n hx hb d_Rv_committedForAll_30 rfl (lv_at hl 0 rfl) ?_
          refine va_get (D := D) (ci := 2) (v := .ref cb) (C := R_Rv) (T := F_Rv) (N := 5) hx hb hts i_Rv hown hK hP 0 rfl rfl 2 (by decide) (hts _ k_94) (fun _ h9 => h9) rfl d_Rv_committedForAll_31 ?_
          refine lv_iload_n hx hb d_Rv_committedForAll_34 rfl (lv_at hl 2 rfl) ?_
          obtain ⟨g3, hf⟩ := x_if hf
          refine va_lald hx hb hK hP 13 1 rfl rfl (xi_in g3) d_Rv_committedForAll_35 ?_
          refine lv_land hx hb d_Rv_committedForAll_36 ?_
          refine lv_lstore_n (lv' := [(1, .long (x1 &&& (U.2.1 x3.toNatClampNeg))), (0, .ref rh), (3, .int x3)]) hx hb d_Rv_committedForAll_37 rfl hl (by decide) rfl (fun ls hl => ?_)
          refine lv_iinc (v := (x3 + (1 : Int32))) (lv' := [(3, .int (x3 + (1 : Int32))), (1, .long (x1 &&& (U.2.1 x3.toNatClampNeg))), (0, .ref rh)]) hx hb d_Rv_committedForAll_38 hl (k := 2) rfl rfl (by decide) rfl (fun ls hl => ?_)
          refine lv_goto (tgt := 10) hx hb d_Rv_committedForAll_41 (by decide) ?_
          exact ih _ _ _ hf _ _ _ hP hD hS (lv_sub hl [2, 1, 0] rfl)
  refine lv_aload_n hx hb d_Rv_committedForAll_0 rfl (lv_at hl 0 rfl) ?_
  refine va_get (D := D) (ci := 2) (v := .ref mh) (C := R_Rv) (T := F_Rv) (N := 5) hx hb hts i_Rv hown hK hP 0 rfl rfl 1 (by decide) (hts _ k_92) (fun _ h9 => h9) rfl d_Rv_committedForAll_1 ?_
  obtain ⟨z1, hz1, hf⟩ := x_bind hf
  refine x_callV (w2 := (w_Rv cI cJ cZ rh sh mh m0 m1 m2 m3 dh d0 d1 d2 d3 ea cb ch be ((z1.2, U.1.2), U.2))) ⟨hx, hb, hml, hown, hts⟩ (c_Co_committed l D cI cJ cZ mh m0 m1 m2 m3 N  U.1.1 z1 hz1) (x_cwV 0 hts rfl k_102 k_103 k_104 k_11 k_105 (by decide +kernel) ⟨(Nat.le_of_ble_eq_true rfl), (Nat.le_of_ble_eq_true rfl)⟩) hK hP hD hS hA hZ [2, 3, 4, 5, 6] [0, 1, 7, 8, 9, 10, 11, 12, 13, 14, 15] [0, 1, 11, 12, 13, 14, 15, 2, 3, 4, 5, 6, 7, 8, 9, 10] (by decide) rfl rfl (by decide) (by decide) (by decide) rfl (ci := 0) rfl rfl rfl hl.1 rfl (Nat.le_of_ble_eq_true rfl) d_Rv_committedForAll_4 ⟨(Nat.le_of_ble_eq_true rfl), (Nat.le_of_ble_eq_true rfl)⟩ (fun H locs hP hD hS => ?_)
  refine W.eq (g2 := F0 m 7 ls [.long z1.1]) rfl ?_
  refine lv_lstore_n (lv' := [(1, .long z1.1), (0, .ref rh)]) hx hb d_Rv_committedForAll_7 rfl hl (by decide) rfl (fun ls hl => ?_)
  refine lv_iconst (v := (1 : Int32)) hx hb d_Rv_committedForAll_8 (by decide) ?_
  refine lv_istore_n (lv' := [(3, .int (1 : Int32)), (1, .long z1.1), (0, .ref rh)]) hx hb d_Rv_committedForAll_9 rfl hl (by decide) rfl (fun ls hl => ?_)
  exact L_10 _ _ _ _ hf _ _ _ hP hD hS (lv_sub hl [2, 1, 0] rfl)
set_option maxHeartbeats 4000000 in
set_option maxRecDepth 100000 in
theorem c_Rv_cutBehind (l : Launch) (D : va_G) (cI cJ cZ : ClassId) (rh sh mh m0 m1 m2 m3 dh d0 d1 d2 d3 ea cb ch be : Nat) (N : Nat) (p0 : Int32) (p1 : Int32) (U : K_Rv) (r : (Int32 × K_Rv)) (hf : f_Rv_cutBehind N p0 p1 U = some r) : Cx l y_Rv_cutBehind ws_Rv_cutBehind rm_Rv_cutBehind D vwCl (tyL cI cJ cZ) [.ref rh, .int p0, .int p1] (w_Rv cI cJ cZ rh sh mh m0 m1 m2 m3 dh d0 d1 d2 d3 ea cb ch be U) (oI r.1) (w_Rv cI cJ cZ rh sh mh m0 m1 m2 m3 dh d0 d1 d2 d3 ea cb ch be r.2) := by
  unfold f_Rv_cutBehind at hf
  refine Cx.ofW (cc := b_Rv_cutBehind) (maxL := 6) (ret := (some .int)) (by decide) rfl ?_
  intro p e s m below meth c A C0 hP hK hD hA hns hZ
  obtain ⟨hx, hb, hml, hown, hts0, hr, hlocks, hnm, hno⟩ := C0
  have hown : s.vm.findClass R_Rv = some m.cls := hown
  have hts : ∀ w ∈ tb, w.before [.ref rh, .int p0, .int p1].toArray s = true := fun w h => hts0 w (List.mem_cons_of_mem _ h)
  have hS : va_S A s.heap s.heap [] := va_S.rf
  have hl := lv_entry ([.ref rh, .int p0, .int p1]) (n := 6) (Nat.le_of_ble_eq_true rfl)
  rw [lg_entry_eq]
  generalize (lg_sl ([.ref rh, .int p0, .int p1]) ++ List.replicate (6 - (lg_sl ([.ref rh, .int p0, .int p1])).length) Slot.unset).toArray = ls at hl ⊢
  have hl : lv_has ls 6 [(0, .ref rh), (1, .int p0), (2, .int p1)] := hl
  have L_50 : ∀ n : Nat, ∀ (x1 : Int32) (x2 : Int32) (x3 : Int32) (x4 : Int32) (U : K_Rv), f_Rv_cutBehind_50 N n x1 x2 x3 x4 U = some r → ∀ (H : Heap) (locs : List Loc) (ls : Array Slot), va_P D vwCl (w_Rv cI cJ cZ rh sh mh m0 m1 m2 m3 dh d0 d1 d2 d3 ea cb ch be U) H → va_D A (w_Rv cI cJ cZ rh sh mh m0 m1 m2 m3 dh d0 d1 d2 d3 ea cb ch be U) → va_S A s.heap H locs → lv_has ls 6 [(0, .ref rh), (1, .int x1), (2, .int x2), (3, .int x3), (4, .int x4)] → W p l e (rm_Rv_cutBehind) s m [.ref rh, .int p0, .int p1].toArray below meth c H locs 0 0 (xQ D vwCl (tyL cI cJ cZ) below s A (oI r.1) (w_Rv cI cJ cZ rh sh mh m0 m1 m2 m3 dh d0 d1 d2 d3 ea cb ch be r.2) (rm_Rv_cutBehind).cells (rm_Rv_cutBehind).slots) (F0 m 50 ls []) := by
    intro n
    induction n with
    | zero =>
      intro x1 x2 x3 x4 U hf
      have hf : (none : Option (Int32 × K_Rv)) = some r := hf
      cases hf
    | succ n ih =>
      intro x1 x2 x3 x4 U hf H locs ls hP hD hS hl
      rw [f_Rv_cutBehind_50] at hf
      refine lv_iload hx hb d_Rv_cutBehind_50 (lv_at hl 4 rfl) ?_
      refine lv_iload_n hx hb d_Rv_cutBehind_52 rfl (lv_at hl 3 rfl) ?_
      refine lv_icmp_ge (tgt := 133) hx hb d_Rv_cutBehind_53 (by decide) (fun c15 => ?_) (fun c15 => ?_)
      · have hf := x_ifp c15 hf
        refine lv_iload_n hx hb d_Rv_cutBehind_133 rfl (lv_at hl 3 rfl) ?_
        obtain rfl := Option.some.inj hf
        exact x_iret hx hb hr hlocks hK hP hD hS (Nat.le_of_ble_eq_true rfl) (Nat.le_of_ble_eq_true rfl) d_Rv_cutBehind_134
      · have hf := x_ifn c15 hf
        refine lv_aload_n hx hb d_Rv_cutBehind_56 rfl (lv_at hl 0 rfl) ?_
        refine va_get (D := D) (ci := 2) (v := .ref be) (C := R_Rv) (T := F_Rv) (N := 5) hx hb hts i_Rv hown hK hP 0 rfl rfl 4 (by decide) (hts _ k_96) (fun _ h9 => h9) rfl d_Rv_cutBehind_57 ?_
        refine lv_iload hx hb d_Rv_cutBehind_60 (lv_at hl 4 rfl) ?_
        obtain ⟨g3, hf⟩ := x_if hf
        refine va_iald hx hb hK hP 15 0 rfl rfl (xi_in g3) d_Rv_cutBehind_62 ?_
        refine lv_istore (lv' := [(5, .int (U.2.2.2 x4.toNatClampNeg)), (0, .ref rh), (1, .int x1), (2, .int x2), (3, .int x3), (4, .int x4)]) hx hb d_Rv_cutBehind_63 hl (by decide) rfl (fun ls hl => ?_)
        refine lv_aload_n hx hb d_Rv_cutBehind_65 rfl (lv_at hl 1 rfl) ?_
        refine va_get (D := D) (ci := 2) (v := .ref sh) (C := R_Rv) (T := F_Rv) (N := 5) hx hb hts i_Rv hown hK hP 0 rfl rfl 0 (by decide) (hts _ k_90) (fun _ h9 => h9) rfl d_Rv_cutBehind_66 ?_
        refine lv_iload_n hx hb d_Rv_cutBehind_69 rfl (lv_at hl 2 rfl) ?_
        obtain ⟨z4, hz4, hf⟩ := x_bind hf
        refine x_callS (w2 := (w_Rv cI cJ cZ rh sh mh m0 m1 m2 m3 dh d0 d1 d2 d3 ea cb ch be U)) ⟨hx, hb, hml, hown, hts⟩ (c_Rv_pageOf l D cI cJ cZ  N x1  z4 hz4) (x_cwS 1 hts rfl k_143 k_144 k_23 k_145 (by decide +kernel) ⟨(Nat.le_of_ble_eq_true rfl), (Nat.le_of_ble_eq_true rfl)⟩) hK hP hD hS hA hZ [] [0, 1, 2, 3, 4, 5, 6, 7, 8, 9, 10, 11, 12, 13, 14, 15] [0, 1, 2, 3, 4, 5, 6, 7, 8, 9, 10, 11, 12, 13, 14, 15] (by decide) rfl rfl (by decide) (by decide) (by decide) rfl rfl hl.1 rfl (Nat.le_of_ble_eq_true rfl) d_Rv_cutBehind_70 ⟨(Nat.le_of_ble_eq_true rfl), (Nat.le_of_ble_eq_true rfl)⟩ (fun H locs hP hD hS => ?_)
        refine W.eq (g2 := F0 m 73 ls [.int z4, .ref sh]) rfl ?_
        refine lv_iload hx hb d_Rv_cutBehind_73 (lv_at hl 0 rfl) ?_
        obtain ⟨z5, hz5, hf⟩ := x_bind hf
        refine x_callS (w2 := (w_Rv cI cJ cZ rh sh mh m0 m1 m2 m3 dh d0 d1 d2 d3 ea cb ch be U)) ⟨hx, hb, hml, hown, hts⟩ (c_Rv_pageOf l D cI cJ cZ  N (U.2.2.2 x4.toNatClampNeg)  z5 hz5) (x_cwS 1 hts rfl k_143 k_144 k_23 k_145 (by decide +kernel) ⟨(Nat.le_of_ble_eq_true rfl), (Nat.le_of_ble_eq_true rfl)⟩) hK hP hD hS hA hZ [] [0, 1, 2, 3, 4, 5, 6, 7, 8, 9, 10, 11, 12, 13, 14, 15] [0, 1, 2, 3, 4, 5, 6, 7, 8, 9, 10, 11, 12, 13, 14, 15] (by decide) rfl rfl (by decide) (by decide) (by decide) rfl rfl hl.1 rfl (Nat.le_of_ble_eq_true rfl) d_Rv_cutBehind_75 ⟨(Nat.le_of_ble_eq_true rfl), (Nat.le_of_ble_eq_true rfl)⟩ (fun H locs hP hD hS => ?_)
        refine W.eq (g2 := F0 m 78 ls [.int z5, .int z4, .ref sh]) rfl ?_
        obtain ⟨z6, hz6, hf⟩ := x_bind hf
        refine x_callV (w2 := (w_Rv cI cJ cZ rh sh mh m0 m1 m2 m3 dh d0 d1 d2 d3 ea cb ch be (z6.2, U.2))) ⟨hx, hb, hml, hown, hts⟩ (c_St_note l D cI cJ cZ sh mh m0 m1 m2 m3 dh d0 d1 d2 d3 ea N z4 z5 U.1 z6 hz6) (x_cwV 2 hts rfl k_154 k_155 k_156 k_55 k_157 (by decide +kernel) ⟨(Nat.le_of_ble_eq_true rfl), (Nat.le_of_ble_eq_true rfl)⟩) hK hP hD hS hA hZ [1, 2, 3, 4, 5, 6, 7, 8, 9, 10, 11, 12] [0, 13, 14, 15] [0, 4, 5, 6, 7, 8, 9, 10, 11, 12, 13, 14, 15, 1, 2, 3] (by decide) rfl rfl (by decide) (by decide) (by decide) rfl (ci := 1) rfl rfl rfl hl.1 rfl (Nat.le_of_ble_eq_true rfl) d_Rv_cutBehind_78 ⟨(Nat.le_of_ble_eq_true rfl), (Nat.le_of_ble_eq_true rfl)⟩ (fun H locs hP hD hS => ?_)
        refine W.eq (g2 := F0 m 81 ls [.int z6.1]) rfl ?_
        refine lv_if_eq (tgt := 103) hx hb d_Rv_cutBehind_81 (by decide) (fun c14 => ?_) (fun c14 => ?_)
        · have hf := x_ifp c14 hf
          refine lv_bipush (v := (-9 : Int32)) hx hb d_Rv_cutBehind_103 (by decide) ?_
          obtain rfl := Option.some.inj hf
          exact x_iret hx hb hr hlocks hK hP hD hS (Nat.le_of_ble_eq_true rfl) (Nat.le_of_ble_eq_true rfl) d_Rv_cutBehind_105
        · have hf := x_ifn c14 hf
          refine lv_aload_n hx hb d_Rv_cutBehind_84 rfl (lv_at hl 1 rfl) ?_
          refine va_get (D := D) (ci := 2) (v := .ref sh) (C := R_Rv) (T := F_Rv) (N := 5) hx hb hts i_Rv hown hK hP 0 rfl rfl 0 (by decide) (hts _ k_90) (fun _ h9 => h9) rfl d_Rv_cutBehind_85 ?_
          refine lv_iload_n hx hb d_Rv_cutBehind_88 rfl (lv_at hl 3 rfl) ?_
          obtain ⟨z7, hz7, hf⟩ := x_bind hf
          refine x_callS (w2 := (w_Rv cI cJ cZ rh sh mh m0 m1 m2 m3 dh d0 d1 d2 d3 ea cb ch be (z6.2, U.2))) ⟨hx, hb, hml, hown, hts⟩ (c_Rv_pageOf l D cI cJ cZ  N x2  z7 hz7) (x_cwS 1 hts rfl k_143 k_144 k_23 k_145 (by decide +kernel) ⟨(Nat.le_of_ble_eq_true rfl), (Nat.le_of_ble_eq_true rfl)⟩) hK hP hD hS hA hZ [] [0, 1, 2, 3, 4, 5, 6, 7, 8, 9, 10, 11, 12, 13, 14, 15] [0, 1, 2, 3, 4, 5, 6, 7, 8, 9, 10, 11, 12, 13, 14, 15] (by decide) rfl rfl (by decide) (by decide) (by decide) rfl rfl hl.1 rfl (Nat.le_of_ble_eq_true rfl) d_Rv_cutBehind_89 ⟨(Nat.le_of_ble_eq_true rfl), (Nat.le_of_ble_eq_true rfl)⟩ (fun H locs hP hD hS => ?_)
          refine W.eq (g2 := F0 m 92 ls [.int z7, .ref sh]) rfl ?_
          refine lv_iload hx hb d_Rv_cutBehind_92 (lv_at hl 0 rfl) ?_
          obtain ⟨z8, hz8, hf⟩ := x_bind hf
          refine x_callS (w2 := (w_Rv cI cJ cZ rh sh mh m0 m1 m2 m3 dh d0 d1 d2 d3 ea cb ch be (z6.2, U.2))) ⟨hx, hb, hml, hown, hts⟩ (c_Rv_pageOf l D cI cJ cZ  N (U.2.2.2 x4.toNatClampNeg)  z8 hz8) (x_cwS 1 hts rfl k_143 k_144 k_23 k_145 (by decide +kernel) ⟨(Nat.le_of_ble_eq_true rfl), (Nat.le_of_ble_eq_true rfl)⟩) hK hP hD hS hA hZ [] [0, 1, 2, 3, 4, 5, 6, 7, 8, 9, 10, 11, 12, 13, 14, 15] [0, 1, 2, 3, 4, 5, 6, 7, 8, 9, 10, 11, 12, 13, 14, 15] (by decide) rfl rfl (by decide) (by decide) (by decide) rfl rfl hl.1 rfl (Nat.le_of_ble_eq_true rfl) d_Rv_cutBehind_94 ⟨(Nat.le_of_ble_eq_true rfl), (Nat.le_of_ble_eq_true rfl)⟩ (fun H locs hP hD hS => ?_)
          refine W.eq (g2 := F0 m 97 ls [.int z8, .int z7, .ref sh]) rfl ?_
          obtain ⟨z9, hz9, hf⟩ := x_bind hf
          refine x_callV (w2 := (w_Rv cI cJ cZ rh sh mh m0 m1 m2 m3 dh d0 d1 d2 d3 ea cb ch be (z9.2, U.2))) ⟨hx, hb, hml, hown, hts⟩ (c_St_note l D cI cJ cZ sh mh m0 m1 m2 m3 dh d0 d1 d2 d3 ea N z7 z8 z6.2 z9 hz9) (x_cwV 2 hts rfl k_154 k_155 k_156 k_55 k_157 (by decide +kernel) ⟨(Nat.le_of_ble_eq_true rfl), (Nat.le_of_ble_eq_true rfl)⟩) hK hP hD hS hA hZ [1, 2, 3, 4, 5, 6, 7, 8, 9, 10, 11, 12] [0, 13, 14, 15] [0, 4, 5, 6, 7, 8, 9, 10, 11, 12, 13, 14, 15, 1, 2, 3] (by decide) rfl rfl (by decide) (by decide) (by decide) rfl (ci := 1) rfl rfl rfl hl.1 rfl (Nat.le_of_ble_eq_true rfl) d_Rv_cutBehind_97 ⟨(Nat.le_of_ble_eq_true rfl), (Nat.le_of_ble_eq_true rfl)⟩ (fun H locs hP hD hS => ?_)
          refine W.eq (g2 := F0 m 100 ls [.int z9.1]) rfl ?_
          refine lv_if_ne (tgt := 106) hx hb d_Rv_cutBehind_100 (by decide) (fun c13 => ?_) (fun c13 => ?_)
          · have hf := x_ifn c13 hf
            refine lv_aload_n hx hb d_Rv_cutBehind_106 rfl (lv_at hl 1 rfl) ?_
            refine va_get (D := D) (ci := 2) (v := .ref mh) (C := R_Rv) (T := F_Rv) (N := 5) hx hb hts i_Rv hown hK hP 0 rfl rfl 1 (by decide) (hts _ k_92) (fun _ h9 => h9) rfl d_Rv_cutBehind_107 ?_
            refine lv_iload hx hb d_Rv_cutBehind_110 (lv_at hl 0 rfl) ?_
            obtain ⟨z10, hz10, hf⟩ := x_bind hf
            refine x_callV (w2 := (w_Rv cI cJ cZ rh sh mh m0 m1 m2 m3 dh d0 d1 d2 d3 ea cb ch be ((z10.2, z9.2.2), U.2))) ⟨hx, hb, hml, hown, hts⟩ (c_Co_empty l D cI cJ cZ mh m0 m1 m2 m3 N (U.2.2.2 x4.toNatClampNeg) z9.2.1 z10 hz10) (x_cwV 1 hts rfl k_146 k_147 k_148 k_11 k_149 (by decide +kernel) ⟨(Nat.le_of_ble_eq_true rfl), (Nat.le_of_ble_eq_true rfl)⟩) hK hP hD hS hA hZ [2, 3, 4, 5, 6] [0, 1, 7, 8, 9, 10, 11, 12, 13, 14, 15] [0, 1, 11, 12, 13, 14, 15, 2, 3, 4, 5, 6, 7, 8, 9, 10] (by decide) rfl rfl (by decide) (by decide) (by decide) rfl (ci := 0) rfl rfl rfl hl.1 rfl (Nat.le_of_ble_eq_true rfl) d_Rv_cutBehind_112 ⟨(Nat.le_of_ble_eq_true rfl), (Nat.le_of_ble_eq_true rfl)⟩ (fun H locs hP hD hS => ?_)
            refine W.eq (g2 := F0 m 115 ls []) rfl ?_
            refine lv_aload_n hx hb d_Rv_cutBehind_115 rfl (lv_at hl 1 rfl) ?_
            refine va_get (D := D) (ci := 2) (v := .ref sh) (C := R_Rv) (T := F_Rv) (N := 5) hx hb hts i_Rv hown hK hP 0 rfl rfl 0 (by decide) (hts _ k_90) (fun _ h9 => h9) rfl d_Rv_cutBehind_116 ?_
            refine lv_iload hx hb d_Rv_cutBehind_119 (lv_at hl 0 rfl) ?_
            obtain ⟨z11, hz11, hf⟩ := x_bind hf
            refine x_callS (w2 := (w_Rv cI cJ cZ rh sh mh m0 m1 m2 m3 dh d0 d1 d2 d3 ea cb ch be ((z10.2, z9.2.2), U.2))) ⟨hx, hb, hml, hown, hts⟩ (c_Rv_pageOf l D cI cJ cZ  N (U.2.2.2 x4.toNatClampNeg)  z11 hz11) (x_cwS 1 hts rfl k_143 k_144 k_23 k_145 (by decide +kernel) ⟨(Nat.le_of_ble_eq_true rfl), (Nat.le_of_ble_eq_true rfl)⟩) hK hP hD hS hA hZ [] [0, 1, 2, 3, 4, 5, 6, 7, 8, 9, 10, 11, 12, 13, 14, 15] [0, 1, 2, 3, 4, 5, 6, 7, 8, 9, 10, 11, 12, 13, 14, 15] (by decide) rfl rfl (by decide) (by decide) (by decide) rfl rfl hl.1 rfl (Nat.le_of_ble_eq_true rfl) d_Rv_cutBehind_121 ⟨(Nat.le_of_ble_eq_true rfl), (Nat.le_of_ble_eq_true rfl)⟩ (fun H locs hP hD hS => ?_)
            refine W.eq (g2 := F0 m 124 ls [.int z11, .ref sh]) rfl ?_
            obtain ⟨z12, hz12, hf⟩ := x_bind hf
            refine x_callV (w2 := (w_Rv cI cJ cZ rh sh mh m0 m1 m2 m3 dh d0 d1 d2 d3 ea cb ch be (z12.2, U.2))) ⟨hx, hb, hml, hown, hts⟩ (c_St_changed l D cI cJ cZ sh mh m0 m1 m2 m3 dh d0 d1 d2 d3 ea N z11 (z10.2, z9.2.2) z12 hz12) (x_cwV 1 hts rfl k_101 k_64 k_65 k_55 k_66 (by decide +kernel) ⟨(Nat.le_of_ble_eq_true rfl), (Nat.le_of_ble_eq_true rfl)⟩) hK hP hD hS hA hZ [1, 2, 3, 4, 5, 6, 7, 8, 9, 10, 11, 12] [0, 13, 14, 15] [0, 4, 5, 6, 7, 8, 9, 10, 11, 12, 13, 14, 15, 1, 2, 3] (by decide) rfl rfl (by decide) (by decide) (by decide) rfl (ci := 1) rfl rfl rfl hl.1 rfl (Nat.le_of_ble_eq_true rfl) d_Rv_cutBehind_124 ⟨(Nat.le_of_ble_eq_true rfl), (Nat.le_of_ble_eq_true rfl)⟩ (fun H locs hP hD hS => ?_)
            refine W.eq (g2 := F0 m 127 ls []) rfl ?_
            refine lv_iinc (v := (x4 + (1 : Int32))) (lv' := [(4, .int (x4 + (1 : Int32))), (5, .int (U.2.2.2 x4.toNatClampNeg)), (0, .ref rh), (1, .int x1), (2, .int x2), (3, .int x3)]) hx hb d_Rv_cutBehind_127 hl (k := 5) rfl rfl (by decide) rfl (fun ls hl => ?_)
            refine lv_goto (tgt := 50) hx hb d_Rv_cutBehind_130 (by decide) ?_
            exact ih _ _ _ _ _ hf _ _ _ hP hD hS (lv_sub hl [2, 3, 4, 5, 0] rfl)
          · have hf := x_ifp c13 hf
            refine lv_bipush (v := (-9 : Int32)) hx hb d_Rv_cutBehind_103 (by decide) ?_
            obtain rfl := Option.some.inj hf
            exact x_iret hx hb hr hlocks hK hP hD hS (Nat.le_of_ble_eq_true rfl) (Nat.le_of_ble_eq_true rfl) d_Rv_cutBehind_105
  refine lv_aload_n hx hb d_Rv_cutBehind_0 rfl (lv_at hl 0 rfl) ?_
  refine va_get (D := D) (ci := 2) (v := .ref mh) (C := R_Rv) (T := F_Rv) (N := 5) hx hb hts i_Rv hown hK hP 0 rfl rfl 1 (by decide) (hts _ k_92) (fun _ h9 => h9) rfl d_Rv_cutBehind_1 ?_
  refine lv_iload_n hx hb d_Rv_cutBehind_4 rfl (lv_at hl 2 rfl) ?_
  refine lv_aload_n hx hb d_Rv_cutBehind_5 rfl (lv_at hl 0 rfl) ?_
  refine va_get (D := D) (ci := 2) (v := .ref be) (C := R_Rv) (T := F_Rv) (N := 5) hx hb hts i_Rv hown hK hP 0 rfl rfl 4 (by decide) (hts _ k_96) (fun _ h9 => h9) rfl d_Rv_cutBehind_6 ?_
  obtain ⟨z1, hz1, hf⟩ := x_bind hf
  refine x_callV (w2 := (w_Rv cI cJ cZ rh sh mh m0 m1 m2 m3 dh d0 d1 d2 d3 ea cb ch be ((z1.2.1, U.1.2), (U.2.1, (U.2.2.1, z1.2.2))))) ⟨hx, hb, hml, hown, hts⟩ (c_Co_chainBehind l D cI cJ cZ mh m0 m1 m2 m3 be N p1 (U.1.1, U.2.2.2) z1 hz1) (x_cwV 2 hts rfl k_190 k_191 k_192 k_11 k_193 (by decide +kernel) ⟨(Nat.le_of_ble_eq_true rfl), (Nat.le_of_ble_eq_true rfl)⟩) hK hP hD hS hA hZ [2, 3, 4, 5, 6, 15] [0, 1, 7, 8, 9, 10, 11, 12, 13, 14] [0, 1, 10, 11, 12, 13, 14, 2, 3, 4, 5, 6, 7, 8, 9, 15] (by decide) rfl rfl (by decide) (by decide) (by decide) rfl (ci := 0) rfl rfl rfl hl.1 rfl (Nat.le_of_ble_eq_true rfl) d_Rv_cutBehind_9 ⟨(Nat.le_of_ble_eq_true rfl), (Nat.le_of_ble_eq_true rfl)⟩ (fun H locs hP hD hS => ?_)
  refine W.eq (g2 := F0 m 12 ls [.int z1.1]) rfl ?_
  refine lv_istore_n (lv' := [(3, .int z1.1), (0, .ref rh), (1, .int p0), (2, .int p1)]) hx hb d_Rv_cutBehind_12 rfl hl (by decide) rfl (fun ls hl => ?_)
  refine lv_aload_n hx hb d_Rv_cutBehind_13 rfl (lv_at hl 1 rfl) ?_
  refine va_get (D := D) (ci := 2) (v := .ref mh) (C := R_Rv) (T := F_Rv) (N := 5) hx hb hts i_Rv hown hK hP 0 rfl rfl 1 (by decide) (hts _ k_92) (fun _ h9 => h9) rfl d_Rv_cutBehind_14 ?_
  refine va_get (D := D) (ci := 0) (v := .ref m2) (C := R_Co) (T := F_Co) (N := 4) hx hb hts i_Co hown hK hP 2 rfl rfl 2 (by decide) (hts _ k_142) (fun _ h9 => h9) rfl d_Rv_cutBehind_17 ?_
  refine lv_iload_n hx hb d_Rv_cutBehind_20 rfl (lv_at hl 3 rfl) ?_
  obtain ⟨g2, hf⟩ := x_if hf
  refine va_iald hx hb hK hP 5 0 rfl rfl (xi_in g2) d_Rv_cutBehind_21 ?_
  refine lv_iconst (v := (-1 : Int32)) hx hb d_Rv_cutBehind_22 (by decide) ?_
  refine lv_icmp_eq (tgt := 47) hx hb d_Rv_cutBehind_23 (by decide) (fun c19 => ?_) (fun c19 => ?_)
  · have hf := x_ifp c19 hf
    refine lv_iconst (v := (0 : Int32)) hx hb d_Rv_cutBehind_47 (by decide) ?_
    refine lv_istore (lv' := [(4, .int (0 : Int32)), (3, .int z1.1), (0, .ref rh), (1, .int p0), (2, .int p1)]) hx hb d_Rv_cutBehind_48 hl (by decide) rfl (fun ls hl => ?_)
    exact L_50 _ _ _ _ _ _ hf _ _ _ hP hD hS (lv_sub hl [2, 3, 4, 1, 0] rfl)
  · have hf := x_ifn c19 hf
    refine lv_aload_n hx hb d_Rv_cutBehind_26 rfl (lv_at hl 1 rfl) ?_
    refine va_get (D := D) (ci := 2) (v := .ref mh) (C := R_Rv) (T := F_Rv) (N := 5) hx hb hts i_Rv hown hK hP 0 rfl rfl 1 (by decide) (hts _ k_92) (fun _ h9 => h9) rfl d_Rv_cutBehind_27 ?_
    refine va_get (D := D) (ci := 0) (v := .ref m2) (C := R_Co) (T := F_Co) (N := 4) hx hb hts i_Co hown hK hP 2 rfl rfl 2 (by decide) (hts _ k_142) (fun _ h9 => h9) rfl d_Rv_cutBehind_30 ?_
    refine lv_iload_n hx hb d_Rv_cutBehind_33 rfl (lv_at hl 3 rfl) ?_
    refine lv_iconst (v := (-1 : Int32)) hx hb d_Rv_cutBehind_34 (by decide) ?_
    obtain ⟨g16, hf⟩ := x_if hf
    refine va_iast hx hb hK hP hD hS 5 0 rfl rfl (xi_in g16) d_Rv_cutBehind_35 (fun H locs hP hD hS => ?_)
    have hP : va_P D vwCl (w_Rv cI cJ cZ rh sh mh m0 m1 m2 m3 dh d0 d1 d2 d3 ea cb ch be (((z1.2.1.1, (z1.2.1.2.1, ((upd z1.2.1.2.2.1 p1.toNatClampNeg (-1 : Int32)), z1.2.1.2.2.2))), U.1.2), (U.2.1, (U.2.2.1, z1.2.2)))) H := hP
    have hD : va_D A (w_Rv cI cJ cZ rh sh mh m0 m1 m2 m3 dh d0 d1 d2 d3 ea cb ch be (((z1.2.1.1, (z1.2.1.2.1, ((upd z1.2.1.2.2.1 p1.toNatClampNeg (-1 : Int32)), z1.2.1.2.2.2))), U.1.2), (U.2.1, (U.2.2.1, z1.2.2)))) := hD
    refine lv_aload_n hx hb d_Rv_cutBehind_36 rfl (lv_at hl 1 rfl) ?_
    refine va_get (D := D) (ci := 2) (v := .ref sh) (C := R_Rv) (T := F_Rv) (N := 5) hx hb hts i_Rv hown hK hP 0 rfl rfl 0 (by decide) (hts _ k_90) (fun _ h9 => h9) rfl d_Rv_cutBehind_37 ?_
    refine lv_iload_n hx hb d_Rv_cutBehind_40 rfl (lv_at hl 3 rfl) ?_
    obtain ⟨z17, hz17, hf⟩ := x_bind hf
    refine x_callS (w2 := (w_Rv cI cJ cZ rh sh mh m0 m1 m2 m3 dh d0 d1 d2 d3 ea cb ch be (((z1.2.1.1, (z1.2.1.2.1, ((upd z1.2.1.2.2.1 p1.toNatClampNeg (-1 : Int32)), z1.2.1.2.2.2))), U.1.2), (U.2.1, (U.2.2.1, z1.2.2))))) ⟨hx, hb, hml, hown, hts⟩ (c_Rv_pageOf l D cI cJ cZ  N p1  z17 hz17) (x_cwS 1 hts rfl k_143 k_144 k_23 k_145 (by decide +kernel) ⟨(Nat.le_of_ble_eq_true rfl), (Nat.le_of_ble_eq_true rfl)⟩) hK hP hD hS hA hZ [] [0, 1, 2, 3, 4, 5, 6, 7, 8, 9, 10, 11, 12, 13, 14, 15] [0, 1, 2, 3, 4, 5, 6, 7, 8, 9, 10, 11, 12, 13, 14, 15] (by decide) rfl rfl (by decide) (by decide) (by decide) rfl rfl hl.1 rfl (Nat.le_of_ble_eq_true rfl) d_Rv_cutBehind_41 ⟨(Nat.le_of_ble_eq_true rfl), (Nat.le_of_ble_eq_true rfl)⟩ (fun H locs hP hD hS => ?_)
    refine W.eq (g2 := F0 m 44 ls [.int z17, .ref sh]) rfl ?_
    obtain ⟨z18, hz18, hf⟩ := x_bind hf
    refine x_callV (w2 := (w_Rv cI cJ cZ rh sh mh m0 m1 m2 m3 dh d0 d1 d2 d3 ea cb ch be (z18.2, (U.2.1, (U.2.2.1, z1.2.2))))) ⟨hx, hb, hml, hown, hts⟩ (c_St_changed l D cI cJ cZ sh mh m0 m1 m2 m3 dh d0 d1 d2 d3 ea N z17 ((z1.2.1.1, (z1.2.1.2.1, ((upd z1.2.1.2.2.1 p1.toNatClampNeg (-1 : Int32)), z1.2.1.2.2.2))), U.1.2) z18 hz18) (x_cwV 1 hts rfl k_101 k_64 k_65 k_55 k_66 (by decide +kernel) ⟨(Nat.le_of_ble_eq_true rfl), (Nat.le_of_ble_eq_true rfl)⟩) hK hP hD hS hA hZ [1, 2, 3, 4, 5, 6, 7, 8, 9, 10, 11, 12] [0, 13, 14, 15] [0, 4, 5, 6, 7, 8, 9, 10, 11, 12, 13, 14, 15, 1, 2, 3] (by decide) rfl rfl (by decide) (by decide) (by decide) rfl (ci := 1) rfl rfl rfl hl.1 rfl (Nat.le_of_ble_eq_true rfl) d_Rv_cutBehind_44 ⟨(Nat.le_of_ble_eq_true rfl), (Nat.le_of_ble_eq_true rfl)⟩ (fun H locs hP hD hS => ?_)
    refine W.eq (g2 := F0 m 47 ls []) rfl ?_
    refine lv_iconst (v := (0 : Int32)) hx hb d_Rv_cutBehind_47 (by decide) ?_
    refine lv_istore (lv' := [(4, .int (0 : Int32)), (3, .int z1.1), (0, .ref rh), (1, .int p0), (2, .int p1)]) hx hb d_Rv_cutBehind_48 hl (by decide) rfl (fun ls hl => ?_)
    exact L_50 _ _ _ _ _ _ hf _ _ _ hP hD hS (lv_sub hl [2, 3, 4, 1, 0] rfl)
set_option maxHeartbeats 4000000 in
set_option maxRecDepth 100000 in
theorem c_Rv_sweepRecord (l : Launch) (D : va_G) (cI cJ cZ : ClassId) (rh sh mh m0 m1 m2 m3 dh d0 d1 d2 d3 ea cb ch be : Nat) (N : Nat) (p0 : Int32) (U : K_Rv) (r : (Int32 × K_Rv)) (hf : f_Rv_sweepRecord N p0 U = some r) : Cx l y_Rv_sweepRecord ws_Rv_sweepRecord rm_Rv_sweepRecord D vwCl (tyL cI cJ cZ) [.ref rh, .int p0] (w_Rv cI cJ cZ rh sh mh m0 m1 m2 m3 dh d0 d1 d2 d3 ea cb ch be U) (oI r.1) (w_Rv cI cJ cZ rh sh mh m0 m1 m2 m3 dh d0 d1 d2 d3 ea cb ch be r.2) := by
  unfold f_Rv_sweepRecord at hf
  refine Cx.ofW (cc := b_Rv_sweepRecord) (maxL := 4) (ret := (some .int)) (by decide) rfl ?_
  intro p e s m below meth c A C0 hP hK hD hA hns hZ
  obtain ⟨hx, hb, hml, hown, hts0, hr, hlocks, hnm, hno⟩ := C0
  have hown : s.vm.findClass R_Rv = some m.cls := hown
  have hts : ∀ w ∈ tb, w.before [.ref rh, .int p0].toArray s = true := fun w h => hts0 w (List.mem_cons_of_mem _ h)
  have hS : va_S A s.heap s.heap [] := va_S.rf
  have hl := lv_entry ([.ref rh, .int p0]) (n := 4) (Nat.le_of_ble_eq_true rfl)
  rw [lg_entry_eq]
  generalize (lg_sl ([.ref rh, .int p0]) ++ List.replicate (4 - (lg_sl ([.ref rh, .int p0])).length) Slot.unset).toArray = ls at hl ⊢
  have hl : lv_has ls 4 [(0, .ref rh), (1, .int p0)] := hl
  refine lv_aload_n hx hb d_Rv_sweepRecord_0 rfl (lv_at hl 0 rfl) ?_
  refine lv_iload_n hx hb d_Rv_sweepRecord_1 rfl (lv_at hl 1 rfl) ?_
  obtain ⟨z1, hz1, hf⟩ := x_bind hf
  refine x_callV (w2 := (w_Rv cI cJ cZ rh sh mh m0 m1 m2 m3 dh d0 d1 d2 d3 ea cb ch be z1.2)) ⟨hx, hb, hml, hown, hts⟩ (c_Rv_clean l D cI cJ cZ rh sh mh m0 m1 m2 m3 dh d0 d1 d2 d3 ea cb ch be N p0 U z1 hz1) (x_cwV 1 hts rfl k_177 k_178 k_179 k_23 k_180 (by decide +kernel) ⟨(Nat.le_of_ble_eq_true rfl), (Nat.le_of_ble_eq_true rfl)⟩) hK hP hD hS hA hZ [0, 1, 2, 3, 4, 5, 6, 7, 8, 9, 10, 11, 12, 13, 14, 15] [] [0, 1, 2, 3, 4, 5, 6, 7, 8, 9, 10, 11, 12, 13, 14, 15] (by decide) rfl rfl (by decide) (by decide) (by decide) rfl (ci := 2) rfl rfl rfl hl.1 rfl (Nat.le_of_ble_eq_true rfl) d_Rv_sweepRecord_2 ⟨(Nat.le_of_ble_eq_true rfl), (Nat.le_of_ble_eq_true rfl)⟩ (fun H locs hP hD hS => ?_)
  refine W.eq (g2 := F0 m 5 ls [.int z1.1]) rfl ?_
  refine lv_if_ne (tgt := 11) hx hb d_Rv_sweepRecord_5 (by decide) (fun c13 => ?_) (fun c13 => ?_)
  · have hf := x_ifn c13 hf
    refine lv_aload_n hx hb d_Rv_sweepRecord_11 rfl (lv_at hl 0 rfl) ?_
    refine va_get (D := D) (ci := 2) (v := .ref mh) (C := R_Rv) (T := F_Rv) (N := 5) hx hb hts i_Rv hown hK hP 0 rfl rfl 1 (by decide) (hts _ k_92) (fun _ h9 => h9) rfl d_Rv_sweepRecord_12 ?_
    refine lv_aload_n hx hb d_Rv_sweepRecord_15 rfl (lv_at hl 0 rfl) ?_
    obtain ⟨z2, hz2, hf⟩ := x_bind hf
    refine x_callV (w2 := (w_Rv cI cJ cZ rh sh mh m0 m1 m2 m3 dh d0 d1 d2 d3 ea cb ch be z2.2)) ⟨hx, hb, hml, hown, hts⟩ (c_Rv_committedForAll l D cI cJ cZ rh sh mh m0 m1 m2 m3 dh d0 d1 d2 d3 ea cb ch be N  z1.2 z2 hz2) (x_cwV 0 hts rfl k_198 k_199 k_200 k_23 k_201 (by decide +kernel) ⟨(Nat.le_of_ble_eq_true rfl), (Nat.le_of_ble_eq_true rfl)⟩) hK hP hD hS hA hZ [0, 1, 2, 3, 4, 5, 6, 7, 8, 9, 10, 11, 12, 13, 14, 15] [] [0, 1, 2, 3, 4, 5, 6, 7, 8, 9, 10, 11, 12, 13, 14, 15] (by decide) rfl rfl (by decide) (by decide) (by decide) rfl (ci := 2) rfl rfl rfl hl.1 rfl (Nat.le_of_ble_eq_true rfl) d_Rv_sweepRecord_16 ⟨(Nat.le_of_ble_eq_true rfl), (Nat.le_of_ble_eq_true rfl)⟩ (fun H locs hP hD hS => ?_)
    refine W.eq (g2 := F0 m 19 ls [.long z2.1, .ref mh]) rfl ?_
    refine lv_iload_n hx hb d_Rv_sweepRecord_19 rfl (lv_at hl 1 rfl) ?_
    obtain ⟨z3, hz3, hf⟩ := x_bind hf
    refine x_callV (w2 := (w_Rv cI cJ cZ rh sh mh m0 m1 m2 m3 dh d0 d1 d2 d3 ea cb ch be ((z3.2, z2.2.1.2), z2.2.2))) ⟨hx, hb, hml, hown, hts⟩ (c_Co_firstOf l D cI cJ cZ mh m0 m1 m2 m3 N z2.1 p0 z2.2.1.1 z3 hz3) (x_cwV 2 hts rfl k_116 k_117 k_118 k_11 k_119 (by decide +kernel) ⟨(Nat.le_of_ble_eq_true rfl), (Nat.le_of_ble_eq_true rfl)⟩) hK hP hD hS hA hZ [2, 3, 4, 5, 6] [0, 1, 7, 8, 9, 10, 11, 12, 13, 14, 15] [0, 1, 11, 12, 13, 14, 15, 2, 3, 4, 5, 6, 7, 8, 9, 10] (by decide) rfl rfl (by decide) (by decide) (by decide) rfl (ci := 0) rfl rfl rfl hl.1 rfl (Nat.le_of_ble_eq_true rfl) d_Rv_sweepRecord_20 ⟨(Nat.le_of_ble_eq_true rfl), (Nat.le_of_ble_eq_true rfl)⟩ (fun H locs hP hD hS => ?_)
    refine W.eq (g2 := F0 m 23 ls [.int z3.1]) rfl ?_
    refine lv_istore_n (lv' := [(2, .int z3.1), (0, .ref rh), (1, .int p0)]) hx hb d_Rv_sweepRecord_23 rfl hl (by decide) rfl (fun ls hl => ?_)
    refine lv_iload_n hx hb d_Rv_sweepRecord_24 rfl (lv_at hl 0 rfl) ?_
    refine lv_iconst (v := (-1 : Int32)) hx hb d_Rv_sweepRecord_25 (by decide) ?_
    refine lv_icmp_ne (tgt := 31) hx hb d_Rv_sweepRecord_26 (by decide) (fun c12 => ?_) (fun c12 => ?_)
    · have hf := x_ifn c12 hf
      refine lv_aload_n hx hb d_Rv_sweepRecord_31 rfl (lv_at hl 1 rfl) ?_
      refine lv_iload_n hx hb d_Rv_sweepRecord_32 rfl (lv_at hl 2 rfl) ?_
      refine lv_iload_n hx hb d_Rv_sweepRecord_33 rfl (lv_at hl 0 rfl) ?_
      obtain ⟨z4, hz4, hf⟩ := x_bind hf
      refine x_callV (w2 := (w_Rv cI cJ cZ rh sh mh m0 m1 m2 m3 dh d0 d1 d2 d3 ea cb ch be z4.2)) ⟨hx, hb, hml, hown, hts⟩ (c_Rv_cutBehind l D cI cJ cZ rh sh mh m0 m1 m2 m3 dh d0 d1 d2 d3 ea cb ch be N p0 z3.1 ((z3.2, z2.2.1.2), z2.2.2) z4 hz4) (x_cwV 2 hts rfl k_194 k_195 k_196 k_23 k_197 (by decide +kernel) ⟨(Nat.le_of_ble_eq_true rfl), (Nat.le_of_ble_eq_true rfl)⟩) hK hP hD hS hA hZ [0, 1, 2, 3, 4, 5, 6, 7, 8, 9, 10, 11, 12, 13, 14, 15] [] [0, 1, 2, 3, 4, 5, 6, 7, 8, 9, 10, 11, 12, 13, 14, 15] (by decide) rfl rfl (by decide) (by decide) (by decide) rfl (ci := 2) rfl rfl rfl hl.1 rfl (Nat.le_of_ble_eq_true rfl) d_Rv_sweepRecord_34 ⟨(Nat.le_of_ble_eq_true rfl), (Nat.le_of_ble_eq_true rfl)⟩ (fun H locs hP hD hS => ?_)
      refine W.eq (g2 := F0 m 37 ls [.int z4.1]) rfl ?_
      refine lv_istore_n (lv' := [(3, .int z4.1), (2, .int z3.1), (0, .ref rh), (1, .int p0)]) hx hb d_Rv_sweepRecord_37 rfl hl (by decide) rfl (fun ls hl => ?_)
      refine lv_iload_n hx hb d_Rv_sweepRecord_38 rfl (lv_at hl 0 rfl) ?_
      refine lv_bipush (v := (-9 : Int32)) hx hb d_Rv_sweepRecord_39 (by decide) ?_
      refine lv_icmp_eq (tgt := 81) hx hb d_Rv_sweepRecord_41 (by decide) (fun c11 => ?_) (fun c11 => ?_)
      · have hf := x_ifp c11 hf
        refine lv_iload_n hx hb d_Rv_sweepRecord_81 rfl (lv_at hl 0 rfl) ?_
        obtain rfl := Option.some.inj hf
        exact x_iret hx hb hr hlocks hK hP hD hS (Nat.le_of_ble_eq_true rfl) (Nat.le_of_ble_eq_true rfl) d_Rv_sweepRecord_82
      · have hf := x_ifn c11 hf
        refine lv_iload_n hx hb d_Rv_sweepRecord_44 rfl (lv_at hl 1 rfl) ?_
        refine lv_iload_n hx hb d_Rv_sweepRecord_45 rfl (lv_at hl 3 rfl) ?_
        refine lv_icmp_ne (tgt := 81) hx hb d_Rv_sweepRecord_46 (by decide) (fun c10 => ?_) (fun c10 => ?_)
        · have hf := x_ifn c10 hf
          refine lv_iload_n hx hb d_Rv_sweepRecord_81 rfl (lv_at hl 0 rfl) ?_
          obtain rfl := Option.some.inj hf
          exact x_iret hx hb hr hlocks hK hP hD hS (Nat.le_of_ble_eq_true rfl) (Nat.le_of_ble_eq_true rfl) d_Rv_sweepRecord_82
        · have hf := x_ifp c10 hf
          refine lv_aload_n hx hb d_Rv_sweepRecord_49 rfl (lv_at hl 2 rfl) ?_
          refine va_get (D := D) (ci := 2) (v := .ref mh) (C := R_Rv) (T := F_Rv) (N := 5) hx hb hts i_Rv hown hK hP 0 rfl rfl 1 (by decide) (hts _ k_92) (fun _ h9 => h9) rfl d_Rv_sweepRecord_50 ?_
          refine va_get (D := D) (ci := 0) (v := .ref m1) (C := R_Co) (T := F_Co) (N := 4) hx hb hts i_Co hown hK hP 2 rfl rfl 1 (by decide) (hts _ k_126) (fun _ h9 => h9) rfl d_Rv_sweepRecord_53 ?_
          refine lv_iload_n hx hb d_Rv_sweepRecord_56 rfl (lv_at hl 3 rfl) ?_
          obtain ⟨g5, hf⟩ := x_if hf
          refine va_iald hx hb hK hP 4 0 rfl rfl (xi_in g5) d_Rv_sweepRecord_57 ?_
          refine lv_iconst (v := (-1 : Int32)) hx hb d_Rv_sweepRecord_58 (by decide) ?_
          refine lv_icmp_ne (tgt := 81) hx hb d_Rv_sweepRecord_59 (by decide) (fun c9 => ?_) (fun c9 => ?_)
          · have hf := x_ifn c9 hf
            refine lv_iload_n hx hb d_Rv_sweepRecord_81 rfl (lv_at hl 0 rfl) ?_
            obtain rfl := Option.some.inj hf
            exact x_iret hx hb hr hlocks hK hP hD hS (Nat.le_of_ble_eq_true rfl) (Nat.le_of_ble_eq_true rfl) d_Rv_sweepRecord_82
          · have hf := x_ifp c9 hf
            refine lv_aload_n hx hb d_Rv_sweepRecord_62 rfl (lv_at hl 2 rfl) ?_
            refine va_get (D := D) (ci := 2) (v := .ref mh) (C := R_Rv) (T := F_Rv) (N := 5) hx hb hts i_Rv hown hK hP 0 rfl rfl 1 (by decide) (hts _ k_92) (fun _ h9 => h9) rfl d_Rv_sweepRecord_63 ?_
            refine lv_iload_n hx hb d_Rv_sweepRecord_66 rfl (lv_at hl 3 rfl) ?_
            obtain ⟨z6, hz6, hf⟩ := x_bind hf
            refine x_callV (w2 := (w_Rv cI cJ cZ rh sh mh m0 m1 m2 m3 dh d0 d1 d2 d3 ea cb ch be ((z6.2, z4.2.1.2), z4.2.2))) ⟨hx, hb, hml, hown, hts⟩ (c_Co_empty l D cI cJ cZ mh m0 m1 m2 m3 N p0 z4.2.1.1 z6 hz6) (x_cwV 1 hts rfl k_146 k_147 k_148 k_11 k_149 (by decide +kernel) ⟨(Nat.le_of_ble_eq_true rfl), (Nat.le_of_ble_eq_true rfl)⟩) hK hP hD hS hA hZ [2, 3, 4, 5, 6] [0, 1, 7, 8, 9, 10, 11, 12, 13, 14, 15] [0, 1, 11, 12, 13, 14, 15, 2, 3, 4, 5, 6, 7, 8, 9, 10] (by decide) rfl rfl (by decide) (by decide) (by decide) rfl (ci := 0) rfl rfl rfl hl.1 rfl (Nat.le_of_ble_eq_true rfl) d_Rv_sweepRecord_67 ⟨(Nat.le_of_ble_eq_true rfl), (Nat.le_of_ble_eq_true rfl)⟩ (fun H locs hP hD hS => ?_)
            refine W.eq (g2 := F0 m 70 ls []) rfl ?_
            refine lv_aload_n hx hb d_Rv_sweepRecord_70 rfl (lv_at hl 2 rfl) ?_
            refine va_get (D := D) (ci := 2) (v := .ref sh) (C := R_Rv) (T := F_Rv) (N := 5) hx hb hts i_Rv hown hK hP 0 rfl rfl 0 (by decide) (hts _ k_90) (fun _ h9 => h9) rfl d_Rv_sweepRecord_71 ?_
            refine lv_iload_n hx hb d_Rv_sweepRecord_74 rfl (lv_at hl 3 rfl) ?_
            obtain ⟨z7, hz7, hf⟩ := x_bind hf
            refine x_callS (w2 := (w_Rv cI cJ cZ rh sh mh m0 m1 m2 m3 dh d0 d1 d2 d3 ea cb ch be ((z6.2, z4.2.1.2), z4.2.2))) ⟨hx, hb, hml, hown, hts⟩ (c_Rv_pageOf l D cI cJ cZ  N p0  z7 hz7) (x_cwS 1 hts rfl k_143 k_144 k_23 k_145 (by decide +kernel) ⟨(Nat.le_of_ble_eq_true rfl), (Nat.le_of_ble_eq_true rfl)⟩) hK hP hD hS hA hZ [] [0, 1, 2, 3, 4, 5, 6, 7, 8, 9, 10, 11, 12, 13, 14, 15] [0, 1, 2, 3, 4, 5, 6, 7, 8, 9, 10, 11, 12, 13, 14, 15] (by decide) rfl rfl (by decide) (by decide) (by decide) rfl rfl hl.1 rfl (Nat.le_of_ble_eq_true rfl) d_Rv_sweepRecord_75 ⟨(Nat.le_of_ble_eq_true rfl), (Nat.le_of_ble_eq_true rfl)⟩ (fun H locs hP hD hS => ?_)
            refine W.eq (g2 := F0 m 78 ls [.int z7, .ref sh]) rfl ?_
            obtain ⟨z8, hz8, hf⟩ := x_bind hf
            refine x_callV (w2 := (w_Rv cI cJ cZ rh sh mh m0 m1 m2 m3 dh d0 d1 d2 d3 ea cb ch be (z8.2, z4.2.2))) ⟨hx, hb, hml, hown, hts⟩ (c_St_changed l D cI cJ cZ sh mh m0 m1 m2 m3 dh d0 d1 d2 d3 ea N z7 (z6.2, z4.2.1.2) z8 hz8) (x_cwV 1 hts rfl k_101 k_64 k_65 k_55 k_66 (by decide +kernel) ⟨(Nat.le_of_ble_eq_true rfl), (Nat.le_of_ble_eq_true rfl)⟩) hK hP hD hS hA hZ [1, 2, 3, 4, 5, 6, 7, 8, 9, 10, 11, 12] [0, 13, 14, 15] [0, 4, 5, 6, 7, 8, 9, 10, 11, 12, 13, 14, 15, 1, 2, 3] (by decide) rfl rfl (by decide) (by decide) (by decide) rfl (ci := 1) rfl rfl rfl hl.1 rfl (Nat.le_of_ble_eq_true rfl) d_Rv_sweepRecord_78 ⟨(Nat.le_of_ble_eq_true rfl), (Nat.le_of_ble_eq_true rfl)⟩ (fun H locs hP hD hS => ?_)
            refine W.eq (g2 := F0 m 81 ls []) rfl ?_
            refine lv_iload_n hx hb d_Rv_sweepRecord_81 rfl (lv_at hl 0 rfl) ?_
            obtain rfl := Option.some.inj hf
            exact x_iret hx hb hr hlocks hK hP hD hS (Nat.le_of_ble_eq_true rfl) (Nat.le_of_ble_eq_true rfl) d_Rv_sweepRecord_82
    · have hf := x_ifp c12 hf
      refine lv_iconst (v := (0 : Int32)) hx hb d_Rv_sweepRecord_29 (by decide) ?_
      obtain rfl := Option.some.inj hf
      exact x_iret hx hb hr hlocks hK hP hD hS (Nat.le_of_ble_eq_true rfl) (Nat.le_of_ble_eq_true rfl) d_Rv_sweepRecord_30
  · have hf := x_ifp c13 hf
    refine lv_bipush (v := (-9 : Int32)) hx hb d_Rv_sweepRecord_8 (by decide) ?_
    obtain rfl := Option.some.inj hf
    exact x_iret hx hb hr hlocks hK hP hD hS (Nat.le_of_ble_eq_true rfl) (Nat.le_of_ble_eq_true rfl) d_Rv_sweepRecord_10
