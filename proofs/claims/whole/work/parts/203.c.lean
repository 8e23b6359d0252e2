set_option maxHeartbeats 4000000 in
set_option maxRecDepth 100000 in
theorem c_St_mustPrecede (l : Launch) (D : va_G) (cI cJ cZ : ClassId) (sh mh m0 m1 m2 m3 dh d0 d1 d2 d3 ea : Nat) (N : Nat) (p0 : Int32) (p1 : Int32) (U : K_St) (r : (Int32 × K_St)) (hf : f_St_mustPrecede N p0 p1 U = some r) : Cx l y_St_mustPrecede ws_St_mustPrecede rm_St_mustPrecede D vwCl (tyL cI cJ cZ) [.ref sh, .int p0, .int p1] (w_St cI cJ cZ sh mh m0 m1 m2 m3 dh d0 d1 d2 d3 ea U) (oI r.1) (w_St cI cJ cZ sh mh m0 m1 m2 m3 dh d0 d1 d2 d3 ea r.2) := by
  unfold f_St_mustPrecede at hf
  refine Cx.ofW (cc := b_St_mustPrecede) (maxL := 6) (ret := (some .boolean)) (by decide) rfl ?_
  intro p e s m below meth c A C0 hP hK hD hA hns hZ
  obtain ⟨hx, hb, hml, hown, hts0, hr, hlocks, hnm, hno⟩ := C0
  have hown : s.vm.findClass R_St = some m.cls := hown
  have hts : ∀ w ∈ tb, w.before [.ref sh, .int p0, .int p1].toArray s = true := fun w h => hts0 w (List.mem_cons_of_mem _ h)
  have hS : va_S A s.heap s.heap [] := va_S.rf
  have hl := lv_entry ([.ref sh, .int p0, .int p1]) (n := 6) (Nat.le_of_ble_eq_true rfl)
  rw [lg_entry_eq]
  generalize (lg_sl ([.ref sh, .int p0, .int p1]) ++ List.replicate (6 - (lg_sl ([.ref sh, .int p0, .int p1])).length) Slot.unset).toArray = ls at hl ⊢
  have hl : lv_has ls 6 [(0, .ref sh), (1, .int p0), (2, .int p1)] := hl
  have L_20 : ∀ (k10 : Int32 → Int32 → Int32 → K_St → Option (Int32 × K_St)), (∀ (x1 : Int32) (x3 : Int32) (x4 : Int32) (U : K_St), k10 x1 x3 x4 U = some r → ∀ (H : Heap) (locs : List Loc) (ls : Array Slot), va_P D vwCl (w_St cI cJ cZ sh mh m0 m1 m2 m3 dh d0 d1 d2 d3 ea U) H → va_D A (w_St cI cJ cZ sh mh m0 m1 m2 m3 dh d0 d1 d2 d3 ea U) → va_S A s.heap H locs → lv_has ls 6 [(0, .ref sh), (1, .int x1), (3, .int x3), (4, .int x4)] → W p l e (rm_St_mustPrecede) s m [.ref sh, .int p0, .int p1].toArray below meth c H locs 0 0 (xQ D vwCl (tyL cI cJ cZ) below s A (oI r.1) (w_St cI cJ cZ sh mh m0 m1 m2 m3 dh d0 d1 d2 d3 ea r.2) (rm_St_mustPrecede).cells (rm_St_mustPrecede).slots) (F0 m 10 ls [])) → ∀ n : Nat, ∀ (x1 : Int32) (x3 : Int32) (x4 : Int32) (x5 : Int32) (U : K_St), f_St_mustPrecede_20 N k10 n x1 x3 x4 x5 U = some r → ∀ (H : Heap) (locs : List Loc) (ls : Array Slot), va_P D vwCl (w_St cI cJ cZ sh mh m0 m1 m2 m3 dh d0 d1 d2 d3 ea U) H → va_D A (w_St cI cJ cZ sh mh m0 m1 m2 m3 dh d0 d1 d2 d3 ea U) → va_S A s.heap H locs → lv_has ls 6 [(0, .ref sh), (1, .int x1), (3, .int x3), (4, .int x4), (5, .int x5)] → W p l e (rm_St_mustPrecede) s m [.ref sh, .int p0, .int p1].toArray below meth c H locs 0 0 (xQ D vwCl (tyL cI cJ cZ) below s A (oI r.1) (w_St cI cJ cZ sh mh m0 m1 m2 m3 dh d0 d1 d2 d3 ea r.2) (rm_St_mustPrecede).cells (rm_St_mustPrecede).slots) (F0 m 20 ls []) := by
    intro k10 hk10 n
    induction n with
    | zero =>
      intro x1 x3 x4 x5 U hf
      have hf : (none : Option (Int32 × K_St)) = some r := hf
      cases hf
    | succ n ih =>
      intro x1 x3 x4 x5 U hf H locs ls hP hD hS hl
      rw [f_St_mustPrecede_20] at hf
      refine lv_iload hx hb d_St_mustPrecede_20 (lv_at hl 4 rfl) ?_
      refine lv_bipush (v := (7 : Int32)) hx hb d_St_mustPrecede_22 (by decide) ?_
      refine lv_icmp_ge (tgt := 53) hx hb d_St_mustPrecede_24 (by decide) (fun c7 => ?_) (fun c7 => ?_)
      · have hf := x_ifp c7 hf
        refine lv_iinc (v := (x4 + (1 : Int32))) (lv' := [(4, .int (x4 + (1 : Int32))), (0, .ref sh), (1, .int x1), (3, .int x3), (5, .int x5)]) hx hb d_St_mustPrecede_53 hl (k := 3) rfl rfl (by decide) rfl (fun ls hl => ?_)
        refine lv_goto (tgt := 10) hx hb d_St_mustPrecede_56 (by decide) ?_
        exact hk10 _ _ _ _ hf _ _ _ hP hD hS (lv_sub hl [1, 2, 3, 0] rfl)
      · have hf := x_ifn c7 hf
        refine lv_iload_n hx hb d_St_mustPrecede_27 rfl (lv_at hl 2 rfl) ?_
        refine lv_i2l (v := (x3).toInt64) hx hb d_St_mustPrecede_28 rfl ?_
        refine lv_iload hx hb d_St_mustPrecede_29 (lv_at hl 4 rfl) ?_
        obtain ⟨z4, hz4, hf⟩ := x_bind hf
        refine x_callSN (w2 := (w_St cI cJ cZ sh mh m0 m1 m2 m3 dh d0 d1 d2 d3 ea U)) ⟨hx, hb, hml, hown, hts⟩ (c_Rv_has l D cI cJ cZ  N (x3).toInt64 x5  z4 hz4) (x_cwSN 2 hts rfl k_79 k_22 k_23 k_24 (by decide +kernel) ⟨(Nat.le_of_ble_eq_true rfl), (Nat.le_of_ble_eq_true rfl)⟩) hK hP hD hS hA hZ [] [0, 1, 2, 3, 4, 5, 6, 7, 8, 9, 10, 11] [0, 1, 2, 3, 4, 5, 6, 7, 8, 9, 10, 11] (by decide) rfl rfl (by decide) (by decide) (by decide) rfl rfl hl.1 rfl (Nat.le_of_ble_eq_true rfl) d_St_mustPrecede_31 ⟨(Nat.le_of_ble_eq_true rfl), (Nat.le_of_ble_eq_true rfl)⟩ (fun H locs hP hD hS => ?_)
        refine W.eq (g2 := F0 m 34 ls [.int z4]) rfl ?_
        refine lv_if_eq (tgt := 47) hx hb d_St_mustPrecede_34 (by decide) (fun c6 => ?_) (fun c6 => ?_)
        · have hf := x_ifp c6 hf
          refine lv_iinc (v := (x5 + (1 : Int32))) (lv' := [(5, .int (x5 + (1 : Int32))), (0, .ref sh), (1, .int x1), (3, .int x3), (4, .int x4)]) hx hb d_St_mustPrecede_47 hl (k := 4) rfl rfl (by decide) rfl (fun ls hl => ?_)
          refine lv_goto (tgt := 20) hx hb d_St_mustPrecede_50 (by decide) ?_
          exact ih _ _ _ _ _ hf _ _ _ hP hD hS (lv_sub hl [1, 2, 3, 4, 0] rfl)
        · have hf := x_ifn c6 hf
          refine lv_iload_n hx hb d_St_mustPrecede_37 rfl (lv_at hl 2 rfl) ?_
          refine lv_aload_n hx hb d_St_mustPrecede_38 rfl (lv_at hl 0 rfl) ?_
          refine va_get (D := D) (ci := 1) (v := .ref ea) (C := R_St) (T := F_St) (N := 7) hx hb hts i_St hown hK hP 0 rfl rfl 2 (by decide) (hts _ k_48) (fun _ h9 => h9) rfl d_St_mustPrecede_39 ?_
          refine lv_iload hx hb d_St_mustPrecede_42 (lv_at hl 4 rfl) ?_
          obtain ⟨g5, hf⟩ := x_if hf
          refine va_iald hx hb hK hP 11 0 rfl rfl (xi_in g5) d_St_mustPrecede_44 ?_
          refine lv_ior hx hb d_St_mustPrecede_45 ?_
          refine lv_istore_n (lv' := [(3, .int (x3 ||| (U.2.2.1 x5.toNatClampNeg))), (0, .ref sh), (1, .int x1), (4, .int x4), (5, .int x5)]) hx hb d_St_mustPrecede_46 rfl hl (by decide) rfl (fun ls hl => ?_)
          refine lv_iinc (v := (x5 + (1 : Int32))) (lv' := [(5, .int (x5 + (1 : Int32))), (3, .int (x3 ||| (U.2.2.1 x5.toNatClampNeg))), (0, .ref sh), (1, .int x1), (4, .int x4)]) hx hb d_St_mustPrecede_47 hl (k := 4) rfl rfl (by decide) rfl (fun ls hl => ?_)
          refine lv_goto (tgt := 20) hx hb d_St_mustPrecede_50 (by decide) ?_
          exact ih _ _ _ _ _ hf _ _ _ hP hD hS (lv_sub hl [2, 3, 1, 4, 0] rfl)
  have L_10 : ∀ n : Nat, ∀ (x1 : Int32) (x3 : Int32) (x4 : Int32) (U : K_St), f_St_mustPrecede_10 N n x1 x3 x4 U = some r → ∀ (H : Heap) (locs : List Loc) (ls : Array Slot), va_P D vwCl (w_St cI cJ cZ sh mh m0 m1 m2 m3 dh d0 d1 d2 d3 ea U) H → va_D A (w_St cI cJ cZ sh mh m0 m1 m2 m3 dh d0 d1 d2 d3 ea U) → va_S A s.heap H locs → lv_has ls 6 [(0, .ref sh), (1, .int x1), (3, .int x3), (4, .int x4)] → W p l e (rm_St_mustPrecede) s m [.ref sh, .int p0, .int p1].toArray below meth c H locs 0 0 (xQ D vwCl (tyL cI cJ cZ) below s A (oI r.1) (w_St cI cJ cZ sh mh m0 m1 m2 m3 dh d0 d1 d2 d3 ea r.2) (rm_St_mustPrecede).cells (rm_St_mustPrecede).slots) (F0 m 10 ls []) := by
    intro n
    induction n with
    | zero =>
      intro x1 x3 x4 U hf
      have hf : (none : Option (Int32 × K_St)) = some r := hf
      cases hf
    | succ n ih =>
      intro x1 x3 x4 U hf H locs ls hP hD hS hl
      rw [f_St_mustPrecede_10] at hf
      refine lv_iload hx hb d_St_mustPrecede_10 (lv_at hl 3 rfl) ?_
      refine lv_bipush (v := (7 : Int32)) hx hb d_St_mustPrecede_12 (by decide) ?_
      refine lv_icmp_ge (tgt := 59) hx hb d_St_mustPrecede_14 (by decide) (fun c8 => ?_) (fun c8 => ?_)
      · have hf := x_ifp c8 hf
        refine lv_iload_n hx hb d_St_mustPrecede_59 rfl (lv_at hl 2 rfl) ?_
        refine lv_i2l (v := (x3).toInt64) hx hb d_St_mustPrecede_60 rfl ?_
        refine lv_iload_n hx hb d_St_mustPrecede_61 rfl (lv_at hl 1 rfl) ?_
        obtain ⟨z2, hz2, hf⟩ := x_bind hf
        refine x_callSN (w2 := (w_St cI cJ cZ sh mh m0 m1 m2 m3 dh d0 d1 d2 d3 ea U)) ⟨hx, hb, hml, hown, hts⟩ (c_Rv_has l D cI cJ cZ  N (x3).toInt64 x1  z2 hz2) (x_cwSN 2 hts rfl k_79 k_22 k_23 k_24 (by decide +kernel) ⟨(Nat.le_of_ble_eq_true rfl), (Nat.le_of_ble_eq_true rfl)⟩) hK hP hD hS hA hZ [] [0, 1, 2, 3, 4, 5, 6, 7, 8, 9, 10, 11] [0, 1, 2, 3, 4, 5, 6, 7, 8, 9, 10, 11] (by decide) rfl rfl (by decide) (by decide) (by decide) rfl rfl hl.1 rfl (Nat.le_of_ble_eq_true rfl) d_St_mustPrecede_62 ⟨(Nat.le_of_ble_eq_true rfl), (Nat.le_of_ble_eq_true rfl)⟩ (fun H locs hP hD hS => ?_)
        refine W.eq (g2 := F0 m 65 ls [.int z2]) rfl ?_
        obtain ⟨g3, hf⟩ := x_if hf
        obtain rfl := Option.some.inj hf
        exact x_zret hx hb hr hlocks (x_nb g3) hK hP hD hS (Nat.le_of_ble_eq_true rfl) (Nat.le_of_ble_eq_true rfl) d_St_mustPrecede_65
      · have hf := x_ifn c8 hf
        refine lv_iconst (v := (0 : Int32)) hx hb d_St_mustPrecede_17 (by decide) ?_
        refine lv_istore (lv' := [(5, .int (0 : Int32)), (0, .ref sh), (1, .int x1), (3, .int x3), (4, .int x4)]) hx hb d_St_mustPrecede_18 hl (by decide) rfl (fun ls hl => ?_)
        exact L_20 (f_St_mustPrecede_10 N n) ih _ _ _ _ _ _ hf _ _ _ hP hD hS (lv_sub hl [1, 2, 3, 4, 0] rfl)
  refine lv_aload_n hx hb d_St_mustPrecede_0 rfl (lv_at hl 0 rfl) ?_
  refine va_get (D := D) (ci := 1) (v := .ref ea) (C := R_St) (T := F_St) (N := 7) hx hb hts i_St hown hK hP 0 rfl rfl 2 (by decide) (hts _ k_48) (fun _ h9 => h9) rfl d_St_mustPrecede_1 ?_
  refine lv_iload_n hx hb d_St_mustPrecede_4 rfl (lv_at hl 2 rfl) ?_
  obtain ⟨g1, hf⟩ := x_if hf
  refine va_iald hx hb hK hP 11 0 rfl rfl (xi_in g1) d_St_mustPrecede_5 ?_
  refine lv_istore_n (lv' := [(3, .int (U.2.2.1 p1.toNatClampNeg)), (0, .ref sh), (1, .int p0), (2, .int p1)]) hx hb d_St_mustPrecede_6 rfl hl (by decide) rfl (fun ls hl => ?_)
  refine lv_iconst (v := (0 : Int32)) hx hb d_St_mustPrecede_7 (by decide) ?_
  refine lv_istore (lv' := [(4, .int (0 : Int32)), (3, .int (U.2.2.1 p1.toNatClampNeg)), (0, .ref sh), (1, .int p0), (2, .int p1)]) hx hb d_St_mustPrecede_8 hl (by decide) rfl (fun ls hl => ?_)
  exact L_10 _ _ _ _ _ hf _ _ _ hP hD hS (lv_sub hl [2, 3, 1, 0] rfl)
set_option maxHeartbeats 4000000 in
set_option maxRecDepth 100000 in
theorem c_St_note (l : Launch) (D : va_G) (cI cJ cZ : ClassId) (sh mh m0 m1 m2 m3 dh d0 d1 d2 d3 ea : Nat) (N : Nat) (p0 : Int32) (p1 : Int32) (U : K_St) (r : (Int32 × K_St)) (hf : f_St_note N p0 p1 U = some r) : Cx l y_St_note ws_St_note rm_St_note D vwCl (tyL cI cJ cZ) [.ref sh, .int p0, .int p1] (w_St cI cJ cZ sh mh m0 m1 m2 m3 dh d0 d1 d2 d3 ea U) (oI r.1) (w_St cI cJ cZ sh mh m0 m1 m2 m3 dh d0 d1 d2 d3 ea r.2) := by
  unfold f_St_note at hf
  refine Cx.ofW (cc := b_St_note) (maxL := 3) (ret := (some .boolean)) (by decide) rfl ?_
  intro p e s m below meth c A C0 hP hK hD hA hns hZ
  obtain ⟨hx, hb, hml, hown, hts0, hr, hlocks, hnm, hno⟩ := C0
  have hown : s.vm.findClass R_St = some m.cls := hown
  have hts : ∀ w ∈ tb, w.before [.ref sh, .int p0, .int p1].toArray s = true := fun w h => hts0 w (List.mem_cons_of_mem _ h)
  have hS : va_S A s.heap s.heap [] := va_S.rf
  have hl := lv_entry ([.ref sh, .int p0, .int p1]) (n := 3) (Nat.le_of_ble_eq_true rfl)
  rw [lg_entry_eq]
  generalize (lg_sl ([.ref sh, .int p0, .int p1]) ++ List.replicate (3 - (lg_sl ([.ref sh, .int p0, .int p1])).length) Slot.unset).toArray = ls at hl ⊢
  have hl : lv_has ls 3 [(0, .ref sh), (1, .int p0), (2, .int p1)] := hl
  refine lv_iload_n hx hb d_St_note_0 rfl (lv_at hl 1 rfl) ?_
  refine lv_iload_n hx hb d_St_note_1 rfl (lv_at hl 2 rfl) ?_
  refine lv_icmp_ne (tgt := 7) hx hb d_St_note_2 (by decide) (fun c9 => ?_) (fun c9 => ?_)
  · have hf := x_ifn c9 hf
    refine lv_aload_n hx hb d_St_note_7 rfl (lv_at hl 0 rfl) ?_
    refine lv_iload_n hx hb d_St_note_8 rfl (lv_at hl 2 rfl) ?_
    refine lv_iload_n hx hb d_St_note_9 rfl (lv_at hl 1 rfl) ?_
    obtain ⟨z1, hz1, hf⟩ := x_bind hf
    refine x_callV (w2 := (w_St cI cJ cZ sh mh m0 m1 m2 m3 dh d0 d1 d2 d3 ea z1.2)) ⟨hx, hb, hml, hown, hts⟩ (c_St_mustPrecede l D cI cJ cZ sh mh m0 m1 m2 m3 dh d0 d1 d2 d3 ea N p1 p0 U z1 hz1) (x_cwV 2 hts rfl k_80 k_81 k_82 k_55 k_83 (by decide +kernel) ⟨(Nat.le_of_ble_eq_true rfl), (Nat.le_of_ble_eq_true rfl)⟩) hK hP hD hS hA hZ [0, 1, 2, 3, 4, 5, 6, 7, 8, 9, 10, 11] [] [0, 1, 2, 3, 4, 5, 6, 7, 8, 9, 10, 11] (by decide) rfl rfl (by decide) (by decide) (by decide) rfl (ci := 1) rfl rfl rfl hl.1 rfl (Nat.le_of_ble_eq_true rfl) d_St_note_10 ⟨(Nat.le_of_ble_eq_true rfl), (Nat.le_of_ble_eq_true rfl)⟩ (fun H locs hP hD hS => ?_)
    refine W.eq (g2 := F0 m 13 ls [.int z1.1]) rfl ?_
    refine lv_if_eq (tgt := 27) hx hb d_St_note_13 (by decide) (fun c8 => ?_) (fun c8 => ?_)
    · have hf := x_ifp c8 hf
      refine lv_aload_n hx hb d_St_note_27 rfl (lv_at hl 0 rfl) ?_
      refine va_get (D := D) (ci := 1) (v := .ref ea) (C := R_St) (T := F_St) (N := 7) hx hb hts i_St hown hK hP 0 rfl rfl 2 (by decide) (hts _ k_48) (fun _ h9 => h9) rfl d_St_note_28 ?_
      refine lv_iload_n hx hb d_St_note_31 rfl (lv_at hl 2 rfl) ?_
      refine lv_dup2_11 hx hb d_St_note_32 rfl rfl ?_
      obtain ⟨g2, hf⟩ := x_if hf
      refine va_iald hx hb hK hP 11 0 rfl rfl (xi_in g2) d_St_note_33 ?_
      refine lv_iconst (v := (1 : Int32)) hx hb d_St_note_34 (by decide) ?_
      refine lv_iload_n hx hb d_St_note_35 rfl (lv_at hl 1 rfl) ?_
      refine lv_ishl hx hb d_St_note_36 ?_
      refine lv_ior hx hb d_St_note_37 ?_
      obtain ⟨g3, hf⟩ := x_if hf
      refine va_iast hx hb hK hP hD hS 11 0 rfl rfl (xi_in g3) d_St_note_38 (fun H locs hP hD hS => ?_)
      have hP : va_P D vwCl (w_St cI cJ cZ sh mh m0 m1 m2 m3 dh d0 d1 d2 d3 ea (z1.2.1, (z1.2.2.1, ((upd z1.2.2.2.1 p1.toNatClampNeg ((z1.2.2.2.1 p1.toNatClampNeg) ||| ((1 : Int32) <<< (p0 &&& 31)))), z1.2.2.2.2)))) H := hP
      have hD : va_D A (w_St cI cJ cZ sh mh m0 m1 m2 m3 dh d0 d1 d2 d3 ea (z1.2.1, (z1.2.2.1, ((upd z1.2.2.2.1 p1.toNatClampNeg ((z1.2.2.2.1 p1.toNatClampNeg) ||| ((1 : Int32) <<< (p0 &&& 31)))), z1.2.2.2.2)))) := hD
      refine lv_iconst (v := (1 : Int32)) hx hb d_St_note_39 (by decide) ?_
      obtain rfl := Option.some.inj hf
      exact x_zret hx hb hr hlocks (x_nb (Or.inr rfl)) hK hP hD hS (Nat.le_of_ble_eq_true rfl) (Nat.le_of_ble_eq_true rfl) d_St_note_40
    · have hf := x_ifn c8 hf
      refine lv_aload_n hx hb d_St_note_16 rfl (lv_at hl 0 rfl) ?_
      refine lv_iload_n hx hb d_St_note_17 rfl (lv_at hl 2 rfl) ?_
      refine lv_iconst (v := (0 : Int32)) hx hb d_St_note_18 (by decide) ?_
      obtain ⟨z4, hz4, hf⟩ := x_bind hf
      refine x_callV (w2 := (w_St cI cJ cZ sh mh m0 m1 m2 m3 dh d0 d1 d2 d3 ea z4.2)) ⟨hx, hb, hml, hown, hts⟩ (c_St_put l D cI cJ cZ sh mh m0 m1 m2 m3 dh d0 d1 d2 d3 ea N 9 p1 (0 : Int32) z1.2 z4 hz4) (x_cwV 2 hts rfl k_75 k_76 k_77 k_55 k_78 (by decide +kernel) ⟨(Nat.le_of_ble_eq_true rfl), (Nat.le_of_ble_eq_true rfl)⟩) hK hP hD hS hA hZ [0, 1, 2, 3, 4, 5, 6, 7, 8, 9, 10, 11] [] [0, 1, 2, 3, 4, 5, 6, 7, 8, 9, 10, 11] (by decide) rfl rfl (by decide) (by decide) (by decide) rfl (ci := 1) rfl rfl rfl hl.1 rfl (Nat.le_of_ble_eq_true rfl) d_St_note_19 ⟨(Nat.le_of_ble_eq_true rfl), (Nat.le_of_ble_eq_true rfl)⟩ (fun H locs hP hD hS => ?_)
      refine W.eq (g2 := F0 m 22 ls [.int z4.1]) rfl ?_
      refine lv_if_ne (tgt := 27) hx hb d_St_note_22 (by decide) (fun c7 => ?_) (fun c7 => ?_)
      · have hf := x_ifn c7 hf
        refine lv_aload_n hx hb d_St_note_27 rfl (lv_at hl 0 rfl) ?_
        refine va_get (D := D) (ci := 1) (v := .ref ea) (C := R_St) (T := F_St) (N := 7) hx hb hts i_St hown hK hP 0 rfl rfl 2 (by decide) (hts _ k_48) (fun _ h9 => h9) rfl d_St_note_28 ?_
        refine lv_iload_n hx hb d_St_note_31 rfl (lv_at hl 2 rfl) ?_
        refine lv_dup2_11 hx hb d_St_note_32 rfl rfl ?_
        obtain ⟨g5, hf⟩ := x_if hf
        refine va_iald hx hb hK hP 11 0 rfl rfl (xi_in g5) d_St_note_33 ?_
        refine lv_iconst (v := (1 : Int32)) hx hb d_St_note_34 (by decide) ?_
        refine lv_iload_n hx hb d_St_note_35 rfl (lv_at hl 1 rfl) ?_
        refine lv_ishl hx hb d_St_note_36 ?_
        refine lv_ior hx hb d_St_note_37 ?_
        obtain ⟨g6, hf⟩ := x_if hf
        refine va_iast hx hb hK hP hD hS 11 0 rfl rfl (xi_in g6) d_St_note_38 (fun H locs hP hD hS => ?_)
        have hP : va_P D vwCl (w_St cI cJ cZ sh mh m0 m1 m2 m3 dh d0 d1 d2 d3 ea (z4.2.1, (z4.2.2.1, ((upd z4.2.2.2.1 p1.toNatClampNeg ((z4.2.2.2.1 p1.toNatClampNeg) ||| ((1 : Int32) <<< (p0 &&& 31)))), z4.2.2.2.2)))) H := hP
        have hD : va_D A (w_St cI cJ cZ sh mh m0 m1 m2 m3 dh d0 d1 d2 d3 ea (z4.2.1, (z4.2.2.1, ((upd z4.2.2.2.1 p1.toNatClampNeg ((z4.2.2.2.1 p1.toNatClampNeg) ||| ((1 : Int32) <<< (p0 &&& 31)))), z4.2.2.2.2)))) := hD
        refine lv_iconst (v := (1 : Int32)) hx hb d_St_note_39 (by decide) ?_
        obtain rfl := Option.some.inj hf
        exact x_zret hx hb hr hlocks (x_nb (Or.inr rfl)) hK hP hD hS (Nat.le_of_ble_eq_true rfl) (Nat.le_of_ble_eq_true rfl) d_St_note_40
      · have hf := x_ifp c7 hf
        refine lv_iconst (v := (0 : Int32)) hx hb d_St_note_25 (by decide) ?_
        obtain rfl := Option.some.inj hf
        exact x_zret hx hb hr hlocks (x_nb (Or.inl rfl)) hK hP hD hS (Nat.le_of_ble_eq_true rfl) (Nat.le_of_ble_eq_true rfl) d_St_note_26
  · have hf := x_ifp c9 hf
    refine lv_iconst (v := (1 : Int32)) hx hb d_St_note_5 (by decide) ?_
    obtain rfl := Option.some.inj hf
    exact x_zret hx hb hr hlocks (x_nb (Or.inr rfl)) hK hP hD hS (Nat.le_of_ble_eq_true rfl) (Nat.le_of_ble_eq_true rfl) d_St_note_6
set_option maxHeartbeats 4000000 in
set_option maxRecDepth 100000 in
theorem c_Rv_init (l : Launch) (D : va_G) (cI cJ cZ : ClassId) (rh : Nat) (N : Nat) (r : K_Rv) (hf : f_Rv_init N = some r) : Cxe l y_Rv_init ws_Rv_init rm_Rv_init D vwCl (tyL cI cJ cZ) [.ref rh] [(rh, .inr (2, [.null, .null, .null, .null, .null]))] (fun a : Nat → Nat => (w_Rv cI cJ cZ rh (a 0) (a 1) (a 2) (a 3) (a 4) (a 5) (a 6) (a 7) (a 8) (a 9) (a 10) (a 11) (a 12) (a 13) (a 14) r)) := by
  unfold f_Rv_init at hf
  refine Cxe.ofW (cc := b_Rv_init) (maxL := 1) (ret := none) (by decide) rfl ?_
  intro p e s m below meth c A C0 hP hK hD hA hns hZ
  obtain ⟨hx, hb, hml, hown, hts0, hr, hlocks, hnm, hno⟩ := C0
  have hown : s.vm.findClass R_Rv = some m.cls := hown
  have hts : ∀ w ∈ tb, w.before [.ref rh].toArray s = true := fun w h => hts0 w (List.mem_cons_of_mem _ h)
  have hS : va_S A s.heap s.heap [] := va_S.rf
  have hl := lv_entry ([.ref rh]) (n := 1) (Nat.le_of_ble_eq_true rfl)
  rw [lg_entry_eq]
  generalize (lg_sl ([.ref rh]) ++ List.replicate (1 - (lg_sl ([.ref rh])).length) Slot.unset).toArray = ls at hl ⊢
  have hl : lv_has ls 1 [(0, .ref rh)] := hl
  refine lv_aload_n hx hb d_Rv_init_0 rfl (lv_at hl 0 rfl) ?_
  refine W.objInit hx hb hown (hts _ k_84) (hts _ k_1) (hts _ k_2) rfl (by rw [hml]; exact hl.1) rfl d_Rv_init_1 (Nat.le_of_ble_eq_true rfl) (Nat.le_of_ble_eq_true rfl) ?_
  refine W.eq (g2 := F0 m 4 ls []) rfl ?_
  refine lv_aload_n hx hb d_Rv_init_4 rfl (lv_at hl 0 rfl) ?_
  refine va_new (ci := 1) (fs := [.null, .null, .null, .int 0, .int 0, .int 0, .int 0]) (C := R_St) (T := F_St) (N := 7) hx hb hts i_St t_St t_St_ok hown (hts _ k_85) (hts _ k_86) (hts _ k_55) hK hP hD hS hA rfl (fun j hj => x_fs_St j hj) (Nat.le_of_ble_eq_true rfl) (Nat.le_of_ble_eq_true rfl) d_Rv_init_5 (fun q1 H hP hD hS => ?_)
  have hP : va_P D vwCl [(rh, .inr (2, [.null, .null, .null, .null, .null])), (q1, .inr (1, [.null, .null, .null, .int 0, .int 0, .int 0, .int 0]))] H := hP
  have hD : va_D A [(rh, .inr (2, [.null, .null, .null, .null, .null])), (q1, .inr (1, [.null, .null, .null, .int 0, .int 0, .int 0, .int 0]))] := hD
  refine lv_dup hx hb d_Rv_init_8 rfl ?_
  obtain ⟨z2, hz2, hf⟩ := x_bind hf
  refine x_callE ⟨hx, hb, hml, hown, hts⟩ (c_St_init l D cI cJ cZ q1 N z2 hz2) (x_cwI 0 hts rfl k_87 k_88 k_55 k_89 rfl (by decide +kernel) ⟨(Nat.le_of_ble_eq_true rfl), (Nat.le_of_ble_eq_true rfl)⟩) hK hP hD hS hA hZ [1] [0] (by decide) rfl rfl (by decide) (by decide) rfl hl.1 rfl (Nat.le_of_ble_eq_true rfl) d_Rv_init_9 ⟨(Nat.le_of_ble_eq_true rfl), (Nat.le_of_ble_eq_true rfl)⟩ (fun q3 H locs hP hD hS => ?_)
  refine W.eq (g2 := F0 m 12 ls [.ref q1, .ref rh]) rfl ?_
  have hP : va_P D vwCl [(rh, .inr (2, [.null, .null, .null, .null, .null])), (q1, .inr (1, [.ref (q3 0), .ref (q3 5), .ref (q3 10), .int z2.2.2.2.1, .int z2.2.2.2.2.1, .int z2.2.2.2.2.2.1, .int z2.2.2.2.2.2.2])), ((q3 0), .inr (0, [.ref (q3 1), .ref (q3 2), .ref (q3 3), .ref (q3 4)])), ((q3 1), .inl (cI, 15, .inl z2.1.1)), ((q3 2), .inl (cI, 15, .inl z2.1.2.1)), ((q3 3), .inl (cI, 15, .inl z2.1.2.2.1)), ((q3 4), .inl (cI, 41, .inl z2.1.2.2.2)), ((q3 5), .inr (0, [.ref (q3 6), .ref (q3 7), .ref (q3 8), .ref (q3 9)])), ((q3 6), .inl (cI, 15, .inl z2.2.1.1)), ((q3 7), .inl (cI, 15, .inl z2.2.1.2.1)), ((q3 8), .inl (cI, 15, .inl z2.2.1.2.2.1)), ((q3 9), .inl (cI, 41, .inl z2.2.1.2.2.2)), ((q3 10), .inl (cI, 7, .inl z2.2.2.1))] H := hP
  have hD : va_D A [(rh, .inr (2, [.null, .null, .null, .null, .null])), (q1, .inr (1, [.ref (q3 0), .ref (q3 5), .ref (q3 10), .int z2.2.2.2.1, .int z2.2.2.2.2.1, .int z2.2.2.2.2.2.1, .int z2.2.2.2.2.2.2])), ((q3 0), .inr (0, [.ref (q3 1), .ref (q3 2), .ref (q3 3), .ref (q3 4)])), ((q3 1), .inl (cI, 15, .inl z2.1.1)), ((q3 2), .inl (cI, 15, .inl z2.1.2.1)), ((q3 3), .inl (cI, 15, .inl z2.1.2.2.1)), ((q3 4), .inl (cI, 41, .inl z2.1.2.2.2)), ((q3 5), .inr (0, [.ref (q3 6), .ref (q3 7), .ref (q3 8), .ref (q3 9)])), ((q3 6), .inl (cI, 15, .inl z2.2.1.1)), ((q3 7), .inl (cI, 15, .inl z2.2.1.2.1)), ((q3 8), .inl (cI, 15, .inl z2.2.1.2.2.1)), ((q3 9), .inl (cI, 41, .inl z2.2.1.2.2.2)), ((q3 10), .inl (cI, 7, .inl z2.2.2.1))] := hD
  refine va_putF (D := D) (ci := 2) (v := .ref q1) (ty := .object "RecordVersions$Store") (C := R_Rv) (T := F_Rv) (N := 5) hx hb hts i_Rv t_Rv t_Rv_ok n_Rv hown hK hP hD hS 0 rfl rfl 0 (by decide) (hts _ k_90) (fun _ h9 => h9) rfl hnm rfl (by decide +kernel) rfl rfl (Nat.le_of_ble_eq_true rfl) d_Rv_init_12 (fun H locs hP hD hS => ?_)
  have hP : va_P D vwCl [(rh, .inr (2, [.ref q1, .null, .null, .null, .null])), (q1, .inr (1, [.ref (q3 0), .ref (q3 5), .ref (q3 10), .int z2.2.2.2.1, .int z2.2.2.2.2.1, .int z2.2.2.2.2.2.1, .int z2.2.2.2.2.2.2])), ((q3 0), .inr (0, [.ref (q3 1), .ref (q3 2), .ref (q3 3), .ref (q3 4)])), ((q3 1), .inl (cI, 15, .inl z2.1.1)), ((q3 2), .inl (cI, 15, .inl z2.1.2.1)), ((q3 3), .inl (cI, 15, .inl z2.1.2.2.1)), ((q3 4), .inl (cI, 41, .inl z2.1.2.2.2)), ((q3 5), .inr (0, [.ref (q3 6), .ref (q3 7), .ref (q3 8), .ref (q3 9)])), ((q3 6), .inl (cI, 15, .inl z2.2.1.1)), ((q3 7), .inl (cI, 15, .inl z2.2.1.2.1)), ((q3 8), .inl (cI, 15, .inl z2.2.1.2.2.1)), ((q3 9), .inl (cI, 41, .inl z2.2.1.2.2.2)), ((q3 10), .inl (cI, 7, .inl z2.2.2.1))] H := hP
  have hD : va_D A [(rh, .inr (2, [.ref q1, .null, .null, .null, .null])), (q1, .inr (1, [.ref (q3 0), .ref (q3 5), .ref (q3 10), .int z2.2.2.2.1, .int z2.2.2.2.2.1, .int z2.2.2.2.2.2.1, .int z2.2.2.2.2.2.2])), ((q3 0), .inr (0, [.ref (q3 1), .ref (q3 2), .ref (q3 3), .ref (q3 4)])), ((q3 1), .inl (cI, 15, .inl z2.1.1)), ((q3 2), .inl (cI, 15, .inl z2.1.2.1)), ((q3 3), .inl (cI, 15, .inl z2.1.2.2.1)), ((q3 4), .inl (cI, 41, .inl z2.1.2.2.2)), ((q3 5), .inr (0, [.ref (q3 6), .ref (q3 7), .ref (q3 8), .ref (q3 9)])), ((q3 6), .inl (cI, 15, .inl z2.2.1.1)), ((q3 7), .inl (cI, 15, .inl z2.2.1.2.1)), ((q3 8), .inl (cI, 15, .inl z2.2.1.2.2.1)), ((q3 9), .inl (cI, 41, .inl z2.2.1.2.2.2)), ((q3 10), .inl (cI, 7, .inl z2.2.2.1))] := hD
  refine lv_aload_n hx hb d_Rv_init_15 rfl (lv_at hl 0 rfl) ?_
  refine lv_aload_n hx hb d_Rv_init_16 rfl (lv_at hl 0 rfl) ?_
  refine va_get (D := D) (ci := 2) (v := .ref q1) (C := R_Rv) (T := F_Rv) (N := 5) hx hb hts i_Rv hown hK hP 0 rfl rfl 0 (by decide) (hts _ k_90) (fun _ h9 => h9) rfl d_Rv_init_17 ?_
  refine va_get (D := D) (ci := 1) (v := .ref (q3 0)) (C := R_St) (T := F_St) (N := 7) hx hb hts i_St hown hK hP 1 rfl rfl 0 (by decide) (hts _ k_91) (fun _ h9 => h9) rfl d_Rv_init_20 ?_
  refine va_putF (D := D) (ci := 2) (v := .ref (q3 0)) (ty := .object "RecordVersions$Content") (C := R_Rv) (T := F_Rv) (N := 5) hx hb hts i_Rv t_Rv t_Rv_ok n_Rv hown hK hP hD hS 0 rfl rfl 1 (by decide) (hts _ k_92) (fun _ h9 => h9) rfl hnm rfl (by decide +kernel) rfl rfl (Nat.le_of_ble_eq_true rfl) d_Rv_init_23 (fun H locs hP hD hS => ?_)
  have hP : va_P D vwCl [(rh, .inr (2, [.ref q1, .ref (q3 0), .null, .null, .null])), (q1, .inr (1, [.ref (q3 0), .ref (q3 5), .ref (q3 10), .int z2.2.2.2.1, .int z2.2.2.2.2.1, .int z2.2.2.2.2.2.1, .int z2.2.2.2.2.2.2])), ((q3 0), .inr (0, [.ref (q3 1), .ref (q3 2), .ref (q3 3), .ref (q3 4)])), ((q3 1), .inl (cI, 15, .inl z2.1.1)), ((q3 2), .inl (cI, 15, .inl z2.1.2.1)), ((q3 3), .inl (cI, 15, .inl z2.1.2.2.1)), ((q3 4), .inl (cI, 41, .inl z2.1.2.2.2)), ((q3 5), .inr (0, [.ref (q3 6), .ref (q3 7), .ref (q3 8), .ref (q3 9)])), ((q3 6), .inl (cI, 15, .inl z2.2.1.1)), ((q3 7), .inl (cI, 15, .inl z2.2.1.2.1)), ((q3 8), .inl (cI, 15, .inl z2.2.1.2.2.1)), ((q3 9), .inl (cI, 41, .inl z2.2.1.2.2.2)), ((q3 10), .inl (cI, 7, .inl z2.2.2.1))] H := hP
  have hD : va_D A [(rh, .inr (2, [.ref q1, .ref (q3 0), .null, .null, .null])), (q1, .inr (1, [.ref (q3 0), .ref (q3 5), .ref (q3 10), .int z2.2.2.2.1, .int z2.2.2.2.2.1, .int z2.2.2.2.2.2.1, .int z2.2.2.2.2.2.2])), ((q3 0), .inr (0, [.ref (q3 1), .ref (q3 2), .ref (q3 3), .ref (q3 4)])), ((q3 1), .inl (cI, 15, .inl z2.1.1)), ((q3 2), .inl (cI, 15, .inl z2.1.2.1)), ((q3 3), .inl (cI, 15, .inl z2.1.2.2.1)), ((q3 4), .inl (cI, 41, .inl z2.1.2.2.2)), ((q3 5), .inr (0, [.ref (q3 6), .ref (q3 7), .ref (q3 8), .ref (q3 9)])), ((q3 6), .inl (cI, 15, .inl z2.2.1.1)), ((q3 7), .inl (cI, 15, .inl z2.2.1.2.1)), ((q3 8), .inl (cI, 15, .inl z2.2.1.2.2.1)), ((q3 9), .inl (cI, 41, .inl z2.2.1.2.2.2)), ((q3 10), .inl (cI, 7, .inl z2.2.2.1))] := hD
  refine lv_aload_n hx hb d_Rv_init_26 rfl (lv_at hl 0 rfl) ?_
  refine lv_bipush (v := (41 : Int32)) hx hb d_Rv_init_27 (by decide) ?_
  refine x_newL (N := 41) hx hb (hts _ k_93) hK hP hD hS hA (by decide) (by decide) (by decide) (Nat.le_of_ble_eq_true rfl) (Nat.le_of_ble_eq_true rfl) d_Rv_init_29 (fun q4 H hP hD hS => ?_)
  have hP : va_P D vwCl [(rh, .inr (2, [.ref q1, .ref (q3 0), .null, .null, .null])), (q1, .inr (1, [.ref (q3 0), .ref (q3 5), .ref (q3 10), .int z2.2.2.2.1, .int z2.2.2.2.2.1, .int z2.2.2.2.2.2.1, .int z2.2.2.2.2.2.2])), ((q3 0), .inr (0, [.ref (q3 1), .ref (q3 2), .ref (q3 3), .ref (q3 4)])), ((q3 1), .inl (cI, 15, .inl z2.1.1)), ((q3 2), .inl (cI, 15, .inl z2.1.2.1)), ((q3 3), .inl (cI, 15, .inl z2.1.2.2.1)), ((q3 4), .inl (cI, 41, .inl z2.1.2.2.2)), ((q3 5), .inr (0, [.ref (q3 6), .ref (q3 7), .ref (q3 8), .ref (q3 9)])), ((q3 6), .inl (cI, 15, .inl z2.2.1.1)), ((q3 7), .inl (cI, 15, .inl z2.2.1.2.1)), ((q3 8), .inl (cI, 15, .inl z2.2.1.2.2.1)), ((q3 9), .inl (cI, 41, .inl z2.2.1.2.2.2)), ((q3 10), .inl (cI, 7, .inl z2.2.2.1)), (q4, .inl (cJ, 41, .inr (.inl (fun _ => 0))))] H := hP
  have hD : va_D A [(rh, .inr (2, [.ref q1, .ref (q3 0), .null, .null, .null])), (q1, .inr (1, [.ref (q3 0), .ref (q3 5), .ref (q3 10), .int z2.2.2.2.1, .int z2.2.2.2.2.1, .int z2.2.2.2.2.2.1, .int z2.2.2.2.2.2.2])), ((q3 0), .inr (0, [.ref (q3 1), .ref (q3 2), .ref (q3 3), .ref (q3 4)])), ((q3 1), .inl (cI, 15, .inl z2.1.1)), ((q3 2), .inl (cI, 15, .inl z2.1.2.1)), ((q3 3), .inl (cI, 15, .inl z2.1.2.2.1)), ((q3 4), .inl (cI, 41, .inl z2.1.2.2.2)), ((q3 5), .inr (0, [.ref (q3 6), .ref (q3 7), .ref (q3 8), .ref (q3 9)])), ((q3 6), .inl (cI, 15, .inl z2.2.1.1)), ((q3 7), .inl (cI, 15, .inl z2.2.1.2.1)), ((q3 8), .inl (cI, 15, .inl z2.2.1.2.2.1)), ((q3 9), .inl (cI, 41, .inl z2.2.1.2.2.2)), ((q3 10), .inl (cI, 7, .inl z2.2.2.1)), (q4, .inl (cJ, 41, .inr (.inl (fun _ => 0))))] := hD
  refine va_putF (D := D) (ci := 2) (v := .ref q4) (ty := .array .long) (C := R_Rv) (T := F_Rv) (N := 5) hx hb hts i_Rv t_Rv t_Rv_ok n_Rv hown hK hP hD hS 0 rfl rfl 2 (by decide) (hts _ k_94) (fun _ h9 => h9) rfl hnm rfl (by decide +kernel) rfl rfl (Nat.le_of_ble_eq_true rfl) d_Rv_init_31 (fun H locs hP hD hS => ?_)
  have hP : va_P D vwCl [(rh, .inr (2, [.ref q1, .ref (q3 0), .ref q4, .null, .null])), (q1, .inr (1, [.ref (q3 0), .ref (q3 5), .ref (q3 10), .int z2.2.2.2.1, .int z2.2.2.2.2.1, .int z2.2.2.2.2.2.1, .int z2.2.2.2.2.2.2])), ((q3 0), .inr (0, [.ref (q3 1), .ref (q3 2), .ref (q3 3), .ref (q3 4)])), ((q3 1), .inl (cI, 15, .inl z2.1.1)), ((q3 2), .inl (cI, 15, .inl z2.1.2.1)), ((q3 3), .inl (cI, 15, .inl z2.1.2.2.1)), ((q3 4), .inl (cI, 41, .inl z2.1.2.2.2)), ((q3 5), .inr (0, [.ref (q3 6), .ref (q3 7), .ref (q3 8), .ref (q3 9)])), ((q3 6), .inl (cI, 15, .inl z2.2.1.1)), ((q3 7), .inl (cI, 15, .inl z2.2.1.2.1)), ((q3 8), .inl (cI, 15, .inl z2.2.1.2.2.1)), ((q3 9), .inl (cI, 41, .inl z2.2.1.2.2.2)), ((q3 10), .inl (cI, 7, .inl z2.2.2.1)), (q4, .inl (cJ, 41, .inr (.inl (fun _ => 0))))] H := hP
  have hD : va_D A [(rh, .inr (2, [.ref q1, .ref (q3 0), .ref q4, .null, .null])), (q1, .inr (1, [.ref (q3 0), .ref (q3 5), .ref (q3 10), .int z2.2.2.2.1, .int z2.2.2.2.2.1, .int z2.2.2.2.2.2.1, .int z2.2.2.2.2.2.2])), ((q3 0), .inr (0, [.ref (q3 1), .ref (q3 2), .ref (q3 3), .ref (q3 4)])), ((q3 1), .inl (cI, 15, .inl z2.1.1)), ((q3 2), .inl (cI, 15, .inl z2.1.2.1)), ((q3 3), .inl (cI, 15, .inl z2.1.2.2.1)), ((q3 4), .inl (cI, 41, .inl z2.1.2.2.2)), ((q3 5), .inr (0, [.ref (q3 6), .ref (q3 7), .ref (q3 8), .ref (q3 9)])), ((q3 6), .inl (cI, 15, .inl z2.2.1.1)), ((q3 7), .inl (cI, 15, .inl z2.2.1.2.1)), ((q3 8), .inl (cI, 15, .inl z2.2.1.2.2.1)), ((q3 9), .inl (cI, 41, .inl z2.2.1.2.2.2)), ((q3 10), .inl (cI, 7, .inl z2.2.2.1)), (q4, .inl (cJ, 41, .inr (.inl (fun _ => 0))))] := hD
  refine lv_aload_n hx hb d_Rv_init_34 rfl (lv_at hl 0 rfl) ?_
  refine lv_bipush (v := (41 : Int32)) hx hb d_Rv_init_35 (by decide) ?_
  refine x_newI (N := 41) hx hb (hts _ k_3) hK hP hD hS hA (by decide) (by decide) (by decide) (Nat.le_of_ble_eq_true rfl) (Nat.le_of_ble_eq_true rfl) d_Rv_init_37 (fun q5 H hP hD hS => ?_)
  have hP : va_P D vwCl [(rh, .inr (2, [.ref q1, .ref (q3 0), .ref q4, .null, .null])), (q1, .inr (1, [.ref (q3 0), .ref (q3 5), .ref (q3 10), .int z2.2.2.2.1, .int z2.2.2.2.2.1, .int z2.2.2.2.2.2.1, .int z2.2.2.2.2.2.2])), ((q3 0), .inr (0, [.ref (q3 1), .ref (q3 2), .ref (q3 3), .ref (q3 4)])), ((q3 1), .inl (cI, 15, .inl z2.1.1)), ((q3 2), .inl (cI, 15, .inl z2.1.2.1)), ((q3 3), .inl (cI, 15, .inl z2.1.2.2.1)), ((q3 4), .inl (cI, 41, .inl z2.1.2.2.2)), ((q3 5), .inr (0, [.ref (q3 6), .ref (q3 7), .ref (q3 8), .ref (q3 9)])), ((q3 6), .inl (cI, 15, .inl z2.2.1.1)), ((q3 7), .inl (cI, 15, .inl z2.2.1.2.1)), ((q3 8), .inl (cI, 15, .inl z2.2.1.2.2.1)), ((q3 9), .inl (cI, 41, .inl z2.2.1.2.2.2)), ((q3 10), .inl (cI, 7, .inl z2.2.2.1)), (q4, .inl (cJ, 41, .inr (.inl (fun _ => 0)))), (q5, .inl (cI, 41, .inl (fun _ => 0)))] H := hP
  have hD : va_D A [(rh, .inr (2, [.ref q1, .ref (q3 0), .ref q4, .null, .null])), (q1, .inr (1, [.ref (q3 0), .ref (q3 5), .ref (q3 10), .int z2.2.2.2.1, .int z2.2.2.2.2.1, .int z2.2.2.2.2.2.1, .int z2.2.2.2.2.2.2])), ((q3 0), .inr (0, [.ref (q3 1), .ref (q3 2), .ref (q3 3), .ref (q3 4)])), ((q3 1), .inl (cI, 15, .inl z2.1.1)), ((q3 2), .inl (cI, 15, .inl z2.1.2.1)), ((q3 3), .inl (cI, 15, .inl z2.1.2.2.1)), ((q3 4), .inl (cI, 41, .inl z2.1.2.2.2)), ((q3 5), .inr (0, [.ref (q3 6), .ref (q3 7), .ref (q3 8), .ref (q3 9)])), ((q3 6), .inl (cI, 15, .inl z2.2.1.1)), ((q3 7), .inl (cI, 15, .inl z2.2.1.2.1)), ((q3 8), .inl (cI, 15, .inl z2.2.1.2.2.1)), ((q3 9), .inl (cI, 41, .inl z2.2.1.2.2.2)), ((q3 10), .inl (cI, 7, .inl z2.2.2.1)), (q4, .inl (cJ, 41, .inr (.inl (fun _ => 0)))), (q5, .inl (cI, 41, .inl (fun _ => 0)))] := hD
  refine va_putF (D := D) (ci := 2) (v := .ref q5) (ty := .array .int) (C := R_Rv) (T := F_Rv) (N := 5) hx hb hts i_Rv t_Rv t_Rv_ok n_Rv hown hK hP hD hS 0 rfl rfl 3 (by decide) (hts _ k_95) (fun _ h9 => h9) rfl hnm rfl (by decide +kernel) rfl rfl (Nat.le_of_ble_eq_true rfl) d_Rv_init_39 (fun H locs hP hD hS => ?_)
  have hP : va_P D vwCl [(rh, .inr (2, [.ref q1, .ref (q3 0), .ref q4, .ref q5, .null])), (q1, .inr (1, [.ref (q3 0), .ref (q3 5), .ref (q3 10), .int z2.2.2.2.1, .int z2.2.2.2.2.1, .int z2.2.2.2.2.2.1, .int z2.2.2.2.2.2.2])), ((q3 0), .inr (0, [.ref (q3 1), .ref (q3 2), .ref (q3 3), .ref (q3 4)])), ((q3 1), .inl (cI, 15, .inl z2.1.1)), ((q3 2), .inl (cI, 15, .inl z2.1.2.1)), ((q3 3), .inl (cI, 15, .inl z2.1.2.2.1)), ((q3 4), .inl (cI, 41, .inl z2.1.2.2.2)), ((q3 5), .inr (0, [.ref (q3 6), .ref (q3 7), .ref (q3 8), .ref (q3 9)])), ((q3 6), .inl (cI, 15, .inl z2.2.1.1)), ((q3 7), .inl (cI, 15, .inl z2.2.1.2.1)), ((q3 8), .inl (cI, 15, .inl z2.2.1.2.2.1)), ((q3 9), .inl (cI, 41, .inl z2.2.1.2.2.2)), ((q3 10), .inl (cI, 7, .inl z2.2.2.1)), (q4, .inl (cJ, 41, .inr (.inl (fun _ => 0)))), (q5, .inl (cI, 41, .inl (fun _ => 0)))] H := hP
  have hD : va_D A [(rh, .inr (2, [.ref q1, .ref (q3 0), .ref q4, .ref q5, .null])), (q1, .inr (1, [.ref (q3 0), .ref (q3 5), .ref (q3 10), .int z2.2.2.2.1, .int z2.2.2.2.2.1, .int z2.2.2.2.2.2.1, .int z2.2.2.2.2.2.2])), ((q3 0), .inr (0, [.ref (q3 1), .ref (q3 2), .ref (q3 3), .ref (q3 4)])), ((q3 1), .inl (cI, 15, .inl z2.1.1)), ((q3 2), .inl (cI, 15, .inl z2.1.2.1)), ((q3 3), .inl (cI, 15, .inl z2.1.2.2.1)), ((q3 4), .inl (cI, 41, .inl z2.1.2.2.2)), ((q3 5), .inr (0, [.ref (q3 6), .ref (q3 7), .ref (q3 8), .ref (q3 9)])), ((q3 6), .inl (cI, 15, .inl z2.2.1.1)), ((q3 7), .inl (cI, 15, .inl z2.2.1.2.1)), ((q3 8), .inl (cI, 15, .inl z2.2.1.2.2.1)), ((q3 9), .inl (cI, 41, .inl z2.2.1.2.2.2)), ((q3 10), .inl (cI, 7, .inl z2.2.2.1)), (q4, .inl (cJ, 41, .inr (.inl (fun _ => 0)))), (q5, .inl (cI, 41, .inl (fun _ => 0)))] := hD
  refine lv_aload_n hx hb d_Rv_init_42 rfl (lv_at hl 0 rfl) ?_
  refine lv_bipush (v := (9 : Int32)) hx hb d_Rv_init_43 (by decide) ?_
  refine x_newI (N := 9) hx hb (hts _ k_3) hK hP hD hS hA (by decide) (by decide) (by decide) (Nat.le_of_ble_eq_true rfl) (Nat.le_of_ble_eq_true rfl) d_Rv_init_45 (fun q6 H hP hD hS => ?_)
  have hP : va_P D vwCl [(rh, .inr (2, [.ref q1, .ref (q3 0), .ref q4, .ref q5, .null])), (q1, .inr (1, [.ref (q3 0), .ref (q3 5), .ref (q3 10), .int z2.2.2.2.1, .int z2.2.2.2.2.1, .int z2.2.2.2.2.2.1, .int z2.2.2.2.2.2.2])), ((q3 0), .inr (0, [.ref (q3 1), .ref (q3 2), .ref (q3 3), .ref (q3 4)])), ((q3 1), .inl (cI, 15, .inl z2.1.1)), ((q3 2), .inl (cI, 15, .inl z2.1.2.1)), ((q3 3), .inl (cI, 15, .inl z2.1.2.2.1)), ((q3 4), .inl (cI, 41, .inl z2.1.2.2.2)), ((q3 5), .inr (0, [.ref (q3 6), .ref (q3 7), .ref (q3 8), .ref (q3 9)])), ((q3 6), .inl (cI, 15, .inl z2.2.1.1)), ((q3 7), .inl (cI, 15, .inl z2.2.1.2.1)), ((q3 8), .inl (cI, 15, .inl z2.2.1.2.2.1)), ((q3 9), .inl (cI, 41, .inl z2.2.1.2.2.2)), ((q3 10), .inl (cI, 7, .inl z2.2.2.1)), (q4, .inl (cJ, 41, .inr (.inl (fun _ => 0)))), (q5, .inl (cI, 41, .inl (fun _ => 0))), (q6, .inl (cI, 9, .inl (fun _ => 0)))] H := hP
  have hD : va_D A [(rh, .inr (2, [.ref q1, .ref (q3 0), .ref q4, .ref q5, .null])), (q1, .inr (1, [.ref (q3 0), .ref (q3 5), .ref (q3 10), .int z2.2.2.2.1, .int z2.2.2.2.2.1, .int z2.2.2.2.2.2.1, .int z2.2.2.2.2.2.2])), ((q3 0), .inr (0, [.ref (q3 1), .ref (q3 2), .ref (q3 3), .ref (q3 4)])), ((q3 1), .inl (cI, 15, .inl z2.1.1)), ((q3 2), .inl (cI, 15, .inl z2.1.2.1)), ((q3 3), .inl (cI, 15, .inl z2.1.2.2.1)), ((q3 4), .inl (cI, 41, .inl z2.1.2.2.2)), ((q3 5), .inr (0, [.ref (q3 6), .ref (q3 7), .ref (q3 8), .ref (q3 9)])), ((q3 6), .inl (cI, 15, .inl z2.2.1.1)), ((q3 7), .inl (cI, 15, .inl z2.2.1.2.1)), ((q3 8), .inl (cI, 15, .inl z2.2.1.2.2.1)), ((q3 9), .inl (cI, 41, .inl z2.2.1.2.2.2)), ((q3 10), .inl (cI, 7, .inl z2.2.2.1)), (q4, .inl (cJ, 41, .inr (.inl (fun _ => 0)))), (q5, .inl (cI, 41, .inl (fun _ => 0))), (q6, .inl (cI, 9, .inl (fun _ => 0)))] := hD
  refine va_putF (D := D) (ci := 2) (v := .ref q6) (ty := .array .int) (C := R_Rv) (T := F_Rv) (N := 5) hx hb hts i_Rv t_Rv t_Rv_ok n_Rv hown hK hP hD hS 0 rfl rfl 4 (by decide) (hts _ k_96) (fun _ h9 => h9) rfl hnm rfl (by decide +kernel) rfl rfl (Nat.le_of_ble_eq_true rfl) d_Rv_init_47 (fun H locs hP hD hS => ?_)
  have hP : va_P D vwCl [(rh, .inr (2, [.ref q1, .ref (q3 0), .ref q4, .ref q5, .ref q6])), (q1, .inr (1, [.ref (q3 0), .ref (q3 5), .ref (q3 10), .int z2.2.2.2.1, .int z2.2.2.2.2.1, .int z2.2.2.2.2.2.1, .int z2.2.2.2.2.2.2])), ((q3 0), .inr (0, [.ref (q3 1), .ref (q3 2), .ref (q3 3), .ref (q3 4)])), ((q3 1), .inl (cI, 15, .inl z2.1.1)), ((q3 2), .inl (cI, 15, .inl z2.1.2.1)), ((q3 3), .inl (cI, 15, .inl z2.1.2.2.1)), ((q3 4), .inl (cI, 41, .inl z2.1.2.2.2)), ((q3 5), .inr (0, [.ref (q3 6), .ref (q3 7), .ref (q3 8), .ref (q3 9)])), ((q3 6), .inl (cI, 15, .inl z2.2.1.1)), ((q3 7), .inl (cI, 15, .inl z2.2.1.2.1)), ((q3 8), .inl (cI, 15, .inl z2.2.1.2.2.1)), ((q3 9), .inl (cI, 41, .inl z2.2.1.2.2.2)), ((q3 10), .inl (cI, 7, .inl z2.2.2.1)), (q4, .inl (cJ, 41, .inr (.inl (fun _ => 0)))), (q5, .inl (cI, 41, .inl (fun _ => 0))), (q6, .inl (cI, 9, .inl (fun _ => 0)))] H := hP
  have hD : va_D A [(rh, .inr (2, [.ref q1, .ref (q3 0), .ref q4, .ref q5, .ref q6])), (q1, .inr (1, [.ref (q3 0), .ref (q3 5), .ref (q3 10), .int z2.2.2.2.1, .int z2.2.2.2.2.1, .int z2.2.2.2.2.2.1, .int z2.2.2.2.2.2.2])), ((q3 0), .inr (0, [.ref (q3 1), .ref (q3 2), .ref (q3 3), .ref (q3 4)])), ((q3 1), .inl (cI, 15, .inl z2.1.1)), ((q3 2), .inl (cI, 15, .inl z2.1.2.1)), ((q3 3), .inl (cI, 15, .inl z2.1.2.2.1)), ((q3 4), .inl (cI, 41, .inl z2.1.2.2.2)), ((q3 5), .inr (0, [.ref (q3 6), .ref (q3 7), .ref (q3 8), .ref (q3 9)])), ((q3 6), .inl (cI, 15, .inl z2.2.1.1)), ((q3 7), .inl (cI, 15, .inl z2.2.1.2.1)), ((q3 8), .inl (cI, 15, .inl z2.2.1.2.2.1)), ((q3 9), .inl (cI, 41, .inl z2.2.1.2.2.2)), ((q3 10), .inl (cI, 7, .inl z2.2.2.1)), (q4, .inl (cJ, 41, .inr (.inl (fun _ => 0)))), (q5, .inl (cI, 41, .inl (fun _ => 0))), (q6, .inl (cI, 9, .inl (fun _ => 0)))] := hD
  have hP : va_P D vwCl (w_Rv cI cJ cZ rh q1 (q3 0) (q3 1) (q3 2) (q3 3) (q3 4) (q3 5) (q3 6) (q3 7) (q3 8) (q3 9) (q3 10) q4 q5 q6 (z2, ((fun _ => 0), ((fun _ => 0), (fun _ => 0))))) H := hP.sub [0, 1, 2, 3, 4, 5, 6, 7, 8, 9, 10, 11, 12, 13, 14, 15] rfl
  have hD : va_D A (w_Rv cI cJ cZ rh q1 (q3 0) (q3 1) (q3 2) (q3 3) (q3 4) (q3 5) (q3 6) (q3 7) (q3 8) (q3 9) (q3 10) q4 q5 q6 (z2, ((fun _ => 0), ((fun _ => 0), (fun _ => 0))))) := hD.sub [0, 1, 2, 3, 4, 5, 6, 7, 8, 9, 10, 11, 12, 13, 14, 15] (by decide) rfl
  obtain rfl := Option.some.inj hf
  exact x_vretE (fun k => match k with | 0 => q1 | 1 => (q3 0) | 2 => (q3 1) | 3 => (q3 2) | 4 => (q3 3) | 5 => (q3 4) | 6 => (q3 5) | 7 => (q3 6) | 8 => (q3 7) | 9 => (q3 8) | 10 => (q3 9) | 11 => (q3 10) | 12 => q4 | 13 => q5 | _ => q6) hx hb hr hlocks hK hP hD hS (Nat.le_of_ble_eq_true rfl) (Nat.le_of_ble_eq_true rfl) d_Rv_init_50
set_option maxHeartbeats 4000000 in
set_option maxRecDepth 100000 in
theorem c_Rv_begin (l : Launch) (D : va_G) (cI cJ cZ : ClassId) (rh sh mh m0 m1 m2 m3 dh d0 d1 d2 d3 ea cb ch be : Nat) (hL0 : xL l) (N : Nat) (U : K_Rv) (r : ((Int32 ⊕ String) × K_Rv)) (hf : f_Rv_begin N U = some r) : Cx l y_Rv_begin ws_Rv_begin rm_Rv_begin D vwCl (tyL cI cJ cZ) [.ref rh] (w_Rv cI cJ cZ rh sh mh m0 m1 m2 m3 dh d0 d1 d2 d3 ea cb ch be U) (tI r.1) (w_Rv cI cJ cZ rh sh mh m0 m1 m2 m3 dh d0 d1 d2 d3 ea cb ch be r.2) := by
  unfold f_Rv_begin at hf
  refine Cx.ofW (cc := b_Rv_begin) (maxL := 2) (ret := (some .int)) (by decide) rfl ?_
  intro p e s m below meth c A C0 hP hK hD hA hns hZ
  obtain ⟨hx, hb, hml, hown, hts0, hr, hlocks, hnm, hno⟩ := C0
  have hown : s.vm.findClass R_Rv = some m.cls := hown
  have hts : ∀ w ∈ tb, w.before [.ref rh].toArray s = true := fun w h => hts0 w (List.mem_cons_of_mem _ h)
  have hS : va_S A s.heap s.heap [] := va_S.rf
  have hl := lv_entry ([.ref rh]) (n := 2) (Nat.le_of_ble_eq_true rfl)
  rw [lg_entry_eq]
  generalize (lg_sl ([.ref rh]) ++ List.replicate (2 - (lg_sl ([.ref rh])).length) Slot.unset).toArray = ls at hl ⊢
  have hl : lv_has ls 2 [(0, .ref rh)] := hl
  refine lv_aload_n hx hb d_Rv_begin_0 rfl (lv_at hl 0 rfl) ?_
  refine va_get (D := D) (ci := 2) (v := .ref mh) (C := R_Rv) (T := F_Rv) (N := 5) hx hb hts i_Rv hown hK hP 0 rfl rfl 1 (by decide) (hts _ k_92) (fun _ h9 => h9) rfl d_Rv_begin_1 ?_
  obtain ⟨z1, hz1, hf⟩ := x_bind hf
  refine x_callV (w2 := (w_Rv cI cJ cZ rh sh mh m0 m1 m2 m3 dh d0 d1 d2 d3 ea cb ch be ((z1.2, U.1.2), U.2))) ⟨hx, hb, hml, hown, hts⟩ (c_Co_leastUnused l D cI cJ cZ mh m0 m1 m2 m3 N  U.1.1 z1 hz1) (x_cwV 0 hts rfl k_110 k_111 k_112 k_11 k_113 (by decide +kernel) ⟨(Nat.le_of_ble_eq_true rfl), (Nat.le_of_ble_eq_true rfl)⟩) hK hP hD hS hA hZ [2, 3, 4, 5, 6] [0, 1, 7, 8, 9, 10, 11, 12, 13, 14, 15] [0, 1, 11, 12, 13, 14, 15, 2, 3, 4, 5, 6, 7, 8, 9, 10] (by decide) rfl rfl (by decide) (by decide) (by decide) rfl (ci := 0) rfl rfl rfl hl.1 rfl (Nat.le_of_ble_eq_true rfl) d_Rv_begin_4 ⟨(Nat.le_of_ble_eq_true rfl), (Nat.le_of_ble_eq_true rfl)⟩ (fun H locs hP hD hS => ?_)
  refine W.eq (g2 := F0 m 7 ls [.int z1.1]) rfl ?_
  refine lv_istore_n (lv' := [(1, .int z1.1), (0, .ref rh)]) hx hb d_Rv_begin_7 rfl hl (by decide) rfl (fun ls hl => ?_)
  refine lv_aload_n hx hb d_Rv_begin_8 rfl (lv_at hl 1 rfl) ?_
  refine va_get (D := D) (ci := 2) (v := .ref mh) (C := R_Rv) (T := F_Rv) (N := 5) hx hb hts i_Rv hown hK hP 0 rfl rfl 1 (by decide) (hts _ k_92) (fun _ h9 => h9) rfl d_Rv_begin_9 ?_
  obtain ⟨z2, hz2, hf⟩ := x_bind hf
  refine x_callV (w2 := (w_Rv cI cJ cZ rh sh mh m0 m1 m2 m3 dh d0 d1 d2 d3 ea cb ch be ((z2.2, U.1.2), U.2))) ⟨hx, hb, hml, hown, hts⟩ (c_Co_active l D cI cJ cZ mh m0 m1 m2 m3 N  z1.2 z2 hz2) (x_cwV 0 hts rfl k_106 k_107 k_108 k_11 k_109 (by decide +kernel) ⟨(Nat.le_of_ble_eq_true rfl), (Nat.le_of_ble_eq_true rfl)⟩) hK hP hD hS hA hZ [2, 3, 4, 5, 6] [0, 1, 7, 8, 9, 10, 11, 12, 13, 14, 15] [0, 1, 11, 12, 13, 14, 15, 2, 3, 4, 5, 6, 7, 8, 9, 10] (by decide) rfl rfl (by decide) (by decide) (by decide) rfl (ci := 0) rfl rfl rfl hl.1 rfl (Nat.le_of_ble_eq_true rfl) d_Rv_begin_12 ⟨(Nat.le_of_ble_eq_true rfl), (Nat.le_of_ble_eq_true rfl)⟩ (fun H locs hP hD hS => ?_)
  refine W.eq (g2 := F0 m 15 ls [.int z2.1]) rfl ?_
  refine lv_iconst (v := (4 : Int32)) hx hb d_Rv_begin_15 (by decide) ?_
  refine lv_icmp_ge (tgt := 23) hx hb d_Rv_begin_16 (by decide) (fun c11 => ?_) (fun c11 => ?_)
  · have hf := x_ifp c11 hf
    obtain rfl := Option.some.inj hf
    exact x_throw (cls := "java/lang/IllegalStateException") (names := ["java/lang/RuntimeException", "java/lang/Exception"]) hL0 hx hb hml hown hlocks hno (by decide +kernel) (by decide +kernel) (at_Rv_43 hts hZ) (hts _ k_97) (hts _ k_98) hK hP hD hS hns hl.1 (Nat.le_of_ble_eq_true rfl) (Nat.le_of_ble_eq_true rfl) (Nat.le_of_ble_eq_true rfl) (Nat.le_of_ble_eq_true rfl) (Nat.le_of_ble_eq_true rfl) (Nat.le_of_ble_eq_true rfl) d_Rv_begin_23 d_Rv_begin_26 d_Rv_begin_27 d_Rv_begin_30
  · have hf := x_ifn c11 hf
    refine lv_iload_n hx hb d_Rv_begin_19 rfl (lv_at hl 0 rfl) ?_
    refine lv_if_ne (tgt := 31) hx hb d_Rv_begin_20 (by decide) (fun c10 => ?_) (fun c10 => ?_)
    · have hf := x_ifn c10 hf
      refine lv_aload_n hx hb d_Rv_begin_31 rfl (lv_at hl 1 rfl) ?_
      refine va_get (D := D) (ci := 2) (v := .ref cb) (C := R_Rv) (T := F_Rv) (N := 5) hx hb hts i_Rv hown hK hP 0 rfl rfl 2 (by decide) (hts _ k_94) (fun _ h9 => h9) rfl d_Rv_begin_32 ?_
      refine lv_iload_n hx hb d_Rv_begin_35 rfl (lv_at hl 0 rfl) ?_
      refine lv_aload_n hx hb d_Rv_begin_36 rfl (lv_at hl 1 rfl) ?_
      refine va_get (D := D) (ci := 2) (v := .ref mh) (C := R_Rv) (T := F_Rv) (N := 5) hx hb hts i_Rv hown hK hP 0 rfl rfl 1 (by decide) (hts _ k_92) (fun _ h9 => h9) rfl d_Rv_begin_37 ?_
      obtain ⟨z3, hz3, hf⟩ := x_bind hf
      refine x_callV (w2 := (w_Rv cI cJ cZ rh sh mh m0 m1 m2 m3 dh d0 d1 d2 d3 ea cb ch be ((z3.2, U.1.2), U.2))) ⟨hx, hb, hml, hown, hts⟩ (c_Co_committed l D cI cJ cZ mh m0 m1 m2 m3 N  z2.2 z3 hz3) (x_cwV 0 hts rfl k_102 k_103 k_104 k_11 k_105 (by decide +kernel) ⟨(Nat.le_of_ble_eq_true rfl), (Nat.le_of_ble_eq_true rfl)⟩) hK hP hD hS hA hZ [2, 3, 4, 5, 6] [0, 1, 7, 8, 9, 10, 11, 12, 13, 14, 15] [0, 1, 11, 12, 13, 14, 15, 2, 3, 4, 5, 6, 7, 8, 9, 10] (by decide) rfl rfl (by decide) (by decide) (by decide) rfl (ci := 0) rfl rfl rfl hl.1 rfl (Nat.le_of_ble_eq_true rfl) d_Rv_begin_40 ⟨(Nat.le_of_ble_eq_true rfl), (Nat.le_of_ble_eq_true rfl)⟩ (fun H locs hP hD hS => ?_)
      refine W.eq (g2 := F0 m 43 ls [.long z3.1, .int z1.1, .ref cb]) rfl ?_
      obtain ⟨g4, hf⟩ := x_if hf
      refine va_last hx hb hK hP hD hS 13 1 rfl rfl (xi_in g4) d_Rv_begin_43 (fun H locs hP hD hS => ?_)
      have hP : va_P D vwCl (w_Rv cI cJ cZ rh sh mh m0 m1 m2 m3 dh d0 d1 d2 d3 ea cb ch be ((z3.2, U.1.2), ((vp_updL U.2.1 z1.1.toNatClampNeg z3.1), U.2.2))) H := hP
      have hD : va_D A (w_Rv cI cJ cZ rh sh mh m0 m1 m2 m3 dh d0 d1 d2 d3 ea cb ch be ((z3.2, U.1.2), ((vp_updL U.2.1 z1.1.toNatClampNeg z3.1), U.2.2))) := hD
      refine lv_aload_n hx hb d_Rv_begin_44 rfl (lv_at hl 1 rfl) ?_
      refine va_get (D := D) (ci := 2) (v := .ref ch) (C := R_Rv) (T := F_Rv) (N := 5) hx hb hts i_Rv hown hK hP 0 rfl rfl 3 (by decide) (hts _ k_95) (fun _ h9 => h9) rfl d_Rv_begin_45 ?_
      refine lv_iload_n hx hb d_Rv_begin_48 rfl (lv_at hl 0 rfl) ?_
      refine lv_iconst (v := (0 : Int32)) hx hb d_Rv_begin_49 (by decide) ?_
      obtain ⟨g5, hf⟩ := x_if hf
      refine va_iast hx hb hK hP hD hS 14 0 rfl rfl (xi_in g5) d_Rv_begin_50 (fun H locs hP hD hS => ?_)
      have hP : va_P D vwCl (w_Rv cI cJ cZ rh sh mh m0 m1 m2 m3 dh d0 d1 d2 d3 ea cb ch be ((z3.2, U.1.2), ((vp_updL U.2.1 z1.1.toNatClampNeg z3.1), ((upd U.2.2.1 z1.1.toNatClampNeg (0 : Int32)), U.2.2.2)))) H := hP
      have hD : va_D A (w_Rv cI cJ cZ rh sh mh m0 m1 m2 m3 dh d0 d1 d2 d3 ea cb ch be ((z3.2, U.1.2), ((vp_updL U.2.1 z1.1.toNatClampNeg z3.1), ((upd U.2.2.1 z1.1.toNatClampNeg (0 : Int32)), U.2.2.2)))) := hD
      refine lv_aload_n hx hb d_Rv_begin_51 rfl (lv_at hl 1 rfl) ?_
      refine va_get (D := D) (ci := 2) (v := .ref mh) (C := R_Rv) (T := F_Rv) (N := 5) hx hb hts i_Rv hown hK hP 0 rfl rfl 1 (by decide) (hts _ k_92) (fun _ h9 => h9) rfl d_Rv_begin_52 ?_
      refine va_get (D := D) (ci := 0) (v := .ref m3) (C := R_Co) (T := F_Co) (N := 4) hx hb hts i_Co hown hK hP 2 rfl rfl 3 (by decide) (hts _ k_99) (fun _ h9 => h9) rfl d_Rv_begin_55 ?_
      refine lv_iload_n hx hb d_Rv_begin_58 rfl (lv_at hl 0 rfl) ?_
      refine lv_iconst (v := (1 : Int32)) hx hb d_Rv_begin_59 (by decide) ?_
      obtain ⟨g6, hf⟩ := x_if hf
      refine va_iast hx hb hK hP hD hS 6 0 rfl rfl (xi_in g6) d_Rv_begin_60 (fun H locs hP hD hS => ?_)
      have hP : va_P D vwCl (w_Rv cI cJ cZ rh sh mh m0 m1 m2 m3 dh d0 d1 d2 d3 ea cb ch be (((z3.2.1, (z3.2.2.1, (z3.2.2.2.1, (upd z3.2.2.2.2 z1.1.toNatClampNeg (1 : Int32))))), U.1.2), ((vp_updL U.2.1 z1.1.toNatClampNeg z3.1), ((upd U.2.2.1 z1.1.toNatClampNeg (0 : Int32)), U.2.2.2)))) H := hP
      have hD : va_D A (w_Rv cI cJ cZ rh sh mh m0 m1 m2 m3 dh d0 d1 d2 d3 ea cb ch be (((z3.2.1, (z3.2.2.1, (z3.2.2.2.1, (upd z3.2.2.2.2 z1.1.toNatClampNeg (1 : Int32))))), U.1.2), ((vp_updL U.2.1 z1.1.toNatClampNeg z3.1), ((upd U.2.2.1 z1.1.toNatClampNeg (0 : Int32)), U.2.2.2)))) := hD
      refine lv_aload_n hx hb d_Rv_begin_61 rfl (lv_at hl 1 rfl) ?_
      refine va_get (D := D) (ci := 2) (v := .ref sh) (C := R_Rv) (T := F_Rv) (N := 5) hx hb hts i_Rv hown hK hP 0 rfl rfl 0 (by decide) (hts _ k_90) (fun _ h9 => h9) rfl d_Rv_begin_62 ?_
      refine lv_bipush (v := (6 : Int32)) hx hb d_Rv_begin_65 (by decide) ?_
      obtain ⟨z7, hz7, hf⟩ := x_bind hf
      refine x_callV (w2 := (w_Rv cI cJ cZ rh sh mh m0 m1 m2 m3 dh d0 d1 d2 d3 ea cb ch be (z7.2, ((vp_updL U.2.1 z1.1.toNatClampNeg z3.1), ((upd U.2.2.1 z1.1.toNatClampNeg (0 : Int32)), U.2.2.2))))) ⟨hx, hb, hml, hown, hts⟩ (c_St_changed l D cI cJ cZ sh mh m0 m1 m2 m3 dh d0 d1 d2 d3 ea N (6 : Int32) ((z3.2.1, (z3.2.2.1, (z3.2.2.2.1, (upd z3.2.2.2.2 z1.1.toNatClampNeg (1 : Int32))))), U.1.2) z7 hz7) (x_cwV 1 hts rfl k_101 k_64 k_65 k_55 k_66 (by decide +kernel) ⟨(Nat.le_of_ble_eq_true rfl), (Nat.le_of_ble_eq_true rfl)⟩) hK hP hD hS hA hZ [1, 2, 3, 4, 5, 6, 7, 8, 9, 10, 11, 12] [0, 13, 14, 15] [0, 4, 5, 6, 7, 8, 9, 10, 11, 12, 13, 14, 15, 1, 2, 3] (by decide) rfl rfl (by decide) (by decide) (by decide) rfl (ci := 1) rfl rfl rfl hl.1 rfl (Nat.le_of_ble_eq_true rfl) d_Rv_begin_67 ⟨(Nat.le_of_ble_eq_true rfl), (Nat.le_of_ble_eq_true rfl)⟩ (fun H locs hP hD hS => ?_)
      refine W.eq (g2 := F0 m 70 ls []) rfl ?_
      refine lv_aload_n hx hb d_Rv_begin_70 rfl (lv_at hl 1 rfl) ?_
      refine va_get (D := D) (ci := 2) (v := .ref sh) (C := R_Rv) (T := F_Rv) (N := 5) hx hb hts i_Rv hown hK hP 0 rfl rfl 0 (by decide) (hts _ k_90) (fun _ h9 => h9) rfl d_Rv_begin_71 ?_
      refine lv_bipush (v := (6 : Int32)) hx hb d_Rv_begin_74 (by decide) ?_
      refine lv_iconst (v := (0 : Int32)) hx hb d_Rv_begin_76 (by decide) ?_
      obtain ⟨z8, hz8, hf⟩ := x_bind hf
      refine x_callVN (w2 := (w_Rv cI cJ cZ rh sh mh m0 m1 m2 m3 dh d0 d1 d2 d3 ea cb ch be (z8.2, ((vp_updL U.2.1 z1.1.toNatClampNeg z3.1), ((upd U.2.2.1 z1.1.toNatClampNeg (0 : Int32)), U.2.2.2))))) ⟨hx, hb, hml, hown, hts⟩ (c_St_put l D cI cJ cZ sh mh m0 m1 m2 m3 dh d0 d1 d2 d3 ea N 9 (6 : Int32) (0 : Int32) z7.2 z8 hz8) (x_cwVN 2 hts rfl k_100 k_76 k_77 k_55 k_78 (by decide +kernel) ⟨(Nat.le_of_ble_eq_true rfl), (Nat.le_of_ble_eq_true rfl)⟩) hK hP hD hS hA hZ [1, 2, 3, 4, 5, 6, 7, 8, 9, 10, 11, 12] [0, 13, 14, 15] [0, 4, 5, 6, 7, 8, 9, 10, 11, 12, 13, 14, 15, 1, 2, 3] (by decide) rfl rfl (by decide) (by decide) (by decide) rfl (ci := 1) rfl rfl rfl hl.1 rfl (Nat.le_of_ble_eq_true rfl) d_Rv_begin_77 ⟨(Nat.le_of_ble_eq_true rfl), (Nat.le_of_ble_eq_true rfl)⟩ (fun H locs hP hD hS => ?_)
      refine W.eq (g2 := F0 m 80 ls [.int z8.1]) rfl ?_
      refine lv_if_eq (tgt := 87) hx hb d_Rv_begin_80 (by decide) (fun c9 => ?_) (fun c9 => ?_)
      · have hf := x_ifp c9 hf
        refine lv_bipush (v := (-9 : Int32)) hx hb d_Rv_begin_87 (by decide) ?_
        obtain rfl := Option.some.inj hf
        exact x_iret hx hb hr hlocks hK hP hD hS (Nat.le_of_ble_eq_true rfl) (Nat.le_of_ble_eq_true rfl) d_Rv_begin_89
      · have hf := x_ifn c9 hf
        refine lv_iload_n hx hb d_Rv_begin_83 rfl (lv_at hl 0 rfl) ?_
        refine lv_goto (tgt := 89) hx hb d_Rv_begin_84 (by decide) ?_
        obtain rfl := Option.some.inj hf
        exact x_iret hx hb hr hlocks hK hP hD hS (Nat.le_of_ble_eq_true rfl) (Nat.le_of_ble_eq_true rfl) d_Rv_begin_89
    · have hf := x_ifp c10 hf
      obtain rfl := Option.some.inj hf
      exact x_throw (cls := "java/lang/IllegalStateException") (names := ["java/lang/RuntimeException", "java/lang/Exception"]) hL0 hx hb hml hown hlocks hno (by decide +kernel) (by decide +kernel) (at_Rv_43 hts hZ) (hts _ k_97) (hts _ k_98) hK hP hD hS hns hl.1 (Nat.le_of_ble_eq_true rfl) (Nat.le_of_ble_eq_true rfl) (Nat.le_of_ble_eq_true rfl) (Nat.le_of_ble_eq_true rfl) (Nat.le_of_ble_eq_true rfl) (Nat.le_of_ble_eq_true rfl) d_Rv_begin_23 d_Rv_begin_26 d_Rv_begin_27 d_Rv_begin_30
set_option maxHeartbeats 4000000 in
set_option maxRecDepth 100000 in
theorem c_Rv_demandRecord (l : Launch) (D : va_G) (cI cJ cZ : ClassId) (hL0 : xL l) (N : Nat) (p0 : Int32) (r : (Unit ⊕ String)) (hf : f_Rv_demandRecord N p0 = some r) : Cx l y_Rv_demandRecord ws_Rv_demandRecord rm_Rv_demandRecord D vwCl (tyL cI cJ cZ) [.int p0] [] (tV r) [] := by
  unfold f_Rv_demandRecord at hf
  refine Cx.ofW (cc := b_Rv_demandRecord) (maxL := 1) (ret := none) (by decide) rfl ?_
  intro p e s m below meth c A C0 hP hK hD hA hns hZ
  obtain ⟨hx, hb, hml, hown, hts0, hr, hlocks, hnm, hno⟩ := C0
  have hown : s.vm.findClass R_Rv = some m.cls := hown
  have hts : ∀ w ∈ tb, w.before [.int p0].toArray s = true := fun w h => hts0 w (List.mem_cons_of_mem _ h)
  have hS : va_S A s.heap s.heap [] := va_S.rf
  have hl := lv_entry ([.int p0]) (n := 1) (Nat.le_of_ble_eq_true rfl)
  rw [lg_entry_eq]
  generalize (lg_sl ([.int p0]) ++ List.replicate (1 - (lg_sl ([.int p0])).length) Slot.unset).toArray = ls at hl ⊢
  have hl : lv_has ls 1 [(0, .int p0)] := hl
  refine lv_iload_n hx hb d_Rv_demandRecord_0 rfl (lv_at hl 0 rfl) ?_
  refine lv_if_lt (tgt := 10) hx hb d_Rv_demandRecord_1 (by decide) (fun c2 => ?_) (fun c2 => ?_)
  · have hf := x_ifp c2 hf
    obtain rfl := Option.some.inj hf
    exact x_throw (cls := "java/lang/IllegalArgumentException") (names := ["java/lang/RuntimeException", "java/lang/Exception"]) hL0 hx hb hml hown hlocks hno (by decide +kernel) (by decide +kernel) (at_Rv_76 hts hZ) (hts _ k_114) (hts _ k_115) hK hP hD hS hns hl.1 (Nat.le_of_ble_eq_true rfl) (Nat.le_of_ble_eq_true rfl) (Nat.le_of_ble_eq_true rfl) (Nat.le_of_ble_eq_true rfl) (Nat.le_of_ble_eq_true rfl) (Nat.le_of_ble_eq_true rfl) d_Rv_demandRecord_10 d_Rv_demandRecord_13 d_Rv_demandRecord_14 d_Rv_demandRecord_17
  · have hf := x_ifn c2 hf
    refine lv_iload_n hx hb d_Rv_demandRecord_4 rfl (lv_at hl 0 rfl) ?_
    refine lv_bipush (v := (6 : Int32)) hx hb d_Rv_demandRecord_5 (by decide) ?_
    refine lv_icmp_lt (tgt := 18) hx hb d_Rv_demandRecord_7 (by decide) (fun c1 => ?_) (fun c1 => ?_)
    · have hf := x_ifp c1 hf
      obtain rfl := Option.some.inj hf
      exact x_vret hx hb hr hlocks hK hP hD hS (Nat.le_of_ble_eq_true rfl) (Nat.le_of_ble_eq_true rfl) d_Rv_demandRecord_18
    · have hf := x_ifn c1 hf
      obtain rfl := Option.some.inj hf
      exact x_throw (cls := "java/lang/IllegalArgumentException") (names := ["java/lang/RuntimeException", "java/lang/Exception"]) hL0 hx hb hml hown hlocks hno (by decide +kernel) (by decide +kernel) (at_Rv_76 hts hZ) (hts _ k_114) (hts _ k_115) hK hP hD hS hns hl.1 (Nat.le_of_ble_eq_true rfl) (Nat.le_of_ble_eq_true rfl) (Nat.le_of_ble_eq_true rfl) (Nat.le_of_ble_eq_true rfl) (Nat.le_of_ble_eq_true rfl) (Nat.le_of_ble_eq_true rfl) d_Rv_demandRecord_10 d_Rv_demandRecord_13 d_Rv_demandRecord_14 d_Rv_demandRecord_17
set_option maxHeartbeats 4000000 in
set_option maxRecDepth 100000 in
theorem c_Rv_demandActive (l : Launch) (D : va_G) (cI cJ cZ : ClassId) (rh sh mh m0 m1 m2 m3 dh d0 d1 d2 d3 ea cb ch be : Nat) (hL0 : xL l) (N : Nat) (p0 : Int32) (U : K_Rv) (r : ((Unit ⊕ String) × K_Rv)) (hf : f_Rv_demandActive N p0 U = some r) : Cx l y_Rv_demandActive ws_Rv_demandActive rm_Rv_demandActive D vwCl (tyL cI cJ cZ) [.ref rh, .int p0] (w_Rv cI cJ cZ rh sh mh m0 m1 m2 m3 dh d0 d1 d2 d3 ea cb ch be U) (tV r.1) (w_Rv cI cJ cZ rh sh mh m0 m1 m2 m3 dh d0 d1 d2 d3 ea cb ch be r.2) := by
  unfold f_Rv_demandActive at hf
  refine Cx.ofW (cc := b_Rv_demandActive) (maxL := 2) (ret := none) (by decide) rfl ?_
  intro p e s m below meth c A C0 hP hK hD hA hns hZ
  obtain ⟨hx, hb, hml, hown, hts0, hr, hlocks, hnm, hno⟩ := C0
  have hown : s.vm.findClass R_Rv = some m.cls := hown
  have hts : ∀ w ∈ tb, w.before [.ref rh, .int p0].toArray s = true := fun w h => hts0 w (List.mem_cons_of_mem _ h)
  have hS : va_S A s.heap s.heap [] := va_S.rf
  have hl := lv_entry ([.ref rh, .int p0]) (n := 2) (Nat.le_of_ble_eq_true rfl)
  rw [lg_entry_eq]
  generalize (lg_sl ([.ref rh, .int p0]) ++ List.replicate (2 - (lg_sl ([.ref rh, .int p0])).length) Slot.unset).toArray = ls at hl ⊢
  have hl : lv_has ls 2 [(0, .ref rh), (1, .int p0)] := hl
  refine lv_iload_n hx hb d_Rv_demandActive_0 rfl (lv_at hl 1 rfl) ?_
  refine lv_iconst (v := (1 : Int32)) hx hb d_Rv_demandActive_1 (by decide) ?_
  refine lv_icmp_lt (tgt := 24) hx hb d_Rv_demandActive_2 (by decide) (fun c4 => ?_) (fun c4 => ?_)
  · have hf := x_ifp c4 hf
    obtain rfl := Option.some.inj hf
    exact x_throw (cls := "java/lang/IllegalStateException") (names := ["java/lang/RuntimeException", "java/lang/Exception"]) hL0 hx hb hml hown hlocks hno (by decide +kernel) (by decide +kernel) (at_Rv_43 hts hZ) (hts _ k_97) (hts _ k_98) hK hP hD hS hns hl.1 (Nat.le_of_ble_eq_true rfl) (Nat.le_of_ble_eq_true rfl) (Nat.le_of_ble_eq_true rfl) (Nat.le_of_ble_eq_true rfl) (Nat.le_of_ble_eq_true rfl) (Nat.le_of_ble_eq_true rfl) d_Rv_demandActive_24 d_Rv_demandActive_27 d_Rv_demandActive_28 d_Rv_demandActive_31
  · have hf := x_ifn c4 hf
    refine lv_iload_n hx hb d_Rv_demandActive_5 rfl (lv_at hl 1 rfl) ?_
    refine lv_bipush (v := (40 : Int32)) hx hb d_Rv_demandActive_6 (by decide) ?_
    refine lv_icmp_gt (tgt := 24) hx hb d_Rv_demandActive_8 (by decide) (fun c3 => ?_) (fun c3 => ?_)
    · have hf := x_ifp c3 hf
      obtain rfl := Option.some.inj hf
      exact x_throw (cls := "java/lang/IllegalStateException") (names := ["java/lang/RuntimeException", "java/lang/Exception"]) hL0 hx hb hml hown hlocks hno (by decide +kernel) (by decide +kernel) (at_Rv_43 hts hZ) (hts _ k_97) (hts _ k_98) hK hP hD hS hns hl.1 (Nat.le_of_ble_eq_true rfl) (Nat.le_of_ble_eq_true rfl) (Nat.le_of_ble_eq_true rfl) (Nat.le_of_ble_eq_true rfl) (Nat.le_of_ble_eq_true rfl) (Nat.le_of_ble_eq_true rfl) d_Rv_demandActive_24 d_Rv_demandActive_27 d_Rv_demandActive_28 d_Rv_demandActive_31
    · have hf := x_ifn c3 hf
      refine lv_aload_n hx hb d_Rv_demandActive_11 rfl (lv_at hl 0 rfl) ?_
      refine va_get (D := D) (ci := 2) (v := .ref mh) (C := R_Rv) (T := F_Rv) (N := 5) hx hb hts i_Rv hown hK hP 0 rfl rfl 1 (by decide) (hts _ k_92) (fun _ h9 => h9) rfl d_Rv_demandActive_12 ?_
      refine va_get (D := D) (ci := 0) (v := .ref m3) (C := R_Co) (T := F_Co) (N := 4) hx hb hts i_Co hown hK hP 2 rfl rfl 3 (by decide) (hts _ k_99) (fun _ h9 => h9) rfl d_Rv_demandActive_15 ?_
      refine lv_iload_n hx hb d_Rv_demandActive_18 rfl (lv_at hl 1 rfl) ?_
      obtain ⟨g1, hf⟩ := x_if hf
      refine va_iald hx hb hK hP 6 0 rfl rfl (xi_in g1) d_Rv_demandActive_19 ?_
      refine lv_iconst (v := (1 : Int32)) hx hb d_Rv_demandActive_20 (by decide) ?_
      refine lv_icmp_eq (tgt := 32) hx hb d_Rv_demandActive_21 (by decide) (fun c2 => ?_) (fun c2 => ?_)
      · have hf := x_ifp c2 hf
        obtain rfl := Option.some.inj hf
        exact x_vret hx hb hr hlocks hK hP hD hS (Nat.le_of_ble_eq_true rfl) (Nat.le_of_ble_eq_true rfl) d_Rv_demandActive_32
      · have hf := x_ifn c2 hf
        obtain rfl := Option.some.inj hf
        exact x_throw (cls := "java/lang/IllegalStateException") (names := ["java/lang/RuntimeException", "java/lang/Exception"]) hL0 hx hb hml hown hlocks hno (by decide +kernel) (by decide +kernel) (at_Rv_43 hts hZ) (hts _ k_97) (hts _ k_98) hK hP hD hS hns hl.1 (Nat.le_of_ble_eq_true rfl) (Nat.le_of_ble_eq_true rfl) (Nat.le_of_ble_eq_true rfl) (Nat.le_of_ble_eq_true rfl) (Nat.le_of_ble_eq_true rfl) (Nat.le_of_ble_eq_true rfl) d_Rv_demandActive_24 d_Rv_demandActive_27 d_Rv_demandActive_28 d_Rv_demandActive_31
