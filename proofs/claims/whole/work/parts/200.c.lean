set_option maxHeartbeats 4000000 in
set_option maxRecDepth 100000 in
theorem c_Co_init (l : Launch) (D : va_G) (cI cJ cZ : ClassId) (mh : Nat) (N : Nat) (r : K_Co) (hf : f_Co_init N = some r) : Cxe l y_Co_init ws_Co_init rm_Co_init D vwCl (tyL cI cJ cZ) [.ref mh] [(mh, .inr (0, [.null, .null, .null, .null]))] (fun a : Nat → Nat => (w_Co cI cJ cZ mh (a 0) (a 1) (a 2) (a 3) r)) := by
  unfold f_Co_init at hf
  refine Cxe.ofW (cc := b_Co_init) (maxL := 2) (ret := none) (by decide) rfl ?_
  intro p e s m below meth c A C0 hP hK hD hA hns hZ
  obtain ⟨hx, hb, hml, hown, hts0, hr, hlocks, hnm, hno⟩ := C0
  have hown : s.vm.findClass R_Co = some m.cls := hown
  have hts : ∀ w ∈ tb, w.before [.ref mh].toArray s = true := fun w h => hts0 w (List.mem_cons_of_mem _ h)
  have hS : va_S A s.heap s.heap [] := va_S.rf
  have hl := lv_entry ([.ref mh]) (n := 2) (Nat.le_of_ble_eq_true rfl)
  rw [lg_entry_eq]
  generalize (lg_sl ([.ref mh]) ++ List.replicate (2 - (lg_sl ([.ref mh])).length) Slot.unset).toArray = ls at hl ⊢
  have hl : lv_has ls 2 [(0, .ref mh)] := hl
  refine lv_aload_n hx hb d_Co_init_0 rfl (lv_at hl 0 rfl) ?_
  refine W.objInit hx hb hown (hts _ k_0) (hts _ k_1) (hts _ k_2) rfl (by rw [hml]; exact hl.1) rfl d_Co_init_1 (Nat.le_of_ble_eq_true rfl) (Nat.le_of_ble_eq_true rfl) ?_
  refine W.eq (g2 := F0 m 4 ls []) rfl ?_
  refine lv_aload_n hx hb d_Co_init_4 rfl (lv_at hl 0 rfl) ?_
  refine lv_bipush (v := (15 : Int32)) hx hb d_Co_init_5 (by decide) ?_
  refine x_newI (N := 15) hx hb (hts _ k_3) hK hP hD hS hA (by decide) (by decide) (by decide) (Nat.le_of_ble_eq_true rfl) (Nat.le_of_ble_eq_true rfl) d_Co_init_7 (fun q1 H hP hD hS => ?_)
  have hP : va_P D vwCl [(mh, .inr (0, [.null, .null, .null, .null])), (q1, .inl (cI, 15, .inl (fun _ => 0)))] H := hP
  have hD : va_D A [(mh, .inr (0, [.null, .null, .null, .null])), (q1, .inl (cI, 15, .inl (fun _ => 0)))] := hD
  refine va_putF (D := D) (ci := 0) (v := .ref q1) (ty := .array .int) (C := R_Co) (T := F_Co) (N := 4) hx hb hts i_Co t_Co t_Co_ok n_Co hown hK hP hD hS 0 rfl rfl 0 (by decide) (hts _ k_4) (fun _ h9 => h9) rfl hnm rfl (by decide +kernel) rfl rfl (Nat.le_of_ble_eq_true rfl) d_Co_init_9 (fun H locs hP hD hS => ?_)
  have hP : va_P D vwCl [(mh, .inr (0, [.ref q1, .null, .null, .null])), (q1, .inl (cI, 15, .inl (fun _ => 0)))] H := hP
  have hD : va_D A [(mh, .inr (0, [.ref q1, .null, .null, .null])), (q1, .inl (cI, 15, .inl (fun _ => 0)))] := hD
  refine lv_aload_n hx hb d_Co_init_12 rfl (lv_at hl 0 rfl) ?_
  refine lv_bipush (v := (15 : Int32)) hx hb d_Co_init_13 (by decide) ?_
  refine x_newI (N := 15) hx hb (hts _ k_3) hK hP hD hS hA (by decide) (by decide) (by decide) (Nat.le_of_ble_eq_true rfl) (Nat.le_of_ble_eq_true rfl) d_Co_init_15 (fun q2 H hP hD hS => ?_)
  have hP : va_P D vwCl [(mh, .inr (0, [.ref q1, .null, .null, .null])), (q1, .inl (cI, 15, .inl (fun _ => 0))), (q2, .inl (cI, 15, .inl (fun _ => 0)))] H := hP
  have hD : va_D A [(mh, .inr (0, [.ref q1, .null, .null, .null])), (q1, .inl (cI, 15, .inl (fun _ => 0))), (q2, .inl (cI, 15, .inl (fun _ => 0)))] := hD
  refine va_putF (D := D) (ci := 0) (v := .ref q2) (ty := .array .int) (C := R_Co) (T := F_Co) (N := 4) hx hb hts i_Co t_Co t_Co_ok n_Co hown hK hP hD hS 0 rfl rfl 1 (by decide) (hts _ k_5) (fun _ h9 => h9) rfl hnm rfl (by decide +kernel) rfl rfl (Nat.le_of_ble_eq_true rfl) d_Co_init_17 (fun H locs hP hD hS => ?_)
  have hP : va_P D vwCl [(mh, .inr (0, [.ref q1, .ref q2, .null, .null])), (q1, .inl (cI, 15, .inl (fun _ => 0))), (q2, .inl (cI, 15, .inl (fun _ => 0)))] H := hP
  have hD : va_D A [(mh, .inr (0, [.ref q1, .ref q2, .null, .null])), (q1, .inl (cI, 15, .inl (fun _ => 0))), (q2, .inl (cI, 15, .inl (fun _ => 0)))] := hD
  refine lv_aload_n hx hb d_Co_init_20 rfl (lv_at hl 0 rfl) ?_
  refine lv_bipush (v := (15 : Int32)) hx hb d_Co_init_21 (by decide) ?_
  refine x_newI (N := 15) hx hb (hts _ k_3) hK hP hD hS hA (by decide) (by decide) (by decide) (Nat.le_of_ble_eq_true rfl) (Nat.le_of_ble_eq_true rfl) d_Co_init_23 (fun q3 H hP hD hS => ?_)
  have hP : va_P D vwCl [(mh, .inr (0, [.ref q1, .ref q2, .null, .null])), (q1, .inl (cI, 15, .inl (fun _ => 0))), (q2, .inl (cI, 15, .inl (fun _ => 0))), (q3, .inl (cI, 15, .inl (fun _ => 0)))] H := hP
  have hD : va_D A [(mh, .inr (0, [.ref q1, .ref q2, .null, .null])), (q1, .inl (cI, 15, .inl (fun _ => 0))), (q2, .inl (cI, 15, .inl (fun _ => 0))), (q3, .inl (cI, 15, .inl (fun _ => 0)))] := hD
  refine va_putF (D := D) (ci := 0) (v := .ref q3) (ty := .array .int) (C := R_Co) (T := F_Co) (N := 4) hx hb hts i_Co t_Co t_Co_ok n_Co hown hK hP hD hS 0 rfl rfl 2 (by decide) (hts _ k_6) (fun _ h9 => h9) rfl hnm rfl (by decide +kernel) rfl rfl (Nat.le_of_ble_eq_true rfl) d_Co_init_25 (fun H locs hP hD hS => ?_)
  have hP : va_P D vwCl [(mh, .inr (0, [.ref q1, .ref q2, .ref q3, .null])), (q1, .inl (cI, 15, .inl (fun _ => 0))), (q2, .inl (cI, 15, .inl (fun _ => 0))), (q3, .inl (cI, 15, .inl (fun _ => 0)))] H := hP
  have hD : va_D A [(mh, .inr (0, [.ref q1, .ref q2, .ref q3, .null])), (q1, .inl (cI, 15, .inl (fun _ => 0))), (q2, .inl (cI, 15, .inl (fun _ => 0))), (q3, .inl (cI, 15, .inl (fun _ => 0)))] := hD
  refine lv_aload_n hx hb d_Co_init_28 rfl (lv_at hl 0 rfl) ?_
  refine lv_bipush (v := (41 : Int32)) hx hb d_Co_init_29 (by decide) ?_
  refine x_newI (N := 41) hx hb (hts _ k_3) hK hP hD hS hA (by decide) (by decide) (by decide) (Nat.le_of_ble_eq_true rfl) (Nat.le_of_ble_eq_true rfl) d_Co_init_31 (fun q4 H hP hD hS => ?_)
  have hP : va_P D vwCl [(mh, .inr (0, [.ref q1, .ref q2, .ref q3, .null])), (q1, .inl (cI, 15, .inl (fun _ => 0))), (q2, .inl (cI, 15, .inl (fun _ => 0))), (q3, .inl (cI, 15, .inl (fun _ => 0))), (q4, .inl (cI, 41, .inl (fun _ => 0)))] H := hP
  have hD : va_D A [(mh, .inr (0, [.ref q1, .ref q2, .ref q3, .null])), (q1, .inl (cI, 15, .inl (fun _ => 0))), (q2, .inl (cI, 15, .inl (fun _ => 0))), (q3, .inl (cI, 15, .inl (fun _ => 0))), (q4, .inl (cI, 41, .inl (fun _ => 0)))] := hD
  refine va_putF (D := D) (ci := 0) (v := .ref q4) (ty := .array .int) (C := R_Co) (T := F_Co) (N := 4) hx hb hts i_Co t_Co t_Co_ok n_Co hown hK hP hD hS 0 rfl rfl 3 (by decide) (hts _ k_7) (fun _ h9 => h9) rfl hnm rfl (by decide +kernel) rfl rfl (Nat.le_of_ble_eq_true rfl) d_Co_init_33 (fun H locs hP hD hS => ?_)
  have hP : va_P D vwCl [(mh, .inr (0, [.ref q1, .ref q2, .ref q3, .ref q4])), (q1, .inl (cI, 15, .inl (fun _ => 0))), (q2, .inl (cI, 15, .inl (fun _ => 0))), (q3, .inl (cI, 15, .inl (fun _ => 0))), (q4, .inl (cI, 41, .inl (fun _ => 0)))] H := hP
  have hD : va_D A [(mh, .inr (0, [.ref q1, .ref q2, .ref q3, .ref q4])), (q1, .inl (cI, 15, .inl (fun _ => 0))), (q2, .inl (cI, 15, .inl (fun _ => 0))), (q3, .inl (cI, 15, .inl (fun _ => 0))), (q4, .inl (cI, 41, .inl (fun _ => 0)))] := hD
  have hP : va_P D vwCl (w_Co cI cJ cZ mh q1 q2 q3 q4 ((fun _ => 0), ((fun _ => 0), ((fun _ => 0), (fun _ => 0))))) H := hP.sub [0, 1, 2, 3, 4] rfl
  have hD : va_D A (w_Co cI cJ cZ mh q1 q2 q3 q4 ((fun _ => 0), ((fun _ => 0), ((fun _ => 0), (fun _ => 0))))) := hD.sub [0, 1, 2, 3, 4] (by decide) rfl
  have L_38 : ∀ n : Nat, ∀ (x1 : Int32) (U : K_Co), f_Co_init_38 N n x1 U = some r → ∀ (H : Heap) (locs : List Loc) (ls : Array Slot), va_P D vwCl (w_Co cI cJ cZ mh q1 q2 q3 q4 U) H → va_D A (w_Co cI cJ cZ mh q1 q2 q3 q4 U) → va_S A s.heap H locs → lv_has ls 2 [(0, .ref mh), (1, .int x1)] → W p l e (rm_Co_init) s m [.ref mh].toArray below meth c H locs 4 86 (xQe D vwCl (tyL cI cJ cZ) below s A (fun a : Nat → Nat => (w_Co cI cJ cZ mh (a 0) (a 1) (a 2) (a 3) r)) (rm_Co_init).cells (rm_Co_init).slots) (F0 m 38 ls []) := by
    intro n
    induction n with
    | zero =>
      intro x1 U hf
      have hf : (none : Option K_Co) = some r := hf
      cases hf
    | succ n ih =>
      intro x1 U hf H locs ls hP hD hS hl
      rw [f_Co_init_38] at hf
      refine lv_iload_n hx hb d_Co_init_38 rfl (lv_at hl 1 rfl) ?_
      refine lv_bipush (v := (15 : Int32)) hx hb d_Co_init_39 (by decide) ?_
      refine lv_icmp_ge (tgt := 57) hx hb d_Co_init_41 (by decide) (fun c2 => ?_) (fun c2 => ?_)
      · have hf := x_ifp c2 hf
        obtain rfl := Option.some.inj hf
        exact x_vretE (fun k => match k with | 0 => q1 | 1 => q2 | 2 => q3 | _ => q4) hx hb hr hlocks hK hP hD hS (Nat.le_of_ble_eq_true rfl) (Nat.le_of_ble_eq_true rfl) d_Co_init_57
      · have hf := x_ifn c2 hf
        refine lv_aload_n hx hb d_Co_init_44 rfl (lv_at hl 0 rfl) ?_
        refine va_get (D := D) (ci := 0) (v := .ref q3) (C := R_Co) (T := F_Co) (N := 4) hx hb hts i_Co hown hK hP 0 rfl rfl 2 (by decide) (hts _ k_6) (fun _ h9 => h9) rfl d_Co_init_45 ?_
        refine lv_iload_n hx hb d_Co_init_48 rfl (lv_at hl 1 rfl) ?_
        refine lv_iconst (v := (-1 : Int32)) hx hb d_Co_init_49 (by decide) ?_
        obtain ⟨g1, hf⟩ := x_if hf
        refine va_iast hx hb hK hP hD hS 3 0 rfl rfl (xi_in g1) d_Co_init_50 (fun H locs hP hD hS => ?_)
        have hP : va_P D vwCl (w_Co cI cJ cZ mh q1 q2 q3 q4 (U.1, (U.2.1, ((upd U.2.2.1 x1.toNatClampNeg (-1 : Int32)), U.2.2.2)))) H := hP
        have hD : va_D A (w_Co cI cJ cZ mh q1 q2 q3 q4 (U.1, (U.2.1, ((upd U.2.2.1 x1.toNatClampNeg (-1 : Int32)), U.2.2.2)))) := hD
        refine lv_iinc (v := (x1 + (1 : Int32))) (lv' := [(1, .int (x1 + (1 : Int32))), (0, .ref mh)]) hx hb d_Co_init_51 hl (k := 1) rfl rfl (by decide) rfl (fun ls hl => ?_)
        refine lv_goto (tgt := 38) hx hb d_Co_init_54 (by decide) ?_
        exact ih _ _ hf _ _ _ hP hD hS (lv_sub hl [1, 0] rfl)
  refine lv_iconst (v := (0 : Int32)) hx hb d_Co_init_36 (by decide) ?_
  refine lv_istore_n (lv' := [(1, .int (0 : Int32)), (0, .ref mh)]) hx hb d_Co_init_37 rfl hl (by decide) rfl (fun ls hl => ?_)
  exact L_38 _ _ _ hf _ _ _ hP hD hS (lv_sub hl [1, 0] rfl)
set_option maxHeartbeats 4000000 in
set_option maxRecDepth 100000 in
theorem c_Co_fill (l : Launch) (D : va_G) (cI cJ cZ : ClassId) (mh m0 m1 m2 m3 : Nat) (N : Nat) (p0 : Int32) (p1 : Int32) (p2 : Int32) (p3 : Int32) (U : K_Co) (r : (Unit × K_Co)) (hf : f_Co_fill N p0 p1 p2 p3 U = some r) : Cx l y_Co_fill ws_Co_fill rm_Co_fill D vwCl (tyL cI cJ cZ) [.ref mh, .int p0, .int p1, .int p2, .int p3] (w_Co cI cJ cZ mh m0 m1 m2 m3 U) (oV r.1) (w_Co cI cJ cZ mh m0 m1 m2 m3 r.2) := by
  unfold f_Co_fill at hf
  refine Cx.ofW (cc := b_Co_fill) (maxL := 5) (ret := none) (by decide) rfl ?_
  intro p e s m below meth c A C0 hP hK hD hA hns hZ
  obtain ⟨hx, hb, hml, hown, hts0, hr, hlocks, hnm, hno⟩ := C0
  have hown : s.vm.findClass R_Co = some m.cls := hown
  have hts : ∀ w ∈ tb, w.before [.ref mh, .int p0, .int p1, .int p2, .int p3].toArray s = true := fun w h => hts0 w (List.mem_cons_of_mem _ h)
  have hS : va_S A s.heap s.heap [] := va_S.rf
  have hl := lv_entry ([.ref mh, .int p0, .int p1, .int p2, .int p3]) (n := 5) (Nat.le_of_ble_eq_true rfl)
  rw [lg_entry_eq]
  generalize (lg_sl ([.ref mh, .int p0, .int p1, .int p2, .int p3]) ++ List.replicate (5 - (lg_sl ([.ref mh, .int p0, .int p1, .int p2, .int p3])).length) Slot.unset).toArray = ls at hl ⊢
  have hl : lv_has ls 5 [(0, .ref mh), (1, .int p0), (2, .int p1), (3, .int p2), (4, .int p3)] := hl
  refine lv_aload_n hx hb d_Co_fill_0 rfl (lv_at hl 0 rfl) ?_
  refine va_get (D := D) (ci := 0) (v := .ref m0) (C := R_Co) (T := F_Co) (N := 4) hx hb hts i_Co hown hK hP 0 rfl rfl 0 (by decide) (hts _ k_4) (fun _ h9 => h9) rfl d_Co_fill_1 ?_
  refine lv_iload_n hx hb d_Co_fill_4 rfl (lv_at hl 1 rfl) ?_
  refine lv_iload_n hx hb d_Co_fill_5 rfl (lv_at hl 2 rfl) ?_
  obtain ⟨g1, hf⟩ := x_if hf
  refine va_iast hx hb hK hP hD hS 1 0 rfl rfl (xi_in g1) d_Co_fill_6 (fun H locs hP hD hS => ?_)
  have hP : va_P D vwCl (w_Co cI cJ cZ mh m0 m1 m2 m3 ((upd U.1 p0.toNatClampNeg p1), U.2)) H := hP
  have hD : va_D A (w_Co cI cJ cZ mh m0 m1 m2 m3 ((upd U.1 p0.toNatClampNeg p1), U.2)) := hD
  refine lv_aload_n hx hb d_Co_fill_7 rfl (lv_at hl 0 rfl) ?_
  refine va_get (D := D) (ci := 0) (v := .ref m1) (C := R_Co) (T := F_Co) (N := 4) hx hb hts i_Co hown hK hP 0 rfl rfl 1 (by decide) (hts _ k_5) (fun _ h9 => h9) rfl d_Co_fill_8 ?_
  refine lv_iload_n hx hb d_Co_fill_11 rfl (lv_at hl 1 rfl) ?_
  refine lv_iload_n hx hb d_Co_fill_12 rfl (lv_at hl 3 rfl) ?_
  obtain ⟨g2, hf⟩ := x_if hf
  refine va_iast hx hb hK hP hD hS 2 0 rfl rfl (xi_in g2) d_Co_fill_13 (fun H locs hP hD hS => ?_)
  have hP : va_P D vwCl (w_Co cI cJ cZ mh m0 m1 m2 m3 ((upd U.1 p0.toNatClampNeg p1), ((upd U.2.1 p0.toNatClampNeg p2), U.2.2))) H := hP
  have hD : va_D A (w_Co cI cJ cZ mh m0 m1 m2 m3 ((upd U.1 p0.toNatClampNeg p1), ((upd U.2.1 p0.toNatClampNeg p2), U.2.2))) := hD
  refine lv_aload_n hx hb d_Co_fill_14 rfl (lv_at hl 0 rfl) ?_
  refine va_get (D := D) (ci := 0) (v := .ref m2) (C := R_Co) (T := F_Co) (N := 4) hx hb hts i_Co hown hK hP 0 rfl rfl 2 (by decide) (hts _ k_6) (fun _ h9 => h9) rfl d_Co_fill_15 ?_
  refine lv_iload_n hx hb d_Co_fill_18 rfl (lv_at hl 1 rfl) ?_
  refine lv_iload hx hb d_Co_fill_19 (lv_at hl 4 rfl) ?_
  obtain ⟨g3, hf⟩ := x_if hf
  refine va_iast hx hb hK hP hD hS 3 0 rfl rfl (xi_in g3) d_Co_fill_21 (fun H locs hP hD hS => ?_)
  have hP : va_P D vwCl (w_Co cI cJ cZ mh m0 m1 m2 m3 ((upd U.1 p0.toNatClampNeg p1), ((upd U.2.1 p0.toNatClampNeg p2), ((upd U.2.2.1 p0.toNatClampNeg p3), U.2.2.2)))) H := hP
  have hD : va_D A (w_Co cI cJ cZ mh m0 m1 m2 m3 ((upd U.1 p0.toNatClampNeg p1), ((upd U.2.1 p0.toNatClampNeg p2), ((upd U.2.2.1 p0.toNatClampNeg p3), U.2.2.2)))) := hD
  obtain rfl := Option.some.inj hf
  exact x_vret hx hb hr hlocks hK hP hD hS (Nat.le_of_ble_eq_true rfl) (Nat.le_of_ble_eq_true rfl) d_Co_fill_22
set_option maxHeartbeats 4000000 in
set_option maxRecDepth 100000 in
theorem c_Co_empty (l : Launch) (D : va_G) (cI cJ cZ : ClassId) (mh m0 m1 m2 m3 : Nat) (N : Nat) (p0 : Int32) (U : K_Co) (r : (Unit × K_Co)) (hf : f_Co_empty N p0 U = some r) : Cx l y_Co_empty ws_Co_empty rm_Co_empty D vwCl (tyL cI cJ cZ) [.ref mh, .int p0] (w_Co cI cJ cZ mh m0 m1 m2 m3 U) (oV r.1) (w_Co cI cJ cZ mh m0 m1 m2 m3 r.2) := by
  unfold f_Co_empty at hf
  refine Cx.ofW (cc := b_Co_empty) (maxL := 2) (ret := none) (by decide) rfl ?_
  intro p e s m below meth c A C0 hP hK hD hA hns hZ
  obtain ⟨hx, hb, hml, hown, hts0, hr, hlocks, hnm, hno⟩ := C0
  have hown : s.vm.findClass R_Co = some m.cls := hown
  have hts : ∀ w ∈ tb, w.before [.ref mh, .int p0].toArray s = true := fun w h => hts0 w (List.mem_cons_of_mem _ h)
  have hS : va_S A s.heap s.heap [] := va_S.rf
  have hl := lv_entry ([.ref mh, .int p0]) (n := 2) (Nat.le_of_ble_eq_true rfl)
  rw [lg_entry_eq]
  generalize (lg_sl ([.ref mh, .int p0]) ++ List.replicate (2 - (lg_sl ([.ref mh, .int p0])).length) Slot.unset).toArray = ls at hl ⊢
  have hl : lv_has ls 2 [(0, .ref mh), (1, .int p0)] := hl
  refine lv_aload_n hx hb d_Co_empty_0 rfl (lv_at hl 0 rfl) ?_
  refine lv_iload_n hx hb d_Co_empty_1 rfl (lv_at hl 1 rfl) ?_
  refine lv_iconst (v := (0 : Int32)) hx hb d_Co_empty_2 (by decide) ?_
  refine lv_iconst (v := (0 : Int32)) hx hb d_Co_empty_3 (by decide) ?_
  refine lv_iconst (v := (-1 : Int32)) hx hb d_Co_empty_4 (by decide) ?_
  obtain ⟨z1, hz1, hf⟩ := x_bind hf
  refine x_callV (w2 := (w_Co cI cJ cZ mh m0 m1 m2 m3 z1.2)) ⟨hx, hb, hml, hown, hts⟩ (c_Co_fill l D cI cJ cZ mh m0 m1 m2 m3 N p0 (0 : Int32) (0 : Int32) (-1 : Int32) U z1 hz1) (x_cwV 4 hts rfl k_8 k_9 k_10 k_11 k_12 (by decide +kernel) ⟨(Nat.le_of_ble_eq_true rfl), (Nat.le_of_ble_eq_true rfl)⟩) hK hP hD hS hA hZ [0, 1, 2, 3, 4] [] [0, 1, 2, 3, 4] (by decide) rfl rfl (by decide) (by decide) (by decide) rfl (ci := 0) rfl rfl rfl hl.1 rfl (Nat.le_of_ble_eq_true rfl) d_Co_empty_5 ⟨(Nat.le_of_ble_eq_true rfl), (Nat.le_of_ble_eq_true rfl)⟩ (fun H locs hP hD hS => ?_)
  refine W.eq (g2 := F0 m 8 ls []) rfl ?_
  obtain rfl := Option.some.inj hf
  exact x_vret hx hb hr hlocks hK hP hD hS (Nat.le_of_ble_eq_true rfl) (Nat.le_of_ble_eq_true rfl) d_Co_empty_8
set_option maxHeartbeats 4000000 in
set_option maxRecDepth 100000 in
theorem c_Co_move (l : Launch) (D : va_G) (cI cJ cZ : ClassId) (mh m0 m1 m2 m3 : Nat) (N : Nat) (p0 : Int32) (p1 : Int32) (U : K_Co) (r : (Unit × K_Co)) (hf : f_Co_move N p0 p1 U = some r) : Cx l y_Co_move ws_Co_move rm_Co_move D vwCl (tyL cI cJ cZ) [.ref mh, .int p0, .int p1] (w_Co cI cJ cZ mh m0 m1 m2 m3 U) (oV r.1) (w_Co cI cJ cZ mh m0 m1 m2 m3 r.2) := by
  unfold f_Co_move at hf
  refine Cx.ofW (cc := b_Co_move) (maxL := 3) (ret := none) (by decide) rfl ?_
  intro p e s m below meth c A C0 hP hK hD hA hns hZ
  obtain ⟨hx, hb, hml, hown, hts0, hr, hlocks, hnm, hno⟩ := C0
  have hown : s.vm.findClass R_Co = some m.cls := hown
  have hts : ∀ w ∈ tb, w.before [.ref mh, .int p0, .int p1].toArray s = true := fun w h => hts0 w (List.mem_cons_of_mem _ h)
  have hS : va_S A s.heap s.heap [] := va_S.rf
  have hl := lv_entry ([.ref mh, .int p0, .int p1]) (n := 3) (Nat.le_of_ble_eq_true rfl)
  rw [lg_entry_eq]
  generalize (lg_sl ([.ref mh, .int p0, .int p1]) ++ List.replicate (3 - (lg_sl ([.ref mh, .int p0, .int p1])).length) Slot.unset).toArray = ls at hl ⊢
  have hl : lv_has ls 3 [(0, .ref mh), (1, .int p0), (2, .int p1)] := hl
  refine lv_aload_n hx hb d_Co_move_0 rfl (lv_at hl 0 rfl) ?_
  refine lv_iload_n hx hb d_Co_move_1 rfl (lv_at hl 2 rfl) ?_
  refine lv_aload_n hx hb d_Co_move_2 rfl (lv_at hl 0 rfl) ?_
  refine va_get (D := D) (ci := 0) (v := .ref m0) (C := R_Co) (T := F_Co) (N := 4) hx hb hts i_Co hown hK hP 0 rfl rfl 0 (by decide) (hts _ k_4) (fun _ h9 => h9) rfl d_Co_move_3 ?_
  refine lv_iload_n hx hb d_Co_move_6 rfl (lv_at hl 1 rfl) ?_
  obtain ⟨g1, hf⟩ := x_if hf
  refine va_iald hx hb hK hP 1 0 rfl rfl (xi_in g1) d_Co_move_7 ?_
  refine lv_aload_n hx hb d_Co_move_8 rfl (lv_at hl 0 rfl) ?_
  refine va_get (D := D) (ci := 0) (v := .ref m1) (C := R_Co) (T := F_Co) (N := 4) hx hb hts i_Co hown hK hP 0 rfl rfl 1 (by decide) (hts _ k_5) (fun _ h9 => h9) rfl d_Co_move_9 ?_
  refine lv_iload_n hx hb d_Co_move_12 rfl (lv_at hl 1 rfl) ?_
  obtain ⟨g2, hf⟩ := x_if hf
  refine va_iald hx hb hK hP 2 0 rfl rfl (xi_in g2) d_Co_move_13 ?_
  refine lv_aload_n hx hb d_Co_move_14 rfl (lv_at hl 0 rfl) ?_
  refine va_get (D := D) (ci := 0) (v := .ref m2) (C := R_Co) (T := F_Co) (N := 4) hx hb hts i_Co hown hK hP 0 rfl rfl 2 (by decide) (hts _ k_6) (fun _ h9 => h9) rfl d_Co_move_15 ?_
  refine lv_iload_n hx hb d_Co_move_18 rfl (lv_at hl 1 rfl) ?_
  obtain ⟨g3, hf⟩ := x_if hf
  refine va_iald hx hb hK hP 3 0 rfl rfl (xi_in g3) d_Co_move_19 ?_
  obtain ⟨z4, hz4, hf⟩ := x_bind hf
  refine x_callV (w2 := (w_Co cI cJ cZ mh m0 m1 m2 m3 z4.2)) ⟨hx, hb, hml, hown, hts⟩ (c_Co_fill l D cI cJ cZ mh m0 m1 m2 m3 N p1 (U.1 p0.toNatClampNeg) (U.2.1 p0.toNatClampNeg) (U.2.2.1 p0.toNatClampNeg) U z4 hz4) (x_cwV 4 hts rfl k_8 k_9 k_10 k_11 k_12 (by decide +kernel) ⟨(Nat.le_of_ble_eq_true rfl), (Nat.le_of_ble_eq_true rfl)⟩) hK hP hD hS hA hZ [0, 1, 2, 3, 4] [] [0, 1, 2, 3, 4] (by decide) rfl rfl (by decide) (by decide) (by decide) rfl (ci := 0) rfl rfl rfl hl.1 rfl (Nat.le_of_ble_eq_true rfl) d_Co_move_20 ⟨(Nat.le_of_ble_eq_true rfl), (Nat.le_of_ble_eq_true rfl)⟩ (fun H locs hP hD hS => ?_)
  refine W.eq (g2 := F0 m 23 ls []) rfl ?_
  obtain rfl := Option.some.inj hf
  exact x_vret hx hb hr hlocks hK hP hD hS (Nat.le_of_ble_eq_true rfl) (Nat.le_of_ble_eq_true rfl) d_Co_move_23
set_option maxHeartbeats 4000000 in
set_option maxRecDepth 100000 in
theorem c_Co_takePage (l : Launch) (D : va_G) (cI cJ cZ : ClassId) (mh m0 m1 m2 m3 dh d0 d1 d2 d3 : Nat) (N : Nat) (p1 : Int32) (U : K_CC) (r : (Unit × K_CC)) (hf : f_Co_takePage N p1 U = some r) : Cx l y_Co_takePage ws_Co_takePage rm_Co_takePage D vwCl (tyL cI cJ cZ) [.ref mh, .ref dh, .int p1] (w_CC cI cJ cZ mh m0 m1 m2 m3 dh d0 d1 d2 d3 U) (oV r.1) (w_CC cI cJ cZ mh m0 m1 m2 m3 dh d0 d1 d2 d3 r.2) := by
  unfold f_Co_takePage at hf
  refine Cx.ofW (cc := b_Co_takePage) (maxL := 5) (ret := none) (by decide) rfl ?_
  intro p e s m below meth c A C0 hP hK hD hA hns hZ
  obtain ⟨hx, hb, hml, hown, hts0, hr, hlocks, hnm, hno⟩ := C0
  have hown : s.vm.findClass R_Co = some m.cls := hown
  have hts : ∀ w ∈ tb, w.before [.ref mh, .ref dh, .int p1].toArray s = true := fun w h => hts0 w (List.mem_cons_of_mem _ h)
  have hS : va_S A s.heap s.heap [] := va_S.rf
  have hl := lv_entry ([.ref mh, .ref dh, .int p1]) (n := 5) (Nat.le_of_ble_eq_true rfl)
  rw [lg_entry_eq]
  generalize (lg_sl ([.ref mh, .ref dh, .int p1]) ++ List.replicate (5 - (lg_sl ([.ref mh, .ref dh, .int p1])).length) Slot.unset).toArray = ls at hl ⊢
  have hl : lv_has ls 5 [(0, .ref mh), (1, .ref dh), (2, .int p1)] := hl
  refine lv_iload_n hx hb d_Co_takePage_0 rfl (lv_at hl 2 rfl) ?_
  refine lv_bipush (v := (6 : Int32)) hx hb d_Co_takePage_1 (by decide) ?_
  refine lv_icmp_ne (tgt := 22) hx hb d_Co_takePage_3 (by decide) (fun c17 => ?_) (fun c17 => ?_)
  · have hf := x_ifn c17 hf
    refine lv_iload_n hx hb d_Co_takePage_22 rfl (lv_at hl 2 rfl) ?_
    refine lv_iconst (v := (3 : Int32)) hx hb d_Co_takePage_23 (by decide) ?_
    refine lv_icmp_ge (tgt := 33) hx hb d_Co_takePage_24 (by decide) (fun c15 => ?_) (fun c15 => ?_)
    · have hf := x_ifp c15 hf
      refine lv_bipush (v := (6 : Int32)) hx hb d_Co_takePage_33 (by decide) ?_
      refine lv_iload_n hx hb d_Co_takePage_35 rfl (lv_at hl 2 rfl) ?_
      refine lv_iconst (v := (3 : Int32)) hx hb d_Co_takePage_36 (by decide) ?_
      refine lv_isub hx hb d_Co_takePage_37 ?_
      refine lv_iconst (v := (3 : Int32)) hx hb d_Co_takePage_38 (by decide) ?_
      refine lv_imul hx hb d_Co_takePage_39 ?_
      refine lv_iadd hx hb d_Co_takePage_40 ?_
      refine lv_istore_n (lv' := [(3, .int ((6 : Int32) + ((p1 - (3 : Int32)) * (3 : Int32)))), (0, .ref mh), (1, .ref dh), (2, .int p1)]) hx hb d_Co_takePage_41 rfl hl (by decide) rfl (fun ls hl => ?_)
      refine lv_iload_n hx hb d_Co_takePage_42 rfl (lv_at hl 3 rfl) ?_
      refine lv_iconst (v := (3 : Int32)) hx hb d_Co_takePage_43 (by decide) ?_
      refine lv_icmp_ge (tgt := 51) hx hb d_Co_takePage_44 (by decide) (fun c7 => ?_) (fun c7 => ?_)
      · have hf := x_ifp c7 hf
        refine lv_iconst (v := (3 : Int32)) hx hb d_Co_takePage_51 (by decide) ?_
        refine lv_istore (lv' := [(4, .int (3 : Int32)), (3, .int ((6 : Int32) + ((p1 - (3 : Int32)) * (3 : Int32)))), (0, .ref mh), (1, .ref dh), (2, .int p1)]) hx hb d_Co_takePage_52 hl (by decide) rfl (fun ls hl => ?_)
        refine lv_aload_n hx hb d_Co_takePage_54 rfl (lv_at hl 3 rfl) ?_
        refine va_get (D := D) (ci := 0) (v := .ref d0) (C := R_Co) (T := F_Co) (N := 4) hx hb hts i_Co hown hK hP 5 rfl rfl 0 (by decide) (hts _ k_4) (fun _ h9 => h9) rfl d_Co_takePage_55 ?_
        refine lv_iload_n hx hb d_Co_takePage_58 rfl (lv_at hl 1 rfl) ?_
        refine lv_aload_n hx hb d_Co_takePage_59 rfl (lv_at hl 2 rfl) ?_
        refine va_get (D := D) (ci := 0) (v := .ref m0) (C := R_Co) (T := F_Co) (N := 4) hx hb hts i_Co hown hK hP 0 rfl rfl 0 (by decide) (hts _ k_4) (fun _ h9 => h9) rfl d_Co_takePage_60 ?_
        refine lv_iload_n hx hb d_Co_takePage_63 rfl (lv_at hl 1 rfl) ?_
        refine lv_iload hx hb d_Co_takePage_64 (lv_at hl 0 rfl) ?_
        obtain ⟨⟨g3a, g3b, g3c, g3d, g3e⟩, hf⟩ := x_if hf
        refine va_copyi hx hb (hml.trans hl.1.symm) hown (hts _ k_13) (hts _ k_14) (hts _ k_15) (hts _ k_16) hK hP hD hS 6 1 0 0 rfl rfl rfl rfl rfl g3a g3b g3c g3d g3e (fun _ _ => rfl) (Nat.le_of_ble_eq_true rfl) (by simp only [rm_Co_takePage]; decide) d_Co_takePage_66 (fun H locs hP hD hS => ?_)
        have hP : va_P D vwCl (w_CC cI cJ cZ mh m0 m1 m2 m3 dh d0 d1 d2 d3 (((va_cpy U.2.1 U.1.1 ((6 : Int32) + ((p1 - (3 : Int32)) * (3 : Int32))).toNatClampNeg ((6 : Int32) + ((p1 - (3 : Int32)) * (3 : Int32))).toNatClampNeg (3 : Int32).toNatClampNeg), U.1.2), U.2)) H := hP
        have hD : va_D A (w_CC cI cJ cZ mh m0 m1 m2 m3 dh d0 d1 d2 d3 (((va_cpy U.2.1 U.1.1 ((6 : Int32) + ((p1 - (3 : Int32)) * (3 : Int32))).toNatClampNeg ((6 : Int32) + ((p1 - (3 : Int32)) * (3 : Int32))).toNatClampNeg (3 : Int32).toNatClampNeg), U.1.2), U.2)) := hD
        refine lv_aload_n hx hb d_Co_takePage_69 rfl (lv_at hl 3 rfl) ?_
        refine va_get (D := D) (ci := 0) (v := .ref d1) (C := R_Co) (T := F_Co) (N := 4) hx hb hts i_Co hown hK hP 5 rfl rfl 1 (by decide) (hts _ k_5) (fun _ h9 => h9) rfl d_Co_takePage_70 ?_
        refine lv_iload_n hx hb d_Co_takePage_73 rfl (lv_at hl 1 rfl) ?_
        refine lv_aload_n hx hb d_Co_takePage_74 rfl (lv_at hl 2 rfl) ?_
        refine va_get (D := D) (ci := 0) (v := .ref m1) (C := R_Co) (T := F_Co) (N := 4) hx hb hts i_Co hown hK hP 0 rfl rfl 1 (by decide) (hts _ k_5) (fun _ h9 => h9) rfl d_Co_takePage_75 ?_
        refine lv_iload_n hx hb d_Co_takePage_78 rfl (lv_at hl 1 rfl) ?_
        refine lv_iload hx hb d_Co_takePage_79 (lv_at hl 0 rfl) ?_
        obtain ⟨⟨g2a, g2b, g2c, g2d, g2e⟩, hf⟩ := x_if hf
        refine va_copyi hx hb (hml.trans hl.1.symm) hown (hts _ k_13) (hts _ k_14) (hts _ k_15) (hts _ k_16) hK hP hD hS 7 2 0 0 rfl rfl rfl rfl rfl g2a g2b g2c g2d g2e (fun _ _ => rfl) (Nat.le_of_ble_eq_true rfl) (by simp only [rm_Co_takePage]; decide) d_Co_takePage_81 (fun H locs hP hD hS => ?_)
        have hP : va_P D vwCl (w_CC cI cJ cZ mh m0 m1 m2 m3 dh d0 d1 d2 d3 (((va_cpy U.2.1 U.1.1 ((6 : Int32) + ((p1 - (3 : Int32)) * (3 : Int32))).toNatClampNeg ((6 : Int32) + ((p1 - (3 : Int32)) * (3 : Int32))).toNatClampNeg (3 : Int32).toNatClampNeg), ((va_cpy U.2.2.1 U.1.2.1 ((6 : Int32) + ((p1 - (3 : Int32)) * (3 : Int32))).toNatClampNeg ((6 : Int32) + ((p1 - (3 : Int32)) * (3 : Int32))).toNatClampNeg (3 : Int32).toNatClampNeg), U.1.2.2)), U.2)) H := hP
        have hD : va_D A (w_CC cI cJ cZ mh m0 m1 m2 m3 dh d0 d1 d2 d3 (((va_cpy U.2.1 U.1.1 ((6 : Int32) + ((p1 - (3 : Int32)) * (3 : Int32))).toNatClampNeg ((6 : Int32) + ((p1 - (3 : Int32)) * (3 : Int32))).toNatClampNeg (3 : Int32).toNatClampNeg), ((va_cpy U.2.2.1 U.1.2.1 ((6 : Int32) + ((p1 - (3 : Int32)) * (3 : Int32))).toNatClampNeg ((6 : Int32) + ((p1 - (3 : Int32)) * (3 : Int32))).toNatClampNeg (3 : Int32).toNatClampNeg), U.1.2.2)), U.2)) := hD
        refine lv_aload_n hx hb d_Co_takePage_84 rfl (lv_at hl 3 rfl) ?_
        refine va_get (D := D) (ci := 0) (v := .ref d2) (C := R_Co) (T := F_Co) (N := 4) hx hb hts i_Co hown hK hP 5 rfl rfl 2 (by decide) (hts _ k_6) (fun _ h9 => h9) rfl d_Co_takePage_85 ?_
        refine lv_iload_n hx hb d_Co_takePage_88 rfl (lv_at hl 1 rfl) ?_
        refine lv_aload_n hx hb d_Co_takePage_89 rfl (lv_at hl 2 rfl) ?_
        refine va_get (D := D) (ci := 0) (v := .ref m2) (C := R_Co) (T := F_Co) (N := 4) hx hb hts i_Co hown hK hP 0 rfl rfl 2 (by decide) (hts _ k_6) (fun _ h9 => h9) rfl d_Co_takePage_90 ?_
        refine lv_iload_n hx hb d_Co_takePage_93 rfl (lv_at hl 1 rfl) ?_
        refine lv_iload hx hb d_Co_takePage_94 (lv_at hl 0 rfl) ?_
        obtain ⟨⟨g1a, g1b, g1c, g1d, g1e⟩, hf⟩ := x_if hf
        refine va_copyi hx hb (hml.trans hl.1.symm) hown (hts _ k_13) (hts _ k_14) (hts _ k_15) (hts _ k_16) hK hP hD hS 8 3 0 0 rfl rfl rfl rfl rfl g1a g1b g1c g1d g1e (fun _ _ => rfl) (Nat.le_of_ble_eq_true rfl) (by simp only [rm_Co_takePage]; decide) d_Co_takePage_96 (fun H locs hP hD hS => ?_)
        have hP : va_P D vwCl (w_CC cI cJ cZ mh m0 m1 m2 m3 dh d0 d1 d2 d3 (((va_cpy U.2.1 U.1.1 ((6 : Int32) + ((p1 - (3 : Int32)) * (3 : Int32))).toNatClampNeg ((6 : Int32) + ((p1 - (3 : Int32)) * (3 : Int32))).toNatClampNeg (3 : Int32).toNatClampNeg), ((va_cpy U.2.2.1 U.1.2.1 ((6 : Int32) + ((p1 - (3 : Int32)) * (3 : Int32))).toNatClampNeg ((6 : Int32) + ((p1 - (3 : Int32)) * (3 : Int32))).toNatClampNeg (3 : Int32).toNatClampNeg), ((va_cpy U.2.2.2.1 U.1.2.2.1 ((6 : Int32) + ((p1 - (3 : Int32)) * (3 : Int32))).toNatClampNeg ((6 : Int32) + ((p1 - (3 : Int32)) * (3 : Int32))).toNatClampNeg (3 : Int32).toNatClampNeg), U.1.2.2.2))), U.2)) H := hP
        have hD : va_D A (w_CC cI cJ cZ mh m0 m1 m2 m3 dh d0 d1 d2 d3 (((va_cpy U.2.1 U.1.1 ((6 : Int32) + ((p1 - (3 : Int32)) * (3 : Int32))).toNatClampNeg ((6 : Int32) + ((p1 - (3 : Int32)) * (3 : Int32))).toNatClampNeg (3 : Int32).toNatClampNeg), ((va_cpy U.2.2.1 U.1.2.1 ((6 : Int32) + ((p1 - (3 : Int32)) * (3 : Int32))).toNatClampNeg ((6 : Int32) + ((p1 - (3 : Int32)) * (3 : Int32))).toNatClampNeg (3 : Int32).toNatClampNeg), ((va_cpy U.2.2.2.1 U.1.2.2.1 ((6 : Int32) + ((p1 - (3 : Int32)) * (3 : Int32))).toNatClampNeg ((6 : Int32) + ((p1 - (3 : Int32)) * (3 : Int32))).toNatClampNeg (3 : Int32).toNatClampNeg), U.1.2.2.2))), U.2)) := hD
        obtain rfl := Option.some.inj hf
        exact x_vret hx hb hr hlocks hK hP hD hS (Nat.le_of_ble_eq_true rfl) (Nat.le_of_ble_eq_true rfl) d_Co_takePage_99
      · have hf := x_ifn c7 hf
        refine lv_iconst (v := (2 : Int32)) hx hb d_Co_takePage_47 (by decide) ?_
        refine lv_goto (tgt := 52) hx hb d_Co_takePage_48 (by decide) ?_
        refine lv_istore (lv' := [(4, .int (2 : Int32)), (3, .int ((6 : Int32) + ((p1 - (3 : Int32)) * (3 : Int32)))), (0, .ref mh), (1, .ref dh), (2, .int p1)]) hx hb d_Co_takePage_52 hl (by decide) rfl (fun ls hl => ?_)
        refine lv_aload_n hx hb d_Co_takePage_54 rfl (lv_at hl 3 rfl) ?_
        refine va_get (D := D) (ci := 0) (v := .ref d0) (C := R_Co) (T := F_Co) (N := 4) hx hb hts i_Co hown hK hP 5 rfl rfl 0 (by decide) (hts _ k_4) (fun _ h9 => h9) rfl d_Co_takePage_55 ?_
        refine lv_iload_n hx hb d_Co_takePage_58 rfl (lv_at hl 1 rfl) ?_
        refine lv_aload_n hx hb d_Co_takePage_59 rfl (lv_at hl 2 rfl) ?_
        refine va_get (D := D) (ci := 0) (v := .ref m0) (C := R_Co) (T := F_Co) (N := 4) hx hb hts i_Co hown hK hP 0 rfl rfl 0 (by decide) (hts _ k_4) (fun _ h9 => h9) rfl d_Co_takePage_60 ?_
        refine lv_iload_n hx hb d_Co_takePage_63 rfl (lv_at hl 1 rfl) ?_
        refine lv_iload hx hb d_Co_takePage_64 (lv_at hl 0 rfl) ?_
        obtain ⟨⟨g6a, g6b, g6c, g6d, g6e⟩, hf⟩ := x_if hf
        refine va_copyi hx hb (hml.trans hl.1.symm) hown (hts _ k_13) (hts _ k_14) (hts _ k_15) (hts _ k_16) hK hP hD hS 6 1 0 0 rfl rfl rfl rfl rfl g6a g6b g6c g6d g6e (fun _ _ => rfl) (Nat.le_of_ble_eq_true rfl) (by simp only [rm_Co_takePage]; decide) d_Co_takePage_66 (fun H locs hP hD hS => ?_)
        have hP : va_P D vwCl (w_CC cI cJ cZ mh m0 m1 m2 m3 dh d0 d1 d2 d3 (((va_cpy U.2.1 U.1.1 ((6 : Int32) + ((p1 - (3 : Int32)) * (3 : Int32))).toNatClampNeg ((6 : Int32) + ((p1 - (3 : Int32)) * (3 : Int32))).toNatClampNeg (2 : Int32).toNatClampNeg), U.1.2), U.2)) H := hP
        have hD : va_D A (w_CC cI cJ cZ mh m0 m1 m2 m3 dh d0 d1 d2 d3 (((va_cpy U.2.1 U.1.1 ((6 : Int32) + ((p1 - (3 : Int32)) * (3 : Int32))).toNatClampNeg ((6 : Int32) + ((p1 - (3 : Int32)) * (3 : Int32))).toNatClampNeg (2 : Int32).toNatClampNeg), U.1.2), U.2)) := hD
        refine lv_aload_n hx hb d_Co_takePage_69 rfl (lv_at hl 3 rfl) ?_
        refine va_get (D := D) (ci := 0) (v := .ref d1) (C := R_Co) (T := F_Co) (N := 4) hx hb hts i_Co hown hK hP 5 rfl rfl 1 (by decide) (hts _ k_5) (fun _ h9 => h9) rfl d_Co_takePage_70 ?_
        refine lv_iload_n hx hb d_Co_takePage_73 rfl (lv_at hl 1 rfl) ?_
        refine lv_aload_n hx hb d_Co_takePage_74 rfl (lv_at hl 2 rfl) ?_
        refine va_get (D := D) (ci := 0) (v := .ref m1) (C := R_Co) (T := F_Co) (N := 4) hx hb hts i_Co hown hK hP 0 rfl rfl 1 (by decide) (hts _ k_5) (fun _ h9 => h9) rfl d_Co_takePage_75 ?_
        refine lv_iload_n hx hb d_Co_takePage_78 rfl (lv_at hl 1 rfl) ?_
        refine lv_iload hx hb d_Co_takePage_79 (lv_at hl 0 rfl) ?_
        obtain ⟨⟨g5a, g5b, g5c, g5d, g5e⟩, hf⟩ := x_if hf
        refine va_copyi hx hb (hml.trans hl.1.symm) hown (hts _ k_13) (hts _ k_14) (hts _ k_15) (hts _ k_16) hK hP hD hS 7 2 0 0 rfl rfl rfl rfl rfl g5a g5b g5c g5d g5e (fun _ _ => rfl) (Nat.le_of_ble_eq_true rfl) (by simp only [rm_Co_takePage]; decide) d_Co_takePage_81 (fun H locs hP hD hS => ?_)
        have hP : va_P D vwCl (w_CC cI cJ cZ mh m0 m1 m2 m3 dh d0 d1 d2 d3 (((va_cpy U.2.1 U.1.1 ((6 : Int32) + ((p1 - (3 : Int32)) * (3 : Int32))).toNatClampNeg ((6 : Int32) + ((p1 - (3 : Int32)) * (3 : Int32))).toNatClampNeg (2 : Int32).toNatClampNeg), ((va_cpy U.2.2.1 U.1.2.1 ((6 : Int32) + ((p1 - (3 : Int32)) * (3 : Int32))).toNatClampNeg ((6 : Int32) + ((p1 - (3 : Int32)) * (3 : Int32))).toNatClampNeg (2 : Int32).toNatClampNeg), U.1.2.2)), U.2)) H := hP
        have hD : va_D A (w_CC cI cJ cZ mh m0 m1 m2 m3 dh d0 d1 d2 d3 (((va_cpy U.2.1 U.1.1 ((6 : Int32) + ((p1 - (3 : Int32)) * (3 : Int32))).toNatClampNeg ((6 : Int32) + ((p1 - (3 : Int32)) * (3 : Int32))).toNatClampNeg (2 : Int32).toNatClampNeg), ((va_cpy U.2.2.1 U.1.2.1 ((6 : Int32) + ((p1 - (3 : Int32)) * (3 : Int32))).toNatClampNeg ((6 : Int32) + ((p1 - (3 : Int32)) * (3 : Int32))).toNatClampNeg (2 : Int32).toNatClampNeg), U.1.2.2)), U.2)) := hD
        refine lv_aload_n hx hb d_Co_takePage_84 rfl (lv_at hl 3 rfl) ?_
        refine va_get (D := D) (ci := 0) (v := .ref d2) (C := R_Co) (T := F_Co) (N := 4) hx hb hts i_Co hown hK hP 5 rfl rfl 2 (by decide) (hts _ k_6) (fun _ h9 => h9) rfl d_Co_takePage_85 ?_
        refine lv_iload_n hx hb d_Co_takePage_88 rfl (lv_at hl 1 rfl) ?_
        refine lv_aload_n hx hb d_Co_takePage_89 rfl (lv_at hl 2 rfl) ?_
        refine va_get (D := D) (ci := 0) (v := .ref m2) (C := R_Co) (T := F_Co) (N := 4) hx hb hts i_Co hown hK hP 0 rfl rfl 2 (by decide) (hts _ k_6) (fun _ h9 => h9) rfl d_Co_takePage_90 ?_
        refine lv_iload_n hx hb d_Co_takePage_93 rfl (lv_at hl 1 rfl) ?_
        refine lv_iload hx hb d_Co_takePage_94 (lv_at hl 0 rfl) ?_
        obtain ⟨⟨g4a, g4b, g4c, g4d, g4e⟩, hf⟩ := x_if hf
        refine va_copyi hx hb (hml.trans hl.1.symm) hown (hts _ k_13) (hts _ k_14) (hts _ k_15) (hts _ k_16) hK hP hD hS 8 3 0 0 rfl rfl rfl rfl rfl g4a g4b g4c g4d g4e (fun _ _ => rfl) (Nat.le_of_ble_eq_true rfl) (by simp only [rm_Co_takePage]; decide) d_Co_takePage_96 (fun H locs hP hD hS => ?_)
        have hP : va_P D vwCl (w_CC cI cJ cZ mh m0 m1 m2 m3 dh d0 d1 d2 d3 (((va_cpy U.2.1 U.1.1 ((6 : Int32) + ((p1 - (3 : Int32)) * (3 : Int32))).toNatClampNeg ((6 : Int32) + ((p1 - (3 : Int32)) * (3 : Int32))).toNatClampNeg (2 : Int32).toNatClampNeg), ((va_cpy U.2.2.1 U.1.2.1 ((6 : Int32) + ((p1 - (3 : Int32)) * (3 : Int32))).toNatClampNeg ((6 : Int32) + ((p1 - (3 : Int32)) * (3 : Int32))).toNatClampNeg (2 : Int32).toNatClampNeg), ((va_cpy U.2.2.2.1 U.1.2.2.1 ((6 : Int32) + ((p1 - (3 : Int32)) * (3 : Int32))).toNatClampNeg ((6 : Int32) + ((p1 - (3 : Int32)) * (3 : Int32))).toNatClampNeg (2 : Int32).toNatClampNeg), U.1.2.2.2))), U.2)) H := hP
        have hD : va_D A (w_CC cI cJ cZ mh m0 m1 m2 m3 dh d0 d1 d2 d3 (((va_cpy U.2.1 U.1.1 ((6 : Int32) + ((p1 - (3 : Int32)) * (3 : Int32))).toNatClampNeg ((6 : Int32) + ((p1 - (3 : Int32)) * (3 : Int32))).toNatClampNeg (2 : Int32).toNatClampNeg), ((va_cpy U.2.2.1 U.1.2.1 ((6 : Int32) + ((p1 - (3 : Int32)) * (3 : Int32))).toNatClampNeg ((6 : Int32) + ((p1 - (3 : Int32)) * (3 : Int32))).toNatClampNeg (2 : Int32).toNatClampNeg), ((va_cpy U.2.2.2.1 U.1.2.2.1 ((6 : Int32) + ((p1 - (3 : Int32)) * (3 : Int32))).toNatClampNeg ((6 : Int32) + ((p1 - (3 : Int32)) * (3 : Int32))).toNatClampNeg (2 : Int32).toNatClampNeg), U.1.2.2.2))), U.2)) := hD
        obtain rfl := Option.some.inj hf
        exact x_vret hx hb hr hlocks hK hP hD hS (Nat.le_of_ble_eq_true rfl) (Nat.le_of_ble_eq_true rfl) d_Co_takePage_99
    · have hf := x_ifn c15 hf
      refine lv_iload_n hx hb d_Co_takePage_27 rfl (lv_at hl 2 rfl) ?_
      refine lv_iconst (v := (2 : Int32)) hx hb d_Co_takePage_28 (by decide) ?_
      refine lv_imul hx hb d_Co_takePage_29 ?_
      refine lv_goto (tgt := 41) hx hb d_Co_takePage_30 (by decide) ?_
      refine lv_istore_n (lv' := [(3, .int (p1 * (2 : Int32))), (0, .ref mh), (1, .ref dh), (2, .int p1)]) hx hb d_Co_takePage_41 rfl hl (by decide) rfl (fun ls hl => ?_)
      refine lv_iload_n hx hb d_Co_takePage_42 rfl (lv_at hl 3 rfl) ?_
      refine lv_iconst (v := (3 : Int32)) hx hb d_Co_takePage_43 (by decide) ?_
      refine lv_icmp_ge (tgt := 51) hx hb d_Co_takePage_44 (by decide) (fun c14 => ?_) (fun c14 => ?_)
      · have hf := x_ifp c14 hf
        refine lv_iconst (v := (3 : Int32)) hx hb d_Co_takePage_51 (by decide) ?_
        refine lv_istore (lv' := [(4, .int (3 : Int32)), (3, .int (p1 * (2 : Int32))), (0, .ref mh), (1, .ref dh), (2, .int p1)]) hx hb d_Co_takePage_52 hl (by decide) rfl (fun ls hl => ?_)
        refine lv_aload_n hx hb d_Co_takePage_54 rfl (lv_at hl 3 rfl) ?_
        refine va_get (D := D) (ci := 0) (v := .ref d0) (C := R_Co) (T := F_Co) (N := 4) hx hb hts i_Co hown hK hP 5 rfl rfl 0 (by decide) (hts _ k_4) (fun _ h9 => h9) rfl d_Co_takePage_55 ?_
        refine lv_iload_n hx hb d_Co_takePage_58 rfl (lv_at hl 1 rfl) ?_
        refine lv_aload_n hx hb d_Co_takePage_59 rfl (lv_at hl 2 rfl) ?_
        refine va_get (D := D) (ci := 0) (v := .ref m0) (C := R_Co) (T := F_Co) (N := 4) hx hb hts i_Co hown hK hP 0 rfl rfl 0 (by decide) (hts _ k_4) (fun _ h9 => h9) rfl d_Co_takePage_60 ?_
        refine lv_iload_n hx hb d_Co_takePage_63 rfl (lv_at hl 1 rfl) ?_
        refine lv_iload hx hb d_Co_takePage_64 (lv_at hl 0 rfl) ?_
        obtain ⟨⟨g10a, g10b, g10c, g10d, g10e⟩, hf⟩ := x_if hf
        refine va_copyi hx hb (hml.trans hl.1.symm) hown (hts _ k_13) (hts _ k_14) (hts _ k_15) (hts _ k_16) hK hP hD hS 6 1 0 0 rfl rfl rfl rfl rfl g10a g10b g10c g10d g10e (fun _ _ => rfl) (Nat.le_of_ble_eq_true rfl) (by simp only [rm_Co_takePage]; decide) d_Co_takePage_66 (fun H locs hP hD hS => ?_)
        have hP : va_P D vwCl (w_CC cI cJ cZ mh m0 m1 m2 m3 dh d0 d1 d2 d3 (((va_cpy U.2.1 U.1.1 (p1 * (2 : Int32)).toNatClampNeg (p1 * (2 : Int32)).toNatClampNeg (3 : Int32).toNatClampNeg), U.1.2), U.2)) H := hP
        have hD : va_D A (w_CC cI cJ cZ mh m0 m1 m2 m3 dh d0 d1 d2 d3 (((va_cpy U.2.1 U.1.1 (p1 * (2 : Int32)).toNatClampNeg (p1 * (2 : Int32)).toNatClampNeg (3 : Int32).toNatClampNeg), U.1.2), U.2)) := hD
        refine lv_aload_n hx hb d_Co_takePage_69 rfl (lv_at hl 3 rfl) ?_
        refine va_get (D := D) (ci := 0) (v := .ref d1) (C := R_Co) (T := F_Co) (N := 4) hx hb hts i_Co hown hK hP 5 rfl rfl 1 (by decide) (hts _ k_5) (fun _ h9 => h9) rfl d_Co_takePage_70 ?_
        refine lv_iload_n hx hb d_Co_takePage_73 rfl (lv_at hl 1 rfl) ?_
        refine lv_aload_n hx hb d_Co_takePage_74 rfl (lv_at hl 2 rfl) ?_
        refine va_get (D := D) (ci := 0) (v := .ref m1) (C := R_Co) (T := F_Co) (N := 4) hx hb hts i_Co hown hK hP 0 rfl rfl 1 (by decide) (hts _ k_5) (fun _ h9 => h9) rfl d_Co_takePage_75 ?_
        refine lv_iload_n hx hb d_Co_takePage_78 rfl (lv_at hl 1 rfl) ?_
        refine lv_iload hx hb d_Co_takePage_79 (lv_at hl 0 rfl) ?_
        obtain ⟨⟨g9a, g9b, g9c, g9d, g9e⟩, hf⟩ := x_if hf
        refine va_copyi hx hb (hml.trans hl.1.symm) hown (hts _ k_13) (hts _ k_14) (hts _ k_15) (hts _ k_16) hK hP hD hS 7 2 0 0 rfl rfl rfl rfl rfl g9a g9b g9c g9d g9e (fun _ _ => rfl) (Nat.le_of_ble_eq_true rfl) (by simp only [rm_Co_takePage]; decide) d_Co_takePage_81 (fun H locs hP hD hS => ?_)
        have hP : va_P D vwCl (w_CC cI cJ cZ mh m0 m1 m2 m3 dh d0 d1 d2 d3 (((va_cpy U.2.1 U.1.1 (p1 * (2 : Int32)).toNatClampNeg (p1 * (2 : Int32)).toNatClampNeg (3 : Int32).toNatClampNeg), ((va_cpy U.2.2.1 U.1.2.1 (p1 * (2 : Int32)).toNatClampNeg (p1 * (2 : Int32)).toNatClampNeg (3 : Int32).toNatClampNeg), U.1.2.2)), U.2)) H := hP
        have hD : va_D A (w_CC cI cJ cZ mh m0 m1 m2 m3 dh d0 d1 d2 d3 (((va_cpy U.2.1 U.1.1 (p1 * (2 : Int32)).toNatClampNeg (p1 * (2 : Int32)).toNatClampNeg (3 : Int32).toNatClampNeg), ((va_cpy U.2.2.1 U.1.2.1 (p1 * (2 : Int32)).toNatClampNeg (p1 * (2 : Int32)).toNatClampNeg (3 : Int32).toNatClampNeg), U.1.2.2)), U.2)) := hD
        refine lv_aload_n hx hb d_Co_takePage_84 rfl (lv_at hl 3 rfl) ?_
        refine va_get (D := D) (ci := 0) (v := .ref d2) (C := R_Co) (T := F_Co) (N := 4) hx hb hts i_Co hown hK hP 5 rfl rfl 2 (by decide) (hts _ k_6) (fun _ h9 => h9) rfl d_Co_takePage_85 ?_
        refine lv_iload_n hx hb d_Co_takePage_88 rfl (lv_at hl 1 rfl) ?_
        refine lv_aload_n hx hb d_Co_takePage_89 rfl (lv_at hl 2 rfl) ?_
        refine va_get (D := D) (ci := 0) (v := .ref m2) (C := R_Co) (T := F_Co) (N := 4) hx hb hts i_Co hown hK hP 0 rfl rfl 2 (by decide) (hts _ k_6) (fun _ h9 => h9) rfl d_Co_takePage_90 ?_
        refine lv_iload_n hx hb d_Co_takePage_93 rfl (lv_at hl 1 rfl) ?_
        refine lv_iload hx hb d_Co_takePage_94 (lv_at hl 0 rfl) ?_
        obtain ⟨⟨g8a, g8b, g8c, g8d, g8e⟩, hf⟩ := x_if hf
        refine va_copyi hx hb (hml.trans hl.1.symm) hown (hts _ k_13) (hts _ k_14) (hts _ k_15) (hts _ k_16) hK hP hD hS 8 3 0 0 rfl rfl rfl rfl rfl g8a g8b g8c g8d g8e (fun _ _ => rfl) (Nat.le_of_ble_eq_true rfl) (by simp only [rm_Co_takePage]; decide) d_Co_takePage_96 (fun H locs hP hD hS => ?_)
        have hP : va_P D vwCl (w_CC cI cJ cZ mh m0 m1 m2 m3 dh d0 d1 d2 d3 (((va_cpy U.2.1 U.1.1 (p1 * (2 : Int32)).toNatClampNeg (p1 * (2 : Int32)).toNatClampNeg (3 : Int32).toNatClampNeg), ((va_cpy U.2.2.1 U.1.2.1 (p1 * (2 : Int32)).toNatClampNeg (p1 * (2 : Int32)).toNatClampNeg (3 : Int32).toNatClampNeg), ((va_cpy U.2.2.2.1 U.1.2.2.1 (p1 * (2 : Int32)).toNatClampNeg (p1 * (2 : Int32)).toNatClampNeg (3 : Int32).toNatClampNeg), U.1.2.2.2))), U.2)) H := hP
        have hD : va_D A (w_CC cI cJ cZ mh m0 m1 m2 m3 dh d0 d1 d2 d3 (((va_cpy U.2.1 U.1.1 (p1 * (2 : Int32)).toNatClampNeg (p1 * (2 : Int32)).toNatClampNeg (3 : Int32).toNatClampNeg), ((va_cpy U.2.2.1 U.1.2.1 (p1 * (2 : Int32)).toNatClampNeg (p1 * (2 : Int32)).toNatClampNeg (3 : Int32).toNatClampNeg), ((va_cpy U.2.2.2.1 U.1.2.2.1 (p1 * (2 : Int32)).toNatClampNeg (p1 * (2 : Int32)).toNatClampNeg (3 : Int32).toNatClampNeg), U.1.2.2.2))), U.2)) := hD
        obtain rfl := Option.some.inj hf
        exact x_vret hx hb hr hlocks hK hP hD hS (Nat.le_of_ble_eq_true rfl) (Nat.le_of_ble_eq_true rfl) d_Co_takePage_99
      · have hf := x_ifn c14 hf
        refine lv_iconst (v := (2 : Int32)) hx hb d_Co_takePage_47 (by decide) ?_
        refine lv_goto (tgt := 52) hx hb d_Co_takePage_48 (by decide) ?_
        refine lv_istore (lv' := [(4, .int (2 : Int32)), (3, .int (p1 * (2 : Int32))), (0, .ref mh), (1, .ref dh), (2, .int p1)]) hx hb d_Co_takePage_52 hl (by decide) rfl (fun ls hl => ?_)
        refine lv_aload_n hx hb d_Co_takePage_54 rfl (lv_at hl 3 rfl) ?_
        refine va_get (D := D) (ci := 0) (v := .ref d0) (C := R_Co) (T := F_Co) (N := 4) hx hb hts i_Co hown hK hP 5 rfl rfl 0 (by decide) (hts _ k_4) (fun _ h9 => h9) rfl d_Co_takePage_55 ?_
        refine lv_iload_n hx hb d_Co_takePage_58 rfl (lv_at hl 1 rfl) ?_
        refine lv_aload_n hx hb d_Co_takePage_59 rfl (lv_at hl 2 rfl) ?_
        refine va_get (D := D) (ci := 0) (v := .ref m0) (C := R_Co) (T := F_Co) (N := 4) hx hb hts i_Co hown hK hP 0 rfl rfl 0 (by decide) (hts _ k_4) (fun _ h9 => h9) rfl d_Co_takePage_60 ?_
        refine lv_iload_n hx hb d_Co_takePage_63 rfl (lv_at hl 1 rfl) ?_
        refine lv_iload hx hb d_Co_takePage_64 (lv_at hl 0 rfl) ?_
        obtain ⟨⟨g13a, g13b, g13c, g13d, g13e⟩, hf⟩ := x_if hf
        refine va_copyi hx hb (hml.trans hl.1.symm) hown (hts _ k_13) (hts _ k_14) (hts _ k_15) (hts _ k_16) hK hP hD hS 6 1 0 0 rfl rfl rfl rfl rfl g13a g13b g13c g13d g13e (fun _ _ => rfl) (Nat.le_of_ble_eq_true rfl) (by simp only [rm_Co_takePage]; decide) d_Co_takePage_66 (fun H locs hP hD hS => ?_)
        have hP : va_P D vwCl (w_CC cI cJ cZ mh m0 m1 m2 m3 dh d0 d1 d2 d3 (((va_cpy U.2.1 U.1.1 (p1 * (2 : Int32)).toNatClampNeg (p1 * (2 : Int32)).toNatClampNeg (2 : Int32).toNatClampNeg), U.1.2), U.2)) H := hP
        have hD : va_D A (w_CC cI cJ cZ mh m0 m1 m2 m3 dh d0 d1 d2 d3 (((va_cpy U.2.1 U.1.1 (p1 * (2 : Int32)).toNatClampNeg (p1 * (2 : Int32)).toNatClampNeg (2 : Int32).toNatClampNeg), U.1.2), U.2)) := hD
        refine lv_aload_n hx hb d_Co_takePage_69 rfl (lv_at hl 3 rfl) ?_
        refine va_get (D := D) (ci := 0) (v := .ref d1) (C := R_Co) (T := F_Co) (N := 4) hx hb hts i_Co hown hK hP 5 rfl rfl 1 (by decide) (hts _ k_5) (fun _ h9 => h9) rfl d_Co_takePage_70 ?_
        refine lv_iload_n hx hb d_Co_takePage_73 rfl (lv_at hl 1 rfl) ?_
        refine lv_aload_n hx hb d_Co_takePage_74 rfl (lv_at hl 2 rfl) ?_
        refine va_get (D := D) (ci := 0) (v := .ref m1) (C := R_Co) (T := F_Co) (N := 4) hx hb hts i_Co hown hK hP 0 rfl rfl 1 (by decide) (hts _ k_5) (fun _ h9 => h9) rfl d_Co_takePage_75 ?_
        refine lv_iload_n hx hb d_Co_takePage_78 rfl (lv_at hl 1 rfl) ?_
        refine lv_iload hx hb d_Co_takePage_79 (lv_at hl 0 rfl) ?_
        obtain ⟨⟨g12a, g12b, g12c, g12d, g12e⟩, hf⟩ := x_if hf
        refine va_copyi hx hb (hml.trans hl.1.symm) hown (hts _ k_13) (hts _ k_14) (hts _ k_15) (hts _ k_16) hK hP hD hS 7 2 0 0 rfl rfl rfl rfl rfl g12a g12b g12c g12d g12e (fun _ _ => rfl) (Nat.le_of_ble_eq_true rfl) (by simp only [rm_Co_takePage]; decide) d_Co_takePage_81 (fun H locs hP hD hS => ?_)
        have hP : va_P D vwCl (w_CC cI cJ cZ mh m0 m1 m2 m3 dh d0 d1 d2 d3 (((va_cpy U.2.1 U.1.1 (p1 * (2 : Int32)).toNatClampNeg (p1 * (2 : Int32)).toNatClampNeg (2 : Int32).toNatClampNeg), ((va_cpy U.2.2.1 U.1.2.1 (p1 * (2 : Int32)).toNatClampNeg (p1 * (2 : Int32)).toNatClampNeg (2 : Int32).toNatClampNeg), U.1.2.2)), U.2)) H := hP
        have hD : va_D A (w_CC cI cJ cZ mh m0 m1 m2 m3 dh d0 d1 d2 d3 (((va_cpy U.2.1 U.1.1 (p1 * (2 : Int32)).toNatClampNeg (p1 * (2 : Int32)).toNatClampNeg (2 : Int32).toNatClampNeg), ((va_cpy U.2.2.1 U.1.2.1 (p1 * (2 : Int32)).toNatClampNeg (p1 * (2 : Int32)).toNatClampNeg (2 : Int32).toNatClampNeg), U.1.2.2)), U.2)) := hD
        refine lv_aload_n hx hb d_Co_takePage_84 rfl (lv_at hl 3 rfl) ?_
        refine va_get (D := D) (ci := 0) (v := .ref d2) (C := R_Co) (T := F_Co) (N := 4) hx hb hts i_Co hown hK hP 5 rfl rfl 2 (by decide) (hts _ k_6) (fun _ h9 => h9) rfl d_Co_takePage_85 ?_
        refine lv_iload_n hx hb d_Co_takePage_88 rfl (lv_at hl 1 rfl) ?_
        refine lv_aload_n hx hb d_Co_takePage_89 rfl (lv_at hl 2 rfl) ?_
        refine va_get (D := D) (ci := 0) (v := .ref m2) (C := R_Co) (T := F_Co) (N := 4) hx hb hts i_Co hown hK hP 0 rfl rfl 2 (by decide) (hts _ k_6) (fun _ h9 => h9) rfl d_Co_takePage_90 ?_
        refine lv_iload_n hx hb d_Co_takePage_93 rfl (lv_at hl 1 rfl) ?_
        refine lv_iload hx hb d_Co_takePage_94 (lv_at hl 0 rfl) ?_
        obtain ⟨⟨g11a, g11b, g11c, g11d, g11e⟩, hf⟩ := x_if hf
        refine va_copyi hx hb (hml.trans hl.1.symm) hown (hts _ k_13) (hts _ k_14) (hts _ k_15) (hts _ k_16) hK hP hD hS 8 3 0 0 rfl rfl rfl rfl rfl g11a g11b g11c g11d g11e (fun _ _ => rfl) (Nat.le_of_ble_eq_true rfl) (by simp only [rm_Co_takePage]; decide) d_Co_takePage_96 (fun H locs hP hD hS => ?_)
        have hP : va_P D vwCl (w_CC cI cJ cZ mh m0 m1 m2 m3 dh d0 d1 d2 d3 (((va_cpy U.2.1 U.1.1 (p1 * (2 : Int32)).toNatClampNeg (p1 * (2 : Int32)).toNatClampNeg (2 : Int32).toNatClampNeg), ((va_cpy U.2.2.1 U.1.2.1 (p1 * (2 : Int32)).toNatClampNeg (p1 * (2 : Int32)).toNatClampNeg (2 : Int32).toNatClampNeg), ((va_cpy U.2.2.2.1 U.1.2.2.1 (p1 * (2 : Int32)).toNatClampNeg (p1 * (2 : Int32)).toNatClampNeg (2 : Int32).toNatClampNeg), U.1.2.2.2))), U.2)) H := hP
        have hD : va_D A (w_CC cI cJ cZ mh m0 m1 m2 m3 dh d0 d1 d2 d3 (((va_cpy U.2.1 U.1.1 (p1 * (2 : Int32)).toNatClampNeg (p1 * (2 : Int32)).toNatClampNeg (2 : Int32).toNatClampNeg), ((va_cpy U.2.2.1 U.1.2.1 (p1 * (2 : Int32)).toNatClampNeg (p1 * (2 : Int32)).toNatClampNeg (2 : Int32).toNatClampNeg), ((va_cpy U.2.2.2.1 U.1.2.2.1 (p1 * (2 : Int32)).toNatClampNeg (p1 * (2 : Int32)).toNatClampNeg (2 : Int32).toNatClampNeg), U.1.2.2.2))), U.2)) := hD
        obtain rfl := Option.some.inj hf
        exact x_vret hx hb hr hlocks hK hP hD hS (Nat.le_of_ble_eq_true rfl) (Nat.le_of_ble_eq_true rfl) d_Co_takePage_99
  · have hf := x_ifp c17 hf
    refine lv_aload_n hx hb d_Co_takePage_6 rfl (lv_at hl 1 rfl) ?_
    refine va_get (D := D) (ci := 0) (v := .ref d3) (C := R_Co) (T := F_Co) (N := 4) hx hb hts i_Co hown hK hP 5 rfl rfl 3 (by decide) (hts _ k_7) (fun _ h9 => h9) rfl d_Co_takePage_7 ?_
    refine lv_iconst (v := (0 : Int32)) hx hb d_Co_takePage_10 (by decide) ?_
    refine lv_aload_n hx hb d_Co_takePage_11 rfl (lv_at hl 0 rfl) ?_
    refine va_get (D := D) (ci := 0) (v := .ref m3) (C := R_Co) (T := F_Co) (N := 4) hx hb hts i_Co hown hK hP 0 rfl rfl 3 (by decide) (hts _ k_7) (fun _ h9 => h9) rfl d_Co_takePage_12 ?_
    refine lv_iconst (v := (0 : Int32)) hx hb d_Co_takePage_15 (by decide) ?_
    refine lv_bipush (v := (41 : Int32)) hx hb d_Co_takePage_16 (by decide) ?_
    refine va_copyi hx hb (hml.trans hl.1.symm) hown (hts _ k_13) (hts _ k_14) (hts _ k_15) (hts _ k_16) hK hP hD hS 9 4 0 0 rfl rfl rfl rfl rfl (by decide) (by decide) (by decide) (by decide) (by decide) (fun _ _ => rfl) (Nat.le_of_ble_eq_true rfl) (by simp only [rm_Co_takePage]; decide) d_Co_takePage_18 (fun H locs hP hD hS => ?_)
    have hP : va_P D vwCl (w_CC cI cJ cZ mh m0 m1 m2 m3 dh d0 d1 d2 d3 ((U.1.1, (U.1.2.1, (U.1.2.2.1, (va_cpy U.2.2.2.2 U.1.2.2.2 (0 : Int32).toNatClampNeg (0 : Int32).toNatClampNeg (41 : Int32).toNatClampNeg)))), U.2)) H := hP
    have hD : va_D A (w_CC cI cJ cZ mh m0 m1 m2 m3 dh d0 d1 d2 d3 ((U.1.1, (U.1.2.1, (U.1.2.2.1, (va_cpy U.2.2.2.2 U.1.2.2.2 (0 : Int32).toNatClampNeg (0 : Int32).toNatClampNeg (41 : Int32).toNatClampNeg)))), U.2)) := hD
    obtain rfl := Option.some.inj hf
    exact x_vret hx hb hr hlocks hK hP hD hS (Nat.le_of_ble_eq_true rfl) (Nat.le_of_ble_eq_true rfl) d_Co_takePage_21
set_option maxHeartbeats 4000000 in
set_option maxRecDepth 100000 in
theorem c_Co_isRolled (l : Launch) (D : va_G) (cI cJ cZ : ClassId) (mh m0 m1 m2 m3 : Nat) (N : Nat) (p0 : Int32) (U : K_Co) (r : (Int32 × K_Co)) (hf : f_Co_isRolled N p0 U = some r) : Cx l y_Co_isRolled ws_Co_isRolled rm_Co_isRolled D vwCl (tyL cI cJ cZ) [.ref mh, .int p0] (w_Co cI cJ cZ mh m0 m1 m2 m3 U) (oI r.1) (w_Co cI cJ cZ mh m0 m1 m2 m3 r.2) := by
  unfold f_Co_isRolled at hf
  refine Cx.ofW (cc := b_Co_isRolled) (maxL := 2) (ret := (some .boolean)) (by decide) rfl ?_
  intro p e s m below meth c A C0 hP hK hD hA hns hZ
  obtain ⟨hx, hb, hml, hown, hts0, hr, hlocks, hnm, hno⟩ := C0
  have hown : s.vm.findClass R_Co = some m.cls := hown
  have hts : ∀ w ∈ tb, w.before [.ref mh, .int p0].toArray s = true := fun w h => hts0 w (List.mem_cons_of_mem _ h)
  have hS : va_S A s.heap s.heap [] := va_S.rf
  have hl := lv_entry ([.ref mh, .int p0]) (n := 2) (Nat.le_of_ble_eq_true rfl)
  rw [lg_entry_eq]
  generalize (lg_sl ([.ref mh, .int p0]) ++ List.replicate (2 - (lg_sl ([.ref mh, .int p0])).length) Slot.unset).toArray = ls at hl ⊢
  have hl : lv_has ls 2 [(0, .ref mh), (1, .int p0)] := hl
  refine lv_aload_n hx hb d_Co_isRolled_0 rfl (lv_at hl 0 rfl) ?_
  refine va_get (D := D) (ci := 0) (v := .ref m0) (C := R_Co) (T := F_Co) (N := 4) hx hb hts i_Co hown hK hP 0 rfl rfl 0 (by decide) (hts _ k_4) (fun _ h9 => h9) rfl d_Co_isRolled_1 ?_
  refine lv_iload_n hx hb d_Co_isRolled_4 rfl (lv_at hl 1 rfl) ?_
  obtain ⟨g1, hf⟩ := x_if hf
  refine va_iald hx hb hK hP 1 0 rfl rfl (xi_in g1) d_Co_isRolled_5 ?_
  refine lv_if_eq (tgt := 28) hx hb d_Co_isRolled_6 (by decide) (fun c5 => ?_) (fun c5 => ?_)
  · have hf := x_ifp c5 hf
    refine lv_iconst (v := (0 : Int32)) hx hb d_Co_isRolled_28 (by decide) ?_
    obtain rfl := Option.some.inj hf
    exact x_zret hx hb hr hlocks (x_nb (Or.inl rfl)) hK hP hD hS (Nat.le_of_ble_eq_true rfl) (Nat.le_of_ble_eq_true rfl) d_Co_isRolled_29
  · have hf := x_ifn c5 hf
    refine lv_aload_n hx hb d_Co_isRolled_9 rfl (lv_at hl 0 rfl) ?_
    refine va_get (D := D) (ci := 0) (v := .ref m3) (C := R_Co) (T := F_Co) (N := 4) hx hb hts i_Co hown hK hP 0 rfl rfl 3 (by decide) (hts _ k_7) (fun _ h9 => h9) rfl d_Co_isRolled_10 ?_
    refine lv_aload_n hx hb d_Co_isRolled_13 rfl (lv_at hl 0 rfl) ?_
    refine va_get (D := D) (ci := 0) (v := .ref m0) (C := R_Co) (T := F_Co) (N := 4) hx hb hts i_Co hown hK hP 0 rfl rfl 0 (by decide) (hts _ k_4) (fun _ h9 => h9) rfl d_Co_isRolled_14 ?_
    refine lv_iload_n hx hb d_Co_isRolled_17 rfl (lv_at hl 1 rfl) ?_
    obtain ⟨g2, hf⟩ := x_if hf
    refine va_iald hx hb hK hP 1 0 rfl rfl (xi_in g2) d_Co_isRolled_18 ?_
    obtain ⟨g3, hf⟩ := x_if hf
    refine va_iald hx hb hK hP 4 0 rfl rfl (xi_in g3) d_Co_isRolled_19 ?_
    refine lv_iconst (v := (3 : Int32)) hx hb d_Co_isRolled_20 (by decide) ?_
    refine lv_icmp_ne (tgt := 28) hx hb d_Co_isRolled_21 (by decide) (fun c4 => ?_) (fun c4 => ?_)
    · have hf := x_ifn c4 hf
      refine lv_iconst (v := (0 : Int32)) hx hb d_Co_isRolled_28 (by decide) ?_
      obtain rfl := Option.some.inj hf
      exact x_zret hx hb hr hlocks (x_nb (Or.inl rfl)) hK hP hD hS (Nat.le_of_ble_eq_true rfl) (Nat.le_of_ble_eq_true rfl) d_Co_isRolled_29
    · have hf := x_ifp c4 hf
      refine lv_iconst (v := (1 : Int32)) hx hb d_Co_isRolled_24 (by decide) ?_
      refine lv_goto (tgt := 29) hx hb d_Co_isRolled_25 (by decide) ?_
      obtain rfl := Option.some.inj hf
      exact x_zret hx hb hr hlocks (x_nb (Or.inr rfl)) hK hP hD hS (Nat.le_of_ble_eq_true rfl) (Nat.le_of_ble_eq_true rfl) d_Co_isRolled_29
set_option maxHeartbeats 4000000 in
set_option maxRecDepth 100000 in
theorem c_Co_next (l : Launch) (D : va_G) (cI cJ cZ : ClassId) (mh m0 m1 m2 m3 : Nat) (N : Nat) (p0 : Int32) (U : K_Co) (r : (Int32 × K_Co)) (hf : f_Co_next N p0 U = some r) : Cx l y_Co_next ws_Co_next rm_Co_next D vwCl (tyL cI cJ cZ) [.ref mh, .int p0] (w_Co cI cJ cZ mh m0 m1 m2 m3 U) (oI r.1) (w_Co cI cJ cZ mh m0 m1 m2 m3 r.2) := by
  unfold f_Co_next at hf
  refine Cx.ofW (cc := b_Co_next) (maxL := 3) (ret := (some .int)) (by decide) rfl ?_
  intro p e s m below meth c A C0 hP hK hD hA hns hZ
  obtain ⟨hx, hb, hml, hown, hts0, hr, hlocks, hnm, hno⟩ := C0
  have hown : s.vm.findClass R_Co = some m.cls := hown
  have hts : ∀ w ∈ tb, w.before [.ref mh, .int p0].toArray s = true := fun w h => hts0 w (List.mem_cons_of_mem _ h)
  have hS : va_S A s.heap s.heap [] := va_S.rf
  have hl := lv_entry ([.ref mh, .int p0]) (n := 3) (Nat.le_of_ble_eq_true rfl)
  rw [lg_entry_eq]
  generalize (lg_sl ([.ref mh, .int p0]) ++ List.replicate (3 - (lg_sl ([.ref mh, .int p0])).length) Slot.unset).toArray = ls at hl ⊢
  have hl : lv_has ls 3 [(0, .ref mh), (1, .int p0)] := hl
  refine lv_aload_n hx hb d_Co_next_0 rfl (lv_at hl 0 rfl) ?_
  refine va_get (D := D) (ci := 0) (v := .ref m2) (C := R_Co) (T := F_Co) (N := 4) hx hb hts i_Co hown hK hP 0 rfl rfl 2 (by decide) (hts _ k_6) (fun _ h9 => h9) rfl d_Co_next_1 ?_
  refine lv_iload_n hx hb d_Co_next_4 rfl (lv_at hl 1 rfl) ?_
  obtain ⟨g1, hf⟩ := x_if hf
  refine va_iald hx hb hK hP 3 0 rfl rfl (xi_in g1) d_Co_next_5 ?_
  refine lv_istore_n (lv' := [(2, .int (U.2.2.1 p0.toNatClampNeg)), (0, .ref mh), (1, .int p0)]) hx hb d_Co_next_6 rfl hl (by decide) rfl (fun ls hl => ?_)
  refine lv_iload_n hx hb d_Co_next_7 rfl (lv_at hl 0 rfl) ?_
  refine lv_iconst (v := (-1 : Int32)) hx hb d_Co_next_8 (by decide) ?_
  refine lv_icmp_eq (tgt := 21) hx hb d_Co_next_9 (by decide) (fun c4 => ?_) (fun c4 => ?_)
  · have hf := x_ifp c4 hf
    refine lv_iconst (v := (-1 : Int32)) hx hb d_Co_next_21 (by decide) ?_
    refine lv_goto (tgt := 26) hx hb d_Co_next_22 (by decide) ?_
    obtain rfl := Option.some.inj hf
    exact x_iret hx hb hr hlocks hK hP hD hS (Nat.le_of_ble_eq_true rfl) (Nat.le_of_ble_eq_true rfl) d_Co_next_26
  · have hf := x_ifn c4 hf
    refine lv_aload_n hx hb d_Co_next_12 rfl (lv_at hl 1 rfl) ?_
    refine va_get (D := D) (ci := 0) (v := .ref m0) (C := R_Co) (T := F_Co) (N := 4) hx hb hts i_Co hown hK hP 0 rfl rfl 0 (by decide) (hts _ k_4) (fun _ h9 => h9) rfl d_Co_next_13 ?_
    refine lv_iload_n hx hb d_Co_next_16 rfl (lv_at hl 0 rfl) ?_
    obtain ⟨g2, hf⟩ := x_if hf
    refine va_iald hx hb hK hP 1 0 rfl rfl (xi_in g2) d_Co_next_17 ?_
    refine lv_if_ne (tgt := 25) hx hb d_Co_next_18 (by decide) (fun c3 => ?_) (fun c3 => ?_)
    · have hf := x_ifn c3 hf
      refine lv_iload_n hx hb d_Co_next_25 rfl (lv_at hl 0 rfl) ?_
      obtain rfl := Option.some.inj hf
      exact x_iret hx hb hr hlocks hK hP hD hS (Nat.le_of_ble_eq_true rfl) (Nat.le_of_ble_eq_true rfl) d_Co_next_26
    · have hf := x_ifp c3 hf
      refine lv_iconst (v := (-1 : Int32)) hx hb d_Co_next_21 (by decide) ?_
      refine lv_goto (tgt := 26) hx hb d_Co_next_22 (by decide) ?_
      obtain rfl := Option.some.inj hf
      exact x_iret hx hb hr hlocks hK hP hD hS (Nat.le_of_ble_eq_true rfl) (Nat.le_of_ble_eq_true rfl) d_Co_next_26
