set_option maxHeartbeats 4000000 in
set_option maxRecDepth 100000 in
theorem c_St_init (l : Launch) (D : va_G) (cI cJ cZ : ClassId) (sh : Nat) (N : Nat) (r : K_St) (hf : f_St_init N = some r) : Cxe l y_St_init ws_St_init rm_St_init D vwCl (tyL cI cJ cZ) [.ref sh] [(sh, .inr (1, [.null, .null, .null, .int 0, .int 0, .int 0, .int 0]))] (fun a : Nat → Nat => (w_St cI cJ cZ sh (a 0) (a 1) (a 2) (a 3) (a 4) (a 5) (a 6) (a 7) (a 8) (a 9) (a 10) r)) := by
  unfold f_St_init at hf
  refine Cxe.ofW (cc := b_St_init) (maxL := 1) (ret := none) (by decide) rfl ?_
  intro p e s m below meth c A C0 hP hK hD hA hns hZ
  obtain ⟨hx, hb, hml, hown, hts0, hr, hlocks, hnm, hno⟩ := C0
  have hown : s.vm.findClass R_St = some m.cls := hown
  have hts : ∀ w ∈ tb, w.before [.ref sh].toArray s = true := fun w h => hts0 w (List.mem_cons_of_mem _ h)
  have hS : va_S A s.heap s.heap [] := va_S.rf
  have hl := lv_entry ([.ref sh]) (n := 1) (Nat.le_of_ble_eq_true rfl)
  rw [lg_entry_eq]
  generalize (lg_sl ([.ref sh]) ++ List.replicate (1 - (lg_sl ([.ref sh])).length) Slot.unset).toArray = ls at hl ⊢
  have hl : lv_has ls 1 [(0, .ref sh)] := hl
  refine lv_aload_n hx hb d_St_init_0 rfl (lv_at hl 0 rfl) ?_
  refine W.objInit hx hb hown (hts _ k_40) (hts _ k_1) (hts _ k_2) rfl (by rw [hml]; exact hl.1) rfl d_St_init_1 (Nat.le_of_ble_eq_true rfl) (Nat.le_of_ble_eq_true rfl) ?_
  refine W.eq (g2 := F0 m 4 ls []) rfl ?_
  refine lv_aload_n hx hb d_St_init_4 rfl (lv_at hl 0 rfl) ?_
  refine va_new (ci := 0) (fs := [.null, .null, .null, .null]) (C := R_Co) (T := F_Co) (N := 4) hx hb hts i_Co t_Co t_Co_ok hown (hts _ k_41) (hts _ k_42) (hts _ k_11) hK hP hD hS hA rfl (fun j hj => x_fs_Co j hj) (Nat.le_of_ble_eq_true rfl) (Nat.le_of_ble_eq_true rfl) d_St_init_5 (fun q1 H hP hD hS => ?_)
  have hP : va_P D vwCl [(sh, .inr (1, [.null, .null, .null, .int 0, .int 0, .int 0, .int 0])), (q1, .inr (0, [.null, .null, .null, .null]))] H := hP
  have hD : va_D A [(sh, .inr (1, [.null, .null, .null, .int 0, .int 0, .int 0, .int 0])), (q1, .inr (0, [.null, .null, .null, .null]))] := hD
  refine lv_dup hx hb d_St_init_8 rfl ?_
  obtain ⟨z2, hz2, hf⟩ := x_bind hf
  refine x_callE ⟨hx, hb, hml, hown, hts⟩ (c_Co_init l D cI cJ cZ q1 N z2 hz2) (x_cwI 0 hts rfl k_43 k_44 k_11 k_45 rfl (by decide +kernel) ⟨(Nat.le_of_ble_eq_true rfl), (Nat.le_of_ble_eq_true rfl)⟩) hK hP hD hS hA hZ [1] [0] (by decide) rfl rfl (by decide) (by decide) rfl hl.1 rfl (Nat.le_of_ble_eq_true rfl) d_St_init_9 ⟨(Nat.le_of_ble_eq_true rfl), (Nat.le_of_ble_eq_true rfl)⟩ (fun q3 H locs hP hD hS => ?_)
  refine W.eq (g2 := F0 m 12 ls [.ref q1, .ref sh]) rfl ?_
  have hP : va_P D vwCl [(sh, .inr (1, [.null, .null, .null, .int 0, .int 0, .int 0, .int 0])), (q1, .inr (0, [.ref (q3 0), .ref (q3 1), .ref (q3 2), .ref (q3 3)])), ((q3 0), .inl (cI, 15, .inl z2.1)), ((q3 1), .inl (cI, 15, .inl z2.2.1)), ((q3 2), .inl (cI, 15, .inl z2.2.2.1)), ((q3 3), .inl (cI, 41, .inl z2.2.2.2))] H := hP
  have hD : va_D A [(sh, .inr (1, [.null, .null, .null, .int 0, .int 0, .int 0, .int 0])), (q1, .inr (0, [.ref (q3 0), .ref (q3 1), .ref (q3 2), .ref (q3 3)])), ((q3 0), .inl (cI, 15, .inl z2.1)), ((q3 1), .inl (cI, 15, .inl z2.2.1)), ((q3 2), .inl (cI, 15, .inl z2.2.2.1)), ((q3 3), .inl (cI, 41, .inl z2.2.2.2))] := hD
  refine va_putF (D := D) (ci := 1) (v := .ref q1) (ty := .object "RecordVersions$Content") (C := R_St) (T := F_St) (N := 7) hx hb hts i_St t_St t_St_ok n_St hown hK hP hD hS 0 rfl rfl 0 (by decide) (hts _ k_46) (fun _ h9 => h9) rfl hnm rfl (by decide +kernel) rfl rfl (Nat.le_of_ble_eq_true rfl) d_St_init_12 (fun H locs hP hD hS => ?_)
  have hP : va_P D vwCl [(sh, .inr (1, [.ref q1, .null, .null, .int 0, .int 0, .int 0, .int 0])), (q1, .inr (0, [.ref (q3 0), .ref (q3 1), .ref (q3 2), .ref (q3 3)])), ((q3 0), .inl (cI, 15, .inl z2.1)), ((q3 1), .inl (cI, 15, .inl z2.2.1)), ((q3 2), .inl (cI, 15, .inl z2.2.2.1)), ((q3 3), .inl (cI, 41, .inl z2.2.2.2))] H := hP
  have hD : va_D A [(sh, .inr (1, [.ref q1, .null, .null, .int 0, .int 0, .int 0, .int 0])), (q1, .inr (0, [.ref (q3 0), .ref (q3 1), .ref (q3 2), .ref (q3 3)])), ((q3 0), .inl (cI, 15, .inl z2.1)), ((q3 1), .inl (cI, 15, .inl z2.2.1)), ((q3 2), .inl (cI, 15, .inl z2.2.2.1)), ((q3 3), .inl (cI, 41, .inl z2.2.2.2))] := hD
  refine lv_aload_n hx hb d_St_init_15 rfl (lv_at hl 0 rfl) ?_
  refine va_new (ci := 0) (fs := [.null, .null, .null, .null]) (C := R_Co) (T := F_Co) (N := 4) hx hb hts i_Co t_Co t_Co_ok hown (hts _ k_41) (hts _ k_42) (hts _ k_11) hK hP hD hS hA rfl (fun j hj => x_fs_Co j hj) (Nat.le_of_ble_eq_true rfl) (Nat.le_of_ble_eq_true rfl) d_St_init_16 (fun q4 H hP hD hS => ?_)
  have hP : va_P D vwCl [(sh, .inr (1, [.ref q1, .null, .null, .int 0, .int 0, .int 0, .int 0])), (q1, .inr (0, [.ref (q3 0), .ref (q3 1), .ref (q3 2), .ref (q3 3)])), ((q3 0), .inl (cI, 15, .inl z2.1)), ((q3 1), .inl (cI, 15, .inl z2.2.1)), ((q3 2), .inl (cI, 15, .inl z2.2.2.1)), ((q3 3), .inl (cI, 41, .inl z2.2.2.2)), (q4, .inr (0, [.null, .null, .null, .null]))] H := hP
  have hD : va_D A [(sh, .inr (1, [.ref q1, .null, .null, .int 0, .int 0, .int 0, .int 0])), (q1, .inr (0, [.ref (q3 0), .ref (q3 1), .ref (q3 2), .ref (q3 3)])), ((q3 0), .inl (cI, 15, .inl z2.1)), ((q3 1), .inl (cI, 15, .inl z2.2.1)), ((q3 2), .inl (cI, 15, .inl z2.2.2.1)), ((q3 3), .inl (cI, 41, .inl z2.2.2.2)), (q4, .inr (0, [.null, .null, .null, .null]))] := hD
  refine lv_dup hx hb d_St_init_19 rfl ?_
  obtain ⟨z5, hz5, hf⟩ := x_bind hf
  refine x_callE ⟨hx, hb, hml, hown, hts⟩ (c_Co_init l D cI cJ cZ q4 N z5 hz5) (x_cwI 0 hts rfl k_43 k_44 k_11 k_45 rfl (by decide +kernel) ⟨(Nat.le_of_ble_eq_true rfl), (Nat.le_of_ble_eq_true rfl)⟩) hK hP hD hS hA hZ [6] [0, 1, 2, 3, 4, 5] (by decide) rfl rfl (by decide) (by decide) rfl hl.1 rfl (Nat.le_of_ble_eq_true rfl) d_St_init_20 ⟨(Nat.le_of_ble_eq_true rfl), (Nat.le_of_ble_eq_true rfl)⟩ (fun q6 H locs hP hD hS => ?_)
  refine W.eq (g2 := F0 m 23 ls [.ref q4, .ref sh]) rfl ?_
  have hP : va_P D vwCl [(sh, .inr (1, [.ref q1, .null, .null, .int 0, .int 0, .int 0, .int 0])), (q1, .inr (0, [.ref (q3 0), .ref (q3 1), .ref (q3 2), .ref (q3 3)])), ((q3 0), .inl (cI, 15, .inl z2.1)), ((q3 1), .inl (cI, 15, .inl z2.2.1)), ((q3 2), .inl (cI, 15, .inl z2.2.2.1)), ((q3 3), .inl (cI, 41, .inl z2.2.2.2)), (q4, .inr (0, [.ref (q6 0), .ref (q6 1), .ref (q6 2), .ref (q6 3)])), ((q6 0), .inl (cI, 15, .inl z5.1)), ((q6 1), .inl (cI, 15, .inl z5.2.1)), ((q6 2), .inl (cI, 15, .inl z5.2.2.1)), ((q6 3), .inl (cI, 41, .inl z5.2.2.2))] H := hP
  have hD : va_D A [(sh, .inr (1, [.ref q1, .null, .null, .int 0, .int 0, .int 0, .int 0])), (q1, .inr (0, [.ref (q3 0), .ref (q3 1), .ref (q3 2), .ref (q3 3)])), ((q3 0), .inl (cI, 15, .inl z2.1)), ((q3 1), .inl (cI, 15, .inl z2.2.1)), ((q3 2), .inl (cI, 15, .inl z2.2.2.1)), ((q3 3), .inl (cI, 41, .inl z2.2.2.2)), (q4, .inr (0, [.ref (q6 0), .ref (q6 1), .ref (q6 2), .ref (q6 3)])), ((q6 0), .inl (cI, 15, .inl z5.1)), ((q6 1), .inl (cI, 15, .inl z5.2.1)), ((q6 2), .inl (cI, 15, .inl z5.2.2.1)), ((q6 3), .inl (cI, 41, .inl z5.2.2.2))] := hD
  refine va_putF (D := D) (ci := 1) (v := .ref q4) (ty := .object "RecordVersions$Content") (C := R_St) (T := F_St) (N := 7) hx hb hts i_St t_St t_St_ok n_St hown hK hP hD hS 0 rfl rfl 1 (by decide) (hts _ k_47) (fun _ h9 => h9) rfl hnm rfl (by decide +kernel) rfl rfl (Nat.le_of_ble_eq_true rfl) d_St_init_23 (fun H locs hP hD hS => ?_)
  have hP : va_P D vwCl [(sh, .inr (1, [.ref q1, .ref q4, .null, .int 0, .int 0, .int 0, .int 0])), (q1, .inr (0, [.ref (q3 0), .ref (q3 1), .ref (q3 2), .ref (q3 3)])), ((q3 0), .inl (cI, 15, .inl z2.1)), ((q3 1), .inl (cI, 15, .inl z2.2.1)), ((q3 2), .inl (cI, 15, .inl z2.2.2.1)), ((q3 3), .inl (cI, 41, .inl z2.2.2.2)), (q4, .inr (0, [.ref (q6 0), .ref (q6 1), .ref (q6 2), .ref (q6 3)])), ((q6 0), .inl (cI, 15, .inl z5.1)), ((q6 1), .inl (cI, 15, .inl z5.2.1)), ((q6 2), .inl (cI, 15, .inl z5.2.2.1)), ((q6 3), .inl (cI, 41, .inl z5.2.2.2))] H := hP
  have hD : va_D A [(sh, .inr (1, [.ref q1, .ref q4, .null, .int 0, .int 0, .int 0, .int 0])), (q1, .inr (0, [.ref (q3 0), .ref (q3 1), .ref (q3 2), .ref (q3 3)])), ((q3 0), .inl (cI, 15, .inl z2.1)), ((q3 1), .inl (cI, 15, .inl z2.2.1)), ((q3 2), .inl (cI, 15, .inl z2.2.2.1)), ((q3 3), .inl (cI, 41, .inl z2.2.2.2)), (q4, .inr (0, [.ref (q6 0), .ref (q6 1), .ref (q6 2), .ref (q6 3)])), ((q6 0), .inl (cI, 15, .inl z5.1)), ((q6 1), .inl (cI, 15, .inl z5.2.1)), ((q6 2), .inl (cI, 15, .inl z5.2.2.1)), ((q6 3), .inl (cI, 41, .inl z5.2.2.2))] := hD
  refine lv_aload_n hx hb d_St_init_26 rfl (lv_at hl 0 rfl) ?_
  refine lv_bipush (v := (7 : Int32)) hx hb d_St_init_27 (by decide) ?_
  refine x_newI (N := 7) hx hb (hts _ k_3) hK hP hD hS hA (by decide) (by decide) (by decide) (Nat.le_of_ble_eq_true rfl) (Nat.le_of_ble_eq_true rfl) d_St_init_29 (fun q7 H hP hD hS => ?_)
  have hP : va_P D vwCl [(sh, .inr (1, [.ref q1, .ref q4, .null, .int 0, .int 0, .int 0, .int 0])), (q1, .inr (0, [.ref (q3 0), .ref (q3 1), .ref (q3 2), .ref (q3 3)])), ((q3 0), .inl (cI, 15, .inl z2.1)), ((q3 1), .inl (cI, 15, .inl z2.2.1)), ((q3 2), .inl (cI, 15, .inl z2.2.2.1)), ((q3 3), .inl (cI, 41, .inl z2.2.2.2)), (q4, .inr (0, [.ref (q6 0), .ref (q6 1), .ref (q6 2), .ref (q6 3)])), ((q6 0), .inl (cI, 15, .inl z5.1)), ((q6 1), .inl (cI, 15, .inl z5.2.1)), ((q6 2), .inl (cI, 15, .inl z5.2.2.1)), ((q6 3), .inl (cI, 41, .inl z5.2.2.2)), (q7, .inl (cI, 7, .inl (fun _ => 0)))] H := hP
  have hD : va_D A [(sh, .inr (1, [.ref q1, .ref q4, .null, .int 0, .int 0, .int 0, .int 0])), (q1, .inr (0, [.ref (q3 0), .ref (q3 1), .ref (q3 2), .ref (q3 3)])), ((q3 0), .inl (cI, 15, .inl z2.1)), ((q3 1), .inl (cI, 15, .inl z2.2.1)), ((q3 2), .inl (cI, 15, .inl z2.2.2.1)), ((q3 3), .inl (cI, 41, .inl z2.2.2.2)), (q4, .inr (0, [.ref (q6 0), .ref (q6 1), .ref (q6 2), .ref (q6 3)])), ((q6 0), .inl (cI, 15, .inl z5.1)), ((q6 1), .inl (cI, 15, .inl z5.2.1)), ((q6 2), .inl (cI, 15, .inl z5.2.2.1)), ((q6 3), .inl (cI, 41, .inl z5.2.2.2)), (q7, .inl (cI, 7, .inl (fun _ => 0)))] := hD
  refine va_putF (D := D) (ci := 1) (v := .ref q7) (ty := .array .int) (C := R_St) (T := F_St) (N := 7) hx hb hts i_St t_St t_St_ok n_St hown hK hP hD hS 0 rfl rfl 2 (by decide) (hts _ k_48) (fun _ h9 => h9) rfl hnm rfl (by decide +kernel) rfl rfl (Nat.le_of_ble_eq_true rfl) d_St_init_31 (fun H locs hP hD hS => ?_)
  have hP : va_P D vwCl [(sh, .inr (1, [.ref q1, .ref q4, .ref q7, .int 0, .int 0, .int 0, .int 0])), (q1, .inr (0, [.ref (q3 0), .ref (q3 1), .ref (q3 2), .ref (q3 3)])), ((q3 0), .inl (cI, 15, .inl z2.1)), ((q3 1), .inl (cI, 15, .inl z2.2.1)), ((q3 2), .inl (cI, 15, .inl z2.2.2.1)), ((q3 3), .inl (cI, 41, .inl z2.2.2.2)), (q4, .inr (0, [.ref (q6 0), .ref (q6 1), .ref (q6 2), .ref (q6 3)])), ((q6 0), .inl (cI, 15, .inl z5.1)), ((q6 1), .inl (cI, 15, .inl z5.2.1)), ((q6 2), .inl (cI, 15, .inl z5.2.2.1)), ((q6 3), .inl (cI, 41, .inl z5.2.2.2)), (q7, .inl (cI, 7, .inl (fun _ => 0)))] H := hP
  have hD : va_D A [(sh, .inr (1, [.ref q1, .ref q4, .ref q7, .int 0, .int 0, .int 0, .int 0])), (q1, .inr (0, [.ref (q3 0), .ref (q3 1), .ref (q3 2), .ref (q3 3)])), ((q3 0), .inl (cI, 15, .inl z2.1)), ((q3 1), .inl (cI, 15, .inl z2.2.1)), ((q3 2), .inl (cI, 15, .inl z2.2.2.1)), ((q3 3), .inl (cI, 41, .inl z2.2.2.2)), (q4, .inr (0, [.ref (q6 0), .ref (q6 1), .ref (q6 2), .ref (q6 3)])), ((q6 0), .inl (cI, 15, .inl z5.1)), ((q6 1), .inl (cI, 15, .inl z5.2.1)), ((q6 2), .inl (cI, 15, .inl z5.2.2.1)), ((q6 3), .inl (cI, 41, .inl z5.2.2.2)), (q7, .inl (cI, 7, .inl (fun _ => 0)))] := hD
  have hP : va_P D vwCl (w_St cI cJ cZ sh q1 (q3 0) (q3 1) (q3 2) (q3 3) q4 (q6 0) (q6 1) (q6 2) (q6 3) q7 (z2, (z5, ((fun _ => 0), ((0 : Int32), ((0 : Int32), ((0 : Int32), (0 : Int32)))))))) H := hP.sub [0, 1, 2, 3, 4, 5, 6, 7, 8, 9, 10, 11] rfl
  have hD : va_D A (w_St cI cJ cZ sh q1 (q3 0) (q3 1) (q3 2) (q3 3) q4 (q6 0) (q6 1) (q6 2) (q6 3) q7 (z2, (z5, ((fun _ => 0), ((0 : Int32), ((0 : Int32), ((0 : Int32), (0 : Int32)))))))) := hD.sub [0, 1, 2, 3, 4, 5, 6, 7, 8, 9, 10, 11] (by decide) rfl
  obtain rfl := Option.some.inj hf
  exact x_vretE (fun k => match k with | 0 => q1 | 1 => (q3 0) | 2 => (q3 1) | 3 => (q3 2) | 4 => (q3 3) | 5 => q4 | 6 => (q6 0) | 7 => (q6 1) | 8 => (q6 2) | 9 => (q6 3) | _ => q7) hx hb hr hlocks hK hP hD hS (Nat.le_of_ble_eq_true rfl) (Nat.le_of_ble_eq_true rfl) d_St_init_34
set_option maxHeartbeats 4000000 in
set_option maxRecDepth 100000 in
theorem c_St_changed (l : Launch) (D : va_G) (cI cJ cZ : ClassId) (sh mh m0 m1 m2 m3 dh d0 d1 d2 d3 ea : Nat) (N : Nat) (p0 : Int32) (U : K_St) (r : (Unit × K_St)) (hf : f_St_changed N p0 U = some r) : Cx l y_St_changed ws_St_changed rm_St_changed D vwCl (tyL cI cJ cZ) [.ref sh, .int p0] (w_St cI cJ cZ sh mh m0 m1 m2 m3 dh d0 d1 d2 d3 ea U) (oV r.1) (w_St cI cJ cZ sh mh m0 m1 m2 m3 dh d0 d1 d2 d3 ea r.2) := by
  unfold f_St_changed at hf
  refine Cx.ofW (cc := b_St_changed) (maxL := 2) (ret := none) (by decide) rfl ?_
  intro p e s m below meth c A C0 hP hK hD hA hns hZ
  obtain ⟨hx, hb, hml, hown, hts0, hr, hlocks, hnm, hno⟩ := C0
  have hown : s.vm.findClass R_St = some m.cls := hown
  have hts : ∀ w ∈ tb, w.before [.ref sh, .int p0].toArray s = true := fun w h => hts0 w (List.mem_cons_of_mem _ h)
  have hS : va_S A s.heap s.heap [] := va_S.rf
  have hl := lv_entry ([.ref sh, .int p0]) (n := 2) (Nat.le_of_ble_eq_true rfl)
  rw [lg_entry_eq]
  generalize (lg_sl ([.ref sh, .int p0]) ++ List.replicate (2 - (lg_sl ([.ref sh, .int p0])).length) Slot.unset).toArray = ls at hl ⊢
  have hl : lv_has ls 2 [(0, .ref sh), (1, .int p0)] := hl
  refine lv_aload_n hx hb d_St_changed_0 rfl (lv_at hl 0 rfl) ?_
  refine lv_dup hx hb d_St_changed_1 rfl ?_
  refine va_get (D := D) (ci := 1) (v := .int U.2.2.2.1) (C := R_St) (T := F_St) (N := 7) hx hb hts i_St hown hK hP 0 rfl rfl 3 (by decide) (hts _ k_49) (fun _ h9 => h9) rfl d_St_changed_2 ?_
  refine lv_iconst (v := (1 : Int32)) hx hb d_St_changed_5 (by decide) ?_
  refine lv_iload_n hx hb d_St_changed_6 rfl (lv_at hl 1 rfl) ?_
  refine lv_ishl hx hb d_St_changed_7 ?_
  refine lv_ior hx hb d_St_changed_8 ?_
  refine va_put (D := D) (ci := 1) (v := .int (U.2.2.2.1 ||| ((1 : Int32) <<< (p0 &&& 31)))) (ty := .int) (C := R_St) (T := F_St) (N := 7) hx hb hts i_St t_St t_St_ok n_St hown hK hP hD hS 0 rfl rfl 3 (by decide) (hts _ k_49) (fun _ h9 => h9) rfl (by decide +kernel) rfl rfl (Nat.le_of_ble_eq_true rfl) d_St_changed_9 (fun H locs hP hD hS => ?_)
  have hP : va_P D vwCl (w_St cI cJ cZ sh mh m0 m1 m2 m3 dh d0 d1 d2 d3 ea (U.1, (U.2.1, (U.2.2.1, ((U.2.2.2.1 ||| ((1 : Int32) <<< (p0 &&& 31))), U.2.2.2.2))))) H := hP
  have hD : va_D A (w_St cI cJ cZ sh mh m0 m1 m2 m3 dh d0 d1 d2 d3 ea (U.1, (U.2.1, (U.2.2.1, ((U.2.2.2.1 ||| ((1 : Int32) <<< (p0 &&& 31))), U.2.2.2.2))))) := hD
  obtain rfl := Option.some.inj hf
  exact x_vret hx hb hr hlocks hK hP hD hS (Nat.le_of_ble_eq_true rfl) (Nat.le_of_ble_eq_true rfl) d_St_changed_12
set_option maxHeartbeats 4000000 in
set_option maxRecDepth 100000 in
theorem c_St_failsNow (l : Launch) (D : va_G) (cI cJ cZ : ClassId) (sh mh m0 m1 m2 m3 dh d0 d1 d2 d3 ea : Nat) (N : Nat) (U : K_St) (r : (Int32 × K_St)) (hf : f_St_failsNow N U = some r) : Cx l y_St_failsNow ws_St_failsNow rm_St_failsNow D vwCl (tyL cI cJ cZ) [.ref sh] (w_St cI cJ cZ sh mh m0 m1 m2 m3 dh d0 d1 d2 d3 ea U) (oI r.1) (w_St cI cJ cZ sh mh m0 m1 m2 m3 dh d0 d1 d2 d3 ea r.2) := by
  unfold f_St_failsNow at hf
  refine Cx.ofW (cc := b_St_failsNow) (maxL := 1) (ret := (some .boolean)) (by decide) rfl ?_
  intro p e s m below meth c A C0 hP hK hD hA hns hZ
  obtain ⟨hx, hb, hml, hown, hts0, hr, hlocks, hnm, hno⟩ := C0
  have hown : s.vm.findClass R_St = some m.cls := hown
  have hts : ∀ w ∈ tb, w.before [.ref sh].toArray s = true := fun w h => hts0 w (List.mem_cons_of_mem _ h)
  have hS : va_S A s.heap s.heap [] := va_S.rf
  have hl := lv_entry ([.ref sh]) (n := 1) (Nat.le_of_ble_eq_true rfl)
  rw [lg_entry_eq]
  generalize (lg_sl ([.ref sh]) ++ List.replicate (1 - (lg_sl ([.ref sh])).length) Slot.unset).toArray = ls at hl ⊢
  have hl : lv_has ls 1 [(0, .ref sh)] := hl
  refine lv_aload_n hx hb d_St_failsNow_0 rfl (lv_at hl 0 rfl) ?_
  refine va_get (D := D) (ci := 1) (v := .int U.2.2.2.2.2.2) (C := R_St) (T := F_St) (N := 7) hx hb hts i_St hown hK hP 0 rfl rfl 6 (by decide) (hts _ k_50) (fun _ h9 => h9) rfl d_St_failsNow_1 ?_
  refine lv_if_ne (tgt := 9) hx hb d_St_failsNow_4 (by decide) (fun c2 => ?_) (fun c2 => ?_)
  · have hf := x_ifn c2 hf
    refine lv_aload_n hx hb d_St_failsNow_9 rfl (lv_at hl 0 rfl) ?_
    refine lv_dup hx hb d_St_failsNow_10 rfl ?_
    refine va_get (D := D) (ci := 1) (v := .int U.2.2.2.2.2.2) (C := R_St) (T := F_St) (N := 7) hx hb hts i_St hown hK hP 0 rfl rfl 6 (by decide) (hts _ k_50) (fun _ h9 => h9) rfl d_St_failsNow_11 ?_
    refine lv_iconst (v := (1 : Int32)) hx hb d_St_failsNow_14 (by decide) ?_
    refine lv_isub hx hb d_St_failsNow_15 ?_
    refine va_put (D := D) (ci := 1) (v := .int (U.2.2.2.2.2.2 - (1 : Int32))) (ty := .int) (C := R_St) (T := F_St) (N := 7) hx hb hts i_St t_St t_St_ok n_St hown hK hP hD hS 0 rfl rfl 6 (by decide) (hts _ k_50) (fun _ h9 => h9) rfl (by decide +kernel) rfl rfl (Nat.le_of_ble_eq_true rfl) d_St_failsNow_16 (fun H locs hP hD hS => ?_)
    have hP : va_P D vwCl (w_St cI cJ cZ sh mh m0 m1 m2 m3 dh d0 d1 d2 d3 ea (U.1, (U.2.1, (U.2.2.1, (U.2.2.2.1, (U.2.2.2.2.1, (U.2.2.2.2.2.1, (U.2.2.2.2.2.2 - (1 : Int32))))))))) H := hP
    have hD : va_D A (w_St cI cJ cZ sh mh m0 m1 m2 m3 dh d0 d1 d2 d3 ea (U.1, (U.2.1, (U.2.2.1, (U.2.2.2.1, (U.2.2.2.2.1, (U.2.2.2.2.2.1, (U.2.2.2.2.2.2 - (1 : Int32))))))))) := hD
    refine lv_aload_n hx hb d_St_failsNow_19 rfl (lv_at hl 0 rfl) ?_
    refine va_get (D := D) (ci := 1) (v := .int (U.2.2.2.2.2.2 - (1 : Int32))) (C := R_St) (T := F_St) (N := 7) hx hb hts i_St hown hK hP 0 rfl rfl 6 (by decide) (hts _ k_50) (fun _ h9 => h9) rfl d_St_failsNow_20 ?_
    refine lv_if_ne (tgt := 30) hx hb d_St_failsNow_23 (by decide) (fun c1 => ?_) (fun c1 => ?_)
    · have hf := x_ifn c1 hf
      refine lv_iconst (v := (0 : Int32)) hx hb d_St_failsNow_30 (by decide) ?_
      obtain rfl := Option.some.inj hf
      exact x_zret hx hb hr hlocks (x_nb (Or.inl rfl)) hK hP hD hS (Nat.le_of_ble_eq_true rfl) (Nat.le_of_ble_eq_true rfl) d_St_failsNow_31
    · have hf := x_ifp c1 hf
      refine lv_iconst (v := (1 : Int32)) hx hb d_St_failsNow_26 (by decide) ?_
      refine lv_goto (tgt := 31) hx hb d_St_failsNow_27 (by decide) ?_
      obtain rfl := Option.some.inj hf
      exact x_zret hx hb hr hlocks (x_nb (Or.inr rfl)) hK hP hD hS (Nat.le_of_ble_eq_true rfl) (Nat.le_of_ble_eq_true rfl) d_St_failsNow_31
  · have hf := x_ifp c2 hf
    refine lv_iconst (v := (0 : Int32)) hx hb d_St_failsNow_7 (by decide) ?_
    obtain rfl := Option.some.inj hf
    exact x_zret hx hb hr hlocks (x_nb (Or.inl rfl)) hK hP hD hS (Nat.le_of_ble_eq_true rfl) (Nat.le_of_ble_eq_true rfl) d_St_failsNow_8
set_option maxHeartbeats 4000000 in
set_option maxRecDepth 100000 in
theorem c_St_settle (l : Launch) (D : va_G) (cI cJ cZ : ClassId) (sh mh m0 m1 m2 m3 dh d0 d1 d2 d3 ea : Nat) (N : Nat) (p0 : Int32) (U : K_St) (r : (Unit × K_St)) (hf : f_St_settle N p0 U = some r) : Cx l y_St_settle ws_St_settle rm_St_settle D vwCl (tyL cI cJ cZ) [.ref sh, .int p0] (w_St cI cJ cZ sh mh m0 m1 m2 m3 dh d0 d1 d2 d3 ea U) (oV r.1) (w_St cI cJ cZ sh mh m0 m1 m2 m3 dh d0 d1 d2 d3 ea r.2) := by
  unfold f_St_settle at hf
  refine Cx.ofW (cc := b_St_settle) (maxL := 3) (ret := none) (by decide) rfl ?_
  intro p e s m below meth c A C0 hP hK hD hA hns hZ
  obtain ⟨hx, hb, hml, hown, hts0, hr, hlocks, hnm, hno⟩ := C0
  have hown : s.vm.findClass R_St = some m.cls := hown
  have hts : ∀ w ∈ tb, w.before [.ref sh, .int p0].toArray s = true := fun w h => hts0 w (List.mem_cons_of_mem _ h)
  have hS : va_S A s.heap s.heap [] := va_S.rf
  have hl := lv_entry ([.ref sh, .int p0]) (n := 3) (Nat.le_of_ble_eq_true rfl)
  rw [lg_entry_eq]
  generalize (lg_sl ([.ref sh, .int p0]) ++ List.replicate (3 - (lg_sl ([.ref sh, .int p0])).length) Slot.unset).toArray = ls at hl ⊢
  have hl : lv_has ls 3 [(0, .ref sh), (1, .int p0)] := hl
  have L_16 : ∀ n : Nat, ∀ (x1 : Int32) (x2 : Int32) (U : K_St), f_St_settle_16 N n x1 x2 U = some r → ∀ (H : Heap) (locs : List Loc) (ls : Array Slot), va_P D vwCl (w_St cI cJ cZ sh mh m0 m1 m2 m3 dh d0 d1 d2 d3 ea U) H → va_D A (w_St cI cJ cZ sh mh m0 m1 m2 m3 dh d0 d1 d2 d3 ea U) → va_S A s.heap H locs → lv_has ls 3 [(0, .ref sh), (1, .int x1), (2, .int x2)] → W p l e (rm_St_settle) s m [.ref sh, .int p0].toArray below meth c H locs 0 0 (xQ D vwCl (tyL cI cJ cZ) below s A (oV r.1) (w_St cI cJ cZ sh mh m0 m1 m2 m3 dh d0 d1 d2 d3 ea r.2) (rm_St_settle).cells (rm_St_settle).slots) (F0 m 16 ls []) := by
    intro n
    induction n with
    | zero =>
      intro x1 x2 U hf
      have hf : (none : Option (Unit × K_St)) = some r := hf
      cases hf
    | succ n ih =>
      intro x1 x2 U hf H locs ls hP hD hS hl
      rw [f_St_settle_16] at hf
      refine lv_iload_n hx hb d_St_settle_16 rfl (lv_at hl 2 rfl) ?_
      refine lv_bipush (v := (7 : Int32)) hx hb d_St_settle_17 (by decide) ?_
      refine lv_icmp_ge (tgt := 42) hx hb d_St_settle_19 (by decide) (fun c3 => ?_) (fun c3 => ?_)
      · have hf := x_ifp c3 hf
        refine lv_aload_n hx hb d_St_settle_42 rfl (lv_at hl 0 rfl) ?_
        refine lv_dup hx hb d_St_settle_43 rfl ?_
        refine va_get (D := D) (ci := 1) (v := .int U.2.2.2.2.1) (C := R_St) (T := F_St) (N := 7) hx hb hts i_St hown hK hP 0 rfl rfl 4 (by decide) (hts _ k_51) (fun _ h9 => h9) rfl d_St_settle_44 ?_
        refine lv_iconst (v := (1 : Int32)) hx hb d_St_settle_47 (by decide) ?_
        refine lv_iadd hx hb d_St_settle_48 ?_
        refine va_put (D := D) (ci := 1) (v := .int (U.2.2.2.2.1 + (1 : Int32))) (ty := .int) (C := R_St) (T := F_St) (N := 7) hx hb hts i_St t_St t_St_ok n_St hown hK hP hD hS 0 rfl rfl 4 (by decide) (hts _ k_51) (fun _ h9 => h9) rfl (by decide +kernel) rfl rfl (Nat.le_of_ble_eq_true rfl) d_St_settle_49 (fun H locs hP hD hS => ?_)
        have hP : va_P D vwCl (w_St cI cJ cZ sh mh m0 m1 m2 m3 dh d0 d1 d2 d3 ea (U.1, (U.2.1, (U.2.2.1, (U.2.2.2.1, ((U.2.2.2.2.1 + (1 : Int32)), U.2.2.2.2.2)))))) H := hP
        have hD : va_D A (w_St cI cJ cZ sh mh m0 m1 m2 m3 dh d0 d1 d2 d3 ea (U.1, (U.2.1, (U.2.2.1, (U.2.2.2.1, ((U.2.2.2.2.1 + (1 : Int32)), U.2.2.2.2.2)))))) := hD
        obtain rfl := Option.some.inj hf
        exact x_vret hx hb hr hlocks hK hP hD hS (Nat.le_of_ble_eq_true rfl) (Nat.le_of_ble_eq_true rfl) d_St_settle_52
      · have hf := x_ifn c3 hf
        refine lv_aload_n hx hb d_St_settle_22 rfl (lv_at hl 0 rfl) ?_
        refine va_get (D := D) (ci := 1) (v := .ref ea) (C := R_St) (T := F_St) (N := 7) hx hb hts i_St hown hK hP 0 rfl rfl 2 (by decide) (hts _ k_48) (fun _ h9 => h9) rfl d_St_settle_23 ?_
        refine lv_iload_n hx hb d_St_settle_26 rfl (lv_at hl 2 rfl) ?_
        refine lv_dup2_11 hx hb d_St_settle_27 rfl rfl ?_
        obtain ⟨g1, hf⟩ := x_if hf
        refine va_iald hx hb hK hP 11 0 rfl rfl (xi_in g1) d_St_settle_28 ?_
        refine lv_iconst (v := (1 : Int32)) hx hb d_St_settle_29 (by decide) ?_
        refine lv_iload_n hx hb d_St_settle_30 rfl (lv_at hl 1 rfl) ?_
        refine lv_ishl hx hb d_St_settle_31 ?_
        refine lv_iconst (v := (-1 : Int32)) hx hb d_St_settle_32 (by decide) ?_
        refine lv_ixor hx hb d_St_settle_33 ?_
        refine lv_iand hx hb d_St_settle_34 ?_
        obtain ⟨g2, hf⟩ := x_if hf
        refine va_iast hx hb hK hP hD hS 11 0 rfl rfl (xi_in g2) d_St_settle_35 (fun H locs hP hD hS => ?_)
        have hP : va_P D vwCl (w_St cI cJ cZ sh mh m0 m1 m2 m3 dh d0 d1 d2 d3 ea (U.1, (U.2.1, ((upd U.2.2.1 x2.toNatClampNeg ((U.2.2.1 x2.toNatClampNeg) &&& (((1 : Int32) <<< (x1 &&& 31)) ^^^ (-1 : Int32)))), U.2.2.2)))) H := hP
        have hD : va_D A (w_St cI cJ cZ sh mh m0 m1 m2 m3 dh d0 d1 d2 d3 ea (U.1, (U.2.1, ((upd U.2.2.1 x2.toNatClampNeg ((U.2.2.1 x2.toNatClampNeg) &&& (((1 : Int32) <<< (x1 &&& 31)) ^^^ (-1 : Int32)))), U.2.2.2)))) := hD
        refine lv_iinc (v := (x2 + (1 : Int32))) (lv' := [(2, .int (x2 + (1 : Int32))), (0, .ref sh), (1, .int x1)]) hx hb d_St_settle_36 hl (k := 2) rfl rfl (by decide) rfl (fun ls hl => ?_)
        refine lv_goto (tgt := 16) hx hb d_St_settle_39 (by decide) ?_
        exact ih _ _ _ hf _ _ _ hP hD hS (lv_sub hl [1, 2, 0] rfl)
  refine lv_aload_n hx hb d_St_settle_0 rfl (lv_at hl 0 rfl) ?_
  refine lv_dup hx hb d_St_settle_1 rfl ?_
  refine va_get (D := D) (ci := 1) (v := .int U.2.2.2.1) (C := R_St) (T := F_St) (N := 7) hx hb hts i_St hown hK hP 0 rfl rfl 3 (by decide) (hts _ k_49) (fun _ h9 => h9) rfl d_St_settle_2 ?_
  refine lv_iconst (v := (1 : Int32)) hx hb d_St_settle_5 (by decide) ?_
  refine lv_iload_n hx hb d_St_settle_6 rfl (lv_at hl 1 rfl) ?_
  refine lv_ishl hx hb d_St_settle_7 ?_
  refine lv_iconst (v := (-1 : Int32)) hx hb d_St_settle_8 (by decide) ?_
  refine lv_ixor hx hb d_St_settle_9 ?_
  refine lv_iand hx hb d_St_settle_10 ?_
  refine va_put (D := D) (ci := 1) (v := .int (U.2.2.2.1 &&& (((1 : Int32) <<< (p0 &&& 31)) ^^^ (-1 : Int32)))) (ty := .int) (C := R_St) (T := F_St) (N := 7) hx hb hts i_St t_St t_St_ok n_St hown hK hP hD hS 0 rfl rfl 3 (by decide) (hts _ k_49) (fun _ h9 => h9) rfl (by decide +kernel) rfl rfl (Nat.le_of_ble_eq_true rfl) d_St_settle_11 (fun H locs hP hD hS => ?_)
  have hP : va_P D vwCl (w_St cI cJ cZ sh mh m0 m1 m2 m3 dh d0 d1 d2 d3 ea (U.1, (U.2.1, (U.2.2.1, ((U.2.2.2.1 &&& (((1 : Int32) <<< (p0 &&& 31)) ^^^ (-1 : Int32))), U.2.2.2.2))))) H := hP
  have hD : va_D A (w_St cI cJ cZ sh mh m0 m1 m2 m3 dh d0 d1 d2 d3 ea (U.1, (U.2.1, (U.2.2.1, ((U.2.2.2.1 &&& (((1 : Int32) <<< (p0 &&& 31)) ^^^ (-1 : Int32))), U.2.2.2.2))))) := hD
  refine lv_iconst (v := (0 : Int32)) hx hb d_St_settle_14 (by decide) ?_
  refine lv_istore_n (lv' := [(2, .int (0 : Int32)), (0, .ref sh), (1, .int p0)]) hx hb d_St_settle_15 rfl hl (by decide) rfl (fun ls hl => ?_)
  exact L_16 _ _ _ _ hf _ _ _ hP hD hS (lv_sub hl [1, 2, 0] rfl)
set_option maxHeartbeats 4000000 in
set_option maxRecDepth 100000 in
theorem c_St_fall (l : Launch) (D : va_G) (cI cJ cZ : ClassId) (sh mh m0 m1 m2 m3 dh d0 d1 d2 d3 ea : Nat) (N : Nat) (U : K_St) (r : (Unit × K_St)) (hf : f_St_fall N U = some r) : Cx l y_St_fall ws_St_fall rm_St_fall D vwCl (tyL cI cJ cZ) [.ref sh] (w_St cI cJ cZ sh mh m0 m1 m2 m3 dh d0 d1 d2 d3 ea U) (oV r.1) (w_St cI cJ cZ sh mh m0 m1 m2 m3 dh d0 d1 d2 d3 ea r.2) := by
  unfold f_St_fall at hf
  refine Cx.ofW (cc := b_St_fall) (maxL := 2) (ret := none) (by decide) rfl ?_
  intro p e s m below meth c A C0 hP hK hD hA hns hZ
  obtain ⟨hx, hb, hml, hown, hts0, hr, hlocks, hnm, hno⟩ := C0
  have hown : s.vm.findClass R_St = some m.cls := hown
  have hts : ∀ w ∈ tb, w.before [.ref sh].toArray s = true := fun w h => hts0 w (List.mem_cons_of_mem _ h)
  have hS : va_S A s.heap s.heap [] := va_S.rf
  have hl := lv_entry ([.ref sh]) (n := 2) (Nat.le_of_ble_eq_true rfl)
  rw [lg_entry_eq]
  generalize (lg_sl ([.ref sh]) ++ List.replicate (2 - (lg_sl ([.ref sh])).length) Slot.unset).toArray = ls at hl ⊢
  have hl : lv_has ls 2 [(0, .ref sh)] := hl
  have L_50 : ∀ n : Nat, ∀ (x1 : Int32) (U : K_St), f_St_fall_50 N n x1 U = some r → ∀ (H : Heap) (locs : List Loc) (ls : Array Slot), va_P D vwCl (w_St cI cJ cZ sh mh m0 m1 m2 m3 dh d0 d1 d2 d3 ea U) H → va_D A (w_St cI cJ cZ sh mh m0 m1 m2 m3 dh d0 d1 d2 d3 ea U) → va_S A s.heap H locs → lv_has ls 2 [(0, .ref sh), (1, .int x1)] → W p l e (rm_St_fall) s m [.ref sh].toArray below meth c H locs 0 0 (xQ D vwCl (tyL cI cJ cZ) below s A (oV r.1) (w_St cI cJ cZ sh mh m0 m1 m2 m3 dh d0 d1 d2 d3 ea r.2) (rm_St_fall).cells (rm_St_fall).slots) (F0 m 50 ls []) := by
    intro n
    induction n with
    | zero =>
      intro x1 U hf
      have hf : (none : Option (Unit × K_St)) = some r := hf
      cases hf
    | succ n ih =>
      intro x1 U hf H locs ls hP hD hS hl
      rw [f_St_fall_50] at hf
      refine lv_iload_n hx hb d_St_fall_50 rfl (lv_at hl 1 rfl) ?_
      refine lv_bipush (v := (40 : Int32)) hx hb d_St_fall_51 (by decide) ?_
      refine lv_icmp_gt (tgt := 91) hx hb d_St_fall_53 (by decide) (fun c5 => ?_) (fun c5 => ?_)
      · have hf := x_ifp c5 hf
        obtain rfl := Option.some.inj hf
        exact x_vret hx hb hr hlocks hK hP hD hS (Nat.le_of_ble_eq_true rfl) (Nat.le_of_ble_eq_true rfl) d_St_fall_91
      · have hf := x_ifn c5 hf
        refine lv_aload_n hx hb d_St_fall_56 rfl (lv_at hl 0 rfl) ?_
        refine va_get (D := D) (ci := 1) (v := .ref mh) (C := R_St) (T := F_St) (N := 7) hx hb hts i_St hown hK hP 0 rfl rfl 0 (by decide) (hts _ k_46) (fun _ h9 => h9) rfl d_St_fall_57 ?_
        refine va_get (D := D) (ci := 0) (v := .ref m3) (C := R_Co) (T := F_Co) (N := 4) hx hb hts i_Co hown hK hP 1 rfl rfl 3 (by decide) (hts _ k_62) (fun _ h9 => h9) rfl d_St_fall_60 ?_
        refine lv_iload_n hx hb d_St_fall_63 rfl (lv_at hl 1 rfl) ?_
        obtain ⟨g1, hf⟩ := x_if hf
        refine va_iald hx hb hK hP 5 0 rfl rfl (xi_in g1) d_St_fall_64 ?_
        refine lv_iconst (v := (1 : Int32)) hx hb d_St_fall_65 (by decide) ?_
        refine lv_icmp_ne (tgt := 85) hx hb d_St_fall_66 (by decide) (fun c4 => ?_) (fun c4 => ?_)
        · have hf := x_ifn c4 hf
          refine lv_iinc (v := (x1 + (1 : Int32))) (lv' := [(1, .int (x1 + (1 : Int32))), (0, .ref sh)]) hx hb d_St_fall_85 hl (k := 1) rfl rfl (by decide) rfl (fun ls hl => ?_)
          refine lv_goto (tgt := 50) hx hb d_St_fall_88 (by decide) ?_
          exact ih _ _ hf _ _ _ hP hD hS (lv_sub hl [1, 0] rfl)
        · have hf := x_ifp c4 hf
          refine lv_aload_n hx hb d_St_fall_69 rfl (lv_at hl 0 rfl) ?_
          refine va_get (D := D) (ci := 1) (v := .ref mh) (C := R_St) (T := F_St) (N := 7) hx hb hts i_St hown hK hP 0 rfl rfl 0 (by decide) (hts _ k_46) (fun _ h9 => h9) rfl d_St_fall_70 ?_
          refine va_get (D := D) (ci := 0) (v := .ref m3) (C := R_Co) (T := F_Co) (N := 4) hx hb hts i_Co hown hK hP 1 rfl rfl 3 (by decide) (hts _ k_62) (fun _ h9 => h9) rfl d_St_fall_73 ?_
          refine lv_iload_n hx hb d_St_fall_76 rfl (lv_at hl 1 rfl) ?_
          refine lv_iconst (v := (3 : Int32)) hx hb d_St_fall_77 (by decide) ?_
          obtain ⟨g2, hf⟩ := x_if hf
          refine va_iast hx hb hK hP hD hS 5 0 rfl rfl (xi_in g2) d_St_fall_78 (fun H locs hP hD hS => ?_)
          have hP : va_P D vwCl (w_St cI cJ cZ sh mh m0 m1 m2 m3 dh d0 d1 d2 d3 ea ((U.1.1, (U.1.2.1, (U.1.2.2.1, (upd U.1.2.2.2 x1.toNatClampNeg (3 : Int32))))), U.2)) H := hP
          have hD : va_D A (w_St cI cJ cZ sh mh m0 m1 m2 m3 dh d0 d1 d2 d3 ea ((U.1.1, (U.1.2.1, (U.1.2.2.1, (upd U.1.2.2.2 x1.toNatClampNeg (3 : Int32))))), U.2)) := hD
          refine lv_aload_n hx hb d_St_fall_79 rfl (lv_at hl 0 rfl) ?_
          refine lv_bipush (v := (6 : Int32)) hx hb d_St_fall_80 (by decide) ?_
          obtain ⟨z3, hz3, hf⟩ := x_bind hf
          refine x_callV (w2 := (w_St cI cJ cZ sh mh m0 m1 m2 m3 dh d0 d1 d2 d3 ea z3.2)) ⟨hx, hb, hml, hown, hts⟩ (c_St_changed l D cI cJ cZ sh mh m0 m1 m2 m3 dh d0 d1 d2 d3 ea N (6 : Int32) ((U.1.1, (U.1.2.1, (U.1.2.2.1, (upd U.1.2.2.2 x1.toNatClampNeg (3 : Int32))))), U.2) z3 hz3) (x_cwV 1 hts rfl k_63 k_64 k_65 k_55 k_66 (by decide +kernel) ⟨(Nat.le_of_ble_eq_true rfl), (Nat.le_of_ble_eq_true rfl)⟩) hK hP hD hS hA hZ [0, 1, 2, 3, 4, 5, 6, 7, 8, 9, 10, 11] [] [0, 1, 2, 3, 4, 5, 6, 7, 8, 9, 10, 11] (by decide) rfl rfl (by decide) (by decide) (by decide) rfl (ci := 1) rfl rfl rfl hl.1 rfl (Nat.le_of_ble_eq_true rfl) d_St_fall_82 ⟨(Nat.le_of_ble_eq_true rfl), (Nat.le_of_ble_eq_true rfl)⟩ (fun H locs hP hD hS => ?_)
          refine W.eq (g2 := F0 m 85 ls []) rfl ?_
          refine lv_iinc (v := (x1 + (1 : Int32))) (lv' := [(1, .int (x1 + (1 : Int32))), (0, .ref sh)]) hx hb d_St_fall_85 hl (k := 1) rfl rfl (by decide) rfl (fun ls hl => ?_)
          refine lv_goto (tgt := 50) hx hb d_St_fall_88 (by decide) ?_
          exact ih _ _ hf _ _ _ hP hD hS (lv_sub hl [1, 0] rfl)
  have L_2 : ∀ n : Nat, ∀ (x1 : Int32) (U : K_St), f_St_fall_2 N n x1 U = some r → ∀ (H : Heap) (locs : List Loc) (ls : Array Slot), va_P D vwCl (w_St cI cJ cZ sh mh m0 m1 m2 m3 dh d0 d1 d2 d3 ea U) H → va_D A (w_St cI cJ cZ sh mh m0 m1 m2 m3 dh d0 d1 d2 d3 ea U) → va_S A s.heap H locs → lv_has ls 2 [(0, .ref sh), (1, .int x1)] → W p l e (rm_St_fall) s m [.ref sh].toArray below meth c H locs 0 0 (xQ D vwCl (tyL cI cJ cZ) below s A (oV r.1) (w_St cI cJ cZ sh mh m0 m1 m2 m3 dh d0 d1 d2 d3 ea r.2) (rm_St_fall).cells (rm_St_fall).slots) (F0 m 2 ls []) := by
    intro n
    induction n with
    | zero =>
      intro x1 U hf
      have hf : (none : Option (Unit × K_St)) = some r := hf
      cases hf
    | succ n ih =>
      intro x1 U hf H locs ls hP hD hS hl
      rw [f_St_fall_2] at hf
      refine lv_iload_n hx hb d_St_fall_2 rfl (lv_at hl 1 rfl) ?_
      refine lv_bipush (v := (7 : Int32)) hx hb d_St_fall_3 (by decide) ?_
      refine lv_icmp_ge (tgt := 33) hx hb d_St_fall_5 (by decide) (fun c8 => ?_) (fun c8 => ?_)
      · have hf := x_ifp c8 hf
        refine lv_aload_n hx hb d_St_fall_33 rfl (lv_at hl 0 rfl) ?_
        refine lv_iconst (v := (0 : Int32)) hx hb d_St_fall_34 (by decide) ?_
        refine va_put (D := D) (ci := 1) (v := .int (0 : Int32)) (ty := .int) (C := R_St) (T := F_St) (N := 7) hx hb hts i_St t_St t_St_ok n_St hown hK hP hD hS 0 rfl rfl 3 (by decide) (hts _ k_49) (fun _ h9 => h9) rfl (by decide +kernel) rfl rfl (Nat.le_of_ble_eq_true rfl) d_St_fall_35 (fun H locs hP hD hS => ?_)
        have hP : va_P D vwCl (w_St cI cJ cZ sh mh m0 m1 m2 m3 dh d0 d1 d2 d3 ea (U.1, (U.2.1, (U.2.2.1, ((0 : Int32), U.2.2.2.2))))) H := hP
        have hD : va_D A (w_St cI cJ cZ sh mh m0 m1 m2 m3 dh d0 d1 d2 d3 ea (U.1, (U.2.1, (U.2.2.1, ((0 : Int32), U.2.2.2.2))))) := hD
        refine lv_aload_n hx hb d_St_fall_38 rfl (lv_at hl 0 rfl) ?_
        refine lv_dup hx hb d_St_fall_39 rfl ?_
        refine va_get (D := D) (ci := 1) (v := .int U.2.2.2.2.2.1) (C := R_St) (T := F_St) (N := 7) hx hb hts i_St hown hK hP 0 rfl rfl 5 (by decide) (hts _ k_61) (fun _ h9 => h9) rfl d_St_fall_40 ?_
        refine lv_iconst (v := (1 : Int32)) hx hb d_St_fall_43 (by decide) ?_
        refine lv_iadd hx hb d_St_fall_44 ?_
        refine va_put (D := D) (ci := 1) (v := .int (U.2.2.2.2.2.1 + (1 : Int32))) (ty := .int) (C := R_St) (T := F_St) (N := 7) hx hb hts i_St t_St t_St_ok n_St hown hK hP hD hS 0 rfl rfl 5 (by decide) (hts _ k_61) (fun _ h9 => h9) rfl (by decide +kernel) rfl rfl (Nat.le_of_ble_eq_true rfl) d_St_fall_45 (fun H locs hP hD hS => ?_)
        have hP : va_P D vwCl (w_St cI cJ cZ sh mh m0 m1 m2 m3 dh d0 d1 d2 d3 ea (U.1, (U.2.1, (U.2.2.1, ((0 : Int32), (U.2.2.2.2.1, ((U.2.2.2.2.2.1 + (1 : Int32)), U.2.2.2.2.2.2))))))) H := hP
        have hD : va_D A (w_St cI cJ cZ sh mh m0 m1 m2 m3 dh d0 d1 d2 d3 ea (U.1, (U.2.1, (U.2.2.1, ((0 : Int32), (U.2.2.2.2.1, ((U.2.2.2.2.2.1 + (1 : Int32)), U.2.2.2.2.2.2))))))) := hD
        refine lv_iconst (v := (1 : Int32)) hx hb d_St_fall_48 (by decide) ?_
        refine lv_istore_n (lv' := [(1, .int (1 : Int32)), (0, .ref sh)]) hx hb d_St_fall_49 rfl hl (by decide) rfl (fun ls hl => ?_)
        exact L_50 _ _ _ hf _ _ _ hP hD hS (lv_sub hl [1, 0] rfl)
      · have hf := x_ifn c8 hf
        refine lv_aload_n hx hb d_St_fall_8 rfl (lv_at hl 0 rfl) ?_
        refine va_get (D := D) (ci := 1) (v := .ref mh) (C := R_St) (T := F_St) (N := 7) hx hb hts i_St hown hK hP 0 rfl rfl 0 (by decide) (hts _ k_46) (fun _ h9 => h9) rfl d_St_fall_9 ?_
        refine lv_aload_n hx hb d_St_fall_12 rfl (lv_at hl 0 rfl) ?_
        refine va_get (D := D) (ci := 1) (v := .ref dh) (C := R_St) (T := F_St) (N := 7) hx hb hts i_St hown hK hP 0 rfl rfl 1 (by decide) (hts _ k_47) (fun _ h9 => h9) rfl d_St_fall_13 ?_
        refine lv_iload_n hx hb d_St_fall_16 rfl (lv_at hl 1 rfl) ?_
        obtain ⟨z6, hz6, hf⟩ := x_bind hf
        refine x_callV (w2 := (w_St cI cJ cZ sh mh m0 m1 m2 m3 dh d0 d1 d2 d3 ea (z6.2.1, (z6.2.2, U.2.2)))) ⟨hx, hb, hml, hown, hts⟩ (c_Co_takePage l D cI cJ cZ mh m0 m1 m2 m3 dh d0 d1 d2 d3 N x1 (U.1, U.2.1) z6 hz6) (x_cwV 2 hts rfl k_57 k_58 k_59 k_11 k_60 (by decide +kernel) ⟨(Nat.le_of_ble_eq_true rfl), (Nat.le_of_ble_eq_true rfl)⟩) hK hP hD hS hA hZ [1, 2, 3, 4, 5, 6, 7, 8, 9, 10] [0, 11] [0, 2, 3, 4, 5, 6, 7, 8, 9, 10, 11, 1] (by decide) rfl rfl (by decide) (by decide) (by decide) rfl (ci := 0) rfl rfl rfl hl.1 rfl (Nat.le_of_ble_eq_true rfl) d_St_fall_17 ⟨(Nat.le_of_ble_eq_true rfl), (Nat.le_of_ble_eq_true rfl)⟩ (fun H locs hP hD hS => ?_)
        refine W.eq (g2 := F0 m 20 ls []) rfl ?_
        refine lv_aload_n hx hb d_St_fall_20 rfl (lv_at hl 0 rfl) ?_
        refine va_get (D := D) (ci := 1) (v := .ref ea) (C := R_St) (T := F_St) (N := 7) hx hb hts i_St hown hK hP 0 rfl rfl 2 (by decide) (hts _ k_48) (fun _ h9 => h9) rfl d_St_fall_21 ?_
        refine lv_iload_n hx hb d_St_fall_24 rfl (lv_at hl 1 rfl) ?_
        refine lv_iconst (v := (0 : Int32)) hx hb d_St_fall_25 (by decide) ?_
        obtain ⟨g7, hf⟩ := x_if hf
        refine va_iast hx hb hK hP hD hS 11 0 rfl rfl (xi_in g7) d_St_fall_26 (fun H locs hP hD hS => ?_)
        have hP : va_P D vwCl (w_St cI cJ cZ sh mh m0 m1 m2 m3 dh d0 d1 d2 d3 ea (z6.2.1, (z6.2.2, ((upd U.2.2.1 x1.toNatClampNeg (0 : Int32)), U.2.2.2)))) H := hP
        have hD : va_D A (w_St cI cJ cZ sh mh m0 m1 m2 m3 dh d0 d1 d2 d3 ea (z6.2.1, (z6.2.2, ((upd U.2.2.1 x1.toNatClampNeg (0 : Int32)), U.2.2.2)))) := hD
        refine lv_iinc (v := (x1 + (1 : Int32))) (lv' := [(1, .int (x1 + (1 : Int32))), (0, .ref sh)]) hx hb d_St_fall_27 hl (k := 1) rfl rfl (by decide) rfl (fun ls hl => ?_)
        refine lv_goto (tgt := 2) hx hb d_St_fall_30 (by decide) ?_
        exact ih _ _ hf _ _ _ hP hD hS (lv_sub hl [1, 0] rfl)
  refine lv_iconst (v := (0 : Int32)) hx hb d_St_fall_0 (by decide) ?_
  refine lv_istore_n (lv' := [(1, .int (0 : Int32)), (0, .ref sh)]) hx hb d_St_fall_1 rfl hl (by decide) rfl (fun ls hl => ?_)
  exact L_2 _ _ _ hf _ _ _ hP hD hS (lv_sub hl [1, 0] rfl)
set_option maxHeartbeats 4000000 in
set_option maxRecDepth 100000 in
theorem c_St_put (l : Launch) (D : va_G) (cI cJ cZ : ClassId) (sh mh m0 m1 m2 m3 dh d0 d1 d2 d3 ea : Nat) (N : Nat) : ∀ (d : Nat) (p0 : Int32) (p1 : Int32) (U : K_St) (r : (Int32 × K_St)) (hf : f_St_put N d p0 p1 U = some r), Cx l y_St_put ws_St_put (rm_St_put d) D vwCl (tyL cI cJ cZ) [.ref sh, .int p0, .int p1] (w_St cI cJ cZ sh mh m0 m1 m2 m3 dh d0 d1 d2 d3 ea U) (oI r.1) (w_St cI cJ cZ sh mh m0 m1 m2 m3 dh d0 d1 d2 d3 ea r.2) := by
  intro d
  induction d with
  | zero =>
    intro p0 p1 U r hf
    have hf : (none : Option (Int32 × K_St)) = some r := hf
    cases hf
  | succ d ihd =>
    intro p0 p1 U r hf
    rw [f_St_put] at hf
    dsimp only at hf
    refine Cx.ofW (cc := b_St_put) (maxL := 4) (ret := (some .boolean)) (by decide) rfl ?_
    intro p e s m below meth c A C0 hP hK hD hA hns hZ
    obtain ⟨hx, hb, hml, hown, hts0, hr, hlocks, hnm, hno⟩ := C0
    have hown : s.vm.findClass R_St = some m.cls := hown
    have hts : ∀ w ∈ tb, w.before [.ref sh, .int p0, .int p1].toArray s = true := fun w h => hts0 w (List.mem_cons_of_mem _ h)
    have hS : va_S A s.heap s.heap [] := va_S.rf
    have hl := lv_entry ([.ref sh, .int p0, .int p1]) (n := 4) (Nat.le_of_ble_eq_true rfl)
    rw [lg_entry_eq]
    generalize (lg_sl ([.ref sh, .int p0, .int p1]) ++ List.replicate (4 - (lg_sl ([.ref sh, .int p0, .int p1])).length) Slot.unset).toArray = ls at hl ⊢
    have hl : lv_has ls 4 [(0, .ref sh), (1, .int p0), (2, .int p1)] := hl
    have L_10 : ∀ n : Nat, ∀ (x1 : Int32) (x2 : Int32) (x3 : Int32) (U : K_St), f_St_put_10 N (f_St_put N d) n x1 x2 x3 U = some r → ∀ (H : Heap) (locs : List Loc) (ls : Array Slot), va_P D vwCl (w_St cI cJ cZ sh mh m0 m1 m2 m3 dh d0 d1 d2 d3 ea U) H → va_D A (w_St cI cJ cZ sh mh m0 m1 m2 m3 dh d0 d1 d2 d3 ea U) → va_S A s.heap H locs → lv_has ls 4 [(0, .ref sh), (1, .int x1), (2, .int x2), (3, .int x3)] → W p l e (rm_St_put (d + 1)) s m [.ref sh, .int p0, .int p1].toArray below meth c H locs 0 0 (xQ D vwCl (tyL cI cJ cZ) below s A (oI r.1) (w_St cI cJ cZ sh mh m0 m1 m2 m3 dh d0 d1 d2 d3 ea r.2) (rm_St_put (d + 1)).cells (rm_St_put (d + 1)).slots) (F0 m 10 ls []) := by
      intro n
      induction n with
      | zero =>
        intro x1 x2 x3 U hf
        have hf : (none : Option (Int32 × K_St)) = some r := hf
        cases hf
      | succ n ih =>
        intro x1 x2 x3 U hf H locs ls hP hD hS hl
        rw [f_St_put_10] at hf
        refine lv_iload_n hx hb d_St_put_10 rfl (lv_at hl 3 rfl) ?_
        refine lv_bipush (v := (7 : Int32)) hx hb d_St_put_11 (by decide) ?_
        refine lv_icmp_ge (tgt := 54) hx hb d_St_put_13 (by decide) (fun c11 => ?_) (fun c11 => ?_)
        · have hf := x_ifp c11 hf
          refine lv_aload_n hx hb d_St_put_54 rfl (lv_at hl 0 rfl) ?_
          obtain ⟨z1, hz1, hf⟩ := x_bind hf
          refine x_callV (w2 := (w_St cI cJ cZ sh mh m0 m1 m2 m3 dh d0 d1 d2 d3 ea z1.2)) ⟨hx, hb, hml, hown, hts⟩ (c_St_failsNow l D cI cJ cZ sh mh m0 m1 m2 m3 dh d0 d1 d2 d3 ea N  U z1 hz1) (x_cwV 0 hts rfl k_71 k_72 k_73 k_55 k_74 (by decide +kernel) ⟨(by simp only [rm_St_put, rm_Co_takePage, rm_St_failsNow, rm_St_fall, rm_St_settle] <;> omega), (by simp only [rm_St_put, rm_Co_takePage, rm_St_failsNow, rm_St_fall, rm_St_settle] <;> omega)⟩) hK hP hD hS hA hZ [0, 1, 2, 3, 4, 5, 6, 7, 8, 9, 10, 11] [] [0, 1, 2, 3, 4, 5, 6, 7, 8, 9, 10, 11] (by decide) rfl rfl (by decide) (by decide) (by decide) rfl (ci := 1) rfl rfl rfl hl.1 rfl (Nat.le_of_ble_eq_true rfl) d_St_put_55 ⟨(by simp only [rm_St_put, rm_Co_takePage, rm_St_failsNow, rm_St_fall, rm_St_settle] <;> omega), (by simp only [rm_St_put, rm_Co_takePage, rm_St_failsNow, rm_St_fall, rm_St_settle] <;> omega)⟩ (fun H locs hP hD hS => ?_)
          refine W.eq (g2 := F0 m 58 ls [.int z1.1]) rfl ?_
          refine lv_if_eq (tgt := 67) hx hb d_St_put_58 (by decide) (fun c5 => ?_) (fun c5 => ?_)
          · have hf := x_ifp c5 hf
            refine lv_aload_n hx hb d_St_put_67 rfl (lv_at hl 0 rfl) ?_
            refine va_get (D := D) (ci := 1) (v := .ref dh) (C := R_St) (T := F_St) (N := 7) hx hb hts i_St hown hK hP 0 rfl rfl 1 (by decide) (hts _ k_47) (fun _ h9 => h9) rfl d_St_put_68 ?_
            refine lv_aload_n hx hb d_St_put_71 rfl (lv_at hl 0 rfl) ?_
            refine va_get (D := D) (ci := 1) (v := .ref mh) (C := R_St) (T := F_St) (N := 7) hx hb hts i_St hown hK hP 0 rfl rfl 0 (by decide) (hts _ k_46) (fun _ h9 => h9) rfl d_St_put_72 ?_
            refine lv_iload_n hx hb d_St_put_75 rfl (lv_at hl 1 rfl) ?_
            obtain ⟨z2, hz2, hf⟩ := x_bind hf
            refine x_callV (w2 := (w_St cI cJ cZ sh mh m0 m1 m2 m3 dh d0 d1 d2 d3 ea (z2.2.2, (z2.2.1, z1.2.2.2)))) ⟨hx, hb, hml, hown, hts⟩ (c_Co_takePage l D cI cJ cZ dh d0 d1 d2 d3 mh m0 m1 m2 m3 N x1 (z1.2.2.1, z1.2.1) z2 hz2) (x_cwV 2 hts rfl k_57 k_58 k_59 k_11 k_60 (by decide +kernel) ⟨(by simp only [rm_St_put, rm_Co_takePage, rm_St_failsNow, rm_St_settle] <;> omega), (by simp only [rm_St_put, rm_Co_takePage, rm_St_failsNow, rm_St_settle] <;> omega)⟩) hK hP hD hS hA hZ [6, 7, 8, 9, 10, 1, 2, 3, 4, 5] [0, 11] [0, 7, 8, 9, 10, 11, 2, 3, 4, 5, 6, 1] (by decide) rfl rfl (by decide) (by decide) (by decide) rfl (ci := 0) rfl rfl rfl hl.1 rfl (Nat.le_of_ble_eq_true rfl) d_St_put_76 ⟨(by simp only [rm_St_put, rm_Co_takePage, rm_St_failsNow, rm_St_settle] <;> omega), (by simp only [rm_St_put, rm_Co_takePage, rm_St_failsNow, rm_St_settle] <;> omega)⟩ (fun H locs hP hD hS => ?_)
            refine W.eq (g2 := F0 m 79 ls []) rfl ?_
            refine lv_aload_n hx hb d_St_put_79 rfl (lv_at hl 0 rfl) ?_
            refine lv_iload_n hx hb d_St_put_80 rfl (lv_at hl 1 rfl) ?_
            obtain ⟨z3, hz3, hf⟩ := x_bind hf
            refine x_callV (w2 := (w_St cI cJ cZ sh mh m0 m1 m2 m3 dh d0 d1 d2 d3 ea z3.2)) ⟨hx, hb, hml, hown, hts⟩ (c_St_settle l D cI cJ cZ sh mh m0 m1 m2 m3 dh d0 d1 d2 d3 ea N x1 (z2.2.2, (z2.2.1, z1.2.2.2)) z3 hz3) (x_cwV 1 hts rfl k_52 k_53 k_54 k_55 k_56 (by decide +kernel) ⟨(by simp only [rm_St_put, rm_Co_takePage, rm_St_failsNow, rm_St_settle] <;> omega), (by simp only [rm_St_put, rm_Co_takePage, rm_St_failsNow, rm_St_settle] <;> omega)⟩) hK hP hD hS hA hZ [0, 1, 2, 3, 4, 5, 6, 7, 8, 9, 10, 11] [] [0, 1, 2, 3, 4, 5, 6, 7, 8, 9, 10, 11] (by decide) rfl rfl (by decide) (by decide) (by decide) rfl (ci := 1) rfl rfl rfl hl.1 rfl (Nat.le_of_ble_eq_true rfl) d_St_put_81 ⟨(by simp only [rm_St_put, rm_Co_takePage, rm_St_failsNow, rm_St_settle] <;> omega), (by simp only [rm_St_put, rm_Co_takePage, rm_St_failsNow, rm_St_settle] <;> omega)⟩ (fun H locs hP hD hS => ?_)
            refine W.eq (g2 := F0 m 84 ls []) rfl ?_
            refine lv_iconst (v := (1 : Int32)) hx hb d_St_put_84 (by decide) ?_
            obtain rfl := Option.some.inj hf
            exact x_zret hx hb hr hlocks (x_nb (Or.inr rfl)) hK hP hD hS (Nat.le_of_ble_eq_true rfl) (Nat.le_of_ble_eq_true rfl) d_St_put_85
          · have hf := x_ifn c5 hf
            refine lv_aload_n hx hb d_St_put_61 rfl (lv_at hl 0 rfl) ?_
            obtain ⟨z4, hz4, hf⟩ := x_bind hf
            refine x_callV (w2 := (w_St cI cJ cZ sh mh m0 m1 m2 m3 dh d0 d1 d2 d3 ea z4.2)) ⟨hx, hb, hml, hown, hts⟩ (c_St_fall l D cI cJ cZ sh mh m0 m1 m2 m3 dh d0 d1 d2 d3 ea N  z1.2 z4 hz4) (x_cwV 0 hts rfl k_67 k_68 k_69 k_55 k_70 (by decide +kernel) ⟨(by simp only [rm_St_put, rm_Co_takePage, rm_St_failsNow, rm_St_fall, rm_St_settle] <;> omega), (by simp only [rm_St_put, rm_Co_takePage, rm_St_failsNow, rm_St_fall, rm_St_settle] <;> omega)⟩) hK hP hD hS hA hZ [0, 1, 2, 3, 4, 5, 6, 7, 8, 9, 10, 11] [] [0, 1, 2, 3, 4, 5, 6, 7, 8, 9, 10, 11] (by decide) rfl rfl (by decide) (by decide) (by decide) rfl (ci := 1) rfl rfl rfl hl.1 rfl (Nat.le_of_ble_eq_true rfl) d_St_put_62 ⟨(by simp only [rm_St_put, rm_Co_takePage, rm_St_failsNow, rm_St_fall, rm_St_settle] <;> omega), (by simp only [rm_St_put, rm_Co_takePage, rm_St_failsNow, rm_St_fall, rm_St_settle] <;> omega)⟩ (fun H locs hP hD hS => ?_)
            refine W.eq (g2 := F0 m 65 ls []) rfl ?_
            refine lv_iconst (v := (0 : Int32)) hx hb d_St_put_65 (by decide) ?_
            obtain rfl := Option.some.inj hf
            exact x_zret hx hb hr hlocks (x_nb (Or.inl rfl)) hK hP hD hS (Nat.le_of_ble_eq_true rfl) (Nat.le_of_ble_eq_true rfl) d_St_put_66
        · have hf := x_ifn c11 hf
          refine lv_aload_n hx hb d_St_put_16 rfl (lv_at hl 0 rfl) ?_
          refine va_get (D := D) (ci := 1) (v := .ref ea) (C := R_St) (T := F_St) (N := 7) hx hb hts i_St hown hK hP 0 rfl rfl 2 (by decide) (hts _ k_48) (fun _ h9 => h9) rfl d_St_put_17 ?_
          refine lv_iload_n hx hb d_St_put_20 rfl (lv_at hl 1 rfl) ?_
          obtain ⟨g6, hf⟩ := x_if hf
          refine va_iald hx hb hK hP 11 0 rfl rfl (xi_in g6) d_St_put_21 ?_
          refine lv_aload_n hx hb d_St_put_22 rfl (lv_at hl 0 rfl) ?_
          refine va_get (D := D) (ci := 1) (v := .int U.2.2.2.1) (C := R_St) (T := F_St) (N := 7) hx hb hts i_St hown hK hP 0 rfl rfl 3 (by decide) (hts _ k_49) (fun _ h9 => h9) rfl d_St_put_23 ?_
          refine lv_iand hx hb d_St_put_26 ?_
          refine lv_i2l (v := ((U.2.2.1 x1.toNatClampNeg) &&& U.2.2.2.1).toInt64) hx hb d_St_put_27 rfl ?_
          refine lv_iload_n hx hb d_St_put_28 rfl (lv_at hl 3 rfl) ?_
          obtain ⟨z7, hz7, hf⟩ := x_bind hf
          refine x_callSN (w2 := (w_St cI cJ cZ sh mh m0 m1 m2 m3 dh d0 d1 d2 d3 ea U)) ⟨hx, hb, hml, hown, hts⟩ (c_Rv_has l D cI cJ cZ  N ((U.2.2.1 x1.toNatClampNeg) &&& U.2.2.2.1).toInt64 x3  z7 hz7) (x_cwSN 2 hts rfl k_79 k_22 k_23 k_24 (by decide +kernel) ⟨(by simp only [rm_St_put, rm_Co_takePage, rm_Rv_has, rm_St_failsNow, rm_St_fall, rm_St_put, rm_St_settle] <;> omega), (by simp only [rm_St_put, rm_Co_takePage, rm_Rv_has, rm_St_failsNow, rm_St_fall, rm_St_put, rm_St_settle] <;> omega)⟩) hK hP hD hS hA hZ [] [0, 1, 2, 3, 4, 5, 6, 7, 8, 9, 10, 11] [0, 1, 2, 3, 4, 5, 6, 7, 8, 9, 10, 11] (by decide) rfl rfl (by decide) (by decide) (by decide) rfl rfl hl.1 rfl (Nat.le_of_ble_eq_true rfl) d_St_put_29 ⟨(by simp only [rm_St_put, rm_Co_takePage, rm_Rv_has, rm_St_failsNow, rm_St_fall, rm_St_put, rm_St_settle] <;> omega), (by simp only [rm_St_put, rm_Co_takePage, rm_Rv_has, rm_St_failsNow, rm_St_fall, rm_St_put, rm_St_settle] <;> omega)⟩ (fun H locs hP hD hS => ?_)
          refine W.eq (g2 := F0 m 32 ls [.int z7]) rfl ?_
          refine lv_if_eq (tgt := 48) hx hb d_St_put_32 (by decide) (fun c10 => ?_) (fun c10 => ?_)
          · have hf := x_ifp c10 hf
            refine lv_iinc (v := (x3 + (1 : Int32))) (lv' := [(3, .int (x3 + (1 : Int32))), (0, .ref sh), (1, .int x1), (2, .int x2)]) hx hb d_St_put_48 hl (k := 3) rfl rfl (by decide) rfl (fun ls hl => ?_)
            refine lv_goto (tgt := 10) hx hb d_St_put_51 (by decide) ?_
            exact ih _ _ _ _ hf _ _ _ hP hD hS (lv_sub hl [1, 2, 3, 0] rfl)
          · have hf := x_ifn c10 hf
            refine lv_aload_n hx hb d_St_put_35 rfl (lv_at hl 0 rfl) ?_
            refine lv_iload_n hx hb d_St_put_36 rfl (lv_at hl 3 rfl) ?_
            refine lv_iload_n hx hb d_St_put_37 rfl (lv_at hl 2 rfl) ?_
            refine lv_iconst (v := (1 : Int32)) hx hb d_St_put_38 (by decide) ?_
            refine lv_iadd hx hb d_St_put_39 ?_
            obtain ⟨z8, hz8, hf⟩ := x_bind hf
            refine x_callV (w2 := (w_St cI cJ cZ sh mh m0 m1 m2 m3 dh d0 d1 d2 d3 ea z8.2)) ⟨hx, hb, hml, hown, hts⟩ (ihd x3 (x2 + (1 : Int32)) U z8 hz8) (x_cwV 2 hts rfl k_75 k_76 k_77 k_55 k_78 (by decide +kernel) ⟨(by simp only [rm_St_put, rm_Co_takePage, rm_Rv_has, rm_St_failsNow, rm_St_fall, rm_St_put, rm_St_settle] <;> omega), (by simp only [rm_St_put, rm_Co_takePage, rm_Rv_has, rm_St_failsNow, rm_St_fall, rm_St_put, rm_St_settle] <;> omega)⟩) hK hP hD hS hA hZ [0, 1, 2, 3, 4, 5, 6, 7, 8, 9, 10, 11] [] [0, 1, 2, 3, 4, 5, 6, 7, 8, 9, 10, 11] (by decide) rfl rfl (by decide) (by decide) (by decide) rfl (ci := 1) rfl rfl rfl hl.1 rfl (Nat.le_of_ble_eq_true rfl) d_St_put_40 ⟨(by simp only [rm_St_put, rm_Co_takePage, rm_Rv_has, rm_St_failsNow, rm_St_fall, rm_St_put, rm_St_settle] <;> omega), (by simp only [rm_St_put, rm_Co_takePage, rm_Rv_has, rm_St_failsNow, rm_St_fall, rm_St_put, rm_St_settle] <;> omega)⟩ (fun H locs hP hD hS => ?_)
            refine W.eq (g2 := F0 m 43 ls [.int z8.1]) rfl ?_
            refine lv_if_ne (tgt := 48) hx hb d_St_put_43 (by decide) (fun c9 => ?_) (fun c9 => ?_)
            · have hf := x_ifn c9 hf
              refine lv_iinc (v := (x3 + (1 : Int32))) (lv' := [(3, .int (x3 + (1 : Int32))), (0, .ref sh), (1, .int x1), (2, .int x2)]) hx hb d_St_put_48 hl (k := 3) rfl rfl (by decide) rfl (fun ls hl => ?_)
              refine lv_goto (tgt := 10) hx hb d_St_put_51 (by decide) ?_
              exact ih _ _ _ _ hf _ _ _ hP hD hS (lv_sub hl [1, 2, 3, 0] rfl)
            · have hf := x_ifp c9 hf
              refine lv_iconst (v := (0 : Int32)) hx hb d_St_put_46 (by decide) ?_
              obtain rfl := Option.some.inj hf
              exact x_zret hx hb hr hlocks (x_nb (Or.inl rfl)) hK hP hD hS (Nat.le_of_ble_eq_true rfl) (Nat.le_of_ble_eq_true rfl) d_St_put_47
    refine lv_iload_n hx hb d_St_put_0 rfl (lv_at hl 2 rfl) ?_
    refine lv_bipush (v := (7 : Int32)) hx hb d_St_put_1 (by decide) ?_
    refine lv_icmp_lt (tgt := 8) hx hb d_St_put_3 (by decide) (fun c12 => ?_) (fun c12 => ?_)
    · have hf := x_ifp c12 hf
      refine lv_iconst (v := (0 : Int32)) hx hb d_St_put_8 (by decide) ?_
      refine lv_istore_n (lv' := [(3, .int (0 : Int32)), (0, .ref sh), (1, .int p0), (2, .int p1)]) hx hb d_St_put_9 rfl hl (by decide) rfl (fun ls hl => ?_)
      exact L_10 _ _ _ _ _ hf _ _ _ hP hD hS (lv_sub hl [1, 2, 3, 0] rfl)
    · have hf := x_ifn c12 hf
      refine lv_iconst (v := (1 : Int32)) hx hb d_St_put_6 (by decide) ?_
      obtain rfl := Option.some.inj hf
      exact x_zret hx hb hr hlocks (x_nb (Or.inr rfl)) hK hP hD hS (Nat.le_of_ble_eq_true rfl) (Nat.le_of_ble_eq_true rfl) d_St_put_7
set_option maxHeartbeats 4000000 in
set_option maxRecDepth 100000 in
theorem c_St_putDirty (l : Launch) (D : va_G) (cI cJ cZ : ClassId) (sh mh m0 m1 m2 m3 dh d0 d1 d2 d3 ea : Nat) (N : Nat) (p0 : Int32) (U : K_St) (r : (Int32 × K_St)) (hf : f_St_putDirty N p0 U = some r) : Cx l y_St_putDirty ws_St_putDirty rm_St_putDirty D vwCl (tyL cI cJ cZ) [.ref sh, .int p0] (w_St cI cJ cZ sh mh m0 m1 m2 m3 dh d0 d1 d2 d3 ea U) (oI r.1) (w_St cI cJ cZ sh mh m0 m1 m2 m3 dh d0 d1 d2 d3 ea r.2) := by
  unfold f_St_putDirty at hf
  refine Cx.ofW (cc := b_St_putDirty) (maxL := 3) (ret := (some .boolean)) (by decide) rfl ?_
  intro p e s m below meth c A C0 hP hK hD hA hns hZ
  obtain ⟨hx, hb, hml, hown, hts0, hr, hlocks, hnm, hno⟩ := C0
  have hown : s.vm.findClass R_St = some m.cls := hown
  have hts : ∀ w ∈ tb, w.before [.ref sh, .int p0].toArray s = true := fun w h => hts0 w (List.mem_cons_of_mem _ h)
  have hS : va_S A s.heap s.heap [] := va_S.rf
  have hl := lv_entry ([.ref sh, .int p0]) (n := 3) (Nat.le_of_ble_eq_true rfl)
  rw [lg_entry_eq]
  generalize (lg_sl ([.ref sh, .int p0]) ++ List.replicate (3 - (lg_sl ([.ref sh, .int p0])).length) Slot.unset).toArray = ls at hl ⊢
  have hl : lv_has ls 3 [(0, .ref sh), (1, .int p0)] := hl
  have L_2 : ∀ n : Nat, ∀ (x1 : Int32) (x2 : Int32) (U : K_St), f_St_putDirty_2 N n x1 x2 U = some r → ∀ (H : Heap) (locs : List Loc) (ls : Array Slot), va_P D vwCl (w_St cI cJ cZ sh mh m0 m1 m2 m3 dh d0 d1 d2 d3 ea U) H → va_D A (w_St cI cJ cZ sh mh m0 m1 m2 m3 dh d0 d1 d2 d3 ea U) → va_S A s.heap H locs → lv_has ls 3 [(0, .ref sh), (1, .int x1), (2, .int x2)] → W p l e (rm_St_putDirty) s m [.ref sh, .int p0].toArray below meth c H locs 0 0 (xQ D vwCl (tyL cI cJ cZ) below s A (oI r.1) (w_St cI cJ cZ sh mh m0 m1 m2 m3 dh d0 d1 d2 d3 ea r.2) (rm_St_putDirty).cells (rm_St_putDirty).slots) (F0 m 2 ls []) := by
    intro n
    induction n with
    | zero =>
      intro x1 x2 U hf
      have hf : (none : Option (Int32 × K_St)) = some r := hf
      cases hf
    | succ n ih =>
      intro x1 x2 U hf H locs ls hP hD hS hl
      rw [f_St_putDirty_2] at hf
      refine lv_iload_n hx hb d_St_putDirty_2 rfl (lv_at hl 2 rfl) ?_
      refine lv_bipush (v := (7 : Int32)) hx hb d_St_putDirty_3 (by decide) ?_
      refine lv_icmp_ge (tgt := 39) hx hb d_St_putDirty_5 (by decide) (fun c5 => ?_) (fun c5 => ?_)
      · have hf := x_ifp c5 hf
        refine lv_iconst (v := (1 : Int32)) hx hb d_St_putDirty_39 (by decide) ?_
        obtain rfl := Option.some.inj hf
        exact x_zret hx hb hr hlocks (x_nb (Or.inr rfl)) hK hP hD hS (Nat.le_of_ble_eq_true rfl) (Nat.le_of_ble_eq_true rfl) d_St_putDirty_40
      · have hf := x_ifn c5 hf
        refine lv_iload_n hx hb d_St_putDirty_8 rfl (lv_at hl 1 rfl) ?_
        refine lv_aload_n hx hb d_St_putDirty_9 rfl (lv_at hl 0 rfl) ?_
        refine va_get (D := D) (ci := 1) (v := .int U.2.2.2.1) (C := R_St) (T := F_St) (N := 7) hx hb hts i_St hown hK hP 0 rfl rfl 3 (by decide) (hts _ k_49) (fun _ h9 => h9) rfl d_St_putDirty_10 ?_
        refine lv_iand hx hb d_St_putDirty_13 ?_
        refine lv_i2l (v := (x1 &&& U.2.2.2.1).toInt64) hx hb d_St_putDirty_14 rfl ?_
        refine lv_iload_n hx hb d_St_putDirty_15 rfl (lv_at hl 2 rfl) ?_
        obtain ⟨z1, hz1, hf⟩ := x_bind hf
        refine x_callSN (w2 := (w_St cI cJ cZ sh mh m0 m1 m2 m3 dh d0 d1 d2 d3 ea U)) ⟨hx, hb, hml, hown, hts⟩ (c_Rv_has l D cI cJ cZ  N (x1 &&& U.2.2.2.1).toInt64 x2  z1 hz1) (x_cwSN 2 hts rfl k_79 k_22 k_23 k_24 (by decide +kernel) ⟨(Nat.le_of_ble_eq_true rfl), (Nat.le_of_ble_eq_true rfl)⟩) hK hP hD hS hA hZ [] [0, 1, 2, 3, 4, 5, 6, 7, 8, 9, 10, 11] [0, 1, 2, 3, 4, 5, 6, 7, 8, 9, 10, 11] (by decide) rfl rfl (by decide) (by decide) (by decide) rfl rfl hl.1 rfl (Nat.le_of_ble_eq_true rfl) d_St_putDirty_16 ⟨(Nat.le_of_ble_eq_true rfl), (Nat.le_of_ble_eq_true rfl)⟩ (fun H locs hP hD hS => ?_)
        refine W.eq (g2 := F0 m 19 ls [.int z1]) rfl ?_
        refine lv_if_eq (tgt := 33) hx hb d_St_putDirty_19 (by decide) (fun c4 => ?_) (fun c4 => ?_)
        · have hf := x_ifp c4 hf
          refine lv_iinc (v := (x2 + (1 : Int32))) (lv' := [(2, .int (x2 + (1 : Int32))), (0, .ref sh), (1, .int x1)]) hx hb d_St_putDirty_33 hl (k := 2) rfl rfl (by decide) rfl (fun ls hl => ?_)
          refine lv_goto (tgt := 2) hx hb d_St_putDirty_36 (by decide) ?_
          exact ih _ _ _ hf _ _ _ hP hD hS (lv_sub hl [1, 2, 0] rfl)
        · have hf := x_ifn c4 hf
          refine lv_aload_n hx hb d_St_putDirty_22 rfl (lv_at hl 0 rfl) ?_
          refine lv_iload_n hx hb d_St_putDirty_23 rfl (lv_at hl 2 rfl) ?_
          refine lv_iconst (v := (0 : Int32)) hx hb d_St_putDirty_24 (by decide) ?_
          obtain ⟨z2, hz2, hf⟩ := x_bind hf
          refine x_callV (w2 := (w_St cI cJ cZ sh mh m0 m1 m2 m3 dh d0 d1 d2 d3 ea z2.2)) ⟨hx, hb, hml, hown, hts⟩ (c_St_put l D cI cJ cZ sh mh m0 m1 m2 m3 dh d0 d1 d2 d3 ea N 9 x2 (0 : Int32) U z2 hz2) (x_cwV 2 hts rfl k_75 k_76 k_77 k_55 k_78 (by decide +kernel) ⟨(Nat.le_of_ble_eq_true rfl), (Nat.le_of_ble_eq_true rfl)⟩) hK hP hD hS hA hZ [0, 1, 2, 3, 4, 5, 6, 7, 8, 9, 10, 11] [] [0, 1, 2, 3, 4, 5, 6, 7, 8, 9, 10, 11] (by decide) rfl rfl (by decide) (by decide) (by decide) rfl (ci := 1) rfl rfl rfl hl.1 rfl (Nat.le_of_ble_eq_true rfl) d_St_putDirty_25 ⟨(Nat.le_of_ble_eq_true rfl), (Nat.le_of_ble_eq_true rfl)⟩ (fun H locs hP hD hS => ?_)
          refine W.eq (g2 := F0 m 28 ls [.int z2.1]) rfl ?_
          refine lv_if_ne (tgt := 33) hx hb d_St_putDirty_28 (by decide) (fun c3 => ?_) (fun c3 => ?_)
          · have hf := x_ifn c3 hf
            refine lv_iinc (v := (x2 + (1 : Int32))) (lv' := [(2, .int (x2 + (1 : Int32))), (0, .ref sh), (1, .int x1)]) hx hb d_St_putDirty_33 hl (k := 2) rfl rfl (by decide) rfl (fun ls hl => ?_)
            refine lv_goto (tgt := 2) hx hb d_St_putDirty_36 (by decide) ?_
            exact ih _ _ _ hf _ _ _ hP hD hS (lv_sub hl [1, 2, 0] rfl)
          · have hf := x_ifp c3 hf
            refine lv_iconst (v := (0 : Int32)) hx hb d_St_putDirty_31 (by decide) ?_
            obtain rfl := Option.some.inj hf
            exact x_zret hx hb hr hlocks (x_nb (Or.inl rfl)) hK hP hD hS (Nat.le_of_ble_eq_true rfl) (Nat.le_of_ble_eq_true rfl) d_St_putDirty_32
  refine lv_iconst (v := (0 : Int32)) hx hb d_St_putDirty_0 (by decide) ?_
  refine lv_istore_n (lv' := [(2, .int (0 : Int32)), (0, .ref sh), (1, .int p0)]) hx hb d_St_putDirty_1 rfl hl (by decide) rfl (fun ls hl => ?_)
  exact L_2 _ _ _ _ hf _ _ _ hP hD hS (lv_sub hl [1, 2, 0] rfl)
