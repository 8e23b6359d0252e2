set_option maxHeartbeats 4000000 in
set_option maxRecDepth 100000 in
theorem c_Mo_write (l : Launch) (D : va_G) (cI cJ cZ : ClassId) (oh o0 o1 o2 o3 o4 o5 o6 o7 o8 o9 o10 o11 o12 : Nat) (N : Nat) (p0 : Int32) (p1 : Int32) (p2 : Int32) (U : K_Mo) (r : (Int32 × K_Mo)) (hf : f_Mo_write N p0 p1 p2 U = some r) : Cx l y_Mo_write ws_Mo_write rm_Mo_write D vwCl (tyL cI cJ cZ) [.ref oh, .int p0, .int p1, .int p2] (w_Mo cI cJ cZ oh o0 o1 o2 o3 o4 o5 o6 o7 o8 o9 o10 o11 o12 U) (oI r.1) (w_Mo cI cJ cZ oh o0 o1 o2 o3 o4 o5 o6 o7 o8 o9 o10 o11 o12 r.2) := by
  unfold f_Mo_write at hf
  refine Cx.ofW (cc := b_Mo_write) (maxL := 4) (ret := (some .int)) (by decide) rfl ?_
  intro p e s m below meth c A C0 hP hK hD hA hns hZ
  obtain ⟨hx, hb, hml, hown, hts0, hr, hlocks, hnm, hno⟩ := C0
  have hown : s.vm.findClass R_Mo = some m.cls := hown
  have hts : ∀ w ∈ tb, w.before [.ref oh, .int p0, .int p1, .int p2].toArray s = true := fun w h => hts0 w (List.mem_cons_of_mem _ h)
  have hS : va_S A s.heap s.heap [] := va_S.rf
  have hl := lv_entry ([.ref oh, .int p0, .int p1, .int p2]) (n := 4) (Nat.le_of_ble_eq_true rfl)
  rw [lg_entry_eq]
  generalize (lg_sl ([.ref oh, .int p0, .int p1, .int p2]) ++ List.replicate (4 - (lg_sl ([.ref oh, .int p0, .int p1, .int p2])).length) Slot.unset).toArray = ls at hl ⊢
  have hl : lv_has ls 4 [(0, .ref oh), (1, .int p0), (2, .int p1), (3, .int p2)] := hl
  refine lv_aload_n hx hb d_Mo_write_0 rfl (lv_at hl 0 rfl) ?_
  obtain ⟨z1, hz1, hf⟩ := x_bind hf
  refine x_callV (w2 := (w_Mo cI cJ cZ oh o0 o1 o2 o3 o4 o5 o6 o7 o8 o9 o10 o11 o12 z1.2)) ⟨hx, hb, hml, hown, hts⟩ (c_Mo_begun l D cI cJ cZ oh o0 o1 o2 o3 o4 o5 o6 o7 o8 o9 o10 o11 o12 N  U z1 hz1) (x_cwV 0 hts rfl k_284 k_285 k_286 k_246 k_287 (by decide +kernel) ⟨(Nat.le_of_ble_eq_true rfl), (Nat.le_of_ble_eq_true rfl)⟩) hK hP hD hS hA hZ [0, 1, 2, 3, 4, 5, 6, 7, 8, 9, 10, 11, 12, 13] [] [0, 1, 2, 3, 4, 5, 6, 7, 8, 9, 10, 11, 12, 13] (by decide) rfl rfl (by decide) (by decide) (by decide) rfl (ci := 3) rfl rfl rfl hl.1 rfl (Nat.le_of_ble_eq_true rfl) d_Mo_write_1 ⟨(Nat.le_of_ble_eq_true rfl), (Nat.le_of_ble_eq_true rfl)⟩ (fun H locs hP hD hS => ?_)
  refine W.eq (g2 := F0 m 4 ls []) rfl ?_
  refine lv_iload_n hx hb d_Mo_write_4 rfl (lv_at hl 2 rfl) ?_
  refine lv_iconst (v := (0 : Int32)) hx hb d_Mo_write_5 (by decide) ?_
  refine lv_iconst (v := (5 : Int32)) hx hb d_Mo_write_6 (by decide) ?_
  obtain ⟨z2, hz2, hf⟩ := x_bind hf
  refine x_callS (w2 := (w_Mo cI cJ cZ oh o0 o1 o2 o3 o4 o5 o6 o7 o8 o9 o10 o11 o12 z1.2)) ⟨hx, hb, hml, hown, hts⟩ (c_Mo_in l D cI cJ cZ  N p1 (0 : Int32) (5 : Int32)  z2 hz2) (x_cwS 3 hts rfl k_269 k_270 k_246 k_271 (by decide +kernel) ⟨(Nat.le_of_ble_eq_true rfl), (Nat.le_of_ble_eq_true rfl)⟩) hK hP hD hS hA hZ [] [0, 1, 2, 3, 4, 5, 6, 7, 8, 9, 10, 11, 12, 13] [0, 1, 2, 3, 4, 5, 6, 7, 8, 9, 10, 11, 12, 13] (by decide) rfl rfl (by decide) (by decide) (by decide) rfl rfl hl.1 rfl (Nat.le_of_ble_eq_true rfl) d_Mo_write_7 ⟨(Nat.le_of_ble_eq_true rfl), (Nat.le_of_ble_eq_true rfl)⟩ (fun H locs hP hD hS => ?_)
  refine W.eq (g2 := F0 m 10 ls [.int z2]) rfl ?_
  refine lv_if_eq (tgt := 23) hx hb d_Mo_write_10 (by decide) (fun c14 => ?_) (fun c14 => ?_)
  · have hf := x_ifp c14 hf
    refine lv_aload_n hx hb d_Mo_write_23 rfl (lv_at hl 0 rfl) ?_
    refine lv_iconst (v := (1 : Int32)) hx hb d_Mo_write_24 (by decide) ?_
    obtain ⟨z3, hz3, hf⟩ := x_bind hf
    refine x_callV (w2 := (w_Mo cI cJ cZ oh o0 o1 o2 o3 o4 o5 o6 o7 o8 o9 o10 o11 o12 z3.2)) ⟨hx, hb, hml, hown, hts⟩ (c_Mo_raise l D cI cJ cZ oh o0 o1 o2 o3 o4 o5 o6 o7 o8 o9 o10 o11 o12 N (1 : Int32) z1.2 z3 hz3) (x_cwV 1 hts rfl k_272 k_273 k_274 k_246 k_275 (by decide +kernel) ⟨(Nat.le_of_ble_eq_true rfl), (Nat.le_of_ble_eq_true rfl)⟩) hK hP hD hS hA hZ [0, 1, 2, 3, 4, 5, 6, 7, 8, 9, 10, 11, 12, 13] [] [0, 1, 2, 3, 4, 5, 6, 7, 8, 9, 10, 11, 12, 13] (by decide) rfl rfl (by decide) (by decide) (by decide) rfl (ci := 3) rfl rfl rfl hl.1 rfl (Nat.le_of_ble_eq_true rfl) d_Mo_write_25 ⟨(Nat.le_of_ble_eq_true rfl), (Nat.le_of_ble_eq_true rfl)⟩ (fun H locs hP hD hS => ?_)
    refine W.eq (g2 := F0 m 28 ls [.int z3.1]) rfl ?_
    obtain rfl := Option.some.inj hf
    exact x_iret hx hb hr hlocks hK hP hD hS (Nat.le_of_ble_eq_true rfl) (Nat.le_of_ble_eq_true rfl) d_Mo_write_28
  · have hf := x_ifn c14 hf
    refine lv_iload_n hx hb d_Mo_write_13 rfl (lv_at hl 3 rfl) ?_
    refine lv_iconst (v := (0 : Int32)) hx hb d_Mo_write_14 (by decide) ?_
    refine lv_ldc hx hb hown (hts _ k_320) d_Mo_write_15 ?_
    obtain ⟨z4, hz4, hf⟩ := x_bind hf
    refine x_callS (w2 := (w_Mo cI cJ cZ oh o0 o1 o2 o3 o4 o5 o6 o7 o8 o9 o10 o11 o12 z1.2)) ⟨hx, hb, hml, hown, hts⟩ (c_Mo_in l D cI cJ cZ  N p2 (0 : Int32) (1000000 : Int32)  z4 hz4) (x_cwS 3 hts rfl k_269 k_270 k_246 k_271 (by decide +kernel) ⟨(Nat.le_of_ble_eq_true rfl), (Nat.le_of_ble_eq_true rfl)⟩) hK hP hD hS hA hZ [] [0, 1, 2, 3, 4, 5, 6, 7, 8, 9, 10, 11, 12, 13] [0, 1, 2, 3, 4, 5, 6, 7, 8, 9, 10, 11, 12, 13] (by decide) rfl rfl (by decide) (by decide) (by decide) rfl rfl hl.1 rfl (Nat.le_of_ble_eq_true rfl) d_Mo_write_17 ⟨(Nat.le_of_ble_eq_true rfl), (Nat.le_of_ble_eq_true rfl)⟩ (fun H locs hP hD hS => ?_)
    refine W.eq (g2 := F0 m 20 ls [.int z4]) rfl ?_
    refine lv_if_ne (tgt := 29) hx hb d_Mo_write_20 (by decide) (fun c13 => ?_) (fun c13 => ?_)
    · have hf := x_ifn c13 hf
      refine lv_aload_n hx hb d_Mo_write_29 rfl (lv_at hl 0 rfl) ?_
      refine lv_iload_n hx hb d_Mo_write_30 rfl (lv_at hl 1 rfl) ?_
      obtain ⟨z5, hz5, hf⟩ := x_bind hf
      refine x_callV (w2 := (w_Mo cI cJ cZ oh o0 o1 o2 o3 o4 o5 o6 o7 o8 o9 o10 o11 o12 z5.2)) ⟨hx, hb, hml, hown, hts⟩ (c_Mo_idle l D cI cJ cZ oh o0 o1 o2 o3 o4 o5 o6 o7 o8 o9 o10 o11 o12 N p0 z1.2 z5 hz5) (x_cwV 1 hts rfl k_300 k_301 k_302 k_246 k_303 (by decide +kernel) ⟨(Nat.le_of_ble_eq_true rfl), (Nat.le_of_ble_eq_true rfl)⟩) hK hP hD hS hA hZ [0, 1, 2, 3, 4, 5, 6, 7, 8, 9, 10, 11, 12, 13] [] [0, 1, 2, 3, 4, 5, 6, 7, 8, 9, 10, 11, 12, 13] (by decide) rfl rfl (by decide) (by decide) (by decide) rfl (ci := 3) rfl rfl rfl hl.1 rfl (Nat.le_of_ble_eq_true rfl) d_Mo_write_31 ⟨(Nat.le_of_ble_eq_true rfl), (Nat.le_of_ble_eq_true rfl)⟩ (fun H locs hP hD hS => ?_)
      refine W.eq (g2 := F0 m 34 ls [.int z5.1]) rfl ?_
      refine lv_if_eq (tgt := 43) hx hb d_Mo_write_34 (by decide) (fun c11 => ?_) (fun c11 => ?_)
      · have hf := x_ifp c11 hf
        refine lv_aload_n hx hb d_Mo_write_43 rfl (lv_at hl 0 rfl) ?_
        refine lv_iload_n hx hb d_Mo_write_44 rfl (lv_at hl 1 rfl) ?_
        refine lv_iload_n hx hb d_Mo_write_45 rfl (lv_at hl 2 rfl) ?_
        refine lv_iload_n hx hb d_Mo_write_46 rfl (lv_at hl 3 rfl) ?_
        obtain ⟨z6, hz6, hf⟩ := x_bind hf
        refine x_callV (w2 := (w_Mo cI cJ cZ oh o0 o1 o2 o3 o4 o5 o6 o7 o8 o9 o10 o11 o12 z6.2)) ⟨hx, hb, hml, hown, hts⟩ (c_Mo_change l D cI cJ cZ oh o0 o1 o2 o3 o4 o5 o6 o7 o8 o9 o10 o11 o12 N p0 p1 p2 z5.2 z6 hz6) (x_cwV 3 hts rfl k_321 k_322 k_323 k_246 k_324 (by decide +kernel) ⟨(Nat.le_of_ble_eq_true rfl), (Nat.le_of_ble_eq_true rfl)⟩) hK hP hD hS hA hZ [0, 1, 2, 3, 4, 5, 6, 7, 8, 9, 10, 11, 12, 13] [] [0, 1, 2, 3, 4, 5, 6, 7, 8, 9, 10, 11, 12, 13] (by decide) rfl rfl (by decide) (by decide) (by decide) rfl (ci := 3) rfl rfl rfl hl.1 rfl (Nat.le_of_ble_eq_true rfl) d_Mo_write_47 ⟨(Nat.le_of_ble_eq_true rfl), (Nat.le_of_ble_eq_true rfl)⟩ (fun H locs hP hD hS => ?_)
        refine W.eq (g2 := F0 m 50 ls []) rfl ?_
        refine lv_aload_n hx hb d_Mo_write_50 rfl (lv_at hl 0 rfl) ?_
        refine va_get (D := D) (ci := 3) (v := .int z6.2.2.2.2.2.2.2.2.2.2.2.2.2) (C := R_Mo) (T := F_Mo) (N := 19) hx hb hts i_Mo hown hK hP 0 rfl rfl 18 (by decide) (hts _ k_268) (fun _ h9 => h9) rfl d_Mo_write_51 ?_
        refine lv_if_le (tgt := 70) hx hb d_Mo_write_54 (by decide) (fun c9 => ?_) (fun c9 => ?_)
        · have hf := x_ifp c9 hf
          refine lv_aload_n hx hb d_Mo_write_70 rfl (lv_at hl 0 rfl) ?_
          refine lv_iconst (v := (1 : Int32)) hx hb d_Mo_write_71 (by decide) ?_
          obtain ⟨z7, hz7, hf⟩ := x_bind hf
          refine x_callV (w2 := (w_Mo cI cJ cZ oh o0 o1 o2 o3 o4 o5 o6 o7 o8 o9 o10 o11 o12 z7.2)) ⟨hx, hb, hml, hown, hts⟩ (c_Mo_done l D cI cJ cZ oh o0 o1 o2 o3 o4 o5 o6 o7 o8 o9 o10 o11 o12 N (1 : Int32) z6.2 z7 hz7) (x_cwV 1 hts rfl k_276 k_277 k_278 k_246 k_279 (by decide +kernel) ⟨(Nat.le_of_ble_eq_true rfl), (Nat.le_of_ble_eq_true rfl)⟩) hK hP hD hS hA hZ [0, 1, 2, 3, 4, 5, 6, 7, 8, 9, 10, 11, 12, 13] [] [0, 1, 2, 3, 4, 5, 6, 7, 8, 9, 10, 11, 12, 13] (by decide) rfl rfl (by decide) (by decide) (by decide) rfl (ci := 3) rfl rfl rfl hl.1 rfl (Nat.le_of_ble_eq_true rfl) d_Mo_write_72 ⟨(Nat.le_of_ble_eq_true rfl), (Nat.le_of_ble_eq_true rfl)⟩ (fun H locs hP hD hS => ?_)
          refine W.eq (g2 := F0 m 75 ls [.int z7.1]) rfl ?_
          obtain rfl := Option.some.inj hf
          exact x_iret hx hb hr hlocks hK hP hD hS (Nat.le_of_ble_eq_true rfl) (Nat.le_of_ble_eq_true rfl) d_Mo_write_75
        · have hf := x_ifn c9 hf
          refine lv_aload_n hx hb d_Mo_write_57 rfl (lv_at hl 0 rfl) ?_
          refine lv_iconst (v := (2 : Int32)) hx hb d_Mo_write_58 (by decide) ?_
          refine lv_aload_n hx hb d_Mo_write_59 rfl (lv_at hl 0 rfl) ?_
          refine va_get (D := D) (ci := 3) (v := .int z6.2.2.2.2.2.2.2.2.2.2.2.2.2) (C := R_Mo) (T := F_Mo) (N := 19) hx hb hts i_Mo hown hK hP 0 rfl rfl 18 (by decide) (hts _ k_268) (fun _ h9 => h9) rfl d_Mo_write_60 ?_
          refine lv_iadd hx hb d_Mo_write_63 ?_
          obtain ⟨z8, hz8, hf⟩ := x_bind hf
          refine x_callV (w2 := (w_Mo cI cJ cZ oh o0 o1 o2 o3 o4 o5 o6 o7 o8 o9 o10 o11 o12 z8.2)) ⟨hx, hb, hml, hown, hts⟩ (c_Mo_raise l D cI cJ cZ oh o0 o1 o2 o3 o4 o5 o6 o7 o8 o9 o10 o11 o12 N ((2 : Int32) + z6.2.2.2.2.2.2.2.2.2.2.2.2.2) z6.2 z8 hz8) (x_cwV 1 hts rfl k_272 k_273 k_274 k_246 k_275 (by decide +kernel) ⟨(Nat.le_of_ble_eq_true rfl), (Nat.le_of_ble_eq_true rfl)⟩) hK hP hD hS hA hZ [0, 1, 2, 3, 4, 5, 6, 7, 8, 9, 10, 11, 12, 13] [] [0, 1, 2, 3, 4, 5, 6, 7, 8, 9, 10, 11, 12, 13] (by decide) rfl rfl (by decide) (by decide) (by decide) rfl (ci := 3) rfl rfl rfl hl.1 rfl (Nat.le_of_ble_eq_true rfl) d_Mo_write_64 ⟨(Nat.le_of_ble_eq_true rfl), (Nat.le_of_ble_eq_true rfl)⟩ (fun H locs hP hD hS => ?_)
          refine W.eq (g2 := F0 m 67 ls [.int z8.1]) rfl ?_
          refine lv_goto (tgt := 75) hx hb d_Mo_write_67 (by decide) ?_
          obtain rfl := Option.some.inj hf
          exact x_iret hx hb hr hlocks hK hP hD hS (Nat.le_of_ble_eq_true rfl) (Nat.le_of_ble_eq_true rfl) d_Mo_write_75
      · have hf := x_ifn c11 hf
        refine lv_aload_n hx hb d_Mo_write_37 rfl (lv_at hl 0 rfl) ?_
        refine lv_iconst (v := (2 : Int32)) hx hb d_Mo_write_38 (by decide) ?_
        obtain ⟨z10, hz10, hf⟩ := x_bind hf
        refine x_callV (w2 := (w_Mo cI cJ cZ oh o0 o1 o2 o3 o4 o5 o6 o7 o8 o9 o10 o11 o12 z10.2)) ⟨hx, hb, hml, hown, hts⟩ (c_Mo_raise l D cI cJ cZ oh o0 o1 o2 o3 o4 o5 o6 o7 o8 o9 o10 o11 o12 N (2 : Int32) z5.2 z10 hz10) (x_cwV 1 hts rfl k_272 k_273 k_274 k_246 k_275 (by decide +kernel) ⟨(Nat.le_of_ble_eq_true rfl), (Nat.le_of_ble_eq_true rfl)⟩) hK hP hD hS hA hZ [0, 1, 2, 3, 4, 5, 6, 7, 8, 9, 10, 11, 12, 13] [] [0, 1, 2, 3, 4, 5, 6, 7, 8, 9, 10, 11, 12, 13] (by decide) rfl rfl (by decide) (by decide) (by decide) rfl (ci := 3) rfl rfl rfl hl.1 rfl (Nat.le_of_ble_eq_true rfl) d_Mo_write_39 ⟨(Nat.le_of_ble_eq_true rfl), (Nat.le_of_ble_eq_true rfl)⟩ (fun H locs hP hD hS => ?_)
        refine W.eq (g2 := F0 m 42 ls [.int z10.1]) rfl ?_
        obtain rfl := Option.some.inj hf
        exact x_iret hx hb hr hlocks hK hP hD hS (Nat.le_of_ble_eq_true rfl) (Nat.le_of_ble_eq_true rfl) d_Mo_write_42
    · have hf := x_ifp c13 hf
      refine lv_aload_n hx hb d_Mo_write_23 rfl (lv_at hl 0 rfl) ?_
      refine lv_iconst (v := (1 : Int32)) hx hb d_Mo_write_24 (by decide) ?_
      obtain ⟨z12, hz12, hf⟩ := x_bind hf
      refine x_callV (w2 := (w_Mo cI cJ cZ oh o0 o1 o2 o3 o4 o5 o6 o7 o8 o9 o10 o11 o12 z12.2)) ⟨hx, hb, hml, hown, hts⟩ (c_Mo_raise l D cI cJ cZ oh o0 o1 o2 o3 o4 o5 o6 o7 o8 o9 o10 o11 o12 N (1 : Int32) z1.2 z12 hz12) (x_cwV 1 hts rfl k_272 k_273 k_274 k_246 k_275 (by decide +kernel) ⟨(Nat.le_of_ble_eq_true rfl), (Nat.le_of_ble_eq_true rfl)⟩) hK hP hD hS hA hZ [0, 1, 2, 3, 4, 5, 6, 7, 8, 9, 10, 11, 12, 13] [] [0, 1, 2, 3, 4, 5, 6, 7, 8, 9, 10, 11, 12, 13] (by decide) rfl rfl (by decide) (by decide) (by decide) rfl (ci := 3) rfl rfl rfl hl.1 rfl (Nat.le_of_ble_eq_true rfl) d_Mo_write_25 ⟨(Nat.le_of_ble_eq_true rfl), (Nat.le_of_ble_eq_true rfl)⟩ (fun H locs hP hD hS => ?_)
      refine W.eq (g2 := F0 m 28 ls [.int z12.1]) rfl ?_
      obtain rfl := Option.some.inj hf
      exact x_iret hx hb hr hlocks hK hP hD hS (Nat.le_of_ble_eq_true rfl) (Nat.le_of_ble_eq_true rfl) d_Mo_write_28
set_option maxHeartbeats 4000000 in
set_option maxRecDepth 100000 in
theorem c_Mo_erase (l : Launch) (D : va_G) (cI cJ cZ : ClassId) (oh o0 o1 o2 o3 o4 o5 o6 o7 o8 o9 o10 o11 o12 : Nat) (N : Nat) (p0 : Int32) (p1 : Int32) (U : K_Mo) (r : (Int32 × K_Mo)) (hf : f_Mo_erase N p0 p1 U = some r) : Cx l y_Mo_erase ws_Mo_erase rm_Mo_erase D vwCl (tyL cI cJ cZ) [.ref oh, .int p0, .int p1] (w_Mo cI cJ cZ oh o0 o1 o2 o3 o4 o5 o6 o7 o8 o9 o10 o11 o12 U) (oI r.1) (w_Mo cI cJ cZ oh o0 o1 o2 o3 o4 o5 o6 o7 o8 o9 o10 o11 o12 r.2) := by
  unfold f_Mo_erase at hf
  refine Cx.ofW (cc := b_Mo_erase) (maxL := 3) (ret := (some .int)) (by decide) rfl ?_
  intro p e s m below meth c A C0 hP hK hD hA hns hZ
  obtain ⟨hx, hb, hml, hown, hts0, hr, hlocks, hnm, hno⟩ := C0
  have hown : s.vm.findClass R_Mo = some m.cls := hown
  have hts : ∀ w ∈ tb, w.before [.ref oh, .int p0, .int p1].toArray s = true := fun w h => hts0 w (List.mem_cons_of_mem _ h)
  have hS : va_S A s.heap s.heap [] := va_S.rf
  have hl := lv_entry ([.ref oh, .int p0, .int p1]) (n := 3) (Nat.le_of_ble_eq_true rfl)
  rw [lg_entry_eq]
  generalize (lg_sl ([.ref oh, .int p0, .int p1]) ++ List.replicate (3 - (lg_sl ([.ref oh, .int p0, .int p1])).length) Slot.unset).toArray = ls at hl ⊢
  have hl : lv_has ls 3 [(0, .ref oh), (1, .int p0), (2, .int p1)] := hl
  refine lv_aload_n hx hb d_Mo_erase_0 rfl (lv_at hl 0 rfl) ?_
  obtain ⟨z1, hz1, hf⟩ := x_bind hf
  refine x_callV (w2 := (w_Mo cI cJ cZ oh o0 o1 o2 o3 o4 o5 o6 o7 o8 o9 o10 o11 o12 z1.2)) ⟨hx, hb, hml, hown, hts⟩ (c_Mo_begun l D cI cJ cZ oh o0 o1 o2 o3 o4 o5 o6 o7 o8 o9 o10 o11 o12 N  U z1 hz1) (x_cwV 0 hts rfl k_284 k_285 k_286 k_246 k_287 (by decide +kernel) ⟨(Nat.le_of_ble_eq_true rfl), (Nat.le_of_ble_eq_true rfl)⟩) hK hP hD hS hA hZ [0, 1, 2, 3, 4, 5, 6, 7, 8, 9, 10, 11, 12, 13] [] [0, 1, 2, 3, 4, 5, 6, 7, 8, 9, 10, 11, 12, 13] (by decide) rfl rfl (by decide) (by decide) (by decide) rfl (ci := 3) rfl rfl rfl hl.1 rfl (Nat.le_of_ble_eq_true rfl) d_Mo_erase_1 ⟨(Nat.le_of_ble_eq_true rfl), (Nat.le_of_ble_eq_true rfl)⟩ (fun H locs hP hD hS => ?_)
  refine W.eq (g2 := F0 m 4 ls []) rfl ?_
  refine lv_iload_n hx hb d_Mo_erase_4 rfl (lv_at hl 2 rfl) ?_
  refine lv_iconst (v := (0 : Int32)) hx hb d_Mo_erase_5 (by decide) ?_
  refine lv_iconst (v := (5 : Int32)) hx hb d_Mo_erase_6 (by decide) ?_
  obtain ⟨z2, hz2, hf⟩ := x_bind hf
  refine x_callS (w2 := (w_Mo cI cJ cZ oh o0 o1 o2 o3 o4 o5 o6 o7 o8 o9 o10 o11 o12 z1.2)) ⟨hx, hb, hml, hown, hts⟩ (c_Mo_in l D cI cJ cZ  N p1 (0 : Int32) (5 : Int32)  z2 hz2) (x_cwS 3 hts rfl k_269 k_270 k_246 k_271 (by decide +kernel) ⟨(Nat.le_of_ble_eq_true rfl), (Nat.le_of_ble_eq_true rfl)⟩) hK hP hD hS hA hZ [] [0, 1, 2, 3, 4, 5, 6, 7, 8, 9, 10, 11, 12, 13] [0, 1, 2, 3, 4, 5, 6, 7, 8, 9, 10, 11, 12, 13] (by decide) rfl rfl (by decide) (by decide) (by decide) rfl rfl hl.1 rfl (Nat.le_of_ble_eq_true rfl) d_Mo_erase_7 ⟨(Nat.le_of_ble_eq_true rfl), (Nat.le_of_ble_eq_true rfl)⟩ (fun H locs hP hD hS => ?_)
  refine W.eq (g2 := F0 m 10 ls [.int z2]) rfl ?_
  refine lv_if_ne (tgt := 19) hx hb d_Mo_erase_10 (by decide) (fun c14 => ?_) (fun c14 => ?_)
  · have hf := x_ifn c14 hf
    refine lv_aload_n hx hb d_Mo_erase_19 rfl (lv_at hl 0 rfl) ?_
    refine lv_iload_n hx hb d_Mo_erase_20 rfl (lv_at hl 1 rfl) ?_
    obtain ⟨z3, hz3, hf⟩ := x_bind hf
    refine x_callV (w2 := (w_Mo cI cJ cZ oh o0 o1 o2 o3 o4 o5 o6 o7 o8 o9 o10 o11 o12 z3.2)) ⟨hx, hb, hml, hown, hts⟩ (c_Mo_idle l D cI cJ cZ oh o0 o1 o2 o3 o4 o5 o6 o7 o8 o9 o10 o11 o12 N p0 z1.2 z3 hz3) (x_cwV 1 hts rfl k_300 k_301 k_302 k_246 k_303 (by decide +kernel) ⟨(Nat.le_of_ble_eq_true rfl), (Nat.le_of_ble_eq_true rfl)⟩) hK hP hD hS hA hZ [0, 1, 2, 3, 4, 5, 6, 7, 8, 9, 10, 11, 12, 13] [] [0, 1, 2, 3, 4, 5, 6, 7, 8, 9, 10, 11, 12, 13] (by decide) rfl rfl (by decide) (by decide) (by decide) rfl (ci := 3) rfl rfl rfl hl.1 rfl (Nat.le_of_ble_eq_true rfl) d_Mo_erase_21 ⟨(Nat.le_of_ble_eq_true rfl), (Nat.le_of_ble_eq_true rfl)⟩ (fun H locs hP hD hS => ?_)
    refine W.eq (g2 := F0 m 24 ls [.int z3.1]) rfl ?_
    refine lv_if_eq (tgt := 33) hx hb d_Mo_erase_24 (by decide) (fun c12 => ?_) (fun c12 => ?_)
    · have hf := x_ifp c12 hf
      refine lv_aload_n hx hb d_Mo_erase_33 rfl (lv_at hl 0 rfl) ?_
      refine lv_iload_n hx hb d_Mo_erase_34 rfl (lv_at hl 1 rfl) ?_
      refine lv_iload_n hx hb d_Mo_erase_35 rfl (lv_at hl 2 rfl) ?_
      obtain ⟨z4, hz4, hf⟩ := x_bind hf
      refine x_callV (w2 := (w_Mo cI cJ cZ oh o0 o1 o2 o3 o4 o5 o6 o7 o8 o9 o10 o11 o12 z4.2)) ⟨hx, hb, hml, hown, hts⟩ (c_Mo_reads l D cI cJ cZ oh o0 o1 o2 o3 o4 o5 o6 o7 o8 o9 o10 o11 o12 N p0 p1 z3.2 z4 hz4) (x_cwV 2 hts rfl k_296 k_297 k_298 k_246 k_299 (by decide +kernel) ⟨(Nat.le_of_ble_eq_true rfl), (Nat.le_of_ble_eq_true rfl)⟩) hK hP hD hS hA hZ [0, 1, 2, 3, 4, 5, 6, 7, 8, 9, 10, 11, 12, 13] [] [0, 1, 2, 3, 4, 5, 6, 7, 8, 9, 10, 11, 12, 13] (by decide) rfl rfl (by decide) (by decide) (by decide) rfl (ci := 3) rfl rfl rfl hl.1 rfl (Nat.le_of_ble_eq_true rfl) d_Mo_erase_36 ⟨(Nat.le_of_ble_eq_true rfl), (Nat.le_of_ble_eq_true rfl)⟩ (fun H locs hP hD hS => ?_)
      refine W.eq (g2 := F0 m 39 ls [.int z4.1]) rfl ?_
      refine lv_if_ge (tgt := 48) hx hb d_Mo_erase_39 (by decide) (fun c10 => ?_) (fun c10 => ?_)
      · have hf := x_ifp c10 hf
        refine lv_aload_n hx hb d_Mo_erase_48 rfl (lv_at hl 0 rfl) ?_
        refine lv_iload_n hx hb d_Mo_erase_49 rfl (lv_at hl 1 rfl) ?_
        refine lv_iload_n hx hb d_Mo_erase_50 rfl (lv_at hl 2 rfl) ?_
        refine lv_iconst (v := (-1 : Int32)) hx hb d_Mo_erase_51 (by decide) ?_
        obtain ⟨z5, hz5, hf⟩ := x_bind hf
        refine x_callV (w2 := (w_Mo cI cJ cZ oh o0 o1 o2 o3 o4 o5 o6 o7 o8 o9 o10 o11 o12 z5.2)) ⟨hx, hb, hml, hown, hts⟩ (c_Mo_change l D cI cJ cZ oh o0 o1 o2 o3 o4 o5 o6 o7 o8 o9 o10 o11 o12 N p0 p1 (-1 : Int32) z4.2 z5 hz5) (x_cwV 3 hts rfl k_321 k_322 k_323 k_246 k_324 (by decide +kernel) ⟨(Nat.le_of_ble_eq_true rfl), (Nat.le_of_ble_eq_true rfl)⟩) hK hP hD hS hA hZ [0, 1, 2, 3, 4, 5, 6, 7, 8, 9, 10, 11, 12, 13] [] [0, 1, 2, 3, 4, 5, 6, 7, 8, 9, 10, 11, 12, 13] (by decide) rfl rfl (by decide) (by decide) (by decide) rfl (ci := 3) rfl rfl rfl hl.1 rfl (Nat.le_of_ble_eq_true rfl) d_Mo_erase_52 ⟨(Nat.le_of_ble_eq_true rfl), (Nat.le_of_ble_eq_true rfl)⟩ (fun H locs hP hD hS => ?_)
        refine W.eq (g2 := F0 m 55 ls []) rfl ?_
        refine lv_aload_n hx hb d_Mo_erase_55 rfl (lv_at hl 0 rfl) ?_
        refine va_get (D := D) (ci := 3) (v := .int z5.2.2.2.2.2.2.2.2.2.2.2.2.2) (C := R_Mo) (T := F_Mo) (N := 19) hx hb hts i_Mo hown hK hP 0 rfl rfl 18 (by decide) (hts _ k_268) (fun _ h9 => h9) rfl d_Mo_erase_56 ?_
        refine lv_if_le (tgt := 75) hx hb d_Mo_erase_59 (by decide) (fun c8 => ?_) (fun c8 => ?_)
        · have hf := x_ifp c8 hf
          refine lv_aload_n hx hb d_Mo_erase_75 rfl (lv_at hl 0 rfl) ?_
          refine lv_iconst (v := (1 : Int32)) hx hb d_Mo_erase_76 (by decide) ?_
          obtain ⟨z6, hz6, hf⟩ := x_bind hf
          refine x_callV (w2 := (w_Mo cI cJ cZ oh o0 o1 o2 o3 o4 o5 o6 o7 o8 o9 o10 o11 o12 z6.2)) ⟨hx, hb, hml, hown, hts⟩ (c_Mo_done l D cI cJ cZ oh o0 o1 o2 o3 o4 o5 o6 o7 o8 o9 o10 o11 o12 N (1 : Int32) z5.2 z6 hz6) (x_cwV 1 hts rfl k_276 k_277 k_278 k_246 k_279 (by decide +kernel) ⟨(Nat.le_of_ble_eq_true rfl), (Nat.le_of_ble_eq_true rfl)⟩) hK hP hD hS hA hZ [0, 1, 2, 3, 4, 5, 6, 7, 8, 9, 10, 11, 12, 13] [] [0, 1, 2, 3, 4, 5, 6, 7, 8, 9, 10, 11, 12, 13] (by decide) rfl rfl (by decide) (by decide) (by decide) rfl (ci := 3) rfl rfl rfl hl.1 rfl (Nat.le_of_ble_eq_true rfl) d_Mo_erase_77 ⟨(Nat.le_of_ble_eq_true rfl), (Nat.le_of_ble_eq_true rfl)⟩ (fun H locs hP hD hS => ?_)
          refine W.eq (g2 := F0 m 80 ls [.int z6.1]) rfl ?_
          obtain rfl := Option.some.inj hf
          exact x_iret hx hb hr hlocks hK hP hD hS (Nat.le_of_ble_eq_true rfl) (Nat.le_of_ble_eq_true rfl) d_Mo_erase_80
        · have hf := x_ifn c8 hf
          refine lv_aload_n hx hb d_Mo_erase_62 rfl (lv_at hl 0 rfl) ?_
          refine lv_iconst (v := (3 : Int32)) hx hb d_Mo_erase_63 (by decide) ?_
          refine lv_aload_n hx hb d_Mo_erase_64 rfl (lv_at hl 0 rfl) ?_
          refine va_get (D := D) (ci := 3) (v := .int z5.2.2.2.2.2.2.2.2.2.2.2.2.2) (C := R_Mo) (T := F_Mo) (N := 19) hx hb hts i_Mo hown hK hP 0 rfl rfl 18 (by decide) (hts _ k_268) (fun _ h9 => h9) rfl d_Mo_erase_65 ?_
          refine lv_iadd hx hb d_Mo_erase_68 ?_
          obtain ⟨z7, hz7, hf⟩ := x_bind hf
          refine x_callV (w2 := (w_Mo cI cJ cZ oh o0 o1 o2 o3 o4 o5 o6 o7 o8 o9 o10 o11 o12 z7.2)) ⟨hx, hb, hml, hown, hts⟩ (c_Mo_raise l D cI cJ cZ oh o0 o1 o2 o3 o4 o5 o6 o7 o8 o9 o10 o11 o12 N ((3 : Int32) + z5.2.2.2.2.2.2.2.2.2.2.2.2.2) z5.2 z7 hz7) (x_cwV 1 hts rfl k_272 k_273 k_274 k_246 k_275 (by decide +kernel) ⟨(Nat.le_of_ble_eq_true rfl), (Nat.le_of_ble_eq_true rfl)⟩) hK hP hD hS hA hZ [0, 1, 2, 3, 4, 5, 6, 7, 8, 9, 10, 11, 12, 13] [] [0, 1, 2, 3, 4, 5, 6, 7, 8, 9, 10, 11, 12, 13] (by decide) rfl rfl (by decide) (by decide) (by decide) rfl (ci := 3) rfl rfl rfl hl.1 rfl (Nat.le_of_ble_eq_true rfl) d_Mo_erase_69 ⟨(Nat.le_of_ble_eq_true rfl), (Nat.le_of_ble_eq_true rfl)⟩ (fun H locs hP hD hS => ?_)
          refine W.eq (g2 := F0 m 72 ls [.int z7.1]) rfl ?_
          refine lv_goto (tgt := 80) hx hb d_Mo_erase_72 (by decide) ?_
          obtain rfl := Option.some.inj hf
          exact x_iret hx hb hr hlocks hK hP hD hS (Nat.le_of_ble_eq_true rfl) (Nat.le_of_ble_eq_true rfl) d_Mo_erase_80
      · have hf := x_ifn c10 hf
        refine lv_aload_n hx hb d_Mo_erase_42 rfl (lv_at hl 0 rfl) ?_
        refine lv_iconst (v := (3 : Int32)) hx hb d_Mo_erase_43 (by decide) ?_
        obtain ⟨z9, hz9, hf⟩ := x_bind hf
        refine x_callV (w2 := (w_Mo cI cJ cZ oh o0 o1 o2 o3 o4 o5 o6 o7 o8 o9 o10 o11 o12 z9.2)) ⟨hx, hb, hml, hown, hts⟩ (c_Mo_raise l D cI cJ cZ oh o0 o1 o2 o3 o4 o5 o6 o7 o8 o9 o10 o11 o12 N (3 : Int32) z4.2 z9 hz9) (x_cwV 1 hts rfl k_272 k_273 k_274 k_246 k_275 (by decide +kernel) ⟨(Nat.le_of_ble_eq_true rfl), (Nat.le_of_ble_eq_true rfl)⟩) hK hP hD hS hA hZ [0, 1, 2, 3, 4, 5, 6, 7, 8, 9, 10, 11, 12, 13] [] [0, 1, 2, 3, 4, 5, 6, 7, 8, 9, 10, 11, 12, 13] (by decide) rfl rfl (by decide) (by decide) (by decide) rfl (ci := 3) rfl rfl rfl hl.1 rfl (Nat.le_of_ble_eq_true rfl) d_Mo_erase_44 ⟨(Nat.le_of_ble_eq_true rfl), (Nat.le_of_ble_eq_true rfl)⟩ (fun H locs hP hD hS => ?_)
        refine W.eq (g2 := F0 m 47 ls [.int z9.1]) rfl ?_
        obtain rfl := Option.some.inj hf
        exact x_iret hx hb hr hlocks hK hP hD hS (Nat.le_of_ble_eq_true rfl) (Nat.le_of_ble_eq_true rfl) d_Mo_erase_47
    · have hf := x_ifn c12 hf
      refine lv_aload_n hx hb d_Mo_erase_27 rfl (lv_at hl 0 rfl) ?_
      refine lv_iconst (v := (2 : Int32)) hx hb d_Mo_erase_28 (by decide) ?_
      obtain ⟨z11, hz11, hf⟩ := x_bind hf
      refine x_callV (w2 := (w_Mo cI cJ cZ oh o0 o1 o2 o3 o4 o5 o6 o7 o8 o9 o10 o11 o12 z11.2)) ⟨hx, hb, hml, hown, hts⟩ (c_Mo_raise l D cI cJ cZ oh o0 o1 o2 o3 o4 o5 o6 o7 o8 o9 o10 o11 o12 N (2 : Int32) z3.2 z11 hz11) (x_cwV 1 hts rfl k_272 k_273 k_274 k_246 k_275 (by decide +kernel) ⟨(Nat.le_of_ble_eq_true rfl), (Nat.le_of_ble_eq_true rfl)⟩) hK hP hD hS hA hZ [0, 1, 2, 3, 4, 5, 6, 7, 8, 9, 10, 11, 12, 13] [] [0, 1, 2, 3, 4, 5, 6, 7, 8, 9, 10, 11, 12, 13] (by decide) rfl rfl (by decide) (by decide) (by decide) rfl (ci := 3) rfl rfl rfl hl.1 rfl (Nat.le_of_ble_eq_true rfl) d_Mo_erase_29 ⟨(Nat.le_of_ble_eq_true rfl), (Nat.le_of_ble_eq_true rfl)⟩ (fun H locs hP hD hS => ?_)
      refine W.eq (g2 := F0 m 32 ls [.int z11.1]) rfl ?_
      obtain rfl := Option.some.inj hf
      exact x_iret hx hb hr hlocks hK hP hD hS (Nat.le_of_ble_eq_true rfl) (Nat.le_of_ble_eq_true rfl) d_Mo_erase_32
  · have hf := x_ifp c14 hf
    refine lv_aload_n hx hb d_Mo_erase_13 rfl (lv_at hl 0 rfl) ?_
    refine lv_iconst (v := (1 : Int32)) hx hb d_Mo_erase_14 (by decide) ?_
    obtain ⟨z13, hz13, hf⟩ := x_bind hf
    refine x_callV (w2 := (w_Mo cI cJ cZ oh o0 o1 o2 o3 o4 o5 o6 o7 o8 o9 o10 o11 o12 z13.2)) ⟨hx, hb, hml, hown, hts⟩ (c_Mo_raise l D cI cJ cZ oh o0 o1 o2 o3 o4 o5 o6 o7 o8 o9 o10 o11 o12 N (1 : Int32) z1.2 z13 hz13) (x_cwV 1 hts rfl k_272 k_273 k_274 k_246 k_275 (by decide +kernel) ⟨(Nat.le_of_ble_eq_true rfl), (Nat.le_of_ble_eq_true rfl)⟩) hK hP hD hS hA hZ [0, 1, 2, 3, 4, 5, 6, 7, 8, 9, 10, 11, 12, 13] [] [0, 1, 2, 3, 4, 5, 6, 7, 8, 9, 10, 11, 12, 13] (by decide) rfl rfl (by decide) (by decide) (by decide) rfl (ci := 3) rfl rfl rfl hl.1 rfl (Nat.le_of_ble_eq_true rfl) d_Mo_erase_15 ⟨(Nat.le_of_ble_eq_true rfl), (Nat.le_of_ble_eq_true rfl)⟩ (fun H locs hP hD hS => ?_)
    refine W.eq (g2 := F0 m 18 ls [.int z13.1]) rfl ?_
    obtain rfl := Option.some.inj hf
    exact x_iret hx hb hr hlocks hK hP hD hS (Nat.le_of_ble_eq_true rfl) (Nat.le_of_ble_eq_true rfl) d_Mo_erase_18
set_option maxHeartbeats 4000000 in
set_option maxRecDepth 100000 in
theorem c_Mo_commit (l : Launch) (D : va_G) (cI cJ cZ : ClassId) (oh o0 o1 o2 o3 o4 o5 o6 o7 o8 o9 o10 o11 o12 : Nat) (N : Nat) (p0 : Int32) (U : K_Mo) (r : (Int32 × K_Mo)) (hf : f_Mo_commit N p0 U = some r) : Cx l y_Mo_commit ws_Mo_commit rm_Mo_commit D vwCl (tyL cI cJ cZ) [.ref oh, .int p0] (w_Mo cI cJ cZ oh o0 o1 o2 o3 o4 o5 o6 o7 o8 o9 o10 o11 o12 U) (oI r.1) (w_Mo cI cJ cZ oh o0 o1 o2 o3 o4 o5 o6 o7 o8 o9 o10 o11 o12 r.2) := by
  unfold f_Mo_commit at hf
  refine Cx.ofW (cc := b_Mo_commit) (maxL := 4) (ret := (some .int)) (by decide) rfl ?_
  intro p e s m below meth c A C0 hP hK hD hA hns hZ
  obtain ⟨hx, hb, hml, hown, hts0, hr, hlocks, hnm, hno⟩ := C0
  have hown : s.vm.findClass R_Mo = some m.cls := hown
  have hts : ∀ w ∈ tb, w.before [.ref oh, .int p0].toArray s = true := fun w h => hts0 w (List.mem_cons_of_mem _ h)
  have hS : va_S A s.heap s.heap [] := va_S.rf
  have hl := lv_entry ([.ref oh, .int p0]) (n := 4) (Nat.le_of_ble_eq_true rfl)
  rw [lg_entry_eq]
  generalize (lg_sl ([.ref oh, .int p0]) ++ List.replicate (4 - (lg_sl ([.ref oh, .int p0])).length) Slot.unset).toArray = ls at hl ⊢
  have hl : lv_has ls 4 [(0, .ref oh), (1, .int p0)] := hl
  have L_25 : ∀ n : Nat, ∀ (x1 : Int32) (x2 : Int32) (x3 : Int32) (U : K_Mo), f_Mo_commit_25 N n x1 x2 x3 U = some r → ∀ (H : Heap) (locs : List Loc) (ls : Array Slot), va_P D vwCl (w_Mo cI cJ cZ oh o0 o1 o2 o3 o4 o5 o6 o7 o8 o9 o10 o11 o12 U) H → va_D A (w_Mo cI cJ cZ oh o0 o1 o2 o3 o4 o5 o6 o7 o8 o9 o10 o11 o12 U) → va_S A s.heap H locs → lv_has ls 4 [(0, .ref oh), (1, .int x1), (2, .int x2), (3, .int x3)] → W p l e (rm_Mo_commit) s m [.ref oh, .int p0].toArray below meth c H locs 0 0 (xQ D vwCl (tyL cI cJ cZ) below s A (oI r.1) (w_Mo cI cJ cZ oh o0 o1 o2 o3 o4 o5 o6 o7 o8 o9 o10 o11 o12 r.2) (rm_Mo_commit).cells (rm_Mo_commit).slots) (F0 m 25 ls []) := by
    intro n
    induction n with
    | zero =>
      intro x1 x2 x3 U hf
      have hf : (none : Option (Int32 × K_Mo)) = some r := hf
      cases hf
    | succ n ih =>
      intro x1 x2 x3 U hf H locs ls hP hD hS hl
      rw [f_Mo_commit_25] at hf
      refine lv_iload_n hx hb d_Mo_commit_25 rfl (lv_at hl 3 rfl) ?_
      refine lv_bipush (v := (6 : Int32)) hx hb d_Mo_commit_26 (by decide) ?_
      refine lv_icmp_ge (tgt := 71) hx hb d_Mo_commit_28 (by decide) (fun c17 => ?_) (fun c17 => ?_)
      · have hf := x_ifp c17 hf
        refine lv_aload_n hx hb d_Mo_commit_71 rfl (lv_at hl 0 rfl) ?_
        refine va_get (D := D) (ci := 3) (v := .int U.2.2.2.2.2.2.2.2.2.2.2.1) (C := R_Mo) (T := F_Mo) (N := 19) hx hb hts i_Mo hown hK hP 0 rfl rfl 17 (by decide) (hts _ k_241) (fun _ h9 => h9) rfl d_Mo_commit_72 ?_
        refine lv_if_eq (tgt := 81) hx hb d_Mo_commit_75 (by decide) (fun c6 => ?_) (fun c6 => ?_)
        · have hf := x_ifp c6 hf
          refine lv_aload_n hx hb d_Mo_commit_81 rfl (lv_at hl 0 rfl) ?_
          refine va_get (D := D) (ci := 3) (v := .ref o6) (C := R_Mo) (T := F_Mo) (N := 19) hx hb hts i_Mo hown hK hP 0 rfl rfl 7 (by decide) (hts _ k_231) (fun _ h9 => h9) rfl d_Mo_commit_82 ?_
          refine lv_iload_n hx hb d_Mo_commit_85 rfl (lv_at hl 1 rfl) ?_
          refine lv_iconst (v := (2 : Int32)) hx hb d_Mo_commit_86 (by decide) ?_
          obtain ⟨g3, hf⟩ := x_if hf
          refine va_iast hx hb hK hP hD hS 7 0 rfl rfl (xi_in g3) d_Mo_commit_87 (fun H locs hP hD hS => ?_)
          have hP : va_P D vwCl (w_Mo cI cJ cZ oh o0 o1 o2 o3 o4 o5 o6 o7 o8 o9 o10 o11 o12 ((U.1.1, (U.1.2.1, (U.1.2.2.1, (upd U.1.2.2.2 x1.toNatClampNeg (2 : Int32))))), U.2)) H := hP
          have hD : va_D A (w_Mo cI cJ cZ oh o0 o1 o2 o3 o4 o5 o6 o7 o8 o9 o10 o11 o12 ((U.1.1, (U.1.2.1, (U.1.2.2.1, (upd U.1.2.2.2 x1.toNatClampNeg (2 : Int32))))), U.2)) := hD
          refine lv_aload_n hx hb d_Mo_commit_88 rfl (lv_at hl 0 rfl) ?_
          refine va_get (D := D) (ci := 3) (v := .ref o8) (C := R_Mo) (T := F_Mo) (N := 19) hx hb hts i_Mo hown hK hP 0 rfl rfl 9 (by decide) (hts _ k_234) (fun _ h9 => h9) rfl d_Mo_commit_89 ?_
          refine lv_bipush (v := (6 : Int32)) hx hb d_Mo_commit_92 (by decide) ?_
          refine lv_iconst (v := (1 : Int32)) hx hb d_Mo_commit_94 (by decide) ?_
          refine va_zast hx hb hK hP hD hS 9 2 rfl rfl (xi_in rfl) d_Mo_commit_95 (fun H locs hP hD hS => ?_)
          have hP : va_P D vwCl (w_Mo cI cJ cZ oh o0 o1 o2 o3 o4 o5 o6 o7 o8 o9 o10 o11 o12 ((U.1.1, (U.1.2.1, (U.1.2.2.1, (upd U.1.2.2.2 x1.toNatClampNeg (2 : Int32))))), (U.2.1, ((upd U.2.2.1 (6 : Int32).toNatClampNeg (vp_nar .boolean (1 : Int32))), U.2.2.2)))) H := hP
          have hD : va_D A (w_Mo cI cJ cZ oh o0 o1 o2 o3 o4 o5 o6 o7 o8 o9 o10 o11 o12 ((U.1.1, (U.1.2.1, (U.1.2.2.1, (upd U.1.2.2.2 x1.toNatClampNeg (2 : Int32))))), (U.2.1, ((upd U.2.2.1 (6 : Int32).toNatClampNeg (vp_nar .boolean (1 : Int32))), U.2.2.2)))) := hD
          refine lv_aload_n hx hb d_Mo_commit_96 rfl (lv_at hl 0 rfl) ?_
          refine lv_bipush (v := (6 : Int32)) hx hb d_Mo_commit_97 (by decide) ?_
          obtain ⟨z4, hz4, hf⟩ := x_bind hf
          refine x_callV (w2 := (w_Mo cI cJ cZ oh o0 o1 o2 o3 o4 o5 o6 o7 o8 o9 o10 o11 o12 z4.2)) ⟨hx, hb, hml, hown, hts⟩ (c_Mo_store l D cI cJ cZ oh o0 o1 o2 o3 o4 o5 o6 o7 o8 o9 o10 o11 o12 N (6 : Int32) ((U.1.1, (U.1.2.1, (U.1.2.2.1, (upd U.1.2.2.2 x1.toNatClampNeg (2 : Int32))))), (U.2.1, ((upd U.2.2.1 (6 : Int32).toNatClampNeg (vp_nar .boolean (1 : Int32))), U.2.2.2))) z4 hz4) (x_cwV 1 hts rfl k_260 k_261 k_262 k_246 k_263 (by decide +kernel) ⟨(Nat.le_of_ble_eq_true rfl), (Nat.le_of_ble_eq_true rfl)⟩) hK hP hD hS hA hZ [0, 1, 2, 3, 4, 5, 6, 7, 8, 9, 10, 11, 12, 13] [] [0, 1, 2, 3, 4, 5, 6, 7, 8, 9, 10, 11, 12, 13] (by decide) rfl rfl (by decide) (by decide) (by decide) rfl (ci := 3) rfl rfl rfl hl.1 rfl (Nat.le_of_ble_eq_true rfl) d_Mo_commit_99 ⟨(Nat.le_of_ble_eq_true rfl), (Nat.le_of_ble_eq_true rfl)⟩ (fun H locs hP hD hS => ?_)
          refine W.eq (g2 := F0 m 102 ls []) rfl ?_
          refine lv_aload_n hx hb d_Mo_commit_102 rfl (lv_at hl 0 rfl) ?_
          refine lv_aload_n hx hb d_Mo_commit_103 rfl (lv_at hl 0 rfl) ?_
          refine va_get (D := D) (ci := 3) (v := .int z4.2.2.2.2.2.2.2.2.2.1) (C := R_Mo) (T := F_Mo) (N := 19) hx hb hts i_Mo hown hK hP 0 rfl rfl 14 (by decide) (hts _ k_243) (fun _ h9 => h9) rfl d_Mo_commit_104 ?_
          refine lv_iload_n hx hb d_Mo_commit_107 rfl (lv_at hl 2 rfl) ?_
          refine lv_isub hx hb d_Mo_commit_108 ?_
          obtain ⟨z5, hz5, hf⟩ := x_bind hf
          refine x_callV (w2 := (w_Mo cI cJ cZ oh o0 o1 o2 o3 o4 o5 o6 o7 o8 o9 o10 o11 o12 z5.2)) ⟨hx, hb, hml, hown, hts⟩ (c_Mo_done l D cI cJ cZ oh o0 o1 o2 o3 o4 o5 o6 o7 o8 o9 o10 o11 o12 N (z4.2.2.2.2.2.2.2.2.2.1 - x2) z4.2 z5 hz5) (x_cwV 1 hts rfl k_276 k_277 k_278 k_246 k_279 (by decide +kernel) ⟨(Nat.le_of_ble_eq_true rfl), (Nat.le_of_ble_eq_true rfl)⟩) hK hP hD hS hA hZ [0, 1, 2, 3, 4, 5, 6, 7, 8, 9, 10, 11, 12, 13] [] [0, 1, 2, 3, 4, 5, 6, 7, 8, 9, 10, 11, 12, 13] (by decide) rfl rfl (by decide) (by decide) (by decide) rfl (ci := 3) rfl rfl rfl hl.1 rfl (Nat.le_of_ble_eq_true rfl) d_Mo_commit_109 ⟨(Nat.le_of_ble_eq_true rfl), (Nat.le_of_ble_eq_true rfl)⟩ (fun H locs hP hD hS => ?_)
          refine W.eq (g2 := F0 m 112 ls [.int z5.1]) rfl ?_
          obtain rfl := Option.some.inj hf
          exact x_iret hx hb hr hlocks hK hP hD hS (Nat.le_of_ble_eq_true rfl) (Nat.le_of_ble_eq_true rfl) d_Mo_commit_112
        · have hf := x_ifn c6 hf
          refine lv_bipush (v := (-9 : Int32)) hx hb d_Mo_commit_78 (by decide) ?_
          obtain rfl := Option.some.inj hf
          exact x_iret hx hb hr hlocks hK hP hD hS (Nat.le_of_ble_eq_true rfl) (Nat.le_of_ble_eq_true rfl) d_Mo_commit_80
      · have hf := x_ifn c17 hf
        refine lv_aload_n hx hb d_Mo_commit_31 rfl (lv_at hl 0 rfl) ?_
        refine va_get (D := D) (ci := 3) (v := .int U.2.2.2.2.2.2.2.2.2.2.2.1) (C := R_Mo) (T := F_Mo) (N := 19) hx hb hts i_Mo hown hK hP 0 rfl rfl 17 (by decide) (hts _ k_241) (fun _ h9 => h9) rfl d_Mo_commit_32 ?_
        refine lv_if_ne (tgt := 71) hx hb d_Mo_commit_35 (by decide) (fun c16 => ?_) (fun c16 => ?_)
        · have hf := x_ifn c16 hf
          refine lv_aload_n hx hb d_Mo_commit_71 rfl (lv_at hl 0 rfl) ?_
          refine va_get (D := D) (ci := 3) (v := .int U.2.2.2.2.2.2.2.2.2.2.2.1) (C := R_Mo) (T := F_Mo) (N := 19) hx hb hts i_Mo hown hK hP 0 rfl rfl 17 (by decide) (hts _ k_241) (fun _ h9 => h9) rfl d_Mo_commit_72 ?_
          refine lv_if_eq (tgt := 81) hx hb d_Mo_commit_75 (by decide) (fun c10 => ?_) (fun c10 => ?_)
          · have hf := x_ifp c10 hf
            refine lv_aload_n hx hb d_Mo_commit_81 rfl (lv_at hl 0 rfl) ?_
            refine va_get (D := D) (ci := 3) (v := .ref o6) (C := R_Mo) (T := F_Mo) (N := 19) hx hb hts i_Mo hown hK hP 0 rfl rfl 7 (by decide) (hts _ k_231) (fun _ h9 => h9) rfl d_Mo_commit_82 ?_
            refine lv_iload_n hx hb d_Mo_commit_85 rfl (lv_at hl 1 rfl) ?_
            refine lv_iconst (v := (2 : Int32)) hx hb d_Mo_commit_86 (by decide) ?_
            obtain ⟨g7, hf⟩ := x_if hf
            refine va_iast hx hb hK hP hD hS 7 0 rfl rfl (xi_in g7) d_Mo_commit_87 (fun H locs hP hD hS => ?_)
            have hP : va_P D vwCl (w_Mo cI cJ cZ oh o0 o1 o2 o3 o4 o5 o6 o7 o8 o9 o10 o11 o12 ((U.1.1, (U.1.2.1, (U.1.2.2.1, (upd U.1.2.2.2 x1.toNatClampNeg (2 : Int32))))), U.2)) H := hP
            have hD : va_D A (w_Mo cI cJ cZ oh o0 o1 o2 o3 o4 o5 o6 o7 o8 o9 o10 o11 o12 ((U.1.1, (U.1.2.1, (U.1.2.2.1, (upd U.1.2.2.2 x1.toNatClampNeg (2 : Int32))))), U.2)) := hD
            refine lv_aload_n hx hb d_Mo_commit_88 rfl (lv_at hl 0 rfl) ?_
            refine va_get (D := D) (ci := 3) (v := .ref o8) (C := R_Mo) (T := F_Mo) (N := 19) hx hb hts i_Mo hown hK hP 0 rfl rfl 9 (by decide) (hts _ k_234) (fun _ h9 => h9) rfl d_Mo_commit_89 ?_
            refine lv_bipush (v := (6 : Int32)) hx hb d_Mo_commit_92 (by decide) ?_
            refine lv_iconst (v := (1 : Int32)) hx hb d_Mo_commit_94 (by decide) ?_
            refine va_zast hx hb hK hP hD hS 9 2 rfl rfl (xi_in rfl) d_Mo_commit_95 (fun H locs hP hD hS => ?_)
            have hP : va_P D vwCl (w_Mo cI cJ cZ oh o0 o1 o2 o3 o4 o5 o6 o7 o8 o9 o10 o11 o12 ((U.1.1, (U.1.2.1, (U.1.2.2.1, (upd U.1.2.2.2 x1.toNatClampNeg (2 : Int32))))), (U.2.1, ((upd U.2.2.1 (6 : Int32).toNatClampNeg (vp_nar .boolean (1 : Int32))), U.2.2.2)))) H := hP
            have hD : va_D A (w_Mo cI cJ cZ oh o0 o1 o2 o3 o4 o5 o6 o7 o8 o9 o10 o11 o12 ((U.1.1, (U.1.2.1, (U.1.2.2.1, (upd U.1.2.2.2 x1.toNatClampNeg (2 : Int32))))), (U.2.1, ((upd U.2.2.1 (6 : Int32).toNatClampNeg (vp_nar .boolean (1 : Int32))), U.2.2.2)))) := hD
            refine lv_aload_n hx hb d_Mo_commit_96 rfl (lv_at hl 0 rfl) ?_
            refine lv_bipush (v := (6 : Int32)) hx hb d_Mo_commit_97 (by decide) ?_
            obtain ⟨z8, hz8, hf⟩ := x_bind hf
            refine x_callV (w2 := (w_Mo cI cJ cZ oh o0 o1 o2 o3 o4 o5 o6 o7 o8 o9 o10 o11 o12 z8.2)) ⟨hx, hb, hml, hown, hts⟩ (c_Mo_store l D cI cJ cZ oh o0 o1 o2 o3 o4 o5 o6 o7 o8 o9 o10 o11 o12 N (6 : Int32) ((U.1.1, (U.1.2.1, (U.1.2.2.1, (upd U.1.2.2.2 x1.toNatClampNeg (2 : Int32))))), (U.2.1, ((upd U.2.2.1 (6 : Int32).toNatClampNeg (vp_nar .boolean (1 : Int32))), U.2.2.2))) z8 hz8) (x_cwV 1 hts rfl k_260 k_261 k_262 k_246 k_263 (by decide +kernel) ⟨(Nat.le_of_ble_eq_true rfl), (Nat.le_of_ble_eq_true rfl)⟩) hK hP hD hS hA hZ [0, 1, 2, 3, 4, 5, 6, 7, 8, 9, 10, 11, 12, 13] [] [0, 1, 2, 3, 4, 5, 6, 7, 8, 9, 10, 11, 12, 13] (by decide) rfl rfl (by decide) (by decide) (by decide) rfl (ci := 3) rfl rfl rfl hl.1 rfl (Nat.le_of_ble_eq_true rfl) d_Mo_commit_99 ⟨(Nat.le_of_ble_eq_true rfl), (Nat.le_of_ble_eq_true rfl)⟩ (fun H locs hP hD hS => ?_)
            refine W.eq (g2 := F0 m 102 ls []) rfl ?_
            refine lv_aload_n hx hb d_Mo_commit_102 rfl (lv_at hl 0 rfl) ?_
            refine lv_aload_n hx hb d_Mo_commit_103 rfl (lv_at hl 0 rfl) ?_
            refine va_get (D := D) (ci := 3) (v := .int z8.2.2.2.2.2.2.2.2.2.1) (C := R_Mo) (T := F_Mo) (N := 19) hx hb hts i_Mo hown hK hP 0 rfl rfl 14 (by decide) (hts _ k_243) (fun _ h9 => h9) rfl d_Mo_commit_104 ?_
            refine lv_iload_n hx hb d_Mo_commit_107 rfl (lv_at hl 2 rfl) ?_
            refine lv_isub hx hb d_Mo_commit_108 ?_
            obtain ⟨z9, hz9, hf⟩ := x_bind hf
            refine x_callV (w2 := (w_Mo cI cJ cZ oh o0 o1 o2 o3 o4 o5 o6 o7 o8 o9 o10 o11 o12 z9.2)) ⟨hx, hb, hml, hown, hts⟩ (c_Mo_done l D cI cJ cZ oh o0 o1 o2 o3 o4 o5 o6 o7 o8 o9 o10 o11 o12 N (z8.2.2.2.2.2.2.2.2.2.1 - x2) z8.2 z9 hz9) (x_cwV 1 hts rfl k_276 k_277 k_278 k_246 k_279 (by decide +kernel) ⟨(Nat.le_of_ble_eq_true rfl), (Nat.le_of_ble_eq_true rfl)⟩) hK hP hD hS hA hZ [0, 1, 2, 3, 4, 5, 6, 7, 8, 9, 10, 11, 12, 13] [] [0, 1, 2, 3, 4, 5, 6, 7, 8, 9, 10, 11, 12, 13] (by decide) rfl rfl (by decide) (by decide) (by decide) rfl (ci := 3) rfl rfl rfl hl.1 rfl (Nat.le_of_ble_eq_true rfl) d_Mo_commit_109 ⟨(Nat.le_of_ble_eq_true rfl), (Nat.le_of_ble_eq_true rfl)⟩ (fun H locs hP hD hS => ?_)
            refine W.eq (g2 := F0 m 112 ls [.int z9.1]) rfl ?_
            obtain rfl := Option.some.inj hf
            exact x_iret hx hb hr hlocks hK hP hD hS (Nat.le_of_ble_eq_true rfl) (Nat.le_of_ble_eq_true rfl) d_Mo_commit_112
          · have hf := x_ifn c10 hf
            refine lv_bipush (v := (-9 : Int32)) hx hb d_Mo_commit_78 (by decide) ?_
            obtain rfl := Option.some.inj hf
            exact x_iret hx hb hr hlocks hK hP hD hS (Nat.le_of_ble_eq_true rfl) (Nat.le_of_ble_eq_true rfl) d_Mo_commit_80
        · have hf := x_ifp c16 hf
          refine lv_aload_n hx hb d_Mo_commit_38 rfl (lv_at hl 0 rfl) ?_
          refine va_get (D := D) (ci := 3) (v := .ref o10) (C := R_Mo) (T := F_Mo) (N := 19) hx hb hts i_Mo hown hK hP 0 rfl rfl 11 (by decide) (hts _ k_236) (fun _ h9 => h9) rfl d_Mo_commit_39 ?_
          refine lv_iload_n hx hb d_Mo_commit_42 rfl (lv_at hl 1 rfl) ?_
          obtain ⟨g11, hf⟩ := x_if hf
          refine va_iald hx hb hK hP 11 0 rfl rfl (xi_in g11) d_Mo_commit_43 ?_
          refine lv_iload_n hx hb d_Mo_commit_44 rfl (lv_at hl 3 rfl) ?_
          refine lv_ishr hx hb d_Mo_commit_45 ?_
          refine lv_iconst (v := (1 : Int32)) hx hb d_Mo_commit_46 (by decide) ?_
          refine lv_iand hx hb d_Mo_commit_47 ?_
          refine lv_if_eq (tgt := 65) hx hb d_Mo_commit_48 (by decide) (fun c15 => ?_) (fun c15 => ?_)
          · have hf := x_ifp c15 hf
            refine lv_iinc (v := (x3 + (1 : Int32))) (lv' := [(3, .int (x3 + (1 : Int32))), (0, .ref oh), (1, .int x1), (2, .int x2)]) hx hb d_Mo_commit_65 hl (k := 3) rfl rfl (by decide) rfl (fun ls hl => ?_)
            refine lv_goto (tgt := 25) hx hb d_Mo_commit_68 (by decide) ?_
            exact ih _ _ _ _ hf _ _ _ hP hD hS (lv_sub hl [1, 2, 3, 0] rfl)
          · have hf := x_ifn c15 hf
            refine lv_aload_n hx hb d_Mo_commit_51 rfl (lv_at hl 0 rfl) ?_
            refine va_get (D := D) (ci := 3) (v := .ref o8) (C := R_Mo) (T := F_Mo) (N := 19) hx hb hts i_Mo hown hK hP 0 rfl rfl 9 (by decide) (hts _ k_234) (fun _ h9 => h9) rfl d_Mo_commit_52 ?_
            refine lv_iload_n hx hb d_Mo_commit_55 rfl (lv_at hl 3 rfl) ?_
            obtain ⟨g12, hf⟩ := x_if hf
            refine va_zald hx hb hK hP 9 2 rfl rfl (xi_in g12) d_Mo_commit_56 ?_
            refine lv_if_eq (tgt := 65) hx hb d_Mo_commit_57 (by decide) (fun c14 => ?_) (fun c14 => ?_)
            · have hf := x_ifp c14 hf
              refine lv_iinc (v := (x3 + (1 : Int32))) (lv' := [(3, .int (x3 + (1 : Int32))), (0, .ref oh), (1, .int x1), (2, .int x2)]) hx hb d_Mo_commit_65 hl (k := 3) rfl rfl (by decide) rfl (fun ls hl => ?_)
              refine lv_goto (tgt := 25) hx hb d_Mo_commit_68 (by decide) ?_
              exact ih _ _ _ _ hf _ _ _ hP hD hS (lv_sub hl [1, 2, 3, 0] rfl)
            · have hf := x_ifn c14 hf
              refine lv_aload_n hx hb d_Mo_commit_60 rfl (lv_at hl 0 rfl) ?_
              refine lv_iload_n hx hb d_Mo_commit_61 rfl (lv_at hl 3 rfl) ?_
              obtain ⟨z13, hz13, hf⟩ := x_bind hf
              refine x_callV (w2 := (w_Mo cI cJ cZ oh o0 o1 o2 o3 o4 o5 o6 o7 o8 o9 o10 o11 o12 z13.2)) ⟨hx, hb, hml, hown, hts⟩ (c_Mo_store l D cI cJ cZ oh o0 o1 o2 o3 o4 o5 o6 o7 o8 o9 o10 o11 o12 N x3 U z13 hz13) (x_cwV 1 hts rfl k_260 k_261 k_262 k_246 k_263 (by decide +kernel) ⟨(Nat.le_of_ble_eq_true rfl), (Nat.le_of_ble_eq_true rfl)⟩) hK hP hD hS hA hZ [0, 1, 2, 3, 4, 5, 6, 7, 8, 9, 10, 11, 12, 13] [] [0, 1, 2, 3, 4, 5, 6, 7, 8, 9, 10, 11, 12, 13] (by decide) rfl rfl (by decide) (by decide) (by decide) rfl (ci := 3) rfl rfl rfl hl.1 rfl (Nat.le_of_ble_eq_true rfl) d_Mo_commit_62 ⟨(Nat.le_of_ble_eq_true rfl), (Nat.le_of_ble_eq_true rfl)⟩ (fun H locs hP hD hS => ?_)
              refine W.eq (g2 := F0 m 65 ls []) rfl ?_
              refine lv_iinc (v := (x3 + (1 : Int32))) (lv' := [(3, .int (x3 + (1 : Int32))), (0, .ref oh), (1, .int x1), (2, .int x2)]) hx hb d_Mo_commit_65 hl (k := 3) rfl rfl (by decide) rfl (fun ls hl => ?_)
              refine lv_goto (tgt := 25) hx hb d_Mo_commit_68 (by decide) ?_
              exact ih _ _ _ _ hf _ _ _ hP hD hS (lv_sub hl [1, 2, 3, 0] rfl)
  refine lv_aload_n hx hb d_Mo_commit_0 rfl (lv_at hl 0 rfl) ?_
  obtain ⟨z1, hz1, hf⟩ := x_bind hf
  refine x_callV (w2 := (w_Mo cI cJ cZ oh o0 o1 o2 o3 o4 o5 o6 o7 o8 o9 o10 o11 o12 z1.2)) ⟨hx, hb, hml, hown, hts⟩ (c_Mo_begun l D cI cJ cZ oh o0 o1 o2 o3 o4 o5 o6 o7 o8 o9 o10 o11 o12 N  U z1 hz1) (x_cwV 0 hts rfl k_284 k_285 k_286 k_246 k_287 (by decide +kernel) ⟨(Nat.le_of_ble_eq_true rfl), (Nat.le_of_ble_eq_true rfl)⟩) hK hP hD hS hA hZ [0, 1, 2, 3, 4, 5, 6, 7, 8, 9, 10, 11, 12, 13] [] [0, 1, 2, 3, 4, 5, 6, 7, 8, 9, 10, 11, 12, 13] (by decide) rfl rfl (by decide) (by decide) (by decide) rfl (ci := 3) rfl rfl rfl hl.1 rfl (Nat.le_of_ble_eq_true rfl) d_Mo_commit_1 ⟨(Nat.le_of_ble_eq_true rfl), (Nat.le_of_ble_eq_true rfl)⟩ (fun H locs hP hD hS => ?_)
  refine W.eq (g2 := F0 m 4 ls []) rfl ?_
  refine lv_aload_n hx hb d_Mo_commit_4 rfl (lv_at hl 0 rfl) ?_
  refine lv_iload_n hx hb d_Mo_commit_5 rfl (lv_at hl 1 rfl) ?_
  obtain ⟨z2, hz2, hf⟩ := x_bind hf
  refine x_callV (w2 := (w_Mo cI cJ cZ oh o0 o1 o2 o3 o4 o5 o6 o7 o8 o9 o10 o11 o12 z2.2)) ⟨hx, hb, hml, hown, hts⟩ (c_Mo_idle l D cI cJ cZ oh o0 o1 o2 o3 o4 o5 o6 o7 o8 o9 o10 o11 o12 N p0 z1.2 z2 hz2) (x_cwV 1 hts rfl k_300 k_301 k_302 k_246 k_303 (by decide +kernel) ⟨(Nat.le_of_ble_eq_true rfl), (Nat.le_of_ble_eq_true rfl)⟩) hK hP hD hS hA hZ [0, 1, 2, 3, 4, 5, 6, 7, 8, 9, 10, 11, 12, 13] [] [0, 1, 2, 3, 4, 5, 6, 7, 8, 9, 10, 11, 12, 13] (by decide) rfl rfl (by decide) (by decide) (by decide) rfl (ci := 3) rfl rfl rfl hl.1 rfl (Nat.le_of_ble_eq_true rfl) d_Mo_commit_6 ⟨(Nat.le_of_ble_eq_true rfl), (Nat.le_of_ble_eq_true rfl)⟩ (fun H locs hP hD hS => ?_)
  refine W.eq (g2 := F0 m 9 ls [.int z2.1]) rfl ?_
  refine lv_if_eq (tgt := 18) hx hb d_Mo_commit_9 (by decide) (fun c19 => ?_) (fun c19 => ?_)
  · have hf := x_ifp c19 hf
    refine lv_aload_n hx hb d_Mo_commit_18 rfl (lv_at hl 0 rfl) ?_
    refine va_get (D := D) (ci := 3) (v := .int z2.2.2.2.2.2.2.2.2.2.1) (C := R_Mo) (T := F_Mo) (N := 19) hx hb hts i_Mo hown hK hP 0 rfl rfl 14 (by decide) (hts _ k_243) (fun _ h9 => h9) rfl d_Mo_commit_19 ?_
    refine lv_istore_n (lv' := [(2, .int z2.2.2.2.2.2.2.2.2.2.1), (0, .ref oh), (1, .int p0)]) hx hb d_Mo_commit_22 rfl hl (by decide) rfl (fun ls hl => ?_)
    refine lv_iconst (v := (0 : Int32)) hx hb d_Mo_commit_23 (by decide) ?_
    refine lv_istore_n (lv' := [(3, .int (0 : Int32)), (2, .int z2.2.2.2.2.2.2.2.2.2.1), (0, .ref oh), (1, .int p0)]) hx hb d_Mo_commit_24 rfl hl (by decide) rfl (fun ls hl => ?_)
    exact L_25 _ _ _ _ _ hf _ _ _ hP hD hS (lv_sub hl [2, 3, 1, 0] rfl)
  · have hf := x_ifn c19 hf
    refine lv_aload_n hx hb d_Mo_commit_12 rfl (lv_at hl 0 rfl) ?_
    refine lv_iconst (v := (1 : Int32)) hx hb d_Mo_commit_13 (by decide) ?_
    obtain ⟨z18, hz18, hf⟩ := x_bind hf
    refine x_callV (w2 := (w_Mo cI cJ cZ oh o0 o1 o2 o3 o4 o5 o6 o7 o8 o9 o10 o11 o12 z18.2)) ⟨hx, hb, hml, hown, hts⟩ (c_Mo_raise l D cI cJ cZ oh o0 o1 o2 o3 o4 o5 o6 o7 o8 o9 o10 o11 o12 N (1 : Int32) z2.2 z18 hz18) (x_cwV 1 hts rfl k_272 k_273 k_274 k_246 k_275 (by decide +kernel) ⟨(Nat.le_of_ble_eq_true rfl), (Nat.le_of_ble_eq_true rfl)⟩) hK hP hD hS hA hZ [0, 1, 2, 3, 4, 5, 6, 7, 8, 9, 10, 11, 12, 13] [] [0, 1, 2, 3, 4, 5, 6, 7, 8, 9, 10, 11, 12, 13] (by decide) rfl rfl (by decide) (by decide) (by decide) rfl (ci := 3) rfl rfl rfl hl.1 rfl (Nat.le_of_ble_eq_true rfl) d_Mo_commit_14 ⟨(Nat.le_of_ble_eq_true rfl), (Nat.le_of_ble_eq_true rfl)⟩ (fun H locs hP hD hS => ?_)
    refine W.eq (g2 := F0 m 17 ls [.int z18.1]) rfl ?_
    obtain rfl := Option.some.inj hf
    exact x_iret hx hb hr hlocks hK hP hD hS (Nat.le_of_ble_eq_true rfl) (Nat.le_of_ble_eq_true rfl) d_Mo_commit_17
set_option maxHeartbeats 4000000 in
set_option maxRecDepth 100000 in
theorem c_Mo_rollback (l : Launch) (D : va_G) (cI cJ cZ : ClassId) (oh o0 o1 o2 o3 o4 o5 o6 o7 o8 o9 o10 o11 o12 : Nat) (N : Nat) (p0 : Int32) (U : K_Mo) (r : (Int32 × K_Mo)) (hf : f_Mo_rollback N p0 U = some r) : Cx l y_Mo_rollback ws_Mo_rollback rm_Mo_rollback D vwCl (tyL cI cJ cZ) [.ref oh, .int p0] (w_Mo cI cJ cZ oh o0 o1 o2 o3 o4 o5 o6 o7 o8 o9 o10 o11 o12 U) (oI r.1) (w_Mo cI cJ cZ oh o0 o1 o2 o3 o4 o5 o6 o7 o8 o9 o10 o11 o12 r.2) := by
  unfold f_Mo_rollback at hf
  refine Cx.ofW (cc := b_Mo_rollback) (maxL := 2) (ret := (some .int)) (by decide) rfl ?_
  intro p e s m below meth c A C0 hP hK hD hA hns hZ
  obtain ⟨hx, hb, hml, hown, hts0, hr, hlocks, hnm, hno⟩ := C0
  have hown : s.vm.findClass R_Mo = some m.cls := hown
  have hts : ∀ w ∈ tb, w.before [.ref oh, .int p0].toArray s = true := fun w h => hts0 w (List.mem_cons_of_mem _ h)
  have hS : va_S A s.heap s.heap [] := va_S.rf
  have hl := lv_entry ([.ref oh, .int p0]) (n := 2) (Nat.le_of_ble_eq_true rfl)
  rw [lg_entry_eq]
  generalize (lg_sl ([.ref oh, .int p0]) ++ List.replicate (2 - (lg_sl ([.ref oh, .int p0])).length) Slot.unset).toArray = ls at hl ⊢
  have hl : lv_has ls 2 [(0, .ref oh), (1, .int p0)] := hl
  refine lv_aload_n hx hb d_Mo_rollback_0 rfl (lv_at hl 0 rfl) ?_
  obtain ⟨z1, hz1, hf⟩ := x_bind hf
  refine x_callV (w2 := (w_Mo cI cJ cZ oh o0 o1 o2 o3 o4 o5 o6 o7 o8 o9 o10 o11 o12 z1.2)) ⟨hx, hb, hml, hown, hts⟩ (c_Mo_begun l D cI cJ cZ oh o0 o1 o2 o3 o4 o5 o6 o7 o8 o9 o10 o11 o12 N  U z1 hz1) (x_cwV 0 hts rfl k_284 k_285 k_286 k_246 k_287 (by decide +kernel) ⟨(Nat.le_of_ble_eq_true rfl), (Nat.le_of_ble_eq_true rfl)⟩) hK hP hD hS hA hZ [0, 1, 2, 3, 4, 5, 6, 7, 8, 9, 10, 11, 12, 13] [] [0, 1, 2, 3, 4, 5, 6, 7, 8, 9, 10, 11, 12, 13] (by decide) rfl rfl (by decide) (by decide) (by decide) rfl (ci := 3) rfl rfl rfl hl.1 rfl (Nat.le_of_ble_eq_true rfl) d_Mo_rollback_1 ⟨(Nat.le_of_ble_eq_true rfl), (Nat.le_of_ble_eq_true rfl)⟩ (fun H locs hP hD hS => ?_)
  refine W.eq (g2 := F0 m 4 ls []) rfl ?_
  refine lv_aload_n hx hb d_Mo_rollback_4 rfl (lv_at hl 0 rfl) ?_
  refine lv_iload_n hx hb d_Mo_rollback_5 rfl (lv_at hl 1 rfl) ?_
  obtain ⟨z2, hz2, hf⟩ := x_bind hf
  refine x_callV (w2 := (w_Mo cI cJ cZ oh o0 o1 o2 o3 o4 o5 o6 o7 o8 o9 o10 o11 o12 z2.2)) ⟨hx, hb, hml, hown, hts⟩ (c_Mo_idle l D cI cJ cZ oh o0 o1 o2 o3 o4 o5 o6 o7 o8 o9 o10 o11 o12 N p0 z1.2 z2 hz2) (x_cwV 1 hts rfl k_300 k_301 k_302 k_246 k_303 (by decide +kernel) ⟨(Nat.le_of_ble_eq_true rfl), (Nat.le_of_ble_eq_true rfl)⟩) hK hP hD hS hA hZ [0, 1, 2, 3, 4, 5, 6, 7, 8, 9, 10, 11, 12, 13] [] [0, 1, 2, 3, 4, 5, 6, 7, 8, 9, 10, 11, 12, 13] (by decide) rfl rfl (by decide) (by decide) (by decide) rfl (ci := 3) rfl rfl rfl hl.1 rfl (Nat.le_of_ble_eq_true rfl) d_Mo_rollback_6 ⟨(Nat.le_of_ble_eq_true rfl), (Nat.le_of_ble_eq_true rfl)⟩ (fun H locs hP hD hS => ?_)
  refine W.eq (g2 := F0 m 9 ls [.int z2.1]) rfl ?_
  refine lv_if_eq (tgt := 18) hx hb d_Mo_rollback_9 (by decide) (fun c5 => ?_) (fun c5 => ?_)
  · have hf := x_ifp c5 hf
    refine lv_aload_n hx hb d_Mo_rollback_18 rfl (lv_at hl 0 rfl) ?_
    refine va_get (D := D) (ci := 3) (v := .ref o6) (C := R_Mo) (T := F_Mo) (N := 19) hx hb hts i_Mo hown hK hP 0 rfl rfl 7 (by decide) (hts _ k_231) (fun _ h9 => h9) rfl d_Mo_rollback_19 ?_
    refine lv_iload_n hx hb d_Mo_rollback_22 rfl (lv_at hl 1 rfl) ?_
    refine lv_iconst (v := (3 : Int32)) hx hb d_Mo_rollback_23 (by decide) ?_
    obtain ⟨g3, hf⟩ := x_if hf
    refine va_iast hx hb hK hP hD hS 7 0 rfl rfl (xi_in g3) d_Mo_rollback_24 (fun H locs hP hD hS => ?_)
    have hP : va_P D vwCl (w_Mo cI cJ cZ oh o0 o1 o2 o3 o4 o5 o6 o7 o8 o9 o10 o11 o12 ((z2.2.1.1, (z2.2.1.2.1, (z2.2.1.2.2.1, (upd z2.2.1.2.2.2 p0.toNatClampNeg (3 : Int32))))), z2.2.2)) H := hP
    have hD : va_D A (w_Mo cI cJ cZ oh o0 o1 o2 o3 o4 o5 o6 o7 o8 o9 o10 o11 o12 ((z2.2.1.1, (z2.2.1.2.1, (z2.2.1.2.2.1, (upd z2.2.1.2.2.2 p0.toNatClampNeg (3 : Int32))))), z2.2.2)) := hD
    refine lv_aload_n hx hb d_Mo_rollback_25 rfl (lv_at hl 0 rfl) ?_
    refine va_get (D := D) (ci := 3) (v := .ref o8) (C := R_Mo) (T := F_Mo) (N := 19) hx hb hts i_Mo hown hK hP 0 rfl rfl 9 (by decide) (hts _ k_234) (fun _ h9 => h9) rfl d_Mo_rollback_26 ?_
    refine lv_bipush (v := (6 : Int32)) hx hb d_Mo_rollback_29 (by decide) ?_
    refine lv_iconst (v := (1 : Int32)) hx hb d_Mo_rollback_31 (by decide) ?_
    refine va_zast hx hb hK hP hD hS 9 2 rfl rfl (xi_in rfl) d_Mo_rollback_32 (fun H locs hP hD hS => ?_)
    have hP : va_P D vwCl (w_Mo cI cJ cZ oh o0 o1 o2 o3 o4 o5 o6 o7 o8 o9 o10 o11 o12 ((z2.2.1.1, (z2.2.1.2.1, (z2.2.1.2.2.1, (upd z2.2.1.2.2.2 p0.toNatClampNeg (3 : Int32))))), (z2.2.2.1, ((upd z2.2.2.2.1 (6 : Int32).toNatClampNeg (vp_nar .boolean (1 : Int32))), z2.2.2.2.2)))) H := hP
    have hD : va_D A (w_Mo cI cJ cZ oh o0 o1 o2 o3 o4 o5 o6 o7 o8 o9 o10 o11 o12 ((z2.2.1.1, (z2.2.1.2.1, (z2.2.1.2.2.1, (upd z2.2.1.2.2.2 p0.toNatClampNeg (3 : Int32))))), (z2.2.2.1, ((upd z2.2.2.2.1 (6 : Int32).toNatClampNeg (vp_nar .boolean (1 : Int32))), z2.2.2.2.2)))) := hD
    refine lv_iconst (v := (1 : Int32)) hx hb d_Mo_rollback_33 (by decide) ?_
    obtain rfl := Option.some.inj hf
    exact x_iret hx hb hr hlocks hK hP hD hS (Nat.le_of_ble_eq_true rfl) (Nat.le_of_ble_eq_true rfl) d_Mo_rollback_34
  · have hf := x_ifn c5 hf
    refine lv_aload_n hx hb d_Mo_rollback_12 rfl (lv_at hl 0 rfl) ?_
    refine lv_iconst (v := (1 : Int32)) hx hb d_Mo_rollback_13 (by decide) ?_
    obtain ⟨z4, hz4, hf⟩ := x_bind hf
    refine x_callV (w2 := (w_Mo cI cJ cZ oh o0 o1 o2 o3 o4 o5 o6 o7 o8 o9 o10 o11 o12 z4.2)) ⟨hx, hb, hml, hown, hts⟩ (c_Mo_raise l D cI cJ cZ oh o0 o1 o2 o3 o4 o5 o6 o7 o8 o9 o10 o11 o12 N (1 : Int32) z2.2 z4 hz4) (x_cwV 1 hts rfl k_272 k_273 k_274 k_246 k_275 (by decide +kernel) ⟨(Nat.le_of_ble_eq_true rfl), (Nat.le_of_ble_eq_true rfl)⟩) hK hP hD hS hA hZ [0, 1, 2, 3, 4, 5, 6, 7, 8, 9, 10, 11, 12, 13] [] [0, 1, 2, 3, 4, 5, 6, 7, 8, 9, 10, 11, 12, 13] (by decide) rfl rfl (by decide) (by decide) (by decide) rfl (ci := 3) rfl rfl rfl hl.1 rfl (Nat.le_of_ble_eq_true rfl) d_Mo_rollback_14 ⟨(Nat.le_of_ble_eq_true rfl), (Nat.le_of_ble_eq_true rfl)⟩ (fun H locs hP hD hS => ?_)
    refine W.eq (g2 := F0 m 17 ls [.int z4.1]) rfl ?_
    obtain rfl := Option.some.inj hf
    exact x_iret hx hb hr hlocks hK hP hD hS (Nat.le_of_ble_eq_true rfl) (Nat.le_of_ble_eq_true rfl) d_Mo_rollback_17
set_option maxHeartbeats 4000000 in
set_option maxRecDepth 100000 in
theorem c_Mo_settled (l : Launch) (D : va_G) (cI cJ cZ : ClassId) (oh o0 o1 o2 o3 o4 o5 o6 o7 o8 o9 o10 o11 o12 : Nat) (N : Nat) (p0 : Int32) (U : K_Mo) (r : (Int32 × K_Mo)) (hf : f_Mo_settled N p0 U = some r) : Cx l y_Mo_settled ws_Mo_settled rm_Mo_settled D vwCl (tyL cI cJ cZ) [.ref oh, .int p0] (w_Mo cI cJ cZ oh o0 o1 o2 o3 o4 o5 o6 o7 o8 o9 o10 o11 o12 U) (oI r.1) (w_Mo cI cJ cZ oh o0 o1 o2 o3 o4 o5 o6 o7 o8 o9 o10 o11 o12 r.2) := by
  unfold f_Mo_settled at hf
  refine Cx.ofW (cc := b_Mo_settled) (maxL := 3) (ret := (some .boolean)) (by decide) rfl ?_
  intro p e s m below meth c A C0 hP hK hD hA hns hZ
  obtain ⟨hx, hb, hml, hown, hts0, hr, hlocks, hnm, hno⟩ := C0
  have hown : s.vm.findClass R_Mo = some m.cls := hown
  have hts : ∀ w ∈ tb, w.before [.ref oh, .int p0].toArray s = true := fun w h => hts0 w (List.mem_cons_of_mem _ h)
  have hS : va_S A s.heap s.heap [] := va_S.rf
  have hl := lv_entry ([.ref oh, .int p0]) (n := 3) (Nat.le_of_ble_eq_true rfl)
  rw [lg_entry_eq]
  generalize (lg_sl ([.ref oh, .int p0]) ++ List.replicate (3 - (lg_sl ([.ref oh, .int p0])).length) Slot.unset).toArray = ls at hl ⊢
  have hl : lv_has ls 3 [(0, .ref oh), (1, .int p0)] := hl
  have L_19 : ∀ n : Nat, ∀ (x1 : Int32) (x2 : Int32) (U : K_Mo), f_Mo_settled_19 N n x1 x2 U = some r → ∀ (H : Heap) (locs : List Loc) (ls : Array Slot), va_P D vwCl (w_Mo cI cJ cZ oh o0 o1 o2 o3 o4 o5 o6 o7 o8 o9 o10 o11 o12 U) H → va_D A (w_Mo cI cJ cZ oh o0 o1 o2 o3 o4 o5 o6 o7 o8 o9 o10 o11 o12 U) → va_S A s.heap H locs → lv_has ls 3 [(0, .ref oh), (1, .int x1), (2, .int x2)] → W p l e (rm_Mo_settled) s m [.ref oh, .int p0].toArray below meth c H locs 0 0 (xQ D vwCl (tyL cI cJ cZ) below s A (oI r.1) (w_Mo cI cJ cZ oh o0 o1 o2 o3 o4 o5 o6 o7 o8 o9 o10 o11 o12 r.2) (rm_Mo_settled).cells (rm_Mo_settled).slots) (F0 m 19 ls []) := by
    intro n
    induction n with
    | zero =>
      intro x1 x2 U hf
      have hf : (none : Option (Int32 × K_Mo)) = some r := hf
      cases hf
    | succ n ih =>
      intro x1 x2 U hf H locs ls hP hD hS hl
      rw [f_Mo_settled_19] at hf
      refine lv_iload_n hx hb d_Mo_settled_19 rfl (lv_at hl 2 rfl) ?_
      refine lv_bipush (v := (40 : Int32)) hx hb d_Mo_settled_20 (by decide) ?_
      refine lv_icmp_gt (tgt := 52) hx hb d_Mo_settled_22 (by decide) (fun c7 => ?_) (fun c7 => ?_)
      · have hf := x_ifp c7 hf
        refine lv_iconst (v := (1 : Int32)) hx hb d_Mo_settled_52 (by decide) ?_
        obtain rfl := Option.some.inj hf
        exact x_zret hx hb hr hlocks (x_nb (Or.inr rfl)) hK hP hD hS (Nat.le_of_ble_eq_true rfl) (Nat.le_of_ble_eq_true rfl) d_Mo_settled_53
      · have hf := x_ifn c7 hf
        refine lv_aload_n hx hb d_Mo_settled_25 rfl (lv_at hl 0 rfl) ?_
        refine va_get (D := D) (ci := 3) (v := .ref o6) (C := R_Mo) (T := F_Mo) (N := 19) hx hb hts i_Mo hown hK hP 0 rfl rfl 7 (by decide) (hts _ k_231) (fun _ h9 => h9) rfl d_Mo_settled_26 ?_
        refine lv_iload_n hx hb d_Mo_settled_29 rfl (lv_at hl 2 rfl) ?_
        obtain ⟨g3, hf⟩ := x_if hf
        refine va_iald hx hb hK hP 7 0 rfl rfl (xi_in g3) d_Mo_settled_30 ?_
        refine lv_iconst (v := (1 : Int32)) hx hb d_Mo_settled_31 (by decide) ?_
        refine lv_icmp_ne (tgt := 46) hx hb d_Mo_settled_32 (by decide) (fun c6 => ?_) (fun c6 => ?_)
        · have hf := x_ifn c6 hf
          refine lv_iinc (v := (x2 + (1 : Int32))) (lv' := [(2, .int (x2 + (1 : Int32))), (0, .ref oh), (1, .int x1)]) hx hb d_Mo_settled_46 hl (k := 2) rfl rfl (by decide) rfl (fun ls hl => ?_)
          refine lv_goto (tgt := 19) hx hb d_Mo_settled_49 (by decide) ?_
          exact ih _ _ _ hf _ _ _ hP hD hS (lv_sub hl [1, 2, 0] rfl)
        · have hf := x_ifp c6 hf
          refine lv_aload_n hx hb d_Mo_settled_35 rfl (lv_at hl 0 rfl) ?_
          refine lv_iload_n hx hb d_Mo_settled_36 rfl (lv_at hl 2 rfl) ?_
          refine lv_iload_n hx hb d_Mo_settled_37 rfl (lv_at hl 1 rfl) ?_
          obtain ⟨z4, hz4, hf⟩ := x_bind hf
          refine x_callV (w2 := (w_Mo cI cJ cZ oh o0 o1 o2 o3 o4 o5 o6 o7 o8 o9 o10 o11 o12 z4.2)) ⟨hx, hb, hml, hown, hts⟩ (c_Mo_seen l D cI cJ cZ oh o0 o1 o2 o3 o4 o5 o6 o7 o8 o9 o10 o11 o12 N x2 x1 U z4 hz4) (x_cwV 2 hts rfl k_292 k_293 k_294 k_246 k_295 (by decide +kernel) ⟨(Nat.le_of_ble_eq_true rfl), (Nat.le_of_ble_eq_true rfl)⟩) hK hP hD hS hA hZ [0, 1, 2, 3, 4, 5, 6, 7, 8, 9, 10, 11, 12, 13] [] [0, 1, 2, 3, 4, 5, 6, 7, 8, 9, 10, 11, 12, 13] (by decide) rfl rfl (by decide) (by decide) (by decide) rfl (ci := 3) rfl rfl rfl hl.1 rfl (Nat.le_of_ble_eq_true rfl) d_Mo_settled_38 ⟨(Nat.le_of_ble_eq_true rfl), (Nat.le_of_ble_eq_true rfl)⟩ (fun H locs hP hD hS => ?_)
          refine W.eq (g2 := F0 m 41 ls [.int z4.1]) rfl ?_
          refine lv_if_ne (tgt := 46) hx hb d_Mo_settled_41 (by decide) (fun c5 => ?_) (fun c5 => ?_)
          · have hf := x_ifn c5 hf
            refine lv_iinc (v := (x2 + (1 : Int32))) (lv' := [(2, .int (x2 + (1 : Int32))), (0, .ref oh), (1, .int x1)]) hx hb d_Mo_settled_46 hl (k := 2) rfl rfl (by decide) rfl (fun ls hl => ?_)
            refine lv_goto (tgt := 19) hx hb d_Mo_settled_49 (by decide) ?_
            exact ih _ _ _ hf _ _ _ hP hD hS (lv_sub hl [1, 2, 0] rfl)
          · have hf := x_ifp c5 hf
            refine lv_iconst (v := (0 : Int32)) hx hb d_Mo_settled_44 (by decide) ?_
            obtain rfl := Option.some.inj hf
            exact x_zret hx hb hr hlocks (x_nb (Or.inl rfl)) hK hP hD hS (Nat.le_of_ble_eq_true rfl) (Nat.le_of_ble_eq_true rfl) d_Mo_settled_45
  refine lv_aload_n hx hb d_Mo_settled_0 rfl (lv_at hl 0 rfl) ?_
  refine va_get (D := D) (ci := 3) (v := .ref o6) (C := R_Mo) (T := F_Mo) (N := 19) hx hb hts i_Mo hown hK hP 0 rfl rfl 7 (by decide) (hts _ k_231) (fun _ h9 => h9) rfl d_Mo_settled_1 ?_
  refine lv_aload_n hx hb d_Mo_settled_4 rfl (lv_at hl 0 rfl) ?_
  refine va_get (D := D) (ci := 3) (v := .ref o0) (C := R_Mo) (T := F_Mo) (N := 19) hx hb hts i_Mo hown hK hP 0 rfl rfl 1 (by decide) (hts _ k_225) (fun _ h9 => h9) rfl d_Mo_settled_5 ?_
  refine lv_iload_n hx hb d_Mo_settled_8 rfl (lv_at hl 1 rfl) ?_
  obtain ⟨g1, hf⟩ := x_if hf
  refine va_iald hx hb hK hP 1 0 rfl rfl (xi_in g1) d_Mo_settled_9 ?_
  obtain ⟨g2, hf⟩ := x_if hf
  refine va_iald hx hb hK hP 7 0 rfl rfl (xi_in g2) d_Mo_settled_10 ?_
  refine lv_iconst (v := (2 : Int32)) hx hb d_Mo_settled_11 (by decide) ?_
  refine lv_icmp_eq (tgt := 17) hx hb d_Mo_settled_12 (by decide) (fun c8 => ?_) (fun c8 => ?_)
  · have hf := x_ifp c8 hf
    refine lv_iconst (v := (1 : Int32)) hx hb d_Mo_settled_17 (by decide) ?_
    refine lv_istore_n (lv' := [(2, .int (1 : Int32)), (0, .ref oh), (1, .int p0)]) hx hb d_Mo_settled_18 rfl hl (by decide) rfl (fun ls hl => ?_)
    exact L_19 _ _ _ _ hf _ _ _ hP hD hS (lv_sub hl [1, 2, 0] rfl)
  · have hf := x_ifn c8 hf
    refine lv_iconst (v := (0 : Int32)) hx hb d_Mo_settled_15 (by decide) ?_
    obtain rfl := Option.some.inj hf
    exact x_zret hx hb hr hlocks (x_nb (Or.inl rfl)) hK hP hD hS (Nat.le_of_ble_eq_true rfl) (Nat.le_of_ble_eq_true rfl) d_Mo_settled_16
