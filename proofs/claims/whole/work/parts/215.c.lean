set_option maxHeartbeats 4000000 in
set_option maxRecDepth 100000 in
theorem c_Mo_image (l : Launch) (D : va_G) (cI cJ cZ : ClassId) (oh o0 o1 o2 o3 o4 o5 o6 o7 o8 o9 o10 o11 o12 : Nat) (N : Nat) (p0 : Int32) (U : K_Mo) (r : (Int32 × K_Mo)) (hf : f_Mo_image N p0 U = some r) : Cx l y_Mo_image ws_Mo_image rm_Mo_image D vwCl (tyL cI cJ cZ) [.ref oh, .int p0] (w_Mo cI cJ cZ oh o0 o1 o2 o3 o4 o5 o6 o7 o8 o9 o10 o11 o12 U) (oI r.1) (w_Mo cI cJ cZ oh o0 o1 o2 o3 o4 o5 o6 o7 o8 o9 o10 o11 o12 r.2) := by
  unfold f_Mo_image at hf
  refine Cx.ofW (cc := b_Mo_image) (maxL := 4) (ret := (some .int)) (by decide) rfl ?_
  intro p e s m below meth c A C0 hP hK hD hA hns hZ
  obtain ⟨hx, hb, hml, hown, hts0, hr, hlocks, hnm, hno⟩ := C0
  have hown : s.vm.findClass R_Mo = some m.cls := hown
  have hts : ∀ w ∈ tb, w.before [.ref oh, .int p0].toArray s = true := fun w h => hts0 w (List.mem_cons_of_mem _ h)
  have hS : va_S A s.heap s.heap [] := va_S.rf
  have hl := lv_entry ([.ref oh, .int p0]) (n := 4) (Nat.le_of_ble_eq_true rfl)
  rw [lg_entry_eq]
  generalize (lg_sl ([.ref oh, .int p0]) ++ List.replicate (4 - (lg_sl ([.ref oh, .int p0])).length) Slot.unset).toArray = ls at hl ⊢
  have hl : lv_has ls 4 [(0, .ref oh), (1, .int p0)] := hl
  have L_23 : ∀ n : Nat, ∀ (x2 : Int32) (x3 : Int32) (U : K_Mo), f_Mo_image_23 N n x2 x3 U = some r → ∀ (H : Heap) (locs : List Loc) (ls : Array Slot), va_P D vwCl (w_Mo cI cJ cZ oh o0 o1 o2 o3 o4 o5 o6 o7 o8 o9 o10 o11 o12 U) H → va_D A (w_Mo cI cJ cZ oh o0 o1 o2 o3 o4 o5 o6 o7 o8 o9 o10 o11 o12 U) → va_S A s.heap H locs → lv_has ls 4 [(0, .ref oh), (2, .int x2), (3, .int x3)] → W p l e (rm_Mo_image) s m [.ref oh, .int p0].toArray below meth c H locs 0 0 (xQ D vwCl (tyL cI cJ cZ) below s A (oI r.1) (w_Mo cI cJ cZ oh o0 o1 o2 o3 o4 o5 o6 o7 o8 o9 o10 o11 o12 r.2) (rm_Mo_image).cells (rm_Mo_image).slots) (F0 m 23 ls []) := by
    intro n
    induction n with
    | zero =>
      intro x2 x3 U hf
      have hf : (none : Option (Int32 × K_Mo)) = some r := hf
      cases hf
    | succ n ih =>
      intro x2 x3 U hf H locs ls hP hD hS hl
      rw [f_Mo_image_23] at hf
      refine lv_iload_n hx hb d_Mo_image_23 rfl (lv_at hl 2 rfl) ?_
      refine lv_bipush (v := (16 : Int32)) hx hb d_Mo_image_24 (by decide) ?_
      refine lv_icmp_ge (tgt := 110) hx hb d_Mo_image_26 (by decide) (fun c19 => ?_) (fun c19 => ?_)
      · have hf := x_ifp c19 hf
        refine lv_aload_n hx hb d_Mo_image_110 rfl (lv_at hl 0 rfl) ?_
        refine lv_iconst (v := (2 : Int32)) hx hb d_Mo_image_111 (by decide) ?_
        obtain ⟨z3, hz3, hf⟩ := x_bind hf
        refine x_callV (w2 := (w_Mo cI cJ cZ oh o0 o1 o2 o3 o4 o5 o6 o7 o8 o9 o10 o11 o12 z3.2)) ⟨hx, hb, hml, hown, hts⟩ (c_Mo_raise l D cI cJ cZ oh o0 o1 o2 o3 o4 o5 o6 o7 o8 o9 o10 o11 o12 N (2 : Int32) U z3 hz3) (x_cwV 1 hts rfl k_272 k_273 k_274 k_246 k_275 (by decide +kernel) ⟨(Nat.le_of_ble_eq_true rfl), (Nat.le_of_ble_eq_true rfl)⟩) hK hP hD hS hA hZ [0, 1, 2, 3, 4, 5, 6, 7, 8, 9, 10, 11, 12, 13] [] [0, 1, 2, 3, 4, 5, 6, 7, 8, 9, 10, 11, 12, 13] (by decide) rfl rfl (by decide) (by decide) (by decide) rfl (ci := 3) rfl rfl rfl hl.1 rfl (Nat.le_of_ble_eq_true rfl) d_Mo_image_112 ⟨(Nat.le_of_ble_eq_true rfl), (Nat.le_of_ble_eq_true rfl)⟩ (fun H locs hP hD hS => ?_)
        refine W.eq (g2 := F0 m 115 ls [.int z3.1]) rfl ?_
        obtain rfl := Option.some.inj hf
        exact x_iret hx hb hr hlocks hK hP hD hS (Nat.le_of_ble_eq_true rfl) (Nat.le_of_ble_eq_true rfl) d_Mo_image_115
      · have hf := x_ifn c19 hf
        refine lv_iload_n hx hb d_Mo_image_29 rfl (lv_at hl 1 rfl) ?_
        refine lv_if_lt (tgt := 110) hx hb d_Mo_image_30 (by decide) (fun c18 => ?_) (fun c18 => ?_)
        · have hf := x_ifp c18 hf
          refine lv_aload_n hx hb d_Mo_image_110 rfl (lv_at hl 0 rfl) ?_
          refine lv_iconst (v := (2 : Int32)) hx hb d_Mo_image_111 (by decide) ?_
          obtain ⟨z4, hz4, hf⟩ := x_bind hf
          refine x_callV (w2 := (w_Mo cI cJ cZ oh o0 o1 o2 o3 o4 o5 o6 o7 o8 o9 o10 o11 o12 z4.2)) ⟨hx, hb, hml, hown, hts⟩ (c_Mo_raise l D cI cJ cZ oh o0 o1 o2 o3 o4 o5 o6 o7 o8 o9 o10 o11 o12 N (2 : Int32) U z4 hz4) (x_cwV 1 hts rfl k_272 k_273 k_274 k_246 k_275 (by decide +kernel) ⟨(Nat.le_of_ble_eq_true rfl), (Nat.le_of_ble_eq_true rfl)⟩) hK hP hD hS hA hZ [0, 1, 2, 3, 4, 5, 6, 7, 8, 9, 10, 11, 12, 13] [] [0, 1, 2, 3, 4, 5, 6, 7, 8, 9, 10, 11, 12, 13] (by decide) rfl rfl (by decide) (by decide) (by decide) rfl (ci := 3) rfl rfl rfl hl.1 rfl (Nat.le_of_ble_eq_true rfl) d_Mo_image_112 ⟨(Nat.le_of_ble_eq_true rfl), (Nat.le_of_ble_eq_true rfl)⟩ (fun H locs hP hD hS => ?_)
          refine W.eq (g2 := F0 m 115 ls [.int z4.1]) rfl ?_
          obtain rfl := Option.some.inj hf
          exact x_iret hx hb hr hlocks hK hP hD hS (Nat.le_of_ble_eq_true rfl) (Nat.le_of_ble_eq_true rfl) d_Mo_image_115
        · have hf := x_ifn c18 hf
          refine lv_aload_n hx hb d_Mo_image_33 rfl (lv_at hl 0 rfl) ?_
          refine va_get (D := D) (ci := 3) (v := .ref o3) (C := R_Mo) (T := F_Mo) (N := 19) hx hb hts i_Mo hown hK hP 0 rfl rfl 4 (by decide) (hts _ k_228) (fun _ h9 => h9) rfl d_Mo_image_34 ?_
          refine lv_iload_n hx hb d_Mo_image_37 rfl (lv_at hl 1 rfl) ?_
          obtain ⟨g5, hf⟩ := x_if hf
          refine va_iald hx hb hK hP 4 0 rfl rfl (xi_in g5) d_Mo_image_38 ?_
          refine lv_if_eq (tgt := 110) hx hb d_Mo_image_39 (by decide) (fun c17 => ?_) (fun c17 => ?_)
          · have hf := x_ifp c17 hf
            refine lv_aload_n hx hb d_Mo_image_110 rfl (lv_at hl 0 rfl) ?_
            refine lv_iconst (v := (2 : Int32)) hx hb d_Mo_image_111 (by decide) ?_
            obtain ⟨z6, hz6, hf⟩ := x_bind hf
            refine x_callV (w2 := (w_Mo cI cJ cZ oh o0 o1 o2 o3 o4 o5 o6 o7 o8 o9 o10 o11 o12 z6.2)) ⟨hx, hb, hml, hown, hts⟩ (c_Mo_raise l D cI cJ cZ oh o0 o1 o2 o3 o4 o5 o6 o7 o8 o9 o10 o11 o12 N (2 : Int32) U z6 hz6) (x_cwV 1 hts rfl k_272 k_273 k_274 k_246 k_275 (by decide +kernel) ⟨(Nat.le_of_ble_eq_true rfl), (Nat.le_of_ble_eq_true rfl)⟩) hK hP hD hS hA hZ [0, 1, 2, 3, 4, 5, 6, 7, 8, 9, 10, 11, 12, 13] [] [0, 1, 2, 3, 4, 5, 6, 7, 8, 9, 10, 11, 12, 13] (by decide) rfl rfl (by decide) (by decide) (by decide) rfl (ci := 3) rfl rfl rfl hl.1 rfl (Nat.le_of_ble_eq_true rfl) d_Mo_image_112 ⟨(Nat.le_of_ble_eq_true rfl), (Nat.le_of_ble_eq_true rfl)⟩ (fun H locs hP hD hS => ?_)
            refine W.eq (g2 := F0 m 115 ls [.int z6.1]) rfl ?_
            obtain rfl := Option.some.inj hf
            exact x_iret hx hb hr hlocks hK hP hD hS (Nat.le_of_ble_eq_true rfl) (Nat.le_of_ble_eq_true rfl) d_Mo_image_115
          · have hf := x_ifn c17 hf
            refine lv_aload_n hx hb d_Mo_image_42 rfl (lv_at hl 0 rfl) ?_
            refine va_get (D := D) (ci := 3) (v := .ref o7) (C := R_Mo) (T := F_Mo) (N := 19) hx hb hts i_Mo hown hK hP 0 rfl rfl 8 (by decide) (hts _ k_232) (fun _ h9 => h9) rfl d_Mo_image_43 ?_
            refine lv_aload_n hx hb d_Mo_image_46 rfl (lv_at hl 0 rfl) ?_
            refine va_get (D := D) (ci := 3) (v := .ref o3) (C := R_Mo) (T := F_Mo) (N := 19) hx hb hts i_Mo hown hK hP 0 rfl rfl 4 (by decide) (hts _ k_228) (fun _ h9 => h9) rfl d_Mo_image_47 ?_
            refine lv_iload_n hx hb d_Mo_image_50 rfl (lv_at hl 1 rfl) ?_
            obtain ⟨g7, hf⟩ := x_if hf
            refine va_iald hx hb hK hP 4 0 rfl rfl (xi_in g7) d_Mo_image_51 ?_
            obtain ⟨g8, hf⟩ := x_if hf
            refine va_iald hx hb hK hP 8 0 rfl rfl (xi_in g8) d_Mo_image_52 ?_
            refine lv_iconst (v := (2 : Int32)) hx hb d_Mo_image_53 (by decide) ?_
            refine lv_icmp_ne (tgt := 81) hx hb d_Mo_image_54 (by decide) (fun c16 => ?_) (fun c16 => ?_)
            · have hf := x_ifn c16 hf
              refine lv_aload_n hx hb d_Mo_image_81 rfl (lv_at hl 0 rfl) ?_
              refine va_get (D := D) (ci := 3) (v := .ref o5) (C := R_Mo) (T := F_Mo) (N := 19) hx hb hts i_Mo hown hK hP 0 rfl rfl 6 (by decide) (hts _ k_230) (fun _ h9 => h9) rfl d_Mo_image_82 ?_
              refine lv_iload_n hx hb d_Mo_image_85 rfl (lv_at hl 1 rfl) ?_
              obtain ⟨g9, hf⟩ := x_if hf
              refine va_iald hx hb hK hP 6 0 rfl rfl (xi_in g9) d_Mo_image_86 ?_
              refine lv_if_ge (tgt := 94) hx hb d_Mo_image_87 (by decide) (fun c11 => ?_) (fun c11 => ?_)
              · have hf := x_ifp c11 hf
                refine lv_bipush (v := (6 : Int32)) hx hb d_Mo_image_94 (by decide) ?_
                refine lv_aload_n hx hb d_Mo_image_96 rfl (lv_at hl 0 rfl) ?_
                refine va_get (D := D) (ci := 3) (v := .ref o5) (C := R_Mo) (T := F_Mo) (N := 19) hx hb hts i_Mo hown hK hP 0 rfl rfl 6 (by decide) (hts _ k_230) (fun _ h9 => h9) rfl d_Mo_image_97 ?_
                refine lv_iload_n hx hb d_Mo_image_100 rfl (lv_at hl 1 rfl) ?_
                obtain ⟨g10, hf⟩ := x_if hf
                refine va_iald hx hb hK hP 6 0 rfl rfl (xi_in g10) d_Mo_image_101 ?_
                refine lv_iadd hx hb d_Mo_image_102 ?_
                refine lv_istore_n (lv' := [(2, .int ((6 : Int32) + (U.2.1.2.2.1 x2.toNatClampNeg))), (0, .ref oh), (3, .int x3)]) hx hb d_Mo_image_103 rfl hl (by decide) rfl (fun ls hl => ?_)
                refine lv_iinc (v := (x3 + (1 : Int32))) (lv' := [(3, .int (x3 + (1 : Int32))), (2, .int ((6 : Int32) + (U.2.1.2.2.1 x2.toNatClampNeg))), (0, .ref oh)]) hx hb d_Mo_image_104 hl (k := 2) rfl rfl (by decide) rfl (fun ls hl => ?_)
                refine lv_goto (tgt := 23) hx hb d_Mo_image_107 (by decide) ?_
                exact ih _ _ _ hf _ _ _ hP hD hS (lv_sub hl [2, 1, 0] rfl)
              · have hf := x_ifn c11 hf
                refine lv_iconst (v := (-1 : Int32)) hx hb d_Mo_image_90 (by decide) ?_
                refine lv_goto (tgt := 103) hx hb d_Mo_image_91 (by decide) ?_
                refine lv_istore_n (lv' := [(2, .int (-1 : Int32)), (0, .ref oh), (3, .int x3)]) hx hb d_Mo_image_103 rfl hl (by decide) rfl (fun ls hl => ?_)
                refine lv_iinc (v := (x3 + (1 : Int32))) (lv' := [(3, .int (x3 + (1 : Int32))), (2, .int (-1 : Int32)), (0, .ref oh)]) hx hb d_Mo_image_104 hl (k := 2) rfl rfl (by decide) rfl (fun ls hl => ?_)
                refine lv_goto (tgt := 23) hx hb d_Mo_image_107 (by decide) ?_
                exact ih _ _ _ hf _ _ _ hP hD hS (lv_sub hl [2, 1, 0] rfl)
            · have hf := x_ifp c16 hf
              refine lv_aload_n hx hb d_Mo_image_57 rfl (lv_at hl 0 rfl) ?_
              refine va_get (D := D) (ci := 3) (v := .ref o4) (C := R_Mo) (T := F_Mo) (N := 19) hx hb hts i_Mo hown hK hP 0 rfl rfl 5 (by decide) (hts _ k_229) (fun _ h9 => h9) rfl d_Mo_image_58 ?_
              refine lv_iload_n hx hb d_Mo_image_61 rfl (lv_at hl 1 rfl) ?_
              obtain ⟨g12, hf⟩ := x_if hf
              refine va_iald hx hb hK hP 5 0 rfl rfl (xi_in g12) d_Mo_image_62 ?_
              refine lv_if_ge (tgt := 74) hx hb d_Mo_image_63 (by decide) (fun c15 => ?_) (fun c15 => ?_)
              · have hf := x_ifp c15 hf
                refine lv_aload_n hx hb d_Mo_image_74 rfl (lv_at hl 0 rfl) ?_
                refine va_get (D := D) (ci := 3) (v := .ref o4) (C := R_Mo) (T := F_Mo) (N := 19) hx hb hts i_Mo hown hK hP 0 rfl rfl 5 (by decide) (hts _ k_229) (fun _ h9 => h9) rfl d_Mo_image_75 ?_
                refine lv_iload_n hx hb d_Mo_image_78 rfl (lv_at hl 1 rfl) ?_
                obtain ⟨g13, hf⟩ := x_if hf
                refine va_iald hx hb hK hP 5 0 rfl rfl (xi_in g13) d_Mo_image_79 ?_
                obtain rfl := Option.some.inj hf
                exact x_iret hx hb hr hlocks hK hP hD hS (Nat.le_of_ble_eq_true rfl) (Nat.le_of_ble_eq_true rfl) d_Mo_image_80
              · have hf := x_ifn c15 hf
                refine lv_aload_n hx hb d_Mo_image_66 rfl (lv_at hl 0 rfl) ?_
                refine lv_iconst (v := (2 : Int32)) hx hb d_Mo_image_67 (by decide) ?_
                obtain ⟨z14, hz14, hf⟩ := x_bind hf
                refine x_callV (w2 := (w_Mo cI cJ cZ oh o0 o1 o2 o3 o4 o5 o6 o7 o8 o9 o10 o11 o12 z14.2)) ⟨hx, hb, hml, hown, hts⟩ (c_Mo_raise l D cI cJ cZ oh o0 o1 o2 o3 o4 o5 o6 o7 o8 o9 o10 o11 o12 N (2 : Int32) U z14 hz14) (x_cwV 1 hts rfl k_272 k_273 k_274 k_246 k_275 (by decide +kernel) ⟨(Nat.le_of_ble_eq_true rfl), (Nat.le_of_ble_eq_true rfl)⟩) hK hP hD hS hA hZ [0, 1, 2, 3, 4, 5, 6, 7, 8, 9, 10, 11, 12, 13] [] [0, 1, 2, 3, 4, 5, 6, 7, 8, 9, 10, 11, 12, 13] (by decide) rfl rfl (by decide) (by decide) (by decide) rfl (ci := 3) rfl rfl rfl hl.1 rfl (Nat.le_of_ble_eq_true rfl) d_Mo_image_68 ⟨(Nat.le_of_ble_eq_true rfl), (Nat.le_of_ble_eq_true rfl)⟩ (fun H locs hP hD hS => ?_)
                refine W.eq (g2 := F0 m 71 ls [.int z14.1]) rfl ?_
                refine lv_goto (tgt := 80) hx hb d_Mo_image_71 (by decide) ?_
                obtain rfl := Option.some.inj hf
                exact x_iret hx hb hr hlocks hK hP hD hS (Nat.le_of_ble_eq_true rfl) (Nat.le_of_ble_eq_true rfl) d_Mo_image_80
  refine lv_aload_n hx hb d_Mo_image_0 rfl (lv_at hl 0 rfl) ?_
  obtain ⟨z1, hz1, hf⟩ := x_bind hf
  refine x_callV (w2 := (w_Mo cI cJ cZ oh o0 o1 o2 o3 o4 o5 o6 o7 o8 o9 o10 o11 o12 z1.2)) ⟨hx, hb, hml, hown, hts⟩ (c_Mo_begun l D cI cJ cZ oh o0 o1 o2 o3 o4 o5 o6 o7 o8 o9 o10 o11 o12 N  U z1 hz1) (x_cwV 0 hts rfl k_284 k_285 k_286 k_246 k_287 (by decide +kernel) ⟨(Nat.le_of_ble_eq_true rfl), (Nat.le_of_ble_eq_true rfl)⟩) hK hP hD hS hA hZ [0, 1, 2, 3, 4, 5, 6, 7, 8, 9, 10, 11, 12, 13] [] [0, 1, 2, 3, 4, 5, 6, 7, 8, 9, 10, 11, 12, 13] (by decide) rfl rfl (by decide) (by decide) (by decide) rfl (ci := 3) rfl rfl rfl hl.1 rfl (Nat.le_of_ble_eq_true rfl) d_Mo_image_1 ⟨(Nat.le_of_ble_eq_true rfl), (Nat.le_of_ble_eq_true rfl)⟩ (fun H locs hP hD hS => ?_)
  refine W.eq (g2 := F0 m 4 ls []) rfl ?_
  refine lv_iload_n hx hb d_Mo_image_4 rfl (lv_at hl 1 rfl) ?_
  refine lv_iconst (v := (0 : Int32)) hx hb d_Mo_image_5 (by decide) ?_
  refine lv_iconst (v := (5 : Int32)) hx hb d_Mo_image_6 (by decide) ?_
  obtain ⟨z2, hz2, hf⟩ := x_bind hf
  refine x_callS (w2 := (w_Mo cI cJ cZ oh o0 o1 o2 o3 o4 o5 o6 o7 o8 o9 o10 o11 o12 z1.2)) ⟨hx, hb, hml, hown, hts⟩ (c_Mo_in l D cI cJ cZ  N p0 (0 : Int32) (5 : Int32)  z2 hz2) (x_cwS 3 hts rfl k_269 k_270 k_246 k_271 (by decide +kernel) ⟨(Nat.le_of_ble_eq_true rfl), (Nat.le_of_ble_eq_true rfl)⟩) hK hP hD hS hA hZ [] [0, 1, 2, 3, 4, 5, 6, 7, 8, 9, 10, 11, 12, 13] [0, 1, 2, 3, 4, 5, 6, 7, 8, 9, 10, 11, 12, 13] (by decide) rfl rfl (by decide) (by decide) (by decide) rfl rfl hl.1 rfl (Nat.le_of_ble_eq_true rfl) d_Mo_image_7 ⟨(Nat.le_of_ble_eq_true rfl), (Nat.le_of_ble_eq_true rfl)⟩ (fun H locs hP hD hS => ?_)
  refine W.eq (g2 := F0 m 10 ls [.int z2]) rfl ?_
  refine lv_if_ne (tgt := 19) hx hb d_Mo_image_10 (by decide) (fun c21 => ?_) (fun c21 => ?_)
  · have hf := x_ifn c21 hf
    refine lv_iload_n hx hb d_Mo_image_19 rfl (lv_at hl 1 rfl) ?_
    refine lv_istore_n (lv' := [(2, .int p0), (0, .ref oh), (1, .int p0)]) hx hb d_Mo_image_20 rfl hl (by decide) rfl (fun ls hl => ?_)
    refine lv_iconst (v := (0 : Int32)) hx hb d_Mo_image_21 (by decide) ?_
    refine lv_istore_n (lv' := [(3, .int (0 : Int32)), (2, .int p0), (0, .ref oh), (1, .int p0)]) hx hb d_Mo_image_22 rfl hl (by decide) rfl (fun ls hl => ?_)
    exact L_23 _ _ _ _ hf _ _ _ hP hD hS (lv_sub hl [2, 1, 0] rfl)
  · have hf := x_ifp c21 hf
    refine lv_aload_n hx hb d_Mo_image_13 rfl (lv_at hl 0 rfl) ?_
    refine lv_iconst (v := (1 : Int32)) hx hb d_Mo_image_14 (by decide) ?_
    obtain ⟨z20, hz20, hf⟩ := x_bind hf
    refine x_callV (w2 := (w_Mo cI cJ cZ oh o0 o1 o2 o3 o4 o5 o6 o7 o8 o9 o10 o11 o12 z20.2)) ⟨hx, hb, hml, hown, hts⟩ (c_Mo_raise l D cI cJ cZ oh o0 o1 o2 o3 o4 o5 o6 o7 o8 o9 o10 o11 o12 N (1 : Int32) z1.2 z20 hz20) (x_cwV 1 hts rfl k_272 k_273 k_274 k_246 k_275 (by decide +kernel) ⟨(Nat.le_of_ble_eq_true rfl), (Nat.le_of_ble_eq_true rfl)⟩) hK hP hD hS hA hZ [0, 1, 2, 3, 4, 5, 6, 7, 8, 9, 10, 11, 12, 13] [] [0, 1, 2, 3, 4, 5, 6, 7, 8, 9, 10, 11, 12, 13] (by decide) rfl rfl (by decide) (by decide) (by decide) rfl (ci := 3) rfl rfl rfl hl.1 rfl (Nat.le_of_ble_eq_true rfl) d_Mo_image_15 ⟨(Nat.le_of_ble_eq_true rfl), (Nat.le_of_ble_eq_true rfl)⟩ (fun H locs hP hD hS => ?_)
    refine W.eq (g2 := F0 m 18 ls [.int z20.1]) rfl ?_
    obtain rfl := Option.some.inj hf
    exact x_iret hx hb hr hlocks hK hP hD hS (Nat.le_of_ble_eq_true rfl) (Nat.le_of_ble_eq_true rfl) d_Mo_image_18
set_option maxHeartbeats 4000000 in
set_option maxRecDepth 100000 in
theorem c_Mo_state (l : Launch) (D : va_G) (cI cJ cZ : ClassId) (oh o0 o1 o2 o3 o4 o5 o6 o7 o8 o9 o10 o11 o12 : Nat) (N : Nat) (p0 : Int32) (U : K_Mo) (r : (Int32 × K_Mo)) (hf : f_Mo_state N p0 U = some r) : Cx l y_Mo_state ws_Mo_state rm_Mo_state D vwCl (tyL cI cJ cZ) [.ref oh, .int p0] (w_Mo cI cJ cZ oh o0 o1 o2 o3 o4 o5 o6 o7 o8 o9 o10 o11 o12 U) (oI r.1) (w_Mo cI cJ cZ oh o0 o1 o2 o3 o4 o5 o6 o7 o8 o9 o10 o11 o12 r.2) := by
  unfold f_Mo_state at hf
  refine Cx.ofW (cc := b_Mo_state) (maxL := 2) (ret := (some .int)) (by decide) rfl ?_
  intro p e s m below meth c A C0 hP hK hD hA hns hZ
  obtain ⟨hx, hb, hml, hown, hts0, hr, hlocks, hnm, hno⟩ := C0
  have hown : s.vm.findClass R_Mo = some m.cls := hown
  have hts : ∀ w ∈ tb, w.before [.ref oh, .int p0].toArray s = true := fun w h => hts0 w (List.mem_cons_of_mem _ h)
  have hS : va_S A s.heap s.heap [] := va_S.rf
  have hl := lv_entry ([.ref oh, .int p0]) (n := 2) (Nat.le_of_ble_eq_true rfl)
  rw [lg_entry_eq]
  generalize (lg_sl ([.ref oh, .int p0]) ++ List.replicate (2 - (lg_sl ([.ref oh, .int p0])).length) Slot.unset).toArray = ls at hl ⊢
  have hl : lv_has ls 2 [(0, .ref oh), (1, .int p0)] := hl
  refine lv_aload_n hx hb d_Mo_state_0 rfl (lv_at hl 0 rfl) ?_
  obtain ⟨z1, hz1, hf⟩ := x_bind hf
  refine x_callV (w2 := (w_Mo cI cJ cZ oh o0 o1 o2 o3 o4 o5 o6 o7 o8 o9 o10 o11 o12 z1.2)) ⟨hx, hb, hml, hown, hts⟩ (c_Mo_begun l D cI cJ cZ oh o0 o1 o2 o3 o4 o5 o6 o7 o8 o9 o10 o11 o12 N  U z1 hz1) (x_cwV 0 hts rfl k_284 k_285 k_286 k_246 k_287 (by decide +kernel) ⟨(Nat.le_of_ble_eq_true rfl), (Nat.le_of_ble_eq_true rfl)⟩) hK hP hD hS hA hZ [0, 1, 2, 3, 4, 5, 6, 7, 8, 9, 10, 11, 12, 13] [] [0, 1, 2, 3, 4, 5, 6, 7, 8, 9, 10, 11, 12, 13] (by decide) rfl rfl (by decide) (by decide) (by decide) rfl (ci := 3) rfl rfl rfl hl.1 rfl (Nat.le_of_ble_eq_true rfl) d_Mo_state_1 ⟨(Nat.le_of_ble_eq_true rfl), (Nat.le_of_ble_eq_true rfl)⟩ (fun H locs hP hD hS => ?_)
  refine W.eq (g2 := F0 m 4 ls []) rfl ?_
  refine lv_iload_n hx hb d_Mo_state_4 rfl (lv_at hl 1 rfl) ?_
  refine lv_iconst (v := (1 : Int32)) hx hb d_Mo_state_5 (by decide) ?_
  refine lv_bipush (v := (40 : Int32)) hx hb d_Mo_state_6 (by decide) ?_
  obtain ⟨z2, hz2, hf⟩ := x_bind hf
  refine x_callS (w2 := (w_Mo cI cJ cZ oh o0 o1 o2 o3 o4 o5 o6 o7 o8 o9 o10 o11 o12 z1.2)) ⟨hx, hb, hml, hown, hts⟩ (c_Mo_in l D cI cJ cZ  N p0 (1 : Int32) (40 : Int32)  z2 hz2) (x_cwS 3 hts rfl k_269 k_270 k_246 k_271 (by decide +kernel) ⟨(Nat.le_of_ble_eq_true rfl), (Nat.le_of_ble_eq_true rfl)⟩) hK hP hD hS hA hZ [] [0, 1, 2, 3, 4, 5, 6, 7, 8, 9, 10, 11, 12, 13] [0, 1, 2, 3, 4, 5, 6, 7, 8, 9, 10, 11, 12, 13] (by decide) rfl rfl (by decide) (by decide) (by decide) rfl rfl hl.1 rfl (Nat.le_of_ble_eq_true rfl) d_Mo_state_8 ⟨(Nat.le_of_ble_eq_true rfl), (Nat.le_of_ble_eq_true rfl)⟩ (fun H locs hP hD hS => ?_)
  refine W.eq (g2 := F0 m 11 ls [.int z2]) rfl ?_
  refine lv_if_eq (tgt := 23) hx hb d_Mo_state_11 (by decide) (fun c5 => ?_) (fun c5 => ?_)
  · have hf := x_ifp c5 hf
    refine lv_aload_n hx hb d_Mo_state_23 rfl (lv_at hl 0 rfl) ?_
    refine lv_iconst (v := (1 : Int32)) hx hb d_Mo_state_24 (by decide) ?_
    obtain ⟨z3, hz3, hf⟩ := x_bind hf
    refine x_callV (w2 := (w_Mo cI cJ cZ oh o0 o1 o2 o3 o4 o5 o6 o7 o8 o9 o10 o11 o12 z3.2)) ⟨hx, hb, hml, hown, hts⟩ (c_Mo_raise l D cI cJ cZ oh o0 o1 o2 o3 o4 o5 o6 o7 o8 o9 o10 o11 o12 N (1 : Int32) z1.2 z3 hz3) (x_cwV 1 hts rfl k_272 k_273 k_274 k_246 k_275 (by decide +kernel) ⟨(Nat.le_of_ble_eq_true rfl), (Nat.le_of_ble_eq_true rfl)⟩) hK hP hD hS hA hZ [0, 1, 2, 3, 4, 5, 6, 7, 8, 9, 10, 11, 12, 13] [] [0, 1, 2, 3, 4, 5, 6, 7, 8, 9, 10, 11, 12, 13] (by decide) rfl rfl (by decide) (by decide) (by decide) rfl (ci := 3) rfl rfl rfl hl.1 rfl (Nat.le_of_ble_eq_true rfl) d_Mo_state_25 ⟨(Nat.le_of_ble_eq_true rfl), (Nat.le_of_ble_eq_true rfl)⟩ (fun H locs hP hD hS => ?_)
    refine W.eq (g2 := F0 m 28 ls [.int z3.1]) rfl ?_
    obtain rfl := Option.some.inj hf
    exact x_iret hx hb hr hlocks hK hP hD hS (Nat.le_of_ble_eq_true rfl) (Nat.le_of_ble_eq_true rfl) d_Mo_state_28
  · have hf := x_ifn c5 hf
    refine lv_aload_n hx hb d_Mo_state_14 rfl (lv_at hl 0 rfl) ?_
    refine va_get (D := D) (ci := 3) (v := .ref o6) (C := R_Mo) (T := F_Mo) (N := 19) hx hb hts i_Mo hown hK hP 0 rfl rfl 7 (by decide) (hts _ k_231) (fun _ h9 => h9) rfl d_Mo_state_15 ?_
    refine lv_iload_n hx hb d_Mo_state_18 rfl (lv_at hl 1 rfl) ?_
    obtain ⟨g4, hf⟩ := x_if hf
    refine va_iald hx hb hK hP 7 0 rfl rfl (xi_in g4) d_Mo_state_19 ?_
    refine lv_goto (tgt := 28) hx hb d_Mo_state_20 (by decide) ?_
    obtain rfl := Option.some.inj hf
    exact x_iret hx hb hr hlocks hK hP hD hS (Nat.le_of_ble_eq_true rfl) (Nat.le_of_ble_eq_true rfl) d_Mo_state_28
set_option maxHeartbeats 4000000 in
set_option maxRecDepth 100000 in
theorem c_Mo_version (l : Launch) (D : va_G) (cI cJ cZ : ClassId) (oh o0 o1 o2 o3 o4 o5 o6 o7 o8 o9 o10 o11 o12 : Nat) (N : Nat) (p0 : Int32) (p1 : Int32) (p2 : Int32) (U : K_Mo) (r : (Int32 × K_Mo)) (hf : f_Mo_version N p0 p1 p2 U = some r) : Cx l y_Mo_version ws_Mo_version rm_Mo_version D vwCl (tyL cI cJ cZ) [.ref oh, .int p0, .int p1, .int p2] (w_Mo cI cJ cZ oh o0 o1 o2 o3 o4 o5 o6 o7 o8 o9 o10 o11 o12 U) (oI r.1) (w_Mo cI cJ cZ oh o0 o1 o2 o3 o4 o5 o6 o7 o8 o9 o10 o11 o12 r.2) := by
  unfold f_Mo_version at hf
  refine Cx.ofW (cc := b_Mo_version) (maxL := 6) (ret := (some .int)) (by decide) rfl ?_
  intro p e s m below meth c A C0 hP hK hD hA hns hZ
  obtain ⟨hx, hb, hml, hown, hts0, hr, hlocks, hnm, hno⟩ := C0
  have hown : s.vm.findClass R_Mo = some m.cls := hown
  have hts : ∀ w ∈ tb, w.before [.ref oh, .int p0, .int p1, .int p2].toArray s = true := fun w h => hts0 w (List.mem_cons_of_mem _ h)
  have hS : va_S A s.heap s.heap [] := va_S.rf
  have hl := lv_entry ([.ref oh, .int p0, .int p1, .int p2]) (n := 6) (Nat.le_of_ble_eq_true rfl)
  rw [lg_entry_eq]
  generalize (lg_sl ([.ref oh, .int p0, .int p1, .int p2]) ++ List.replicate (6 - (lg_sl ([.ref oh, .int p0, .int p1, .int p2])).length) Slot.unset).toArray = ls at hl ⊢
  have hl : lv_has ls 6 [(0, .ref oh), (1, .int p0), (2, .int p1), (3, .int p2)] := hl
  have L_51 : ∀ n : Nat, ∀ (x2 : Int32) (x3 : Int32) (x4 : Int32) (x5 : Int32) (U : K_Mo), f_Mo_version_51 N n x2 x3 x4 x5 U = some r → ∀ (H : Heap) (locs : List Loc) (ls : Array Slot), va_P D vwCl (w_Mo cI cJ cZ oh o0 o1 o2 o3 o4 o5 o6 o7 o8 o9 o10 o11 o12 U) H → va_D A (w_Mo cI cJ cZ oh o0 o1 o2 o3 o4 o5 o6 o7 o8 o9 o10 o11 o12 U) → va_S A s.heap H locs → lv_has ls 6 [(0, .ref oh), (2, .int x2), (3, .int x3), (4, .int x4), (5, .int x5)] → W p l e (rm_Mo_version) s m [.ref oh, .int p0, .int p1, .int p2].toArray below meth c H locs 0 0 (xQ D vwCl (tyL cI cJ cZ) below s A (oI r.1) (w_Mo cI cJ cZ oh o0 o1 o2 o3 o4 o5 o6 o7 o8 o9 o10 o11 o12 r.2) (rm_Mo_version).cells (rm_Mo_version).slots) (F0 m 51 ls []) := by
    intro n
    induction n with
    | zero =>
      intro x2 x3 x4 x5 U hf
      have hf : (none : Option (Int32 × K_Mo)) = some r := hf
      cases hf
    | succ n ih =>
      intro x2 x3 x4 x5 U hf H locs ls hP hD hS hl
      rw [f_Mo_version_51] at hf
      refine lv_iload hx hb d_Mo_version_51 (lv_at hl 4 rfl) ?_
      refine lv_iload_n hx hb d_Mo_version_53 rfl (lv_at hl 1 rfl) ?_
      refine lv_icmp_ge (tgt := 76) hx hb d_Mo_version_54 (by decide) (fun c21 => ?_) (fun c21 => ?_)
      · have hf := x_ifp c21 hf
        refine lv_iload hx hb d_Mo_version_76 (lv_at hl 3 rfl) ?_
        refine lv_if_ge (tgt := 87) hx hb d_Mo_version_78 (by decide) (fun c11 => ?_) (fun c11 => ?_)
        · have hf := x_ifp c11 hf
          refine lv_iload_n hx hb d_Mo_version_87 rfl (lv_at hl 2 rfl) ?_
          refine lv_if_ne (tgt := 101) hx hb d_Mo_version_88 (by decide) (fun c9 => ?_) (fun c9 => ?_)
          · have hf := x_ifn c9 hf
            refine lv_iload_n hx hb d_Mo_version_101 rfl (lv_at hl 2 rfl) ?_
            refine lv_iconst (v := (1 : Int32)) hx hb d_Mo_version_102 (by decide) ?_
            refine lv_icmp_ne (tgt := 116) hx hb d_Mo_version_103 (by decide) (fun c7 => ?_) (fun c7 => ?_)
            · have hf := x_ifn c7 hf
              refine lv_iload hx hb d_Mo_version_116 (lv_at hl 3 rfl) ?_
              refine lv_bipush (v := (6 : Int32)) hx hb d_Mo_version_118 (by decide) ?_
              refine lv_icmp_ge (tgt := 127) hx hb d_Mo_version_120 (by decide) (fun c5 => ?_) (fun c5 => ?_)
              · have hf := x_ifp c5 hf
                refine lv_iload hx hb d_Mo_version_127 (lv_at hl 3 rfl) ?_
                refine lv_bipush (v := (6 : Int32)) hx hb d_Mo_version_129 (by decide) ?_
                refine lv_isub hx hb d_Mo_version_131 ?_
                obtain rfl := Option.some.inj hf
                exact x_iret hx hb hr hlocks hK hP hD hS (Nat.le_of_ble_eq_true rfl) (Nat.le_of_ble_eq_true rfl) d_Mo_version_132
              · have hf := x_ifn c5 hf
                refine lv_iconst (v := (-1 : Int32)) hx hb d_Mo_version_123 (by decide) ?_
                refine lv_goto (tgt := 132) hx hb d_Mo_version_124 (by decide) ?_
                obtain rfl := Option.some.inj hf
                exact x_iret hx hb hr hlocks hK hP hD hS (Nat.le_of_ble_eq_true rfl) (Nat.le_of_ble_eq_true rfl) d_Mo_version_132
            · have hf := x_ifp c7 hf
              refine lv_aload_n hx hb d_Mo_version_106 rfl (lv_at hl 0 rfl) ?_
              refine va_get (D := D) (ci := 3) (v := .ref o1) (C := R_Mo) (T := F_Mo) (N := 19) hx hb hts i_Mo hown hK hP 0 rfl rfl 2 (by decide) (hts _ k_226) (fun _ h9 => h9) rfl d_Mo_version_107 ?_
              refine lv_iload hx hb d_Mo_version_110 (lv_at hl 3 rfl) ?_
              obtain ⟨g6, hf⟩ := x_if hf
              refine va_iald hx hb hK hP 2 0 rfl rfl (xi_in g6) d_Mo_version_112 ?_
              refine lv_goto (tgt := 132) hx hb d_Mo_version_113 (by decide) ?_
              obtain rfl := Option.some.inj hf
              exact x_iret hx hb hr hlocks hK hP hD hS (Nat.le_of_ble_eq_true rfl) (Nat.le_of_ble_eq_true rfl) d_Mo_version_132
          · have hf := x_ifp c9 hf
            refine lv_aload_n hx hb d_Mo_version_91 rfl (lv_at hl 0 rfl) ?_
            refine va_get (D := D) (ci := 3) (v := .ref o0) (C := R_Mo) (T := F_Mo) (N := 19) hx hb hts i_Mo hown hK hP 0 rfl rfl 1 (by decide) (hts _ k_225) (fun _ h9 => h9) rfl d_Mo_version_92 ?_
            refine lv_iload hx hb d_Mo_version_95 (lv_at hl 3 rfl) ?_
            obtain ⟨g8, hf⟩ := x_if hf
            refine va_iald hx hb hK hP 1 0 rfl rfl (xi_in g8) d_Mo_version_97 ?_
            refine lv_goto (tgt := 132) hx hb d_Mo_version_98 (by decide) ?_
            obtain rfl := Option.some.inj hf
            exact x_iret hx hb hr hlocks hK hP hD hS (Nat.le_of_ble_eq_true rfl) (Nat.le_of_ble_eq_true rfl) d_Mo_version_132
        · have hf := x_ifn c11 hf
          refine lv_aload_n hx hb d_Mo_version_81 rfl (lv_at hl 0 rfl) ?_
          refine lv_iconst (v := (2 : Int32)) hx hb d_Mo_version_82 (by decide) ?_
          obtain ⟨z10, hz10, hf⟩ := x_bind hf
          refine x_callV (w2 := (w_Mo cI cJ cZ oh o0 o1 o2 o3 o4 o5 o6 o7 o8 o9 o10 o11 o12 z10.2)) ⟨hx, hb, hml, hown, hts⟩ (c_Mo_raise l D cI cJ cZ oh o0 o1 o2 o3 o4 o5 o6 o7 o8 o9 o10 o11 o12 N (2 : Int32) U z10 hz10) (x_cwV 1 hts rfl k_272 k_273 k_274 k_246 k_275 (by decide +kernel) ⟨(Nat.le_of_ble_eq_true rfl), (Nat.le_of_ble_eq_true rfl)⟩) hK hP hD hS hA hZ [0, 1, 2, 3, 4, 5, 6, 7, 8, 9, 10, 11, 12, 13] [] [0, 1, 2, 3, 4, 5, 6, 7, 8, 9, 10, 11, 12, 13] (by decide) rfl rfl (by decide) (by decide) (by decide) rfl (ci := 3) rfl rfl rfl hl.1 rfl (Nat.le_of_ble_eq_true rfl) d_Mo_version_83 ⟨(Nat.le_of_ble_eq_true rfl), (Nat.le_of_ble_eq_true rfl)⟩ (fun H locs hP hD hS => ?_)
          refine W.eq (g2 := F0 m 86 ls [.int z10.1]) rfl ?_
          obtain rfl := Option.some.inj hf
          exact x_iret hx hb hr hlocks hK hP hD hS (Nat.le_of_ble_eq_true rfl) (Nat.le_of_ble_eq_true rfl) d_Mo_version_86
      · have hf := x_ifn c21 hf
        refine lv_iload hx hb d_Mo_version_57 (lv_at hl 3 rfl) ?_
        refine lv_if_lt (tgt := 76) hx hb d_Mo_version_59 (by decide) (fun c20 => ?_) (fun c20 => ?_)
        · have hf := x_ifp c20 hf
          refine lv_iload hx hb d_Mo_version_76 (lv_at hl 3 rfl) ?_
          refine lv_if_ge (tgt := 87) hx hb d_Mo_version_78 (by decide) (fun c18 => ?_) (fun c18 => ?_)
          · have hf := x_ifp c18 hf
            refine lv_iload_n hx hb d_Mo_version_87 rfl (lv_at hl 2 rfl) ?_
            refine lv_if_ne (tgt := 101) hx hb d_Mo_version_88 (by decide) (fun c16 => ?_) (fun c16 => ?_)
            · have hf := x_ifn c16 hf
              refine lv_iload_n hx hb d_Mo_version_101 rfl (lv_at hl 2 rfl) ?_
              refine lv_iconst (v := (1 : Int32)) hx hb d_Mo_version_102 (by decide) ?_
              refine lv_icmp_ne (tgt := 116) hx hb d_Mo_version_103 (by decide) (fun c14 => ?_) (fun c14 => ?_)
              · have hf := x_ifn c14 hf
                refine lv_iload hx hb d_Mo_version_116 (lv_at hl 3 rfl) ?_
                refine lv_bipush (v := (6 : Int32)) hx hb d_Mo_version_118 (by decide) ?_
                refine lv_icmp_ge (tgt := 127) hx hb d_Mo_version_120 (by decide) (fun c12 => ?_) (fun c12 => ?_)
                · have hf := x_ifp c12 hf
                  refine lv_iload hx hb d_Mo_version_127 (lv_at hl 3 rfl) ?_
                  refine lv_bipush (v := (6 : Int32)) hx hb d_Mo_version_129 (by decide) ?_
                  refine lv_isub hx hb d_Mo_version_131 ?_
                  obtain rfl := Option.some.inj hf
                  exact x_iret hx hb hr hlocks hK hP hD hS (Nat.le_of_ble_eq_true rfl) (Nat.le_of_ble_eq_true rfl) d_Mo_version_132
                · have hf := x_ifn c12 hf
                  refine lv_iconst (v := (-1 : Int32)) hx hb d_Mo_version_123 (by decide) ?_
                  refine lv_goto (tgt := 132) hx hb d_Mo_version_124 (by decide) ?_
                  obtain rfl := Option.some.inj hf
                  exact x_iret hx hb hr hlocks hK hP hD hS (Nat.le_of_ble_eq_true rfl) (Nat.le_of_ble_eq_true rfl) d_Mo_version_132
              · have hf := x_ifp c14 hf
                refine lv_aload_n hx hb d_Mo_version_106 rfl (lv_at hl 0 rfl) ?_
                refine va_get (D := D) (ci := 3) (v := .ref o1) (C := R_Mo) (T := F_Mo) (N := 19) hx hb hts i_Mo hown hK hP 0 rfl rfl 2 (by decide) (hts _ k_226) (fun _ h9 => h9) rfl d_Mo_version_107 ?_
                refine lv_iload hx hb d_Mo_version_110 (lv_at hl 3 rfl) ?_
                obtain ⟨g13, hf⟩ := x_if hf
                refine va_iald hx hb hK hP 2 0 rfl rfl (xi_in g13) d_Mo_version_112 ?_
                refine lv_goto (tgt := 132) hx hb d_Mo_version_113 (by decide) ?_
                obtain rfl := Option.some.inj hf
                exact x_iret hx hb hr hlocks hK hP hD hS (Nat.le_of_ble_eq_true rfl) (Nat.le_of_ble_eq_true rfl) d_Mo_version_132
            · have hf := x_ifp c16 hf
              refine lv_aload_n hx hb d_Mo_version_91 rfl (lv_at hl 0 rfl) ?_
              refine va_get (D := D) (ci := 3) (v := .ref o0) (C := R_Mo) (T := F_Mo) (N := 19) hx hb hts i_Mo hown hK hP 0 rfl rfl 1 (by decide) (hts _ k_225) (fun _ h9 => h9) rfl d_Mo_version_92 ?_
              refine lv_iload hx hb d_Mo_version_95 (lv_at hl 3 rfl) ?_
              obtain ⟨g15, hf⟩ := x_if hf
              refine va_iald hx hb hK hP 1 0 rfl rfl (xi_in g15) d_Mo_version_97 ?_
              refine lv_goto (tgt := 132) hx hb d_Mo_version_98 (by decide) ?_
              obtain rfl := Option.some.inj hf
              exact x_iret hx hb hr hlocks hK hP hD hS (Nat.le_of_ble_eq_true rfl) (Nat.le_of_ble_eq_true rfl) d_Mo_version_132
          · have hf := x_ifn c18 hf
            refine lv_aload_n hx hb d_Mo_version_81 rfl (lv_at hl 0 rfl) ?_
            refine lv_iconst (v := (2 : Int32)) hx hb d_Mo_version_82 (by decide) ?_
            obtain ⟨z17, hz17, hf⟩ := x_bind hf
            refine x_callV (w2 := (w_Mo cI cJ cZ oh o0 o1 o2 o3 o4 o5 o6 o7 o8 o9 o10 o11 o12 z17.2)) ⟨hx, hb, hml, hown, hts⟩ (c_Mo_raise l D cI cJ cZ oh o0 o1 o2 o3 o4 o5 o6 o7 o8 o9 o10 o11 o12 N (2 : Int32) U z17 hz17) (x_cwV 1 hts rfl k_272 k_273 k_274 k_246 k_275 (by decide +kernel) ⟨(Nat.le_of_ble_eq_true rfl), (Nat.le_of_ble_eq_true rfl)⟩) hK hP hD hS hA hZ [0, 1, 2, 3, 4, 5, 6, 7, 8, 9, 10, 11, 12, 13] [] [0, 1, 2, 3, 4, 5, 6, 7, 8, 9, 10, 11, 12, 13] (by decide) rfl rfl (by decide) (by decide) (by decide) rfl (ci := 3) rfl rfl rfl hl.1 rfl (Nat.le_of_ble_eq_true rfl) d_Mo_version_83 ⟨(Nat.le_of_ble_eq_true rfl), (Nat.le_of_ble_eq_true rfl)⟩ (fun H locs hP hD hS => ?_)
            refine W.eq (g2 := F0 m 86 ls [.int z17.1]) rfl ?_
            obtain rfl := Option.some.inj hf
            exact x_iret hx hb hr hlocks hK hP hD hS (Nat.le_of_ble_eq_true rfl) (Nat.le_of_ble_eq_true rfl) d_Mo_version_86
        · have hf := x_ifn c20 hf
          refine lv_aload_n hx hb d_Mo_version_62 rfl (lv_at hl 0 rfl) ?_
          refine lv_iload hx hb d_Mo_version_63 (lv_at hl 3 rfl) ?_
          obtain ⟨z19, hz19, hf⟩ := x_bind hf
          refine x_callV (w2 := (w_Mo cI cJ cZ oh o0 o1 o2 o3 o4 o5 o6 o7 o8 o9 o10 o11 o12 z19.2)) ⟨hx, hb, hml, hown, hts⟩ (c_Mo_behind l D cI cJ cZ oh o0 o1 o2 o3 o4 o5 o6 o7 o8 o9 o10 o11 o12 N x4 U z19 hz19) (x_cwV 1 hts rfl k_288 k_289 k_290 k_246 k_291 (by decide +kernel) ⟨(Nat.le_of_ble_eq_true rfl), (Nat.le_of_ble_eq_true rfl)⟩) hK hP hD hS hA hZ [0, 1, 2, 3, 4, 5, 6, 7, 8, 9, 10, 11, 12, 13] [] [0, 1, 2, 3, 4, 5, 6, 7, 8, 9, 10, 11, 12, 13] (by decide) rfl rfl (by decide) (by decide) (by decide) rfl (ci := 3) rfl rfl rfl hl.1 rfl (Nat.le_of_ble_eq_true rfl) d_Mo_version_65 ⟨(Nat.le_of_ble_eq_true rfl), (Nat.le_of_ble_eq_true rfl)⟩ (fun H locs hP hD hS => ?_)
          refine W.eq (g2 := F0 m 68 ls [.int z19.1]) rfl ?_
          refine lv_istore (lv' := [(4, .int z19.1), (0, .ref oh), (2, .int x2), (3, .int x3), (5, .int x5)]) hx hb d_Mo_version_68 hl (by decide) rfl (fun ls hl => ?_)
          refine lv_iinc (v := (x5 + (1 : Int32))) (lv' := [(5, .int (x5 + (1 : Int32))), (4, .int z19.1), (0, .ref oh), (2, .int x2), (3, .int x3)]) hx hb d_Mo_version_70 hl (k := 4) rfl rfl (by decide) rfl (fun ls hl => ?_)
          refine lv_goto (tgt := 51) hx hb d_Mo_version_73 (by decide) ?_
          exact ih _ _ _ _ _ hf _ _ _ hP hD hS (lv_sub hl [2, 3, 4, 1, 0] rfl)
  refine lv_aload_n hx hb d_Mo_version_0 rfl (lv_at hl 0 rfl) ?_
  obtain ⟨z1, hz1, hf⟩ := x_bind hf
  refine x_callV (w2 := (w_Mo cI cJ cZ oh o0 o1 o2 o3 o4 o5 o6 o7 o8 o9 o10 o11 o12 z1.2)) ⟨hx, hb, hml, hown, hts⟩ (c_Mo_begun l D cI cJ cZ oh o0 o1 o2 o3 o4 o5 o6 o7 o8 o9 o10 o11 o12 N  U z1 hz1) (x_cwV 0 hts rfl k_284 k_285 k_286 k_246 k_287 (by decide +kernel) ⟨(Nat.le_of_ble_eq_true rfl), (Nat.le_of_ble_eq_true rfl)⟩) hK hP hD hS hA hZ [0, 1, 2, 3, 4, 5, 6, 7, 8, 9, 10, 11, 12, 13] [] [0, 1, 2, 3, 4, 5, 6, 7, 8, 9, 10, 11, 12, 13] (by decide) rfl rfl (by decide) (by decide) (by decide) rfl (ci := 3) rfl rfl rfl hl.1 rfl (Nat.le_of_ble_eq_true rfl) d_Mo_version_1 ⟨(Nat.le_of_ble_eq_true rfl), (Nat.le_of_ble_eq_true rfl)⟩ (fun H locs hP hD hS => ?_)
  refine W.eq (g2 := F0 m 4 ls []) rfl ?_
  refine lv_iload_n hx hb d_Mo_version_4 rfl (lv_at hl 1 rfl) ?_
  refine lv_iconst (v := (0 : Int32)) hx hb d_Mo_version_5 (by decide) ?_
  refine lv_iconst (v := (5 : Int32)) hx hb d_Mo_version_6 (by decide) ?_
  obtain ⟨z2, hz2, hf⟩ := x_bind hf
  refine x_callS (w2 := (w_Mo cI cJ cZ oh o0 o1 o2 o3 o4 o5 o6 o7 o8 o9 o10 o11 o12 z1.2)) ⟨hx, hb, hml, hown, hts⟩ (c_Mo_in l D cI cJ cZ  N p0 (0 : Int32) (5 : Int32)  z2 hz2) (x_cwS 3 hts rfl k_269 k_270 k_246 k_271 (by decide +kernel) ⟨(Nat.le_of_ble_eq_true rfl), (Nat.le_of_ble_eq_true rfl)⟩) hK hP hD hS hA hZ [] [0, 1, 2, 3, 4, 5, 6, 7, 8, 9, 10, 11, 12, 13] [0, 1, 2, 3, 4, 5, 6, 7, 8, 9, 10, 11, 12, 13] (by decide) rfl rfl (by decide) (by decide) (by decide) rfl rfl hl.1 rfl (Nat.le_of_ble_eq_true rfl) d_Mo_version_7 ⟨(Nat.le_of_ble_eq_true rfl), (Nat.le_of_ble_eq_true rfl)⟩ (fun H locs hP hD hS => ?_)
  refine W.eq (g2 := F0 m 10 ls [.int z2]) rfl ?_
  refine lv_if_eq (tgt := 22) hx hb d_Mo_version_10 (by decide) (fun c27 => ?_) (fun c27 => ?_)
  · have hf := x_ifp c27 hf
    refine lv_aload_n hx hb d_Mo_version_22 rfl (lv_at hl 0 rfl) ?_
    refine lv_iconst (v := (1 : Int32)) hx hb d_Mo_version_23 (by decide) ?_
    obtain ⟨z3, hz3, hf⟩ := x_bind hf
    refine x_callV (w2 := (w_Mo cI cJ cZ oh o0 o1 o2 o3 o4 o5 o6 o7 o8 o9 o10 o11 o12 z3.2)) ⟨hx, hb, hml, hown, hts⟩ (c_Mo_raise l D cI cJ cZ oh o0 o1 o2 o3 o4 o5 o6 o7 o8 o9 o10 o11 o12 N (1 : Int32) z1.2 z3 hz3) (x_cwV 1 hts rfl k_272 k_273 k_274 k_246 k_275 (by decide +kernel) ⟨(Nat.le_of_ble_eq_true rfl), (Nat.le_of_ble_eq_true rfl)⟩) hK hP hD hS hA hZ [0, 1, 2, 3, 4, 5, 6, 7, 8, 9, 10, 11, 12, 13] [] [0, 1, 2, 3, 4, 5, 6, 7, 8, 9, 10, 11, 12, 13] (by decide) rfl rfl (by decide) (by decide) (by decide) rfl (ci := 3) rfl rfl rfl hl.1 rfl (Nat.le_of_ble_eq_true rfl) d_Mo_version_24 ⟨(Nat.le_of_ble_eq_true rfl), (Nat.le_of_ble_eq_true rfl)⟩ (fun H locs hP hD hS => ?_)
    refine W.eq (g2 := F0 m 27 ls [.int z3.1]) rfl ?_
    obtain rfl := Option.some.inj hf
    exact x_iret hx hb hr hlocks hK hP hD hS (Nat.le_of_ble_eq_true rfl) (Nat.le_of_ble_eq_true rfl) d_Mo_version_27
  · have hf := x_ifn c27 hf
    refine lv_iload_n hx hb d_Mo_version_13 rfl (lv_at hl 3 rfl) ?_
    refine lv_iconst (v := (0 : Int32)) hx hb d_Mo_version_14 (by decide) ?_
    refine lv_iconst (v := (2 : Int32)) hx hb d_Mo_version_15 (by decide) ?_
    obtain ⟨z4, hz4, hf⟩ := x_bind hf
    refine x_callS (w2 := (w_Mo cI cJ cZ oh o0 o1 o2 o3 o4 o5 o6 o7 o8 o9 o10 o11 o12 z1.2)) ⟨hx, hb, hml, hown, hts⟩ (c_Mo_in l D cI cJ cZ  N p2 (0 : Int32) (2 : Int32)  z4 hz4) (x_cwS 3 hts rfl k_269 k_270 k_246 k_271 (by decide +kernel) ⟨(Nat.le_of_ble_eq_true rfl), (Nat.le_of_ble_eq_true rfl)⟩) hK hP hD hS hA hZ [] [0, 1, 2, 3, 4, 5, 6, 7, 8, 9, 10, 11, 12, 13] [0, 1, 2, 3, 4, 5, 6, 7, 8, 9, 10, 11, 12, 13] (by decide) rfl rfl (by decide) (by decide) (by decide) rfl rfl hl.1 rfl (Nat.le_of_ble_eq_true rfl) d_Mo_version_16 ⟨(Nat.le_of_ble_eq_true rfl), (Nat.le_of_ble_eq_true rfl)⟩ (fun H locs hP hD hS => ?_)
    refine W.eq (g2 := F0 m 19 ls [.int z4]) rfl ?_
    refine lv_if_ne (tgt := 28) hx hb d_Mo_version_19 (by decide) (fun c26 => ?_) (fun c26 => ?_)
    · have hf := x_ifn c26 hf
      refine lv_iload_n hx hb d_Mo_version_28 rfl (lv_at hl 2 rfl) ?_
      refine lv_if_lt (tgt := 41) hx hb d_Mo_version_29 (by decide) (fun c24 => ?_) (fun c24 => ?_)
      · have hf := x_ifp c24 hf
        refine lv_iconst (v := (-1 : Int32)) hx hb d_Mo_version_41 (by decide) ?_
        refine lv_goto (tgt := 46) hx hb d_Mo_version_42 (by decide) ?_
        refine lv_istore (lv' := [(4, .int (-1 : Int32)), (0, .ref oh), (1, .int p0), (2, .int p1), (3, .int p2)]) hx hb d_Mo_version_46 hl (by decide) rfl (fun ls hl => ?_)
        refine lv_iconst (v := (0 : Int32)) hx hb d_Mo_version_48 (by decide) ?_
        refine lv_istore (lv' := [(5, .int (0 : Int32)), (4, .int (-1 : Int32)), (0, .ref oh), (1, .int p0), (2, .int p1), (3, .int p2)]) hx hb d_Mo_version_49 hl (by decide) rfl (fun ls hl => ?_)
        exact L_51 _ _ _ _ _ _ hf _ _ _ hP hD hS (lv_sub hl [2, 4, 5, 1, 0] rfl)
      · have hf := x_ifn c24 hf
        refine lv_aload_n hx hb d_Mo_version_32 rfl (lv_at hl 0 rfl) ?_
        refine va_get (D := D) (ci := 3) (v := .ref o0) (C := R_Mo) (T := F_Mo) (N := 19) hx hb hts i_Mo hown hK hP 0 rfl rfl 1 (by decide) (hts _ k_225) (fun _ h9 => h9) rfl d_Mo_version_33 ?_
        refine lv_iload_n hx hb d_Mo_version_36 rfl (lv_at hl 1 rfl) ?_
        obtain ⟨g22, hf⟩ := x_if hf
        refine va_iald hx hb hK hP 1 0 rfl rfl (xi_in g22) d_Mo_version_37 ?_
        refine lv_if_ne (tgt := 45) hx hb d_Mo_version_38 (by decide) (fun c23 => ?_) (fun c23 => ?_)
        · have hf := x_ifn c23 hf
          refine lv_iload_n hx hb d_Mo_version_45 rfl (lv_at hl 1 rfl) ?_
          refine lv_istore (lv' := [(4, .int p0), (0, .ref oh), (1, .int p0), (2, .int p1), (3, .int p2)]) hx hb d_Mo_version_46 hl (by decide) rfl (fun ls hl => ?_)
          refine lv_iconst (v := (0 : Int32)) hx hb d_Mo_version_48 (by decide) ?_
          refine lv_istore (lv' := [(5, .int (0 : Int32)), (4, .int p0), (0, .ref oh), (1, .int p0), (2, .int p1), (3, .int p2)]) hx hb d_Mo_version_49 hl (by decide) rfl (fun ls hl => ?_)
          exact L_51 _ _ _ _ _ _ hf _ _ _ hP hD hS (lv_sub hl [2, 4, 5, 1, 0] rfl)
        · have hf := x_ifp c23 hf
          refine lv_iconst (v := (-1 : Int32)) hx hb d_Mo_version_41 (by decide) ?_
          refine lv_goto (tgt := 46) hx hb d_Mo_version_42 (by decide) ?_
          refine lv_istore (lv' := [(4, .int (-1 : Int32)), (0, .ref oh), (1, .int p0), (2, .int p1), (3, .int p2)]) hx hb d_Mo_version_46 hl (by decide) rfl (fun ls hl => ?_)
          refine lv_iconst (v := (0 : Int32)) hx hb d_Mo_version_48 (by decide) ?_
          refine lv_istore (lv' := [(5, .int (0 : Int32)), (4, .int (-1 : Int32)), (0, .ref oh), (1, .int p0), (2, .int p1), (3, .int p2)]) hx hb d_Mo_version_49 hl (by decide) rfl (fun ls hl => ?_)
          exact L_51 _ _ _ _ _ _ hf _ _ _ hP hD hS (lv_sub hl [2, 4, 5, 1, 0] rfl)
    · have hf := x_ifp c26 hf
      refine lv_aload_n hx hb d_Mo_version_22 rfl (lv_at hl 0 rfl) ?_
      refine lv_iconst (v := (1 : Int32)) hx hb d_Mo_version_23 (by decide) ?_
      obtain ⟨z25, hz25, hf⟩ := x_bind hf
      refine x_callV (w2 := (w_Mo cI cJ cZ oh o0 o1 o2 o3 o4 o5 o6 o7 o8 o9 o10 o11 o12 z25.2)) ⟨hx, hb, hml, hown, hts⟩ (c_Mo_raise l D cI cJ cZ oh o0 o1 o2 o3 o4 o5 o6 o7 o8 o9 o10 o11 o12 N (1 : Int32) z1.2 z25 hz25) (x_cwV 1 hts rfl k_272 k_273 k_274 k_246 k_275 (by decide +kernel) ⟨(Nat.le_of_ble_eq_true rfl), (Nat.le_of_ble_eq_true rfl)⟩) hK hP hD hS hA hZ [0, 1, 2, 3, 4, 5, 6, 7, 8, 9, 10, 11, 12, 13] [] [0, 1, 2, 3, 4, 5, 6, 7, 8, 9, 10, 11, 12, 13] (by decide) rfl rfl (by decide) (by decide) (by decide) rfl (ci := 3) rfl rfl rfl hl.1 rfl (Nat.le_of_ble_eq_true rfl) d_Mo_version_24 ⟨(Nat.le_of_ble_eq_true rfl), (Nat.le_of_ble_eq_true rfl)⟩ (fun H locs hP hD hS => ?_)
      refine W.eq (g2 := F0 m 27 ls [.int z25.1]) rfl ?_
      obtain rfl := Option.some.inj hf
      exact x_iret hx hb hr hlocks hK hP hD hS (Nat.le_of_ble_eq_true rfl) (Nat.le_of_ble_eq_true rfl) d_Mo_version_27
set_option maxHeartbeats 4000000 in
set_option maxRecDepth 100000 in
theorem c_Mo_page (l : Launch) (D : va_G) (cI cJ cZ : ClassId) (oh o0 o1 o2 o3 o4 o5 o6 o7 o8 o9 o10 o11 o12 : Nat) (N : Nat) (p0 : Int32) (U : K_Mo) (r : (Int32 × K_Mo)) (hf : f_Mo_page N p0 U = some r) : Cx l y_Mo_page ws_Mo_page rm_Mo_page D vwCl (tyL cI cJ cZ) [.ref oh, .int p0] (w_Mo cI cJ cZ oh o0 o1 o2 o3 o4 o5 o6 o7 o8 o9 o10 o11 o12 U) (oI r.1) (w_Mo cI cJ cZ oh o0 o1 o2 o3 o4 o5 o6 o7 o8 o9 o10 o11 o12 r.2) := by
  unfold f_Mo_page at hf
  refine Cx.ofW (cc := b_Mo_page) (maxL := 2) (ret := (some .int)) (by decide) rfl ?_
  intro p e s m below meth c A C0 hP hK hD hA hns hZ
  obtain ⟨hx, hb, hml, hown, hts0, hr, hlocks, hnm, hno⟩ := C0
  have hown : s.vm.findClass R_Mo = some m.cls := hown
  have hts : ∀ w ∈ tb, w.before [.ref oh, .int p0].toArray s = true := fun w h => hts0 w (List.mem_cons_of_mem _ h)
  have hS : va_S A s.heap s.heap [] := va_S.rf
  have hl := lv_entry ([.ref oh, .int p0]) (n := 2) (Nat.le_of_ble_eq_true rfl)
  rw [lg_entry_eq]
  generalize (lg_sl ([.ref oh, .int p0]) ++ List.replicate (2 - (lg_sl ([.ref oh, .int p0])).length) Slot.unset).toArray = ls at hl ⊢
  have hl : lv_has ls 2 [(0, .ref oh), (1, .int p0)] := hl
  refine lv_aload_n hx hb d_Mo_page_0 rfl (lv_at hl 0 rfl) ?_
  obtain ⟨z1, hz1, hf⟩ := x_bind hf
  refine x_callV (w2 := (w_Mo cI cJ cZ oh o0 o1 o2 o3 o4 o5 o6 o7 o8 o9 o10 o11 o12 z1.2)) ⟨hx, hb, hml, hown, hts⟩ (c_Mo_begun l D cI cJ cZ oh o0 o1 o2 o3 o4 o5 o6 o7 o8 o9 o10 o11 o12 N  U z1 hz1) (x_cwV 0 hts rfl k_284 k_285 k_286 k_246 k_287 (by decide +kernel) ⟨(Nat.le_of_ble_eq_true rfl), (Nat.le_of_ble_eq_true rfl)⟩) hK hP hD hS hA hZ [0, 1, 2, 3, 4, 5, 6, 7, 8, 9, 10, 11, 12, 13] [] [0, 1, 2, 3, 4, 5, 6, 7, 8, 9, 10, 11, 12, 13] (by decide) rfl rfl (by decide) (by decide) (by decide) rfl (ci := 3) rfl rfl rfl hl.1 rfl (Nat.le_of_ble_eq_true rfl) d_Mo_page_1 ⟨(Nat.le_of_ble_eq_true rfl), (Nat.le_of_ble_eq_true rfl)⟩ (fun H locs hP hD hS => ?_)
  refine W.eq (g2 := F0 m 4 ls []) rfl ?_
  refine lv_iload_n hx hb d_Mo_page_4 rfl (lv_at hl 1 rfl) ?_
  refine lv_iconst (v := (0 : Int32)) hx hb d_Mo_page_5 (by decide) ?_
  refine lv_bipush (v := (6 : Int32)) hx hb d_Mo_page_6 (by decide) ?_
  obtain ⟨z2, hz2, hf⟩ := x_bind hf
  refine x_callS (w2 := (w_Mo cI cJ cZ oh o0 o1 o2 o3 o4 o5 o6 o7 o8 o9 o10 o11 o12 z1.2)) ⟨hx, hb, hml, hown, hts⟩ (c_Mo_in l D cI cJ cZ  N p0 (0 : Int32) (6 : Int32)  z2 hz2) (x_cwS 3 hts rfl k_269 k_270 k_246 k_271 (by decide +kernel) ⟨(Nat.le_of_ble_eq_true rfl), (Nat.le_of_ble_eq_true rfl)⟩) hK hP hD hS hA hZ [] [0, 1, 2, 3, 4, 5, 6, 7, 8, 9, 10, 11, 12, 13] [0, 1, 2, 3, 4, 5, 6, 7, 8, 9, 10, 11, 12, 13] (by decide) rfl rfl (by decide) (by decide) (by decide) rfl rfl hl.1 rfl (Nat.le_of_ble_eq_true rfl) d_Mo_page_8 ⟨(Nat.le_of_ble_eq_true rfl), (Nat.le_of_ble_eq_true rfl)⟩ (fun H locs hP hD hS => ?_)
  refine W.eq (g2 := F0 m 11 ls [.int z2]) rfl ?_
  refine lv_if_eq (tgt := 21) hx hb d_Mo_page_11 (by decide) (fun c9 => ?_) (fun c9 => ?_)
  · have hf := x_ifp c9 hf
    refine lv_iload_n hx hb d_Mo_page_21 rfl (lv_at hl 1 rfl) ?_
    refine lv_bipush (v := (10 : Int32)) hx hb d_Mo_page_22 (by decide) ?_
    refine lv_bipush (v := (16 : Int32)) hx hb d_Mo_page_24 (by decide) ?_
    obtain ⟨z3, hz3, hf⟩ := x_bind hf
    refine x_callS (w2 := (w_Mo cI cJ cZ oh o0 o1 o2 o3 o4 o5 o6 o7 o8 o9 o10 o11 o12 z1.2)) ⟨hx, hb, hml, hown, hts⟩ (c_Mo_in l D cI cJ cZ  N p0 (10 : Int32) (16 : Int32)  z3 hz3) (x_cwS 3 hts rfl k_269 k_270 k_246 k_271 (by decide +kernel) ⟨(Nat.le_of_ble_eq_true rfl), (Nat.le_of_ble_eq_true rfl)⟩) hK hP hD hS hA hZ [] [0, 1, 2, 3, 4, 5, 6, 7, 8, 9, 10, 11, 12, 13] [0, 1, 2, 3, 4, 5, 6, 7, 8, 9, 10, 11, 12, 13] (by decide) rfl rfl (by decide) (by decide) (by decide) rfl rfl hl.1 rfl (Nat.le_of_ble_eq_true rfl) d_Mo_page_26 ⟨(Nat.le_of_ble_eq_true rfl), (Nat.le_of_ble_eq_true rfl)⟩ (fun H locs hP hD hS => ?_)
    refine W.eq (g2 := F0 m 29 ls [.int z3]) rfl ?_
    refine lv_if_eq (tgt := 52) hx hb d_Mo_page_29 (by decide) (fun c7 => ?_) (fun c7 => ?_)
    · have hf := x_ifp c7 hf
      refine lv_aload_n hx hb d_Mo_page_52 rfl (lv_at hl 0 rfl) ?_
      refine lv_iconst (v := (1 : Int32)) hx hb d_Mo_page_53 (by decide) ?_
      obtain ⟨z4, hz4, hf⟩ := x_bind hf
      refine x_callV (w2 := (w_Mo cI cJ cZ oh o0 o1 o2 o3 o4 o5 o6 o7 o8 o9 o10 o11 o12 z4.2)) ⟨hx, hb, hml, hown, hts⟩ (c_Mo_raise l D cI cJ cZ oh o0 o1 o2 o3 o4 o5 o6 o7 o8 o9 o10 o11 o12 N (1 : Int32) z1.2 z4 hz4) (x_cwV 1 hts rfl k_272 k_273 k_274 k_246 k_275 (by decide +kernel) ⟨(Nat.le_of_ble_eq_true rfl), (Nat.le_of_ble_eq_true rfl)⟩) hK hP hD hS hA hZ [0, 1, 2, 3, 4, 5, 6, 7, 8, 9, 10, 11, 12, 13] [] [0, 1, 2, 3, 4, 5, 6, 7, 8, 9, 10, 11, 12, 13] (by decide) rfl rfl (by decide) (by decide) (by decide) rfl (ci := 3) rfl rfl rfl hl.1 rfl (Nat.le_of_ble_eq_true rfl) d_Mo_page_54 ⟨(Nat.le_of_ble_eq_true rfl), (Nat.le_of_ble_eq_true rfl)⟩ (fun H locs hP hD hS => ?_)
      refine W.eq (g2 := F0 m 57 ls [.int z4.1]) rfl ?_
      obtain rfl := Option.some.inj hf
      exact x_iret hx hb hr hlocks hK hP hD hS (Nat.le_of_ble_eq_true rfl) (Nat.le_of_ble_eq_true rfl) d_Mo_page_57
    · have hf := x_ifn c7 hf
      refine lv_aload_n hx hb d_Mo_page_32 rfl (lv_at hl 0 rfl) ?_
      refine va_get (D := D) (ci := 3) (v := .ref o8) (C := R_Mo) (T := F_Mo) (N := 19) hx hb hts i_Mo hown hK hP 0 rfl rfl 9 (by decide) (hts _ k_234) (fun _ h9 => h9) rfl d_Mo_page_33 ?_
      refine lv_iload_n hx hb d_Mo_page_36 rfl (lv_at hl 1 rfl) ?_
      refine lv_bipush (v := (10 : Int32)) hx hb d_Mo_page_37 (by decide) ?_
      refine lv_isub hx hb d_Mo_page_39 ?_
      obtain ⟨g5, hf⟩ := x_if hf
      refine va_zald hx hb hK hP 9 2 rfl rfl (xi_in g5) d_Mo_page_40 ?_
      refine lv_if_eq (tgt := 48) hx hb d_Mo_page_41 (by decide) (fun c6 => ?_) (fun c6 => ?_)
      · have hf := x_ifp c6 hf
        refine lv_iconst (v := (0 : Int32)) hx hb d_Mo_page_48 (by decide) ?_
        refine lv_goto (tgt := 57) hx hb d_Mo_page_49 (by decide) ?_
        obtain rfl := Option.some.inj hf
        exact x_iret hx hb hr hlocks hK hP hD hS (Nat.le_of_ble_eq_true rfl) (Nat.le_of_ble_eq_true rfl) d_Mo_page_57
      · have hf := x_ifn c6 hf
        refine lv_iconst (v := (1 : Int32)) hx hb d_Mo_page_44 (by decide) ?_
        refine lv_goto (tgt := 57) hx hb d_Mo_page_45 (by decide) ?_
        obtain rfl := Option.some.inj hf
        exact x_iret hx hb hr hlocks hK hP hD hS (Nat.le_of_ble_eq_true rfl) (Nat.le_of_ble_eq_true rfl) d_Mo_page_57
  · have hf := x_ifn c9 hf
    refine lv_aload_n hx hb d_Mo_page_14 rfl (lv_at hl 0 rfl) ?_
    refine va_get (D := D) (ci := 3) (v := .ref o9) (C := R_Mo) (T := F_Mo) (N := 19) hx hb hts i_Mo hown hK hP 0 rfl rfl 10 (by decide) (hts _ k_235) (fun _ h9 => h9) rfl d_Mo_page_15 ?_
    refine lv_iload_n hx hb d_Mo_page_18 rfl (lv_at hl 1 rfl) ?_
    obtain ⟨g8, hf⟩ := x_if hf
    refine va_iald hx hb hK hP 10 0 rfl rfl (xi_in g8) d_Mo_page_19 ?_
    obtain rfl := Option.some.inj hf
    exact x_iret hx hb hr hlocks hK hP hD hS (Nat.le_of_ble_eq_true rfl) (Nat.le_of_ble_eq_true rfl) d_Mo_page_20
