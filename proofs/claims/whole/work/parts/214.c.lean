set_option maxHeartbeats 4000000 in
set_option maxRecDepth 100000 in
theorem c_Mo_sweepOne (l : Launch) (D : va_G) (cI cJ cZ : ClassId) (oh o0 o1 o2 o3 o4 o5 o6 o7 o8 o9 o10 o11 o12 : Nat) (N : Nat) (p0 : Int32) (U : K_Mo) (r : (Int32 × K_Mo)) (hf : f_Mo_sweepOne N p0 U = some r) : Cx l y_Mo_sweepOne ws_Mo_sweepOne rm_Mo_sweepOne D vwCl (tyL cI cJ cZ) [.ref oh, .int p0] (w_Mo cI cJ cZ oh o0 o1 o2 o3 o4 o5 o6 o7 o8 o9 o10 o11 o12 U) (oI r.1) (w_Mo cI cJ cZ oh o0 o1 o2 o3 o4 o5 o6 o7 o8 o9 o10 o11 o12 r.2) := by
  unfold f_Mo_sweepOne at hf
  refine Cx.ofW (cc := b_Mo_sweepOne) (maxL := 6) (ret := (some .int)) (by decide) rfl ?_
  intro p e s m below meth c A C0 hP hK hD hA hns hZ
  obtain ⟨hx, hb, hml, hown, hts0, hr, hlocks, hnm, hno⟩ := C0
  have hown : s.vm.findClass R_Mo = some m.cls := hown
  have hts : ∀ w ∈ tb, w.before [.ref oh, .int p0].toArray s = true := fun w h => hts0 w (List.mem_cons_of_mem _ h)
  have hS : va_S A s.heap s.heap [] := va_S.rf
  have hl := lv_entry ([.ref oh, .int p0]) (n := 6) (Nat.le_of_ble_eq_true rfl)
  rw [lg_entry_eq]
  generalize (lg_sl ([.ref oh, .int p0]) ++ List.replicate (6 - (lg_sl ([.ref oh, .int p0])).length) Slot.unset).toArray = ls at hl ⊢
  have hl : lv_has ls 6 [(0, .ref oh), (1, .int p0)] := hl
  have L_87 : ∀ n : Nat, ∀ (x1 : Int32) (x2 : Int32) (x3 : Int32) (x4 : Int32) (U : K_Mo), f_Mo_sweepOne_87 N n x1 x2 x3 x4 U = some r → ∀ (H : Heap) (locs : List Loc) (ls : Array Slot), va_P D vwCl (w_Mo cI cJ cZ oh o0 o1 o2 o3 o4 o5 o6 o7 o8 o9 o10 o11 o12 U) H → va_D A (w_Mo cI cJ cZ oh o0 o1 o2 o3 o4 o5 o6 o7 o8 o9 o10 o11 o12 U) → va_S A s.heap H locs → lv_has ls 6 [(0, .ref oh), (1, .int x1), (2, .int x2), (3, .int x3), (4, .int x4)] → W p l e (rm_Mo_sweepOne) s m [.ref oh, .int p0].toArray below meth c H locs 0 0 (xQ D vwCl (tyL cI cJ cZ) below s A (oI r.1) (w_Mo cI cJ cZ oh o0 o1 o2 o3 o4 o5 o6 o7 o8 o9 o10 o11 o12 r.2) (rm_Mo_sweepOne).cells (rm_Mo_sweepOne).slots) (F0 m 87 ls []) := by
    intro n
    induction n with
    | zero =>
      intro x1 x2 x3 x4 U hf
      have hf : (none : Option (Int32 × K_Mo)) = some r := hf
      cases hf
    | succ n ih =>
      intro x1 x2 x3 x4 U hf H locs ls hP hD hS hl
      rw [f_Mo_sweepOne_87] at hf
      refine lv_iload hx hb d_Mo_sweepOne_87 (lv_at hl 4 rfl) ?_
      refine lv_if_lt (tgt := 151) hx hb d_Mo_sweepOne_89 (by decide) (fun c18 => ?_) (fun c18 => ?_)
      · have hf := x_ifp c18 hf
        refine lv_iload_n hx hb d_Mo_sweepOne_151 rfl (lv_at hl 2 rfl) ?_
        refine lv_iload_n hx hb d_Mo_sweepOne_152 rfl (lv_at hl 1 rfl) ?_
        refine lv_icmp_ne (tgt := 170) hx hb d_Mo_sweepOne_153 (by decide) (fun c8 => ?_) (fun c8 => ?_)
        · have hf := x_ifn c8 hf
          refine lv_iload_n hx hb d_Mo_sweepOne_170 rfl (lv_at hl 3 rfl) ?_
          obtain rfl := Option.some.inj hf
          exact x_iret hx hb hr hlocks hK hP hD hS (Nat.le_of_ble_eq_true rfl) (Nat.le_of_ble_eq_true rfl) d_Mo_sweepOne_171
        · have hf := x_ifp c8 hf
          refine lv_aload_n hx hb d_Mo_sweepOne_156 rfl (lv_at hl 0 rfl) ?_
          refine va_get (D := D) (ci := 3) (v := .ref o1) (C := R_Mo) (T := F_Mo) (N := 19) hx hb hts i_Mo hown hK hP 0 rfl rfl 2 (by decide) (hts _ k_226) (fun _ h9 => h9) rfl d_Mo_sweepOne_157 ?_
          refine lv_iload_n hx hb d_Mo_sweepOne_160 rfl (lv_at hl 2 rfl) ?_
          obtain ⟨g5, hf⟩ := x_if hf
          refine va_iald hx hb hK hP 2 0 rfl rfl (xi_in g5) d_Mo_sweepOne_161 ?_
          refine lv_if_ge (tgt := 170) hx hb d_Mo_sweepOne_162 (by decide) (fun c7 => ?_) (fun c7 => ?_)
          · have hf := x_ifp c7 hf
            refine lv_iload_n hx hb d_Mo_sweepOne_170 rfl (lv_at hl 3 rfl) ?_
            obtain rfl := Option.some.inj hf
            exact x_iret hx hb hr hlocks hK hP hD hS (Nat.le_of_ble_eq_true rfl) (Nat.le_of_ble_eq_true rfl) d_Mo_sweepOne_171
          · have hf := x_ifn c7 hf
            refine lv_aload_n hx hb d_Mo_sweepOne_165 rfl (lv_at hl 0 rfl) ?_
            refine lv_iload_n hx hb d_Mo_sweepOne_166 rfl (lv_at hl 1 rfl) ?_
            obtain ⟨z6, hz6, hf⟩ := x_bind hf
            refine x_callV (w2 := (w_Mo cI cJ cZ oh o0 o1 o2 o3 o4 o5 o6 o7 o8 o9 o10 o11 o12 z6.2)) ⟨hx, hb, hml, hown, hts⟩ (c_Mo_free l D cI cJ cZ oh o0 o1 o2 o3 o4 o5 o6 o7 o8 o9 o10 o11 o12 N x1 U z6 hz6) (x_cwV 1 hts rfl k_304 k_305 k_306 k_246 k_307 (by decide +kernel) ⟨(Nat.le_of_ble_eq_true rfl), (Nat.le_of_ble_eq_true rfl)⟩) hK hP hD hS hA hZ [0, 1, 2, 3, 4, 5, 6, 7, 8, 9, 10, 11, 12, 13] [] [0, 1, 2, 3, 4, 5, 6, 7, 8, 9, 10, 11, 12, 13] (by decide) rfl rfl (by decide) (by decide) (by decide) rfl (ci := 3) rfl rfl rfl hl.1 rfl (Nat.le_of_ble_eq_true rfl) d_Mo_sweepOne_167 ⟨(Nat.le_of_ble_eq_true rfl), (Nat.le_of_ble_eq_true rfl)⟩ (fun H locs hP hD hS => ?_)
            refine W.eq (g2 := F0 m 170 ls []) rfl ?_
            refine lv_iload_n hx hb d_Mo_sweepOne_170 rfl (lv_at hl 3 rfl) ?_
            obtain rfl := Option.some.inj hf
            exact x_iret hx hb hr hlocks hK hP hD hS (Nat.le_of_ble_eq_true rfl) (Nat.le_of_ble_eq_true rfl) d_Mo_sweepOne_171
      · have hf := x_ifn c18 hf
        refine lv_aload_n hx hb d_Mo_sweepOne_92 rfl (lv_at hl 0 rfl) ?_
        refine lv_iload hx hb d_Mo_sweepOne_93 (lv_at hl 4 rfl) ?_
        obtain ⟨z9, hz9, hf⟩ := x_bind hf
        refine x_callV (w2 := (w_Mo cI cJ cZ oh o0 o1 o2 o3 o4 o5 o6 o7 o8 o9 o10 o11 o12 z9.2)) ⟨hx, hb, hml, hown, hts⟩ (c_Mo_behind l D cI cJ cZ oh o0 o1 o2 o3 o4 o5 o6 o7 o8 o9 o10 o11 o12 N x4 U z9 hz9) (x_cwV 1 hts rfl k_288 k_289 k_290 k_246 k_291 (by decide +kernel) ⟨(Nat.le_of_ble_eq_true rfl), (Nat.le_of_ble_eq_true rfl)⟩) hK hP hD hS hA hZ [0, 1, 2, 3, 4, 5, 6, 7, 8, 9, 10, 11, 12, 13] [] [0, 1, 2, 3, 4, 5, 6, 7, 8, 9, 10, 11, 12, 13] (by decide) rfl rfl (by decide) (by decide) (by decide) rfl (ci := 3) rfl rfl rfl hl.1 rfl (Nat.le_of_ble_eq_true rfl) d_Mo_sweepOne_95 ⟨(Nat.le_of_ble_eq_true rfl), (Nat.le_of_ble_eq_true rfl)⟩ (fun H locs hP hD hS => ?_)
        refine W.eq (g2 := F0 m 98 ls [.int z9.1]) rfl ?_
        refine lv_istore (lv' := [(5, .int z9.1), (0, .ref oh), (1, .int x1), (2, .int x2), (3, .int x3), (4, .int x4)]) hx hb d_Mo_sweepOne_98 hl (by decide) rfl (fun ls hl => ?_)
        refine lv_aload_n hx hb d_Mo_sweepOne_100 rfl (lv_at hl 1 rfl) ?_
        refine lv_iload_n hx hb d_Mo_sweepOne_101 rfl (lv_at hl 2 rfl) ?_
        obtain ⟨z10, hz10, hf⟩ := x_bind hf
        refine x_callS (w2 := (w_Mo cI cJ cZ oh o0 o1 o2 o3 o4 o5 o6 o7 o8 o9 o10 o11 o12 z9.2)) ⟨hx, hb, hml, hown, hts⟩ (c_Mo_pageOf l D cI cJ cZ  N x1  z10 hz10) (x_cwS 1 hts rfl k_244 k_245 k_246 k_247 (by decide +kernel) ⟨(Nat.le_of_ble_eq_true rfl), (Nat.le_of_ble_eq_true rfl)⟩) hK hP hD hS hA hZ [] [0, 1, 2, 3, 4, 5, 6, 7, 8, 9, 10, 11, 12, 13] [0, 1, 2, 3, 4, 5, 6, 7, 8, 9, 10, 11, 12, 13] (by decide) rfl rfl (by decide) (by decide) (by decide) rfl rfl hl.1 rfl (Nat.le_of_ble_eq_true rfl) d_Mo_sweepOne_102 ⟨(Nat.le_of_ble_eq_true rfl), (Nat.le_of_ble_eq_true rfl)⟩ (fun H locs hP hD hS => ?_)
        refine W.eq (g2 := F0 m 105 ls [.int z10, .ref oh]) rfl ?_
        refine lv_iload hx hb d_Mo_sweepOne_105 (lv_at hl 5 rfl) ?_
        obtain ⟨z11, hz11, hf⟩ := x_bind hf
        refine x_callS (w2 := (w_Mo cI cJ cZ oh o0 o1 o2 o3 o4 o5 o6 o7 o8 o9 o10 o11 o12 z9.2)) ⟨hx, hb, hml, hown, hts⟩ (c_Mo_pageOf l D cI cJ cZ  N x4  z11 hz11) (x_cwS 1 hts rfl k_244 k_245 k_246 k_247 (by decide +kernel) ⟨(Nat.le_of_ble_eq_true rfl), (Nat.le_of_ble_eq_true rfl)⟩) hK hP hD hS hA hZ [] [0, 1, 2, 3, 4, 5, 6, 7, 8, 9, 10, 11, 12, 13] [0, 1, 2, 3, 4, 5, 6, 7, 8, 9, 10, 11, 12, 13] (by decide) rfl rfl (by decide) (by decide) (by decide) rfl rfl hl.1 rfl (Nat.le_of_ble_eq_true rfl) d_Mo_sweepOne_107 ⟨(Nat.le_of_ble_eq_true rfl), (Nat.le_of_ble_eq_true rfl)⟩ (fun H locs hP hD hS => ?_)
        refine W.eq (g2 := F0 m 110 ls [.int z11, .int z10, .ref oh]) rfl ?_
        obtain ⟨z12, hz12, hf⟩ := x_bind hf
        refine x_callV (w2 := (w_Mo cI cJ cZ oh o0 o1 o2 o3 o4 o5 o6 o7 o8 o9 o10 o11 o12 z12.2)) ⟨hx, hb, hml, hown, hts⟩ (c_Mo_note l D cI cJ cZ oh o0 o1 o2 o3 o4 o5 o6 o7 o8 o9 o10 o11 o12 N z10 z11 z9.2 z12 hz12) (x_cwV 2 hts rfl k_312 k_313 k_314 k_246 k_315 (by decide +kernel) ⟨(Nat.le_of_ble_eq_true rfl), (Nat.le_of_ble_eq_true rfl)⟩) hK hP hD hS hA hZ [0, 1, 2, 3, 4, 5, 6, 7, 8, 9, 10, 11, 12, 13] [] [0, 1, 2, 3, 4, 5, 6, 7, 8, 9, 10, 11, 12, 13] (by decide) rfl rfl (by decide) (by decide) (by decide) rfl (ci := 3) rfl rfl rfl hl.1 rfl (Nat.le_of_ble_eq_true rfl) d_Mo_sweepOne_110 ⟨(Nat.le_of_ble_eq_true rfl), (Nat.le_of_ble_eq_true rfl)⟩ (fun H locs hP hD hS => ?_)
        refine W.eq (g2 := F0 m 113 ls []) rfl ?_
        refine lv_aload_n hx hb d_Mo_sweepOne_113 rfl (lv_at hl 1 rfl) ?_
        refine lv_iload_n hx hb d_Mo_sweepOne_114 rfl (lv_at hl 3 rfl) ?_
        obtain ⟨z13, hz13, hf⟩ := x_bind hf
        refine x_callS (w2 := (w_Mo cI cJ cZ oh o0 o1 o2 o3 o4 o5 o6 o7 o8 o9 o10 o11 o12 z12.2)) ⟨hx, hb, hml, hown, hts⟩ (c_Mo_pageOf l D cI cJ cZ  N x2  z13 hz13) (x_cwS 1 hts rfl k_244 k_245 k_246 k_247 (by decide +kernel) ⟨(Nat.le_of_ble_eq_true rfl), (Nat.le_of_ble_eq_true rfl)⟩) hK hP hD hS hA hZ [] [0, 1, 2, 3, 4, 5, 6, 7, 8, 9, 10, 11, 12, 13] [0, 1, 2, 3, 4, 5, 6, 7, 8, 9, 10, 11, 12, 13] (by decide) rfl rfl (by decide) (by decide) (by decide) rfl rfl hl.1 rfl (Nat.le_of_ble_eq_true rfl) d_Mo_sweepOne_115 ⟨(Nat.le_of_ble_eq_true rfl), (Nat.le_of_ble_eq_true rfl)⟩ (fun H locs hP hD hS => ?_)
        refine W.eq (g2 := F0 m 118 ls [.int z13, .ref oh]) rfl ?_
        refine lv_iload hx hb d_Mo_sweepOne_118 (lv_at hl 5 rfl) ?_
        obtain ⟨z14, hz14, hf⟩ := x_bind hf
        refine x_callS (w2 := (w_Mo cI cJ cZ oh o0 o1 o2 o3 o4 o5 o6 o7 o8 o9 o10 o11 o12 z12.2)) ⟨hx, hb, hml, hown, hts⟩ (c_Mo_pageOf l D cI cJ cZ  N x4  z14 hz14) (x_cwS 1 hts rfl k_244 k_245 k_246 k_247 (by decide +kernel) ⟨(Nat.le_of_ble_eq_true rfl), (Nat.le_of_ble_eq_true rfl)⟩) hK hP hD hS hA hZ [] [0, 1, 2, 3, 4, 5, 6, 7, 8, 9, 10, 11, 12, 13] [0, 1, 2, 3, 4, 5, 6, 7, 8, 9, 10, 11, 12, 13] (by decide) rfl rfl (by decide) (by decide) (by decide) rfl rfl hl.1 rfl (Nat.le_of_ble_eq_true rfl) d_Mo_sweepOne_120 ⟨(Nat.le_of_ble_eq_true rfl), (Nat.le_of_ble_eq_true rfl)⟩ (fun H locs hP hD hS => ?_)
        refine W.eq (g2 := F0 m 123 ls [.int z14, .int z13, .ref oh]) rfl ?_
        obtain ⟨z15, hz15, hf⟩ := x_bind hf
        refine x_callV (w2 := (w_Mo cI cJ cZ oh o0 o1 o2 o3 o4 o5 o6 o7 o8 o9 o10 o11 o12 z15.2)) ⟨hx, hb, hml, hown, hts⟩ (c_Mo_note l D cI cJ cZ oh o0 o1 o2 o3 o4 o5 o6 o7 o8 o9 o10 o11 o12 N z13 z14 z12.2 z15 hz15) (x_cwV 2 hts rfl k_312 k_313 k_314 k_246 k_315 (by decide +kernel) ⟨(Nat.le_of_ble_eq_true rfl), (Nat.le_of_ble_eq_true rfl)⟩) hK hP hD hS hA hZ [0, 1, 2, 3, 4, 5, 6, 7, 8, 9, 10, 11, 12, 13] [] [0, 1, 2, 3, 4, 5, 6, 7, 8, 9, 10, 11, 12, 13] (by decide) rfl rfl (by decide) (by decide) (by decide) rfl (ci := 3) rfl rfl rfl hl.1 rfl (Nat.le_of_ble_eq_true rfl) d_Mo_sweepOne_123 ⟨(Nat.le_of_ble_eq_true rfl), (Nat.le_of_ble_eq_true rfl)⟩ (fun H locs hP hD hS => ?_)
        refine W.eq (g2 := F0 m 126 ls []) rfl ?_
        refine lv_aload_n hx hb d_Mo_sweepOne_126 rfl (lv_at hl 1 rfl) ?_
        refine va_get (D := D) (ci := 3) (v := .int z15.2.2.2.2.2.2.2.2.2.2.2.2.1) (C := R_Mo) (T := F_Mo) (N := 19) hx hb hts i_Mo hown hK hP 0 rfl rfl 17 (by decide) (hts _ k_241) (fun _ h9 => h9) rfl d_Mo_sweepOne_127 ?_
        refine lv_if_eq (tgt := 135) hx hb d_Mo_sweepOne_130 (by decide) (fun c17 => ?_) (fun c17 => ?_)
        · have hf := x_ifp c17 hf
          refine lv_aload_n hx hb d_Mo_sweepOne_135 rfl (lv_at hl 1 rfl) ?_
          refine lv_iload hx hb d_Mo_sweepOne_136 (lv_at hl 5 rfl) ?_
          obtain ⟨z16, hz16, hf⟩ := x_bind hf
          refine x_callV (w2 := (w_Mo cI cJ cZ oh o0 o1 o2 o3 o4 o5 o6 o7 o8 o9 o10 o11 o12 z16.2)) ⟨hx, hb, hml, hown, hts⟩ (c_Mo_free l D cI cJ cZ oh o0 o1 o2 o3 o4 o5 o6 o7 o8 o9 o10 o11 o12 N x4 z15.2 z16 hz16) (x_cwV 1 hts rfl k_304 k_305 k_306 k_246 k_307 (by decide +kernel) ⟨(Nat.le_of_ble_eq_true rfl), (Nat.le_of_ble_eq_true rfl)⟩) hK hP hD hS hA hZ [0, 1, 2, 3, 4, 5, 6, 7, 8, 9, 10, 11, 12, 13] [] [0, 1, 2, 3, 4, 5, 6, 7, 8, 9, 10, 11, 12, 13] (by decide) rfl rfl (by decide) (by decide) (by decide) rfl (ci := 3) rfl rfl rfl hl.1 rfl (Nat.le_of_ble_eq_true rfl) d_Mo_sweepOne_138 ⟨(Nat.le_of_ble_eq_true rfl), (Nat.le_of_ble_eq_true rfl)⟩ (fun H locs hP hD hS => ?_)
          refine W.eq (g2 := F0 m 141 ls []) rfl ?_
          refine lv_iinc (v := (x3 + (1 : Int32))) (lv' := [(3, .int (x3 + (1 : Int32))), (5, .int z9.1), (0, .ref oh), (1, .int x1), (2, .int x2), (4, .int x4)]) hx hb d_Mo_sweepOne_141 hl (k := 4) rfl rfl (by decide) rfl (fun ls hl => ?_)
          refine lv_iload hx hb d_Mo_sweepOne_144 (lv_at hl 1 rfl) ?_
          refine lv_istore (lv' := [(4, .int z9.1), (3, .int (x3 + (1 : Int32))), (5, .int z9.1), (0, .ref oh), (1, .int x1), (2, .int x2)]) hx hb d_Mo_sweepOne_146 hl (by decide) rfl (fun ls hl => ?_)
          refine lv_goto (tgt := 87) hx hb d_Mo_sweepOne_148 (by decide) ?_
          exact ih _ _ _ _ _ hf _ _ _ hP hD hS (lv_sub hl [3, 4, 5, 1, 0] rfl)
        · have hf := x_ifn c17 hf
          refine lv_iconst (v := (0 : Int32)) hx hb d_Mo_sweepOne_133 (by decide) ?_
          obtain rfl := Option.some.inj hf
          exact x_iret hx hb hr hlocks hK hP hD hS (Nat.le_of_ble_eq_true rfl) (Nat.le_of_ble_eq_true rfl) d_Mo_sweepOne_134
  have L_25 : ∀ n : Nat, ∀ (x1 : Int32) (x2 : Int32) (U : K_Mo), f_Mo_sweepOne_25 N n x1 x2 U = some r → ∀ (H : Heap) (locs : List Loc) (ls : Array Slot), va_P D vwCl (w_Mo cI cJ cZ oh o0 o1 o2 o3 o4 o5 o6 o7 o8 o9 o10 o11 o12 U) H → va_D A (w_Mo cI cJ cZ oh o0 o1 o2 o3 o4 o5 o6 o7 o8 o9 o10 o11 o12 U) → va_S A s.heap H locs → lv_has ls 6 [(0, .ref oh), (1, .int x1), (2, .int x2)] → W p l e (rm_Mo_sweepOne) s m [.ref oh, .int p0].toArray below meth c H locs 0 0 (xQ D vwCl (tyL cI cJ cZ) below s A (oI r.1) (w_Mo cI cJ cZ oh o0 o1 o2 o3 o4 o5 o6 o7 o8 o9 o10 o11 o12 r.2) (rm_Mo_sweepOne).cells (rm_Mo_sweepOne).slots) (F0 m 25 ls []) := by
    intro n
    induction n with
    | zero =>
      intro x1 x2 U hf
      have hf : (none : Option (Int32 × K_Mo)) = some r := hf
      cases hf
    | succ n ih =>
      intro x1 x2 U hf H locs ls hP hD hS hl
      rw [f_Mo_sweepOne_25] at hf
      refine lv_iload_n hx hb d_Mo_sweepOne_25 rfl (lv_at hl 2 rfl) ?_
      refine lv_if_lt (tgt := 46) hx hb d_Mo_sweepOne_26 (by decide) (fun c34 => ?_) (fun c34 => ?_)
      · have hf := x_ifp c34 hf
        refine lv_iload_n hx hb d_Mo_sweepOne_46 rfl (lv_at hl 2 rfl) ?_
        refine lv_if_ge (tgt := 52) hx hb d_Mo_sweepOne_47 (by decide) (fun c23 => ?_) (fun c23 => ?_)
        · have hf := x_ifp c23 hf
          refine lv_iconst (v := (0 : Int32)) hx hb d_Mo_sweepOne_52 (by decide) ?_
          refine lv_istore_n (lv' := [(3, .int (0 : Int32)), (0, .ref oh), (1, .int x1), (2, .int x2)]) hx hb d_Mo_sweepOne_53 rfl hl (by decide) rfl (fun ls hl => ?_)
          refine lv_aload_n hx hb d_Mo_sweepOne_54 rfl (lv_at hl 1 rfl) ?_
          refine lv_iload_n hx hb d_Mo_sweepOne_55 rfl (lv_at hl 3 rfl) ?_
          obtain ⟨z3, hz3, hf⟩ := x_bind hf
          refine x_callV (w2 := (w_Mo cI cJ cZ oh o0 o1 o2 o3 o4 o5 o6 o7 o8 o9 o10 o11 o12 z3.2)) ⟨hx, hb, hml, hown, hts⟩ (c_Mo_behind l D cI cJ cZ oh o0 o1 o2 o3 o4 o5 o6 o7 o8 o9 o10 o11 o12 N x2 U z3 hz3) (x_cwV 1 hts rfl k_288 k_289 k_290 k_246 k_291 (by decide +kernel) ⟨(Nat.le_of_ble_eq_true rfl), (Nat.le_of_ble_eq_true rfl)⟩) hK hP hD hS hA hZ [0, 1, 2, 3, 4, 5, 6, 7, 8, 9, 10, 11, 12, 13] [] [0, 1, 2, 3, 4, 5, 6, 7, 8, 9, 10, 11, 12, 13] (by decide) rfl rfl (by decide) (by decide) (by decide) rfl (ci := 3) rfl rfl rfl hl.1 rfl (Nat.le_of_ble_eq_true rfl) d_Mo_sweepOne_56 ⟨(Nat.le_of_ble_eq_true rfl), (Nat.le_of_ble_eq_true rfl)⟩ (fun H locs hP hD hS => ?_)
          refine W.eq (g2 := F0 m 59 ls [.int z3.1]) rfl ?_
          refine lv_istore (lv' := [(4, .int z3.1), (3, .int (0 : Int32)), (0, .ref oh), (1, .int x1), (2, .int x2)]) hx hb d_Mo_sweepOne_59 hl (by decide) rfl (fun ls hl => ?_)
          refine lv_aload_n hx hb d_Mo_sweepOne_61 rfl (lv_at hl 2 rfl) ?_
          refine va_get (D := D) (ci := 3) (v := .ref o2) (C := R_Mo) (T := F_Mo) (N := 19) hx hb hts i_Mo hown hK hP 0 rfl rfl 3 (by decide) (hts _ k_227) (fun _ h9 => h9) rfl d_Mo_sweepOne_62 ?_
          refine lv_iload_n hx hb d_Mo_sweepOne_65 rfl (lv_at hl 4 rfl) ?_
          obtain ⟨g4, hf⟩ := x_if hf
          refine va_iald hx hb hK hP 3 0 rfl rfl (xi_in g4) d_Mo_sweepOne_66 ?_
          refine lv_if_lt (tgt := 87) hx hb d_Mo_sweepOne_67 (by decide) (fun c22 => ?_) (fun c22 => ?_)
          · have hf := x_ifp c22 hf
            exact L_87 _ _ _ _ _ _ hf _ _ _ hP hD hS (lv_sub hl [2, 3, 4, 1, 0] rfl)
          · have hf := x_ifn c22 hf
            refine lv_aload_n hx hb d_Mo_sweepOne_70 rfl (lv_at hl 2 rfl) ?_
            refine va_get (D := D) (ci := 3) (v := .ref o2) (C := R_Mo) (T := F_Mo) (N := 19) hx hb hts i_Mo hown hK hP 0 rfl rfl 3 (by decide) (hts _ k_227) (fun _ h9 => h9) rfl d_Mo_sweepOne_71 ?_
            refine lv_iload_n hx hb d_Mo_sweepOne_74 rfl (lv_at hl 4 rfl) ?_
            refine lv_iconst (v := (-1 : Int32)) hx hb d_Mo_sweepOne_75 (by decide) ?_
            obtain ⟨g19, hf⟩ := x_if hf
            refine va_iast hx hb hK hP hD hS 3 0 rfl rfl (xi_in g19) d_Mo_sweepOne_76 (fun H locs hP hD hS => ?_)
            have hP : va_P D vwCl (w_Mo cI cJ cZ oh o0 o1 o2 o3 o4 o5 o6 o7 o8 o9 o10 o11 o12 ((z3.2.1.1, (z3.2.1.2.1, ((upd z3.2.1.2.2.1 x2.toNatClampNeg (-1 : Int32)), z3.2.1.2.2.2))), z3.2.2)) H := hP
            have hD : va_D A (w_Mo cI cJ cZ oh o0 o1 o2 o3 o4 o5 o6 o7 o8 o9 o10 o11 o12 ((z3.2.1.1, (z3.2.1.2.1, ((upd z3.2.1.2.2.1 x2.toNatClampNeg (-1 : Int32)), z3.2.1.2.2.2))), z3.2.2)) := hD
            refine lv_aload_n hx hb d_Mo_sweepOne_77 rfl (lv_at hl 2 rfl) ?_
            refine va_get (D := D) (ci := 3) (v := .ref o8) (C := R_Mo) (T := F_Mo) (N := 19) hx hb hts i_Mo hown hK hP 0 rfl rfl 9 (by decide) (hts _ k_234) (fun _ h9 => h9) rfl d_Mo_sweepOne_78 ?_
            refine lv_iload_n hx hb d_Mo_sweepOne_81 rfl (lv_at hl 4 rfl) ?_
            obtain ⟨z20, hz20, hf⟩ := x_bind hf
            refine x_callS (w2 := (w_Mo cI cJ cZ oh o0 o1 o2 o3 o4 o5 o6 o7 o8 o9 o10 o11 o12 ((z3.2.1.1, (z3.2.1.2.1, ((upd z3.2.1.2.2.1 x2.toNatClampNeg (-1 : Int32)), z3.2.1.2.2.2))), z3.2.2))) ⟨hx, hb, hml, hown, hts⟩ (c_Mo_pageOf l D cI cJ cZ  N x2  z20 hz20) (x_cwS 1 hts rfl k_244 k_245 k_246 k_247 (by decide +kernel) ⟨(Nat.le_of_ble_eq_true rfl), (Nat.le_of_ble_eq_true rfl)⟩) hK hP hD hS hA hZ [] [0, 1, 2, 3, 4, 5, 6, 7, 8, 9, 10, 11, 12, 13] [0, 1, 2, 3, 4, 5, 6, 7, 8, 9, 10, 11, 12, 13] (by decide) rfl rfl (by decide) (by decide) (by decide) rfl rfl hl.1 rfl (Nat.le_of_ble_eq_true rfl) d_Mo_sweepOne_82 ⟨(Nat.le_of_ble_eq_true rfl), (Nat.le_of_ble_eq_true rfl)⟩ (fun H locs hP hD hS => ?_)
            refine W.eq (g2 := F0 m 85 ls [.int z20, .ref o8]) rfl ?_
            refine lv_iconst (v := (1 : Int32)) hx hb d_Mo_sweepOne_85 (by decide) ?_
            obtain ⟨g21, hf⟩ := x_if hf
            refine va_zast hx hb hK hP hD hS 9 2 rfl rfl (xi_in g21) d_Mo_sweepOne_86 (fun H locs hP hD hS => ?_)
            have hP : va_P D vwCl (w_Mo cI cJ cZ oh o0 o1 o2 o3 o4 o5 o6 o7 o8 o9 o10 o11 o12 ((z3.2.1.1, (z3.2.1.2.1, ((upd z3.2.1.2.2.1 x2.toNatClampNeg (-1 : Int32)), z3.2.1.2.2.2))), (z3.2.2.1, ((upd z3.2.2.2.1 z20.toNatClampNeg (vp_nar .boolean (1 : Int32))), z3.2.2.2.2)))) H := hP
            have hD : va_D A (w_Mo cI cJ cZ oh o0 o1 o2 o3 o4 o5 o6 o7 o8 o9 o10 o11 o12 ((z3.2.1.1, (z3.2.1.2.1, ((upd z3.2.1.2.2.1 x2.toNatClampNeg (-1 : Int32)), z3.2.1.2.2.2))), (z3.2.2.1, ((upd z3.2.2.2.1 z20.toNatClampNeg (vp_nar .boolean (1 : Int32))), z3.2.2.2.2)))) := hD
            exact L_87 _ _ _ _ _ _ hf _ _ _ hP hD hS (lv_sub hl [2, 3, 4, 1, 0] rfl)
        · have hf := x_ifn c23 hf
          refine lv_iconst (v := (0 : Int32)) hx hb d_Mo_sweepOne_50 (by decide) ?_
          obtain rfl := Option.some.inj hf
          exact x_iret hx hb hr hlocks hK hP hD hS (Nat.le_of_ble_eq_true rfl) (Nat.le_of_ble_eq_true rfl) d_Mo_sweepOne_51
      · have hf := x_ifn c34 hf
        refine lv_aload_n hx hb d_Mo_sweepOne_29 rfl (lv_at hl 0 rfl) ?_
        refine lv_iload_n hx hb d_Mo_sweepOne_30 rfl (lv_at hl 2 rfl) ?_
        obtain ⟨z24, hz24, hf⟩ := x_bind hf
        refine x_callV (w2 := (w_Mo cI cJ cZ oh o0 o1 o2 o3 o4 o5 o6 o7 o8 o9 o10 o11 o12 z24.2)) ⟨hx, hb, hml, hown, hts⟩ (c_Mo_settled l D cI cJ cZ oh o0 o1 o2 o3 o4 o5 o6 o7 o8 o9 o10 o11 o12 N x2 U z24 hz24) (x_cwV 1 hts rfl k_325 k_326 k_327 k_246 k_328 (by decide +kernel) ⟨(Nat.le_of_ble_eq_true rfl), (Nat.le_of_ble_eq_true rfl)⟩) hK hP hD hS hA hZ [0, 1, 2, 3, 4, 5, 6, 7, 8, 9, 10, 11, 12, 13] [] [0, 1, 2, 3, 4, 5, 6, 7, 8, 9, 10, 11, 12, 13] (by decide) rfl rfl (by decide) (by decide) (by decide) rfl (ci := 3) rfl rfl rfl hl.1 rfl (Nat.le_of_ble_eq_true rfl) d_Mo_sweepOne_31 ⟨(Nat.le_of_ble_eq_true rfl), (Nat.le_of_ble_eq_true rfl)⟩ (fun H locs hP hD hS => ?_)
        refine W.eq (g2 := F0 m 34 ls [.int z24.1]) rfl ?_
        refine lv_if_ne (tgt := 46) hx hb d_Mo_sweepOne_34 (by decide) (fun c33 => ?_) (fun c33 => ?_)
        · have hf := x_ifn c33 hf
          refine lv_iload_n hx hb d_Mo_sweepOne_46 rfl (lv_at hl 2 rfl) ?_
          refine lv_if_ge (tgt := 52) hx hb d_Mo_sweepOne_47 (by decide) (fun c31 => ?_) (fun c31 => ?_)
          · have hf := x_ifp c31 hf
            refine lv_iconst (v := (0 : Int32)) hx hb d_Mo_sweepOne_52 (by decide) ?_
            refine lv_istore_n (lv' := [(3, .int (0 : Int32)), (0, .ref oh), (1, .int x1), (2, .int x2)]) hx hb d_Mo_sweepOne_53 rfl hl (by decide) rfl (fun ls hl => ?_)
            refine lv_aload_n hx hb d_Mo_sweepOne_54 rfl (lv_at hl 1 rfl) ?_
            refine lv_iload_n hx hb d_Mo_sweepOne_55 rfl (lv_at hl 3 rfl) ?_
            obtain ⟨z25, hz25, hf⟩ := x_bind hf
            refine x_callV (w2 := (w_Mo cI cJ cZ oh o0 o1 o2 o3 o4 o5 o6 o7 o8 o9 o10 o11 o12 z25.2)) ⟨hx, hb, hml, hown, hts⟩ (c_Mo_behind l D cI cJ cZ oh o0 o1 o2 o3 o4 o5 o6 o7 o8 o9 o10 o11 o12 N x2 z24.2 z25 hz25) (x_cwV 1 hts rfl k_288 k_289 k_290 k_246 k_291 (by decide +kernel) ⟨(Nat.le_of_ble_eq_true rfl), (Nat.le_of_ble_eq_true rfl)⟩) hK hP hD hS hA hZ [0, 1, 2, 3, 4, 5, 6, 7, 8, 9, 10, 11, 12, 13] [] [0, 1, 2, 3, 4, 5, 6, 7, 8, 9, 10, 11, 12, 13] (by decide) rfl rfl (by decide) (by decide) (by decide) rfl (ci := 3) rfl rfl rfl hl.1 rfl (Nat.le_of_ble_eq_true rfl) d_Mo_sweepOne_56 ⟨(Nat.le_of_ble_eq_true rfl), (Nat.le_of_ble_eq_true rfl)⟩ (fun H locs hP hD hS => ?_)
            refine W.eq (g2 := F0 m 59 ls [.int z25.1]) rfl ?_
            refine lv_istore (lv' := [(4, .int z25.1), (3, .int (0 : Int32)), (0, .ref oh), (1, .int x1), (2, .int x2)]) hx hb d_Mo_sweepOne_59 hl (by decide) rfl (fun ls hl => ?_)
            refine lv_aload_n hx hb d_Mo_sweepOne_61 rfl (lv_at hl 2 rfl) ?_
            refine va_get (D := D) (ci := 3) (v := .ref o2) (C := R_Mo) (T := F_Mo) (N := 19) hx hb hts i_Mo hown hK hP 0 rfl rfl 3 (by decide) (hts _ k_227) (fun _ h9 => h9) rfl d_Mo_sweepOne_62 ?_
            refine lv_iload_n hx hb d_Mo_sweepOne_65 rfl (lv_at hl 4 rfl) ?_
            obtain ⟨g26, hf⟩ := x_if hf
            refine va_iald hx hb hK hP 3 0 rfl rfl (xi_in g26) d_Mo_sweepOne_66 ?_
            refine lv_if_lt (tgt := 87) hx hb d_Mo_sweepOne_67 (by decide) (fun c30 => ?_) (fun c30 => ?_)
            · have hf := x_ifp c30 hf
              exact L_87 _ _ _ _ _ _ hf _ _ _ hP hD hS (lv_sub hl [2, 3, 4, 1, 0] rfl)
            · have hf := x_ifn c30 hf
              refine lv_aload_n hx hb d_Mo_sweepOne_70 rfl (lv_at hl 2 rfl) ?_
              refine va_get (D := D) (ci := 3) (v := .ref o2) (C := R_Mo) (T := F_Mo) (N := 19) hx hb hts i_Mo hown hK hP 0 rfl rfl 3 (by decide) (hts _ k_227) (fun _ h9 => h9) rfl d_Mo_sweepOne_71 ?_
              refine lv_iload_n hx hb d_Mo_sweepOne_74 rfl (lv_at hl 4 rfl) ?_
              refine lv_iconst (v := (-1 : Int32)) hx hb d_Mo_sweepOne_75 (by decide) ?_
              obtain ⟨g27, hf⟩ := x_if hf
              refine va_iast hx hb hK hP hD hS 3 0 rfl rfl (xi_in g27) d_Mo_sweepOne_76 (fun H locs hP hD hS => ?_)
              have hP : va_P D vwCl (w_Mo cI cJ cZ oh o0 o1 o2 o3 o4 o5 o6 o7 o8 o9 o10 o11 o12 ((z25.2.1.1, (z25.2.1.2.1, ((upd z25.2.1.2.2.1 x2.toNatClampNeg (-1 : Int32)), z25.2.1.2.2.2))), z25.2.2)) H := hP
              have hD : va_D A (w_Mo cI cJ cZ oh o0 o1 o2 o3 o4 o5 o6 o7 o8 o9 o10 o11 o12 ((z25.2.1.1, (z25.2.1.2.1, ((upd z25.2.1.2.2.1 x2.toNatClampNeg (-1 : Int32)), z25.2.1.2.2.2))), z25.2.2)) := hD
              refine lv_aload_n hx hb d_Mo_sweepOne_77 rfl (lv_at hl 2 rfl) ?_
              refine va_get (D := D) (ci := 3) (v := .ref o8) (C := R_Mo) (T := F_Mo) (N := 19) hx hb hts i_Mo hown hK hP 0 rfl rfl 9 (by decide) (hts _ k_234) (fun _ h9 => h9) rfl d_Mo_sweepOne_78 ?_
              refine lv_iload_n hx hb d_Mo_sweepOne_81 rfl (lv_at hl 4 rfl) ?_
              obtain ⟨z28, hz28, hf⟩ := x_bind hf
              refine x_callS (w2 := (w_Mo cI cJ cZ oh o0 o1 o2 o3 o4 o5 o6 o7 o8 o9 o10 o11 o12 ((z25.2.1.1, (z25.2.1.2.1, ((upd z25.2.1.2.2.1 x2.toNatClampNeg (-1 : Int32)), z25.2.1.2.2.2))), z25.2.2))) ⟨hx, hb, hml, hown, hts⟩ (c_Mo_pageOf l D cI cJ cZ  N x2  z28 hz28) (x_cwS 1 hts rfl k_244 k_245 k_246 k_247 (by decide +kernel) ⟨(Nat.le_of_ble_eq_true rfl), (Nat.le_of_ble_eq_true rfl)⟩) hK hP hD hS hA hZ [] [0, 1, 2, 3, 4, 5, 6, 7, 8, 9, 10, 11, 12, 13] [0, 1, 2, 3, 4, 5, 6, 7, 8, 9, 10, 11, 12, 13] (by decide) rfl rfl (by decide) (by decide) (by decide) rfl rfl hl.1 rfl (Nat.le_of_ble_eq_true rfl) d_Mo_sweepOne_82 ⟨(Nat.le_of_ble_eq_true rfl), (Nat.le_of_ble_eq_true rfl)⟩ (fun H locs hP hD hS => ?_)
              refine W.eq (g2 := F0 m 85 ls [.int z28, .ref o8]) rfl ?_
              refine lv_iconst (v := (1 : Int32)) hx hb d_Mo_sweepOne_85 (by decide) ?_
              obtain ⟨g29, hf⟩ := x_if hf
              refine va_zast hx hb hK hP hD hS 9 2 rfl rfl (xi_in g29) d_Mo_sweepOne_86 (fun H locs hP hD hS => ?_)
              have hP : va_P D vwCl (w_Mo cI cJ cZ oh o0 o1 o2 o3 o4 o5 o6 o7 o8 o9 o10 o11 o12 ((z25.2.1.1, (z25.2.1.2.1, ((upd z25.2.1.2.2.1 x2.toNatClampNeg (-1 : Int32)), z25.2.1.2.2.2))), (z25.2.2.1, ((upd z25.2.2.2.1 z28.toNatClampNeg (vp_nar .boolean (1 : Int32))), z25.2.2.2.2)))) H := hP
              have hD : va_D A (w_Mo cI cJ cZ oh o0 o1 o2 o3 o4 o5 o6 o7 o8 o9 o10 o11 o12 ((z25.2.1.1, (z25.2.1.2.1, ((upd z25.2.1.2.2.1 x2.toNatClampNeg (-1 : Int32)), z25.2.1.2.2.2))), (z25.2.2.1, ((upd z25.2.2.2.1 z28.toNatClampNeg (vp_nar .boolean (1 : Int32))), z25.2.2.2.2)))) := hD
              exact L_87 _ _ _ _ _ _ hf _ _ _ hP hD hS (lv_sub hl [2, 3, 4, 1, 0] rfl)
          · have hf := x_ifn c31 hf
            refine lv_iconst (v := (0 : Int32)) hx hb d_Mo_sweepOne_50 (by decide) ?_
            obtain rfl := Option.some.inj hf
            exact x_iret hx hb hr hlocks hK hP hD hS (Nat.le_of_ble_eq_true rfl) (Nat.le_of_ble_eq_true rfl) d_Mo_sweepOne_51
        · have hf := x_ifp c33 hf
          refine lv_aload_n hx hb d_Mo_sweepOne_37 rfl (lv_at hl 0 rfl) ?_
          refine lv_iload_n hx hb d_Mo_sweepOne_38 rfl (lv_at hl 2 rfl) ?_
          obtain ⟨z32, hz32, hf⟩ := x_bind hf
          refine x_callV (w2 := (w_Mo cI cJ cZ oh o0 o1 o2 o3 o4 o5 o6 o7 o8 o9 o10 o11 o12 z32.2)) ⟨hx, hb, hml, hown, hts⟩ (c_Mo_behind l D cI cJ cZ oh o0 o1 o2 o3 o4 o5 o6 o7 o8 o9 o10 o11 o12 N x2 z24.2 z32 hz32) (x_cwV 1 hts rfl k_288 k_289 k_290 k_246 k_291 (by decide +kernel) ⟨(Nat.le_of_ble_eq_true rfl), (Nat.le_of_ble_eq_true rfl)⟩) hK hP hD hS hA hZ [0, 1, 2, 3, 4, 5, 6, 7, 8, 9, 10, 11, 12, 13] [] [0, 1, 2, 3, 4, 5, 6, 7, 8, 9, 10, 11, 12, 13] (by decide) rfl rfl (by decide) (by decide) (by decide) rfl (ci := 3) rfl rfl rfl hl.1 rfl (Nat.le_of_ble_eq_true rfl) d_Mo_sweepOne_39 ⟨(Nat.le_of_ble_eq_true rfl), (Nat.le_of_ble_eq_true rfl)⟩ (fun H locs hP hD hS => ?_)
          refine W.eq (g2 := F0 m 42 ls [.int z32.1]) rfl ?_
          refine lv_istore_n (lv' := [(2, .int z32.1), (0, .ref oh), (1, .int x1)]) hx hb d_Mo_sweepOne_42 rfl hl (by decide) rfl (fun ls hl => ?_)
          refine lv_goto (tgt := 25) hx hb d_Mo_sweepOne_43 (by decide) ?_
          exact ih _ _ _ hf _ _ _ hP hD hS (lv_sub hl [1, 2, 0] rfl)
  refine lv_aload_n hx hb d_Mo_sweepOne_0 rfl (lv_at hl 0 rfl) ?_
  refine lv_iload_n hx hb d_Mo_sweepOne_1 rfl (lv_at hl 1 rfl) ?_
  obtain ⟨z1, hz1, hf⟩ := x_bind hf
  refine x_callV (w2 := (w_Mo cI cJ cZ oh o0 o1 o2 o3 o4 o5 o6 o7 o8 o9 o10 o11 o12 z1.2)) ⟨hx, hb, hml, hown, hts⟩ (c_Mo_clean l D cI cJ cZ oh o0 o1 o2 o3 o4 o5 o6 o7 o8 o9 o10 o11 o12 N p0 U z1 hz1) (x_cwV 1 hts rfl k_316 k_317 k_318 k_246 k_319 (by decide +kernel) ⟨(Nat.le_of_ble_eq_true rfl), (Nat.le_of_ble_eq_true rfl)⟩) hK hP hD hS hA hZ [0, 1, 2, 3, 4, 5, 6, 7, 8, 9, 10, 11, 12, 13] [] [0, 1, 2, 3, 4, 5, 6, 7, 8, 9, 10, 11, 12, 13] (by decide) rfl rfl (by decide) (by decide) (by decide) rfl (ci := 3) rfl rfl rfl hl.1 rfl (Nat.le_of_ble_eq_true rfl) d_Mo_sweepOne_2 ⟨(Nat.le_of_ble_eq_true rfl), (Nat.le_of_ble_eq_true rfl)⟩ (fun H locs hP hD hS => ?_)
  refine W.eq (g2 := F0 m 5 ls []) rfl ?_
  refine lv_aload_n hx hb d_Mo_sweepOne_5 rfl (lv_at hl 0 rfl) ?_
  refine va_get (D := D) (ci := 3) (v := .int z1.2.2.2.2.2.2.2.2.2.2.2.2.1) (C := R_Mo) (T := F_Mo) (N := 19) hx hb hts i_Mo hown hK hP 0 rfl rfl 17 (by decide) (hts _ k_241) (fun _ h9 => h9) rfl d_Mo_sweepOne_6 ?_
  refine lv_if_ne (tgt := 21) hx hb d_Mo_sweepOne_9 (by decide) (fun c36 => ?_) (fun c36 => ?_)
  · have hf := x_ifn c36 hf
    refine lv_iconst (v := (0 : Int32)) hx hb d_Mo_sweepOne_21 (by decide) ?_
    obtain rfl := Option.some.inj hf
    exact x_iret hx hb hr hlocks hK hP hD hS (Nat.le_of_ble_eq_true rfl) (Nat.le_of_ble_eq_true rfl) d_Mo_sweepOne_22
  · have hf := x_ifp c36 hf
    refine lv_aload_n hx hb d_Mo_sweepOne_12 rfl (lv_at hl 0 rfl) ?_
    refine va_get (D := D) (ci := 3) (v := .ref o0) (C := R_Mo) (T := F_Mo) (N := 19) hx hb hts i_Mo hown hK hP 0 rfl rfl 1 (by decide) (hts _ k_225) (fun _ h9 => h9) rfl d_Mo_sweepOne_13 ?_
    refine lv_iload_n hx hb d_Mo_sweepOne_16 rfl (lv_at hl 1 rfl) ?_
    obtain ⟨g2, hf⟩ := x_if hf
    refine va_iald hx hb hK hP 1 0 rfl rfl (xi_in g2) d_Mo_sweepOne_17 ?_
    refine lv_if_ne (tgt := 23) hx hb d_Mo_sweepOne_18 (by decide) (fun c35 => ?_) (fun c35 => ?_)
    · have hf := x_ifn c35 hf
      refine lv_iload_n hx hb d_Mo_sweepOne_23 rfl (lv_at hl 1 rfl) ?_
      refine lv_istore_n (lv' := [(2, .int p0), (0, .ref oh), (1, .int p0)]) hx hb d_Mo_sweepOne_24 rfl hl (by decide) rfl (fun ls hl => ?_)
      exact L_25 _ _ _ _ hf _ _ _ hP hD hS (lv_sub hl [1, 2, 0] rfl)
    · have hf := x_ifp c35 hf
      refine lv_iconst (v := (0 : Int32)) hx hb d_Mo_sweepOne_21 (by decide) ?_
      obtain rfl := Option.some.inj hf
      exact x_iret hx hb hr hlocks hK hP hD hS (Nat.le_of_ble_eq_true rfl) (Nat.le_of_ble_eq_true rfl) d_Mo_sweepOne_22
set_option maxHeartbeats 4000000 in
set_option maxRecDepth 100000 in
theorem c_Mo_sweep (l : Launch) (D : va_G) (cI cJ cZ : ClassId) (oh o0 o1 o2 o3 o4 o5 o6 o7 o8 o9 o10 o11 o12 : Nat) (N : Nat) (U : K_Mo) (r : (Int32 × K_Mo)) (hf : f_Mo_sweep N U = some r) : Cx l y_Mo_sweep ws_Mo_sweep rm_Mo_sweep D vwCl (tyL cI cJ cZ) [.ref oh] (w_Mo cI cJ cZ oh o0 o1 o2 o3 o4 o5 o6 o7 o8 o9 o10 o11 o12 U) (oI r.1) (w_Mo cI cJ cZ oh o0 o1 o2 o3 o4 o5 o6 o7 o8 o9 o10 o11 o12 r.2) := by
  unfold f_Mo_sweep at hf
  refine Cx.ofW (cc := b_Mo_sweep) (maxL := 3) (ret := (some .int)) (by decide) rfl ?_
  intro p e s m below meth c A C0 hP hK hD hA hns hZ
  obtain ⟨hx, hb, hml, hown, hts0, hr, hlocks, hnm, hno⟩ := C0
  have hown : s.vm.findClass R_Mo = some m.cls := hown
  have hts : ∀ w ∈ tb, w.before [.ref oh].toArray s = true := fun w h => hts0 w (List.mem_cons_of_mem _ h)
  have hS : va_S A s.heap s.heap [] := va_S.rf
  have hl := lv_entry ([.ref oh]) (n := 3) (Nat.le_of_ble_eq_true rfl)
  rw [lg_entry_eq]
  generalize (lg_sl ([.ref oh]) ++ List.replicate (3 - (lg_sl ([.ref oh])).length) Slot.unset).toArray = ls at hl ⊢
  have hl : lv_has ls 3 [(0, .ref oh)] := hl
  have L_8 : ∀ n : Nat, ∀ (x1 : Int32) (x2 : Int32) (U : K_Mo), f_Mo_sweep_8 N n x1 x2 U = some r → ∀ (H : Heap) (locs : List Loc) (ls : Array Slot), va_P D vwCl (w_Mo cI cJ cZ oh o0 o1 o2 o3 o4 o5 o6 o7 o8 o9 o10 o11 o12 U) H → va_D A (w_Mo cI cJ cZ oh o0 o1 o2 o3 o4 o5 o6 o7 o8 o9 o10 o11 o12 U) → va_S A s.heap H locs → lv_has ls 3 [(0, .ref oh), (1, .int x1), (2, .int x2)] → W p l e (rm_Mo_sweep) s m [.ref oh].toArray below meth c H locs 0 0 (xQ D vwCl (tyL cI cJ cZ) below s A (oI r.1) (w_Mo cI cJ cZ oh o0 o1 o2 o3 o4 o5 o6 o7 o8 o9 o10 o11 o12 r.2) (rm_Mo_sweep).cells (rm_Mo_sweep).slots) (F0 m 8 ls []) := by
    intro n
    induction n with
    | zero =>
      intro x1 x2 U hf
      have hf : (none : Option (Int32 × K_Mo)) = some r := hf
      cases hf
    | succ n ih =>
      intro x1 x2 U hf H locs ls hP hD hS hl
      rw [f_Mo_sweep_8] at hf
      refine lv_iload_n hx hb d_Mo_sweep_8 rfl (lv_at hl 2 rfl) ?_
      refine lv_bipush (v := (6 : Int32)) hx hb d_Mo_sweep_9 (by decide) ?_
      refine lv_icmp_ge (tgt := 35) hx hb d_Mo_sweep_11 (by decide) (fun c6 => ?_) (fun c6 => ?_)
      · have hf := x_ifp c6 hf
        refine lv_aload_n hx hb d_Mo_sweep_35 rfl (lv_at hl 0 rfl) ?_
        refine lv_iload_n hx hb d_Mo_sweep_36 rfl (lv_at hl 1 rfl) ?_
        obtain ⟨z2, hz2, hf⟩ := x_bind hf
        refine x_callV (w2 := (w_Mo cI cJ cZ oh o0 o1 o2 o3 o4 o5 o6 o7 o8 o9 o10 o11 o12 z2.2)) ⟨hx, hb, hml, hown, hts⟩ (c_Mo_done l D cI cJ cZ oh o0 o1 o2 o3 o4 o5 o6 o7 o8 o9 o10 o11 o12 N x1 U z2 hz2) (x_cwV 1 hts rfl k_276 k_277 k_278 k_246 k_279 (by decide +kernel) ⟨(Nat.le_of_ble_eq_true rfl), (Nat.le_of_ble_eq_true rfl)⟩) hK hP hD hS hA hZ [0, 1, 2, 3, 4, 5, 6, 7, 8, 9, 10, 11, 12, 13] [] [0, 1, 2, 3, 4, 5, 6, 7, 8, 9, 10, 11, 12, 13] (by decide) rfl rfl (by decide) (by decide) (by decide) rfl (ci := 3) rfl rfl rfl hl.1 rfl (Nat.le_of_ble_eq_true rfl) d_Mo_sweep_37 ⟨(Nat.le_of_ble_eq_true rfl), (Nat.le_of_ble_eq_true rfl)⟩ (fun H locs hP hD hS => ?_)
        refine W.eq (g2 := F0 m 40 ls [.int z2.1]) rfl ?_
        obtain rfl := Option.some.inj hf
        exact x_iret hx hb hr hlocks hK hP hD hS (Nat.le_of_ble_eq_true rfl) (Nat.le_of_ble_eq_true rfl) d_Mo_sweep_40
      · have hf := x_ifn c6 hf
        refine lv_aload_n hx hb d_Mo_sweep_14 rfl (lv_at hl 0 rfl) ?_
        refine va_get (D := D) (ci := 3) (v := .int U.2.2.2.2.2.2.2.2.2.2.2.1) (C := R_Mo) (T := F_Mo) (N := 19) hx hb hts i_Mo hown hK hP 0 rfl rfl 17 (by decide) (hts _ k_241) (fun _ h9 => h9) rfl d_Mo_sweep_15 ?_
        refine lv_if_ne (tgt := 35) hx hb d_Mo_sweep_18 (by decide) (fun c5 => ?_) (fun c5 => ?_)
        · have hf := x_ifn c5 hf
          refine lv_aload_n hx hb d_Mo_sweep_35 rfl (lv_at hl 0 rfl) ?_
          refine lv_iload_n hx hb d_Mo_sweep_36 rfl (lv_at hl 1 rfl) ?_
          obtain ⟨z3, hz3, hf⟩ := x_bind hf
          refine x_callV (w2 := (w_Mo cI cJ cZ oh o0 o1 o2 o3 o4 o5 o6 o7 o8 o9 o10 o11 o12 z3.2)) ⟨hx, hb, hml, hown, hts⟩ (c_Mo_done l D cI cJ cZ oh o0 o1 o2 o3 o4 o5 o6 o7 o8 o9 o10 o11 o12 N x1 U z3 hz3) (x_cwV 1 hts rfl k_276 k_277 k_278 k_246 k_279 (by decide +kernel) ⟨(Nat.le_of_ble_eq_true rfl), (Nat.le_of_ble_eq_true rfl)⟩) hK hP hD hS hA hZ [0, 1, 2, 3, 4, 5, 6, 7, 8, 9, 10, 11, 12, 13] [] [0, 1, 2, 3, 4, 5, 6, 7, 8, 9, 10, 11, 12, 13] (by decide) rfl rfl (by decide) (by decide) (by decide) rfl (ci := 3) rfl rfl rfl hl.1 rfl (Nat.le_of_ble_eq_true rfl) d_Mo_sweep_37 ⟨(Nat.le_of_ble_eq_true rfl), (Nat.le_of_ble_eq_true rfl)⟩ (fun H locs hP hD hS => ?_)
          refine W.eq (g2 := F0 m 40 ls [.int z3.1]) rfl ?_
          obtain rfl := Option.some.inj hf
          exact x_iret hx hb hr hlocks hK hP hD hS (Nat.le_of_ble_eq_true rfl) (Nat.le_of_ble_eq_true rfl) d_Mo_sweep_40
        · have hf := x_ifp c5 hf
          refine lv_iload_n hx hb d_Mo_sweep_21 rfl (lv_at hl 1 rfl) ?_
          refine lv_aload_n hx hb d_Mo_sweep_22 rfl (lv_at hl 0 rfl) ?_
          refine lv_iload_n hx hb d_Mo_sweep_23 rfl (lv_at hl 2 rfl) ?_
          obtain ⟨z4, hz4, hf⟩ := x_bind hf
          refine x_callV (w2 := (w_Mo cI cJ cZ oh o0 o1 o2 o3 o4 o5 o6 o7 o8 o9 o10 o11 o12 z4.2)) ⟨hx, hb, hml, hown, hts⟩ (c_Mo_sweepOne l D cI cJ cZ oh o0 o1 o2 o3 o4 o5 o6 o7 o8 o9 o10 o11 o12 N x2 U z4 hz4) (x_cwV 1 hts rfl k_329 k_330 k_331 k_246 k_332 (by decide +kernel) ⟨(Nat.le_of_ble_eq_true rfl), (Nat.le_of_ble_eq_true rfl)⟩) hK hP hD hS hA hZ [0, 1, 2, 3, 4, 5, 6, 7, 8, 9, 10, 11, 12, 13] [] [0, 1, 2, 3, 4, 5, 6, 7, 8, 9, 10, 11, 12, 13] (by decide) rfl rfl (by decide) (by decide) (by decide) rfl (ci := 3) rfl rfl rfl hl.1 rfl (Nat.le_of_ble_eq_true rfl) d_Mo_sweep_24 ⟨(Nat.le_of_ble_eq_true rfl), (Nat.le_of_ble_eq_true rfl)⟩ (fun H locs hP hD hS => ?_)
          refine W.eq (g2 := F0 m 27 ls [.int z4.1, .int x1]) rfl ?_
          refine lv_iadd hx hb d_Mo_sweep_27 ?_
          refine lv_istore_n (lv' := [(1, .int (x1 + z4.1)), (0, .ref oh), (2, .int x2)]) hx hb d_Mo_sweep_28 rfl hl (by decide) rfl (fun ls hl => ?_)
          refine lv_iinc (v := (x2 + (1 : Int32))) (lv' := [(2, .int (x2 + (1 : Int32))), (1, .int (x1 + z4.1)), (0, .ref oh)]) hx hb d_Mo_sweep_29 hl (k := 2) rfl rfl (by decide) rfl (fun ls hl => ?_)
          refine lv_goto (tgt := 8) hx hb d_Mo_sweep_32 (by decide) ?_
          exact ih _ _ _ hf _ _ _ hP hD hS (lv_sub hl [2, 1, 0] rfl)
  refine lv_aload_n hx hb d_Mo_sweep_0 rfl (lv_at hl 0 rfl) ?_
  obtain ⟨z1, hz1, hf⟩ := x_bind hf
  refine x_callV (w2 := (w_Mo cI cJ cZ oh o0 o1 o2 o3 o4 o5 o6 o7 o8 o9 o10 o11 o12 z1.2)) ⟨hx, hb, hml, hown, hts⟩ (c_Mo_begun l D cI cJ cZ oh o0 o1 o2 o3 o4 o5 o6 o7 o8 o9 o10 o11 o12 N  U z1 hz1) (x_cwV 0 hts rfl k_284 k_285 k_286 k_246 k_287 (by decide +kernel) ⟨(Nat.le_of_ble_eq_true rfl), (Nat.le_of_ble_eq_true rfl)⟩) hK hP hD hS hA hZ [0, 1, 2, 3, 4, 5, 6, 7, 8, 9, 10, 11, 12, 13] [] [0, 1, 2, 3, 4, 5, 6, 7, 8, 9, 10, 11, 12, 13] (by decide) rfl rfl (by decide) (by decide) (by decide) rfl (ci := 3) rfl rfl rfl hl.1 rfl (Nat.le_of_ble_eq_true rfl) d_Mo_sweep_1 ⟨(Nat.le_of_ble_eq_true rfl), (Nat.le_of_ble_eq_true rfl)⟩ (fun H locs hP hD hS => ?_)
  refine W.eq (g2 := F0 m 4 ls []) rfl ?_
  refine lv_iconst (v := (0 : Int32)) hx hb d_Mo_sweep_4 (by decide) ?_
  refine lv_istore_n (lv' := [(1, .int (0 : Int32)), (0, .ref oh)]) hx hb d_Mo_sweep_5 rfl hl (by decide) rfl (fun ls hl => ?_)
  refine lv_iconst (v := (0 : Int32)) hx hb d_Mo_sweep_6 (by decide) ?_
  refine lv_istore_n (lv' := [(2, .int (0 : Int32)), (1, .int (0 : Int32)), (0, .ref oh)]) hx hb d_Mo_sweep_7 rfl hl (by decide) rfl (fun ls hl => ?_)
  exact L_8 _ _ _ _ hf _ _ _ hP hD hS (lv_sub hl [2, 1, 0] rfl)
set_option maxHeartbeats 4000000 in
set_option maxRecDepth 100000 in
theorem c_Mo_flush (l : Launch) (D : va_G) (cI cJ cZ : ClassId) (oh o0 o1 o2 o3 o4 o5 o6 o7 o8 o9 o10 o11 o12 : Nat) (N : Nat) (U : K_Mo) (r : (Int32 × K_Mo)) (hf : f_Mo_flush N U = some r) : Cx l y_Mo_flush ws_Mo_flush rm_Mo_flush D vwCl (tyL cI cJ cZ) [.ref oh] (w_Mo cI cJ cZ oh o0 o1 o2 o3 o4 o5 o6 o7 o8 o9 o10 o11 o12 U) (oI r.1) (w_Mo cI cJ cZ oh o0 o1 o2 o3 o4 o5 o6 o7 o8 o9 o10 o11 o12 r.2) := by
  unfold f_Mo_flush at hf
  refine Cx.ofW (cc := b_Mo_flush) (maxL := 3) (ret := (some .int)) (by decide) rfl ?_
  intro p e s m below meth c A C0 hP hK hD hA hns hZ
  obtain ⟨hx, hb, hml, hown, hts0, hr, hlocks, hnm, hno⟩ := C0
  have hown : s.vm.findClass R_Mo = some m.cls := hown
  have hts : ∀ w ∈ tb, w.before [.ref oh].toArray s = true := fun w h => hts0 w (List.mem_cons_of_mem _ h)
  have hS : va_S A s.heap s.heap [] := va_S.rf
  have hl := lv_entry ([.ref oh]) (n := 3) (Nat.le_of_ble_eq_true rfl)
  rw [lg_entry_eq]
  generalize (lg_sl ([.ref oh]) ++ List.replicate (3 - (lg_sl ([.ref oh])).length) Slot.unset).toArray = ls at hl ⊢
  have hl : lv_has ls 3 [(0, .ref oh)] := hl
  have L_11 : ∀ n : Nat, ∀ (x1 : Int32) (x2 : Int32) (U : K_Mo), f_Mo_flush_11 N n x1 x2 U = some r → ∀ (H : Heap) (locs : List Loc) (ls : Array Slot), va_P D vwCl (w_Mo cI cJ cZ oh o0 o1 o2 o3 o4 o5 o6 o7 o8 o9 o10 o11 o12 U) H → va_D A (w_Mo cI cJ cZ oh o0 o1 o2 o3 o4 o5 o6 o7 o8 o9 o10 o11 o12 U) → va_S A s.heap H locs → lv_has ls 3 [(0, .ref oh), (1, .int x1), (2, .int x2)] → W p l e (rm_Mo_flush) s m [.ref oh].toArray below meth c H locs 0 0 (xQ D vwCl (tyL cI cJ cZ) below s A (oI r.1) (w_Mo cI cJ cZ oh o0 o1 o2 o3 o4 o5 o6 o7 o8 o9 o10 o11 o12 r.2) (rm_Mo_flush).cells (rm_Mo_flush).slots) (F0 m 11 ls []) := by
    intro n
    induction n with
    | zero =>
      intro x1 x2 U hf
      have hf : (none : Option (Int32 × K_Mo)) = some r := hf
      cases hf
    | succ n ih =>
      intro x1 x2 U hf H locs ls hP hD hS hl
      rw [f_Mo_flush_11] at hf
      refine lv_iload_n hx hb d_Mo_flush_11 rfl (lv_at hl 2 rfl) ?_
      refine lv_bipush (v := (7 : Int32)) hx hb d_Mo_flush_12 (by decide) ?_
      refine lv_icmp_ge (tgt := 44) hx hb d_Mo_flush_14 (by decide) (fun c8 => ?_) (fun c8 => ?_)
      · have hf := x_ifp c8 hf
        refine lv_aload_n hx hb d_Mo_flush_44 rfl (lv_at hl 0 rfl) ?_
        refine lv_aload_n hx hb d_Mo_flush_45 rfl (lv_at hl 0 rfl) ?_
        refine va_get (D := D) (ci := 3) (v := .int U.2.2.2.2.2.2.2.2.1) (C := R_Mo) (T := F_Mo) (N := 19) hx hb hts i_Mo hown hK hP 0 rfl rfl 14 (by decide) (hts _ k_243) (fun _ h9 => h9) rfl d_Mo_flush_46 ?_
        refine lv_iload_n hx hb d_Mo_flush_49 rfl (lv_at hl 1 rfl) ?_
        refine lv_isub hx hb d_Mo_flush_50 ?_
        obtain ⟨z2, hz2, hf⟩ := x_bind hf
        refine x_callV (w2 := (w_Mo cI cJ cZ oh o0 o1 o2 o3 o4 o5 o6 o7 o8 o9 o10 o11 o12 z2.2)) ⟨hx, hb, hml, hown, hts⟩ (c_Mo_done l D cI cJ cZ oh o0 o1 o2 o3 o4 o5 o6 o7 o8 o9 o10 o11 o12 N (U.2.2.2.2.2.2.2.2.1 - x1) U z2 hz2) (x_cwV 1 hts rfl k_276 k_277 k_278 k_246 k_279 (by decide +kernel) ⟨(Nat.le_of_ble_eq_true rfl), (Nat.le_of_ble_eq_true rfl)⟩) hK hP hD hS hA hZ [0, 1, 2, 3, 4, 5, 6, 7, 8, 9, 10, 11, 12, 13] [] [0, 1, 2, 3, 4, 5, 6, 7, 8, 9, 10, 11, 12, 13] (by decide) rfl rfl (by decide) (by decide) (by decide) rfl (ci := 3) rfl rfl rfl hl.1 rfl (Nat.le_of_ble_eq_true rfl) d_Mo_flush_51 ⟨(Nat.le_of_ble_eq_true rfl), (Nat.le_of_ble_eq_true rfl)⟩ (fun H locs hP hD hS => ?_)
        refine W.eq (g2 := F0 m 54 ls [.int z2.1]) rfl ?_
        obtain rfl := Option.some.inj hf
        exact x_iret hx hb hr hlocks hK hP hD hS (Nat.le_of_ble_eq_true rfl) (Nat.le_of_ble_eq_true rfl) d_Mo_flush_54
      · have hf := x_ifn c8 hf
        refine lv_aload_n hx hb d_Mo_flush_17 rfl (lv_at hl 0 rfl) ?_
        refine va_get (D := D) (ci := 3) (v := .int U.2.2.2.2.2.2.2.2.2.2.2.1) (C := R_Mo) (T := F_Mo) (N := 19) hx hb hts i_Mo hown hK hP 0 rfl rfl 17 (by decide) (hts _ k_241) (fun _ h9 => h9) rfl d_Mo_flush_18 ?_
        refine lv_if_ne (tgt := 44) hx hb d_Mo_flush_21 (by decide) (fun c7 => ?_) (fun c7 => ?_)
        · have hf := x_ifn c7 hf
          refine lv_aload_n hx hb d_Mo_flush_44 rfl (lv_at hl 0 rfl) ?_
          refine lv_aload_n hx hb d_Mo_flush_45 rfl (lv_at hl 0 rfl) ?_
          refine va_get (D := D) (ci := 3) (v := .int U.2.2.2.2.2.2.2.2.1) (C := R_Mo) (T := F_Mo) (N := 19) hx hb hts i_Mo hown hK hP 0 rfl rfl 14 (by decide) (hts _ k_243) (fun _ h9 => h9) rfl d_Mo_flush_46 ?_
          refine lv_iload_n hx hb d_Mo_flush_49 rfl (lv_at hl 1 rfl) ?_
          refine lv_isub hx hb d_Mo_flush_50 ?_
          obtain ⟨z3, hz3, hf⟩ := x_bind hf
          refine x_callV (w2 := (w_Mo cI cJ cZ oh o0 o1 o2 o3 o4 o5 o6 o7 o8 o9 o10 o11 o12 z3.2)) ⟨hx, hb, hml, hown, hts⟩ (c_Mo_done l D cI cJ cZ oh o0 o1 o2 o3 o4 o5 o6 o7 o8 o9 o10 o11 o12 N (U.2.2.2.2.2.2.2.2.1 - x1) U z3 hz3) (x_cwV 1 hts rfl k_276 k_277 k_278 k_246 k_279 (by decide +kernel) ⟨(Nat.le_of_ble_eq_true rfl), (Nat.le_of_ble_eq_true rfl)⟩) hK hP hD hS hA hZ [0, 1, 2, 3, 4, 5, 6, 7, 8, 9, 10, 11, 12, 13] [] [0, 1, 2, 3, 4, 5, 6, 7, 8, 9, 10, 11, 12, 13] (by decide) rfl rfl (by decide) (by decide) (by decide) rfl (ci := 3) rfl rfl rfl hl.1 rfl (Nat.le_of_ble_eq_true rfl) d_Mo_flush_51 ⟨(Nat.le_of_ble_eq_true rfl), (Nat.le_of_ble_eq_true rfl)⟩ (fun H locs hP hD hS => ?_)
          refine W.eq (g2 := F0 m 54 ls [.int z3.1]) rfl ?_
          obtain rfl := Option.some.inj hf
          exact x_iret hx hb hr hlocks hK hP hD hS (Nat.le_of_ble_eq_true rfl) (Nat.le_of_ble_eq_true rfl) d_Mo_flush_54
        · have hf := x_ifp c7 hf
          refine lv_aload_n hx hb d_Mo_flush_24 rfl (lv_at hl 0 rfl) ?_
          refine va_get (D := D) (ci := 3) (v := .ref o8) (C := R_Mo) (T := F_Mo) (N := 19) hx hb hts i_Mo hown hK hP 0 rfl rfl 9 (by decide) (hts _ k_234) (fun _ h9 => h9) rfl d_Mo_flush_25 ?_
          refine lv_iload_n hx hb d_Mo_flush_28 rfl (lv_at hl 2 rfl) ?_
          obtain ⟨g4, hf⟩ := x_if hf
          refine va_zald hx hb hK hP 9 2 rfl rfl (xi_in g4) d_Mo_flush_29 ?_
          refine lv_if_eq (tgt := 38) hx hb d_Mo_flush_30 (by decide) (fun c6 => ?_) (fun c6 => ?_)
          · have hf := x_ifp c6 hf
            refine lv_iinc (v := (x2 + (1 : Int32))) (lv' := [(2, .int (x2 + (1 : Int32))), (0, .ref oh), (1, .int x1)]) hx hb d_Mo_flush_38 hl (k := 2) rfl rfl (by decide) rfl (fun ls hl => ?_)
            refine lv_goto (tgt := 11) hx hb d_Mo_flush_41 (by decide) ?_
            exact ih _ _ _ hf _ _ _ hP hD hS (lv_sub hl [1, 2, 0] rfl)
          · have hf := x_ifn c6 hf
            refine lv_aload_n hx hb d_Mo_flush_33 rfl (lv_at hl 0 rfl) ?_
            refine lv_iload_n hx hb d_Mo_flush_34 rfl (lv_at hl 2 rfl) ?_
            obtain ⟨z5, hz5, hf⟩ := x_bind hf
            refine x_callV (w2 := (w_Mo cI cJ cZ oh o0 o1 o2 o3 o4 o5 o6 o7 o8 o9 o10 o11 o12 z5.2)) ⟨hx, hb, hml, hown, hts⟩ (c_Mo_store l D cI cJ cZ oh o0 o1 o2 o3 o4 o5 o6 o7 o8 o9 o10 o11 o12 N x2 U z5 hz5) (x_cwV 1 hts rfl k_260 k_261 k_262 k_246 k_263 (by decide +kernel) ⟨(Nat.le_of_ble_eq_true rfl), (Nat.le_of_ble_eq_true rfl)⟩) hK hP hD hS hA hZ [0, 1, 2, 3, 4, 5, 6, 7, 8, 9, 10, 11, 12, 13] [] [0, 1, 2, 3, 4, 5, 6, 7, 8, 9, 10, 11, 12, 13] (by decide) rfl rfl (by decide) (by decide) (by decide) rfl (ci := 3) rfl rfl rfl hl.1 rfl (Nat.le_of_ble_eq_true rfl) d_Mo_flush_35 ⟨(Nat.le_of_ble_eq_true rfl), (Nat.le_of_ble_eq_true rfl)⟩ (fun H locs hP hD hS => ?_)
            refine W.eq (g2 := F0 m 38 ls []) rfl ?_
            refine lv_iinc (v := (x2 + (1 : Int32))) (lv' := [(2, .int (x2 + (1 : Int32))), (0, .ref oh), (1, .int x1)]) hx hb d_Mo_flush_38 hl (k := 2) rfl rfl (by decide) rfl (fun ls hl => ?_)
            refine lv_goto (tgt := 11) hx hb d_Mo_flush_41 (by decide) ?_
            exact ih _ _ _ hf _ _ _ hP hD hS (lv_sub hl [1, 2, 0] rfl)
  refine lv_aload_n hx hb d_Mo_flush_0 rfl (lv_at hl 0 rfl) ?_
  obtain ⟨z1, hz1, hf⟩ := x_bind hf
  refine x_callV (w2 := (w_Mo cI cJ cZ oh o0 o1 o2 o3 o4 o5 o6 o7 o8 o9 o10 o11 o12 z1.2)) ⟨hx, hb, hml, hown, hts⟩ (c_Mo_begun l D cI cJ cZ oh o0 o1 o2 o3 o4 o5 o6 o7 o8 o9 o10 o11 o12 N  U z1 hz1) (x_cwV 0 hts rfl k_284 k_285 k_286 k_246 k_287 (by decide +kernel) ⟨(Nat.le_of_ble_eq_true rfl), (Nat.le_of_ble_eq_true rfl)⟩) hK hP hD hS hA hZ [0, 1, 2, 3, 4, 5, 6, 7, 8, 9, 10, 11, 12, 13] [] [0, 1, 2, 3, 4, 5, 6, 7, 8, 9, 10, 11, 12, 13] (by decide) rfl rfl (by decide) (by decide) (by decide) rfl (ci := 3) rfl rfl rfl hl.1 rfl (Nat.le_of_ble_eq_true rfl) d_Mo_flush_1 ⟨(Nat.le_of_ble_eq_true rfl), (Nat.le_of_ble_eq_true rfl)⟩ (fun H locs hP hD hS => ?_)
  refine W.eq (g2 := F0 m 4 ls []) rfl ?_
  refine lv_aload_n hx hb d_Mo_flush_4 rfl (lv_at hl 0 rfl) ?_
  refine va_get (D := D) (ci := 3) (v := .int z1.2.2.2.2.2.2.2.2.2.1) (C := R_Mo) (T := F_Mo) (N := 19) hx hb hts i_Mo hown hK hP 0 rfl rfl 14 (by decide) (hts _ k_243) (fun _ h9 => h9) rfl d_Mo_flush_5 ?_
  refine lv_istore_n (lv' := [(1, .int z1.2.2.2.2.2.2.2.2.2.1), (0, .ref oh)]) hx hb d_Mo_flush_8 rfl hl (by decide) rfl (fun ls hl => ?_)
  refine lv_iconst (v := (0 : Int32)) hx hb d_Mo_flush_9 (by decide) ?_
  refine lv_istore_n (lv' := [(2, .int (0 : Int32)), (1, .int z1.2.2.2.2.2.2.2.2.2.1), (0, .ref oh)]) hx hb d_Mo_flush_10 rfl hl (by decide) rfl (fun ls hl => ?_)
  exact L_11 _ _ _ _ hf _ _ _ hP hD hS (lv_sub hl [2, 1, 0] rfl)
set_option maxHeartbeats 4000000 in
set_option maxRecDepth 100000 in
theorem c_Mo_fail (l : Launch) (D : va_G) (cI cJ cZ : ClassId) (oh o0 o1 o2 o3 o4 o5 o6 o7 o8 o9 o10 o11 o12 : Nat) (N : Nat) (p0 : Int32) (U : K_Mo) (r : (Int32 × K_Mo)) (hf : f_Mo_fail N p0 U = some r) : Cx l y_Mo_fail ws_Mo_fail rm_Mo_fail D vwCl (tyL cI cJ cZ) [.ref oh, .int p0] (w_Mo cI cJ cZ oh o0 o1 o2 o3 o4 o5 o6 o7 o8 o9 o10 o11 o12 U) (oI r.1) (w_Mo cI cJ cZ oh o0 o1 o2 o3 o4 o5 o6 o7 o8 o9 o10 o11 o12 r.2) := by
  unfold f_Mo_fail at hf
  refine Cx.ofW (cc := b_Mo_fail) (maxL := 3) (ret := (some .int)) (by decide) rfl ?_
  intro p e s m below meth c A C0 hP hK hD hA hns hZ
  obtain ⟨hx, hb, hml, hown, hts0, hr, hlocks, hnm, hno⟩ := C0
  have hown : s.vm.findClass R_Mo = some m.cls := hown
  have hts : ∀ w ∈ tb, w.before [.ref oh, .int p0].toArray s = true := fun w h => hts0 w (List.mem_cons_of_mem _ h)
  have hS : va_S A s.heap s.heap [] := va_S.rf
  have hl := lv_entry ([.ref oh, .int p0]) (n := 3) (Nat.le_of_ble_eq_true rfl)
  rw [lg_entry_eq]
  generalize (lg_sl ([.ref oh, .int p0]) ++ List.replicate (3 - (lg_sl ([.ref oh, .int p0])).length) Slot.unset).toArray = ls at hl ⊢
  have hl : lv_has ls 3 [(0, .ref oh), (1, .int p0)] := hl
  refine lv_aload_n hx hb d_Mo_fail_0 rfl (lv_at hl 0 rfl) ?_
  obtain ⟨z1, hz1, hf⟩ := x_bind hf
  refine x_callV (w2 := (w_Mo cI cJ cZ oh o0 o1 o2 o3 o4 o5 o6 o7 o8 o9 o10 o11 o12 z1.2)) ⟨hx, hb, hml, hown, hts⟩ (c_Mo_begun l D cI cJ cZ oh o0 o1 o2 o3 o4 o5 o6 o7 o8 o9 o10 o11 o12 N  U z1 hz1) (x_cwV 0 hts rfl k_284 k_285 k_286 k_246 k_287 (by decide +kernel) ⟨(Nat.le_of_ble_eq_true rfl), (Nat.le_of_ble_eq_true rfl)⟩) hK hP hD hS hA hZ [0, 1, 2, 3, 4, 5, 6, 7, 8, 9, 10, 11, 12, 13] [] [0, 1, 2, 3, 4, 5, 6, 7, 8, 9, 10, 11, 12, 13] (by decide) rfl rfl (by decide) (by decide) (by decide) rfl (ci := 3) rfl rfl rfl hl.1 rfl (Nat.le_of_ble_eq_true rfl) d_Mo_fail_1 ⟨(Nat.le_of_ble_eq_true rfl), (Nat.le_of_ble_eq_true rfl)⟩ (fun H locs hP hD hS => ?_)
  refine W.eq (g2 := F0 m 4 ls []) rfl ?_
  refine lv_iload_n hx hb d_Mo_fail_4 rfl (lv_at hl 1 rfl) ?_
  refine lv_iconst (v := (0 : Int32)) hx hb d_Mo_fail_5 (by decide) ?_
  refine lv_bipush (v := (50 : Int32)) hx hb d_Mo_fail_6 (by decide) ?_
  obtain ⟨z2, hz2, hf⟩ := x_bind hf
  refine x_callS (w2 := (w_Mo cI cJ cZ oh o0 o1 o2 o3 o4 o5 o6 o7 o8 o9 o10 o11 o12 z1.2)) ⟨hx, hb, hml, hown, hts⟩ (c_Mo_in l D cI cJ cZ  N p0 (0 : Int32) (50 : Int32)  z2 hz2) (x_cwS 3 hts rfl k_269 k_270 k_246 k_271 (by decide +kernel) ⟨(Nat.le_of_ble_eq_true rfl), (Nat.le_of_ble_eq_true rfl)⟩) hK hP hD hS hA hZ [] [0, 1, 2, 3, 4, 5, 6, 7, 8, 9, 10, 11, 12, 13] [0, 1, 2, 3, 4, 5, 6, 7, 8, 9, 10, 11, 12, 13] (by decide) rfl rfl (by decide) (by decide) (by decide) rfl rfl hl.1 rfl (Nat.le_of_ble_eq_true rfl) d_Mo_fail_8 ⟨(Nat.le_of_ble_eq_true rfl), (Nat.le_of_ble_eq_true rfl)⟩ (fun H locs hP hD hS => ?_)
  refine W.eq (g2 := F0 m 11 ls [.int z2]) rfl ?_
  refine lv_if_ne (tgt := 20) hx hb d_Mo_fail_11 (by decide) (fun c4 => ?_) (fun c4 => ?_)
  · have hf := x_ifn c4 hf
    refine lv_aload_n hx hb d_Mo_fail_20 rfl (lv_at hl 0 rfl) ?_
    refine va_get (D := D) (ci := 3) (v := .int z1.2.2.2.2.2.2.2.2.2.2.2.1) (C := R_Mo) (T := F_Mo) (N := 19) hx hb hts i_Mo hown hK hP 0 rfl rfl 16 (by decide) (hts _ k_242) (fun _ h9 => h9) rfl d_Mo_fail_21 ?_
    refine lv_istore_n (lv' := [(2, .int z1.2.2.2.2.2.2.2.2.2.2.2.1), (0, .ref oh), (1, .int p0)]) hx hb d_Mo_fail_24 rfl hl (by decide) rfl (fun ls hl => ?_)
    refine lv_aload_n hx hb d_Mo_fail_25 rfl (lv_at hl 1 rfl) ?_
    refine lv_iload_n hx hb d_Mo_fail_26 rfl (lv_at hl 2 rfl) ?_
    refine va_put (D := D) (ci := 3) (v := .int p0) (ty := .int) (C := R_Mo) (T := F_Mo) (N := 19) hx hb hts i_Mo t_Mo t_Mo_ok n_Mo hown hK hP hD hS 0 rfl rfl 16 (by decide) (hts _ k_242) (fun _ h9 => h9) rfl (by decide +kernel) rfl rfl (Nat.le_of_ble_eq_true rfl) d_Mo_fail_27 (fun H locs hP hD hS => ?_)
    have hP : va_P D vwCl (w_Mo cI cJ cZ oh o0 o1 o2 o3 o4 o5 o6 o7 o8 o9 o10 o11 o12 (z1.2.1, (z1.2.2.1, (z1.2.2.2.1, (z1.2.2.2.2.1, (z1.2.2.2.2.2.1, (z1.2.2.2.2.2.2.1, (z1.2.2.2.2.2.2.2.1, (z1.2.2.2.2.2.2.2.2.1, (z1.2.2.2.2.2.2.2.2.2.1, (z1.2.2.2.2.2.2.2.2.2.2.1, (p0, z1.2.2.2.2.2.2.2.2.2.2.2.2)))))))))))) H := hP
    have hD : va_D A (w_Mo cI cJ cZ oh o0 o1 o2 o3 o4 o5 o6 o7 o8 o9 o10 o11 o12 (z1.2.1, (z1.2.2.1, (z1.2.2.2.1, (z1.2.2.2.2.1, (z1.2.2.2.2.2.1, (z1.2.2.2.2.2.2.1, (z1.2.2.2.2.2.2.2.1, (z1.2.2.2.2.2.2.2.2.1, (z1.2.2.2.2.2.2.2.2.2.1, (z1.2.2.2.2.2.2.2.2.2.2.1, (p0, z1.2.2.2.2.2.2.2.2.2.2.2.2)))))))))))) := hD
    refine lv_iload_n hx hb d_Mo_fail_30 rfl (lv_at hl 0 rfl) ?_
    obtain rfl := Option.some.inj hf
    exact x_iret hx hb hr hlocks hK hP hD hS (Nat.le_of_ble_eq_true rfl) (Nat.le_of_ble_eq_true rfl) d_Mo_fail_31
  · have hf := x_ifp c4 hf
    refine lv_aload_n hx hb d_Mo_fail_14 rfl (lv_at hl 0 rfl) ?_
    refine lv_iconst (v := (1 : Int32)) hx hb d_Mo_fail_15 (by decide) ?_
    obtain ⟨z3, hz3, hf⟩ := x_bind hf
    refine x_callV (w2 := (w_Mo cI cJ cZ oh o0 o1 o2 o3 o4 o5 o6 o7 o8 o9 o10 o11 o12 z3.2)) ⟨hx, hb, hml, hown, hts⟩ (c_Mo_raise l D cI cJ cZ oh o0 o1 o2 o3 o4 o5 o6 o7 o8 o9 o10 o11 o12 N (1 : Int32) z1.2 z3 hz3) (x_cwV 1 hts rfl k_272 k_273 k_274 k_246 k_275 (by decide +kernel) ⟨(Nat.le_of_ble_eq_true rfl), (Nat.le_of_ble_eq_true rfl)⟩) hK hP hD hS hA hZ [0, 1, 2, 3, 4, 5, 6, 7, 8, 9, 10, 11, 12, 13] [] [0, 1, 2, 3, 4, 5, 6, 7, 8, 9, 10, 11, 12, 13] (by decide) rfl rfl (by decide) (by decide) (by decide) rfl (ci := 3) rfl rfl rfl hl.1 rfl (Nat.le_of_ble_eq_true rfl) d_Mo_fail_16 ⟨(Nat.le_of_ble_eq_true rfl), (Nat.le_of_ble_eq_true rfl)⟩ (fun H locs hP hD hS => ?_)
    refine W.eq (g2 := F0 m 19 ls [.int z3.1]) rfl ?_
    obtain rfl := Option.some.inj hf
    exact x_iret hx hb hr hlocks hK hP hD hS (Nat.le_of_ble_eq_true rfl) (Nat.le_of_ble_eq_true rfl) d_Mo_fail_19
set_option maxHeartbeats 4000000 in
set_option maxRecDepth 100000 in
theorem c_Mo_crash (l : Launch) (D : va_G) (cI cJ cZ : ClassId) (oh o0 o1 o2 o3 o4 o5 o6 o7 o8 o9 o10 o11 o12 : Nat) (N : Nat) (U : K_Mo) (r : (Int32 × K_Mo)) (hf : f_Mo_crash N U = some r) : Cx l y_Mo_crash ws_Mo_crash rm_Mo_crash D vwCl (tyL cI cJ cZ) [.ref oh] (w_Mo cI cJ cZ oh o0 o1 o2 o3 o4 o5 o6 o7 o8 o9 o10 o11 o12 U) (oI r.1) (w_Mo cI cJ cZ oh o0 o1 o2 o3 o4 o5 o6 o7 o8 o9 o10 o11 o12 r.2) := by
  unfold f_Mo_crash at hf
  refine Cx.ofW (cc := b_Mo_crash) (maxL := 2) (ret := (some .int)) (by decide) rfl ?_
  intro p e s m below meth c A C0 hP hK hD hA hns hZ
  obtain ⟨hx, hb, hml, hown, hts0, hr, hlocks, hnm, hno⟩ := C0
  have hown : s.vm.findClass R_Mo = some m.cls := hown
  have hts : ∀ w ∈ tb, w.before [.ref oh].toArray s = true := fun w h => hts0 w (List.mem_cons_of_mem _ h)
  have hS : va_S A s.heap s.heap [] := va_S.rf
  have hl := lv_entry ([.ref oh]) (n := 2) (Nat.le_of_ble_eq_true rfl)
  rw [lg_entry_eq]
  generalize (lg_sl ([.ref oh]) ++ List.replicate (2 - (lg_sl ([.ref oh])).length) Slot.unset).toArray = ls at hl ⊢
  have hl : lv_has ls 2 [(0, .ref oh)] := hl
  refine lv_aload_n hx hb d_Mo_crash_0 rfl (lv_at hl 0 rfl) ?_
  obtain ⟨z1, hz1, hf⟩ := x_bind hf
  refine x_callV (w2 := (w_Mo cI cJ cZ oh o0 o1 o2 o3 o4 o5 o6 o7 o8 o9 o10 o11 o12 z1.2)) ⟨hx, hb, hml, hown, hts⟩ (c_Mo_begun l D cI cJ cZ oh o0 o1 o2 o3 o4 o5 o6 o7 o8 o9 o10 o11 o12 N  U z1 hz1) (x_cwV 0 hts rfl k_284 k_285 k_286 k_246 k_287 (by decide +kernel) ⟨(Nat.le_of_ble_eq_true rfl), (Nat.le_of_ble_eq_true rfl)⟩) hK hP hD hS hA hZ [0, 1, 2, 3, 4, 5, 6, 7, 8, 9, 10, 11, 12, 13] [] [0, 1, 2, 3, 4, 5, 6, 7, 8, 9, 10, 11, 12, 13] (by decide) rfl rfl (by decide) (by decide) (by decide) rfl (ci := 3) rfl rfl rfl hl.1 rfl (Nat.le_of_ble_eq_true rfl) d_Mo_crash_1 ⟨(Nat.le_of_ble_eq_true rfl), (Nat.le_of_ble_eq_true rfl)⟩ (fun H locs hP hD hS => ?_)
  refine W.eq (g2 := F0 m 4 ls []) rfl ?_
  refine lv_aload_n hx hb d_Mo_crash_4 rfl (lv_at hl 0 rfl) ?_
  obtain ⟨z2, hz2, hf⟩ := x_bind hf
  refine x_callV (w2 := (w_Mo cI cJ cZ oh o0 o1 o2 o3 o4 o5 o6 o7 o8 o9 o10 o11 o12 z2.2)) ⟨hx, hb, hml, hown, hts⟩ (c_Mo_actives l D cI cJ cZ oh o0 o1 o2 o3 o4 o5 o6 o7 o8 o9 o10 o11 o12 N  z1.2 z2 hz2) (x_cwV 0 hts rfl k_280 k_281 k_282 k_246 k_283 (by decide +kernel) ⟨(Nat.le_of_ble_eq_true rfl), (Nat.le_of_ble_eq_true rfl)⟩) hK hP hD hS hA hZ [0, 1, 2, 3, 4, 5, 6, 7, 8, 9, 10, 11, 12, 13] [] [0, 1, 2, 3, 4, 5, 6, 7, 8, 9, 10, 11, 12, 13] (by decide) rfl rfl (by decide) (by decide) (by decide) rfl (ci := 3) rfl rfl rfl hl.1 rfl (Nat.le_of_ble_eq_true rfl) d_Mo_crash_5 ⟨(Nat.le_of_ble_eq_true rfl), (Nat.le_of_ble_eq_true rfl)⟩ (fun H locs hP hD hS => ?_)
  refine W.eq (g2 := F0 m 8 ls [.int z2.1]) rfl ?_
  refine lv_istore_n (lv' := [(1, .int z2.1), (0, .ref oh)]) hx hb d_Mo_crash_8 rfl hl (by decide) rfl (fun ls hl => ?_)
  refine lv_aload_n hx hb d_Mo_crash_9 rfl (lv_at hl 1 rfl) ?_
  obtain ⟨z3, hz3, hf⟩ := x_bind hf
  refine x_callV (w2 := (w_Mo cI cJ cZ oh o0 o1 o2 o3 o4 o5 o6 o7 o8 o9 o10 o11 o12 z3.2)) ⟨hx, hb, hml, hown, hts⟩ (c_Mo_fall l D cI cJ cZ oh o0 o1 o2 o3 o4 o5 o6 o7 o8 o9 o10 o11 o12 N  z2.2 z3 hz3) (x_cwV 0 hts rfl k_248 k_249 k_250 k_246 k_251 (by decide +kernel) ⟨(Nat.le_of_ble_eq_true rfl), (Nat.le_of_ble_eq_true rfl)⟩) hK hP hD hS hA hZ [0, 1, 2, 3, 4, 5, 6, 7, 8, 9, 10, 11, 12, 13] [] [0, 1, 2, 3, 4, 5, 6, 7, 8, 9, 10, 11, 12, 13] (by decide) rfl rfl (by decide) (by decide) (by decide) rfl (ci := 3) rfl rfl rfl hl.1 rfl (Nat.le_of_ble_eq_true rfl) d_Mo_crash_10 ⟨(Nat.le_of_ble_eq_true rfl), (Nat.le_of_ble_eq_true rfl)⟩ (fun H locs hP hD hS => ?_)
  refine W.eq (g2 := F0 m 13 ls []) rfl ?_
  refine lv_iload_n hx hb d_Mo_crash_13 rfl (lv_at hl 0 rfl) ?_
  obtain rfl := Option.some.inj hf
  exact x_iret hx hb hr hlocks hK hP hD hS (Nat.le_of_ble_eq_true rfl) (Nat.le_of_ble_eq_true rfl) d_Mo_crash_14
