set_option maxHeartbeats 8000000 in
set_option maxRecDepth 100000 in
theorem law_loop {p : Program} {l : Launch} {e : Env} {s : State} {m : MethodId} {below : List Frame} {meth : Method} {c : Code} {D : va_G} {cI cJ cZ : ClassId} {b L : Nat} {xs : Nat → Int32} (hL0 : xL l) (C0 : lw_At p s m meth c b L xs) (hK : va_K D vwCl (tyL cI cJ cZ) s) (hZ : xZ (fun q : Nat => s.heap.size ≤ q) s s.heap) (rh sh mh m0 m1 m2 m3 dh d0 d1 d2 d3 ea cb ch be oh o0 o1 o2 o3 o4 o5 o6 o7 o8 o9 o10 o11 o12 ou : Nat) (N c0 s0 : Nat) (hc0 : c0 ≤ 100) (hs0 : s0 ≤ 2000) :
    ∀ (n j : Nat), n + j = 520 → ∀ (x4 : Int32) (U : K_La), f_La_law_23 N xs L n x4 U = some 1 → ∀ (H : Heap) (locs : List Loc) (ls : Array Slot), va_P D vwCl (w_La cI cJ cZ rh sh mh m0 m1 m2 m3 dh d0 d1 d2 d3 ea cb ch be oh o0 o1 o2 o3 o4 o5 o6 o7 o8 o9 o10 o11 o12 ou U) H → va_D (fun q : Nat => s.heap.size ≤ q) (w_La cI cJ cZ rh sh mh m0 m1 m2 m3 dh d0 d1 d2 d3 ea cb ch be oh o0 o1 o2 o3 o4 o5 o6 o7 o8 o9 o10 o11 o12 ou U) → va_S (fun q : Nat => s.heap.size ≤ q) s.heap H locs → lv_has ls 7 [(0, .ref b), (1, .ref rh), (2, .ref oh), (3, .ref ou), (4, .int x4)] → W p l e room_1 s m #[Value.ref b] below meth c H locs (c0 + 4 * j) (s0 + 24 * j) (lw_Z below #[Value.ref b] s) (F0 m 23 ls []) := by
  obtain ⟨hx, hb, hr, hml, hown, hts0, hX, hbl, hlocks, hgv⟩ := C0
  have hown : s.vm.findClass R_La = some m.cls := hown
  have hts : ∀ w ∈ tb, w.before #[Value.ref b] s = true := fun w h => hts0 w (List.mem_filter.mp h).1
  obtain ⟨A, eA⟩ : ∃ A : Nat → Prop, A = fun q : Nat => s.heap.size ≤ q := ⟨_, rfl⟩
  rw [← eA] at hZ ⊢
  have hA : ∀ q : Nat, s.heap.size ≤ q → A q := fun q h => by rw [eA]; exact h
  have hA' : ∀ q : Nat, A q → s.heap.size ≤ q := fun q h => by rw [eA] at h; exact h
  have hbA : ¬ A b := fun h => Nat.not_le.mpr hbl (hA' b h)
  clear eA
  intro n
  induction n with
  | zero =>
    intro j hnj x4 U hf
    have hf : (none : Option Int32) = some 1 := hf
    cases hf
  | succ n ih =>
    intro j hnj x4 U hf H locs ls hP hD hS hl
    rw [f_La_law_23] at hf
    refine lv_iload hx hb d_La_law_23 (lv_at hl 4 rfl) ?_
    refine lv_aload_n hx hb d_La_law_25 rfl (lv_at hl 0 rfl) ?_
    refine va_slen hx hb hX hbl hbA hS d_La_law_26 ?_
    refine lv_iconst (v := (4 : Int32)) hx hb d_La_law_27 (by decide) ?_
    refine lv_isub hx hb d_La_law_28 ?_
    refine lv_icmp_gt (tgt := 889) hx hb d_La_law_29 (by decide) (fun c132 => ?_) (fun c132 => ?_)
    · have hf := x_ifp c132 hf
      refine lv_iconst (v := (1 : Int32)) hx hb d_La_law_889 (by decide) ?_
      refine va_forget (fun q hq => hA' _ (hS.2.2 q hq)) ?_
      refine W.widen (k := 631353) (n := 7202045) (by omega) (by omega) ?_
      exact lw_ret hx hb hr hlocks d_La_law_890
    · have hf := x_ifn c132 hf
      refine lv_aload_n hx hb d_La_law_32 rfl (lv_at hl 0 rfl) ?_
      refine lv_iload hx hb d_La_law_33 (lv_at hl 4 rfl) ?_
      obtain ⟨g1, hf⟩ := x_if hf
      refine va_sld hx hb hX hbl hbA hS (xi_in g1) d_La_law_35 ?_
      refine lv_bipush (v := (15 : Int32)) hx hb d_La_law_36 (by decide) ?_
      refine lv_iand hx hb d_La_law_38 ?_
      by_cases c2 : ((xs x4.toNatClampNeg) &&& (15 : Int32)) = (0 : Int32)
      · have hf := x_ifp c2 hf
        refine lv_tableIn (tgt := 112) hx hb d_La_law_39 (by rw [c2]; decide) (by rw [c2]; decide) (by rw [c2]; rfl) (by decide) ?_
        refine lv_aload_n hx hb d_La_law_112 rfl (lv_at hl 1 rfl) ?_
        refine lv_aload_n hx hb d_La_law_113 rfl (lv_at hl 3 rfl) ?_
        obtain ⟨z3, hz3, hf⟩ := x_bind hf
        refine x_callSW (w2 := (w_La cI cJ cZ rh sh mh m0 m1 m2 m3 dh d0 d1 d2 d3 ea cb ch be oh o0 o1 o2 o3 o4 o5 o6 o7 o8 o9 o10 o11 o12 ou (z3.2.1, (U.2.1, z3.2.2)))) ⟨hx, hb, hml, hown, hts⟩ (c_La_begin l D cI cJ cZ rh sh mh m0 m1 m2 m3 dh d0 d1 d2 d3 ea cb ch be ou hL0 N  (U.1, U.2.2) z3 hz3) (n := 2) rfl k_399 k_400 k_401 k_402 (by decide +kernel) ⟨(by simp only [room_1, rm_La_begin] <;> omega), (by simp only [room_1, rm_La_begin] <;> omega)⟩ hK hP hD hS hA hZ [0, 1, 2, 3, 4, 5, 6, 7, 8, 9, 10, 11, 12, 13, 14, 15, 30] [16, 17, 18, 19, 20, 21, 22, 23, 24, 25, 26, 27, 28, 29] [14, 15, 16, 17, 18, 19, 20, 21, 22, 23, 24, 25, 26, 27, 28, 29, 0, 1, 2, 3, 4, 5, 6, 7, 8, 9, 10, 11, 12, 13, 30] (by decide) rfl rfl (by decide) (by decide) (by decide) rfl rfl hl.1 rfl (Nat.le_of_ble_eq_true rfl) d_La_law_114 ⟨(by simp only [room_1, rm_La_begin] <;> omega), (by simp only [room_1, rm_La_begin] <;> omega)⟩ (fun H locs hP hD hS => ?_)
        refine W.eq (g2 := F0 m 117 ls [.int z3.1]) rfl ?_
        refine lv_istore (lv' := [(5, .int z3.1), (0, .ref b), (1, .ref rh), (2, .ref oh), (3, .ref ou), (4, .int x4)]) hx hb d_La_law_117 hl (by decide) rfl (fun ls hl => ?_)
        refine lv_aload_n hx hb d_La_law_119 rfl (lv_at hl 3 rfl) ?_
        obtain ⟨z4, hz4, hf⟩ := x_bind hf
        refine x_callV (w2 := (w_La cI cJ cZ rh sh mh m0 m1 m2 m3 dh d0 d1 d2 d3 ea cb ch be oh o0 o1 o2 o3 o4 o5 o6 o7 o8 o9 o10 o11 o12 ou (z3.2.1, (z4.2, z3.2.2)))) ⟨hx, hb, hml, hown, hts⟩ (c_Mo_begin l D cI cJ cZ oh o0 o1 o2 o3 o4 o5 o6 o7 o8 o9 o10 o11 o12 N  U.2.1 z4 hz4) (x_cwV 0 hts rfl k_395 k_396 k_397 k_246 k_398 (by decide +kernel) ⟨(by simp only [room_1, rm_La_begin, rm_Mo_begin] <;> omega), (by simp only [room_1, rm_La_begin, rm_Mo_begin] <;> omega)⟩) hK hP hD hS hA hZ [16, 17, 18, 19, 20, 21, 22, 23, 24, 25, 26, 27, 28, 29] [0, 1, 2, 3, 4, 5, 6, 7, 8, 9, 10, 11, 12, 13, 14, 15, 30] [0, 1, 2, 3, 4, 5, 6, 7, 8, 9, 10, 11, 12, 13, 14, 15, 17, 18, 19, 20, 21, 22, 23, 24, 25, 26, 27, 28, 29, 30, 16] (by decide) rfl rfl (by decide) (by decide) (by decide) rfl (ci := 3) rfl rfl rfl hl.1 rfl (Nat.le_of_ble_eq_true rfl) d_La_law_120 ⟨(by simp only [room_1, rm_La_begin, rm_Mo_begin] <;> omega), (by simp only [room_1, rm_La_begin, rm_Mo_begin] <;> omega)⟩ (fun H locs hP hD hS => ?_)
        refine W.eq (g2 := F0 m 123 ls [.int z4.1]) rfl ?_
        refine lv_istore (lv' := [(6, .int z4.1), (5, .int z3.1), (0, .ref b), (1, .ref rh), (2, .ref oh), (3, .ref ou), (4, .int x4)]) hx hb d_La_law_123 hl (by decide) rfl (fun ls hl => ?_)
        refine lv_aload_n hx hb d_La_law_125 rfl (lv_at hl 4 rfl) ?_
        obtain ⟨z5, hz5, hf⟩ := x_bind hf
        refine x_callV (w2 := (w_La cI cJ cZ rh sh mh m0 m1 m2 m3 dh d0 d1 d2 d3 ea cb ch be oh o0 o1 o2 o3 o4 o5 o6 o7 o8 o9 o10 o11 o12 ou (z3.2.1, (z5.2, z3.2.2)))) ⟨hx, hb, hml, hown, hts⟩ (c_Mo_thrown l D cI cJ cZ oh o0 o1 o2 o3 o4 o5 o6 o7 o8 o9 o10 o11 o12 N  z4.2 z5 hz5) (x_cwV 0 hts rfl k_391 k_392 k_393 k_246 k_394 (by decide +kernel) ⟨(by simp only [room_1, rm_La_begin, rm_Mo_begin, rm_Mo_thrown] <;> omega), (by simp only [room_1, rm_La_begin, rm_Mo_begin, rm_Mo_thrown] <;> omega)⟩) hK hP hD hS hA hZ [16, 17, 18, 19, 20, 21, 22, 23, 24, 25, 26, 27, 28, 29] [0, 1, 2, 3, 4, 5, 6, 7, 8, 9, 10, 11, 12, 13, 14, 15, 30] [0, 1, 2, 3, 4, 5, 6, 7, 8, 9, 10, 11, 12, 13, 14, 15, 17, 18, 19, 20, 21, 22, 23, 24, 25, 26, 27, 28, 29, 30, 16] (by decide) rfl rfl (by decide) (by decide) (by decide) rfl (ci := 3) rfl rfl rfl hl.1 rfl (Nat.le_of_ble_eq_true rfl) d_La_law_126 ⟨(by simp only [room_1, rm_La_begin, rm_Mo_begin, rm_Mo_thrown] <;> omega), (by simp only [room_1, rm_La_begin, rm_Mo_begin, rm_Mo_thrown] <;> omega)⟩ (fun H locs hP hD hS => ?_)
        refine W.eq (g2 := F0 m 129 ls [.int z5.1]) rfl ?_
        refine lv_iload hx hb d_La_law_129 (lv_at hl 1 rfl) ?_
        refine lv_icmp_eq (tgt := 136) hx hb d_La_law_131 (by decide) (fun c8 => ?_) (fun c8 => ?_)
        · have hf := x_ifp c8 hf
          refine lv_iload hx hb d_La_law_136 (lv_at hl 1 rfl) ?_
          refine lv_if_ne (tgt := 153) hx hb d_La_law_138 (by decide) (fun c7 => ?_) (fun c7 => ?_)
          · have hf := x_ifn c7 hf
            refine lv_goto (tgt := 883) hx hb d_La_law_153 (by decide) ?_
            refine lv_iinc (v := (x4 + (4 : Int32))) (lv' := [(4, .int (x4 + (4 : Int32))), (6, .int z4.1), (5, .int z3.1), (0, .ref b), (1, .ref rh), (2, .ref oh), (3, .ref ou)]) hx hb d_La_law_883 hl (k := 6) rfl rfl (by decide) rfl (fun ls hl => ?_)
            refine lv_goto (tgt := 23) hx hb d_La_law_886 (by decide) ?_
            refine W.widen (k := c0 + 4 * (j + 1)) (n := s0 + 24 * (j + 1)) (by simp only [rm_La_begin, rm_Mo_begin, rm_Mo_thrown] <;> omega) (by simp only [rm_La_begin, rm_Mo_begin, rm_Mo_thrown] <;> omega) ?_
            exact ih (j + 1) (by omega) _ _ hf _ _ _ hP hD hS (lv_sub hl [3, 4, 5, 6, 0] rfl)
          · have hf := x_ifp c7 hf
            refine lv_aload_n hx hb d_La_law_141 rfl (lv_at hl 5 rfl) ?_
            refine lv_iconst (v := (0 : Int32)) hx hb d_La_law_142 (by decide) ?_
            refine va_lald hx hb hK hP 30 1 rfl rfl (xi_in rfl) d_La_law_143 ?_
            refine lv_iload hx hb d_La_law_144 (lv_at hl 0 rfl) ?_
            refine lv_i2l (v := (z4.1).toInt64) hx hb d_La_law_146 rfl ?_
            refine W.lcmp hx hb d_La_law_147 ?_
            refine lv_if_eq (tgt := 153) hx hb d_La_law_148 (by decide) (fun c6 => ?_) (fun c6 => ?_)
            · have hf := x_ifp c6 hf
              refine lv_goto (tgt := 883) hx hb d_La_law_153 (by decide) ?_
              refine lv_iinc (v := (x4 + (4 : Int32))) (lv' := [(4, .int (x4 + (4 : Int32))), (6, .int z4.1), (5, .int z3.1), (0, .ref b), (1, .ref rh), (2, .ref oh), (3, .ref ou)]) hx hb d_La_law_883 hl (k := 6) rfl rfl (by decide) rfl (fun ls hl => ?_)
              refine lv_goto (tgt := 23) hx hb d_La_law_886 (by decide) ?_
              refine W.widen (k := c0 + 4 * (j + 1)) (n := s0 + 24 * (j + 1)) (by simp only [rm_La_begin, rm_Mo_begin, rm_Mo_thrown] <;> omega) (by simp only [rm_La_begin, rm_Mo_begin, rm_Mo_thrown] <;> omega) ?_
              exact ih (j + 1) (by omega) _ _ hf _ _ _ hP hD hS (lv_sub hl [3, 4, 5, 6, 0] rfl)
            · have hf := x_ifn c6 hf
              refine lv_iconst (v := (0 : Int32)) hx hb d_La_law_151 (by decide) ?_
              exact absurd (Option.some.inj hf) (by decide)
        · have hf := x_ifn c8 hf
          refine lv_iconst (v := (0 : Int32)) hx hb d_La_law_134 (by decide) ?_
          exact absurd (Option.some.inj hf) (by decide)
      have hf := x_ifn c2 hf
      by_cases c9 : ((xs x4.toNatClampNeg) &&& (15 : Int32)) = (1 : Int32)
      · have hf := x_ifp c9 hf
        refine lv_tableIn (tgt := 156) hx hb d_La_law_39 (by rw [c9]; decide) (by rw [c9]; decide) (by rw [c9]; rfl) (by decide) ?_
        refine lv_aload_n hx hb d_La_law_156 rfl (lv_at hl 1 rfl) ?_
        refine lv_aload_n hx hb d_La_law_157 rfl (lv_at hl 0 rfl) ?_
        refine lv_iload hx hb d_La_law_158 (lv_at hl 4 rfl) ?_
        refine lv_iconst (v := (1 : Int32)) hx hb d_La_law_160 (by decide) ?_
        refine lv_iadd hx hb d_La_law_161 ?_
        obtain ⟨g10, hf⟩ := x_if hf
        refine va_sld hx hb hX hbl hbA hS (xi_in g10) d_La_law_162 ?_
        refine lv_aload_n hx hb d_La_law_163 rfl (lv_at hl 0 rfl) ?_
        refine lv_iload hx hb d_La_law_164 (lv_at hl 4 rfl) ?_
        refine lv_iconst (v := (2 : Int32)) hx hb d_La_law_166 (by decide) ?_
        refine lv_iadd hx hb d_La_law_167 ?_
        obtain ⟨g11, hf⟩ := x_if hf
        refine va_sld hx hb hX hbl hbA hS (xi_in g11) d_La_law_168 ?_
        refine lv_aload_n hx hb d_La_law_169 rfl (lv_at hl 3 rfl) ?_
        obtain ⟨z12, hz12, hf⟩ := x_bind hf
        refine x_callSW (w2 := (w_La cI cJ cZ rh sh mh m0 m1 m2 m3 dh d0 d1 d2 d3 ea cb ch be oh o0 o1 o2 o3 o4 o5 o6 o7 o8 o9 o10 o11 o12 ou (z12.2.1, (U.2.1, z12.2.2)))) ⟨hx, hb, hml, hown, hts⟩ (c_La_read l D cI cJ cZ rh sh mh m0 m1 m2 m3 dh d0 d1 d2 d3 ea cb ch be ou hL0 N (xs (x4 + (1 : Int32)).toNatClampNeg) (xs (x4 + (2 : Int32)).toNatClampNeg) (U.1, U.2.2) z12 hz12) (n := 4) rfl k_407 k_408 k_401 k_409 (by decide +kernel) ⟨(by simp only [room_1, rm_La_read] <;> omega), (by simp only [room_1, rm_La_read] <;> omega)⟩ hK hP hD hS hA hZ [0, 1, 2, 3, 4, 5, 6, 7, 8, 9, 10, 11, 12, 13, 14, 15, 30] [16, 17, 18, 19, 20, 21, 22, 23, 24, 25, 26, 27, 28, 29] [14, 15, 16, 17, 18, 19, 20, 21, 22, 23, 24, 25, 26, 27, 28, 29, 0, 1, 2, 3, 4, 5, 6, 7, 8, 9, 10, 11, 12, 13, 30] (by decide) rfl rfl (by decide) (by decide) (by decide) rfl rfl hl.1 rfl (Nat.le_of_ble_eq_true rfl) d_La_law_170 ⟨(by simp only [room_1, rm_La_read] <;> omega), (by simp only [room_1, rm_La_read] <;> omega)⟩ (fun H locs hP hD hS => ?_)
        refine W.eq (g2 := F0 m 173 ls [.int z12.1]) rfl ?_
        refine lv_istore (lv' := [(5, .int z12.1), (0, .ref b), (1, .ref rh), (2, .ref oh), (3, .ref ou), (4, .int x4)]) hx hb d_La_law_173 hl (by decide) rfl (fun ls hl => ?_)
        refine lv_aload_n hx hb d_La_law_175 rfl (lv_at hl 3 rfl) ?_
        refine lv_aload_n hx hb d_La_law_176 rfl (lv_at hl 1 rfl) ?_
        refine lv_iload hx hb d_La_law_177 (lv_at hl 5 rfl) ?_
        refine lv_iconst (v := (1 : Int32)) hx hb d_La_law_179 (by decide) ?_
        refine lv_iadd hx hb d_La_law_180 ?_
        obtain ⟨g13, hf⟩ := x_if hf
        refine va_sld hx hb hX hbl hbA hS (xi_in g13) d_La_law_181 ?_
        refine lv_aload_n hx hb d_La_law_182 rfl (lv_at hl 1 rfl) ?_
        refine lv_iload hx hb d_La_law_183 (lv_at hl 5 rfl) ?_
        refine lv_iconst (v := (2 : Int32)) hx hb d_La_law_185 (by decide) ?_
        refine lv_iadd hx hb d_La_law_186 ?_
        obtain ⟨g14, hf⟩ := x_if hf
        refine va_sld hx hb hX hbl hbA hS (xi_in g14) d_La_law_187 ?_
        obtain ⟨z15, hz15, hf⟩ := x_bind hf
        refine x_callV (w2 := (w_La cI cJ cZ rh sh mh m0 m1 m2 m3 dh d0 d1 d2 d3 ea cb ch be oh o0 o1 o2 o3 o4 o5 o6 o7 o8 o9 o10 o11 o12 ou (z12.2.1, (z15.2, z12.2.2)))) ⟨hx, hb, hml, hown, hts⟩ (c_Mo_read l D cI cJ cZ oh o0 o1 o2 o3 o4 o5 o6 o7 o8 o9 o10 o11 o12 N (xs (x4 + (1 : Int32)).toNatClampNeg) (xs (x4 + (2 : Int32)).toNatClampNeg) U.2.1 z15 hz15) (x_cwV 2 hts rfl k_403 k_404 k_405 k_246 k_406 (by decide +kernel) ⟨(by simp only [room_1, rm_La_read, rm_Mo_read] <;> omega), (by simp only [room_1, rm_La_read, rm_Mo_read] <;> omega)⟩) hK hP hD hS hA hZ [16, 17, 18, 19, 20, 21, 22, 23, 24, 25, 26, 27, 28, 29] [0, 1, 2, 3, 4, 5, 6, 7, 8, 9, 10, 11, 12, 13, 14, 15, 30] [0, 1, 2, 3, 4, 5, 6, 7, 8, 9, 10, 11, 12, 13, 14, 15, 17, 18, 19, 20, 21, 22, 23, 24, 25, 26, 27, 28, 29, 30, 16] (by decide) rfl rfl (by decide) (by decide) (by decide) rfl (ci := 3) rfl rfl rfl hl.1 rfl (Nat.le_of_ble_eq_true rfl) d_La_law_188 ⟨(by simp only [room_1, rm_La_read, rm_Mo_read] <;> omega), (by simp only [room_1, rm_La_read, rm_Mo_read] <;> omega)⟩ (fun H locs hP hD hS => ?_)
        refine W.eq (g2 := F0 m 191 ls [.int z15.1]) rfl ?_
        refine lv_istore (lv' := [(6, .int z15.1), (5, .int z12.1), (0, .ref b), (1, .ref rh), (2, .ref oh), (3, .ref ou), (4, .int x4)]) hx hb d_La_law_191 hl (by decide) rfl (fun ls hl => ?_)
        refine lv_aload_n hx hb d_La_law_193 rfl (lv_at hl 4 rfl) ?_
        obtain ⟨z16, hz16, hf⟩ := x_bind hf
        refine x_callV (w2 := (w_La cI cJ cZ rh sh mh m0 m1 m2 m3 dh d0 d1 d2 d3 ea cb ch be oh o0 o1 o2 o3 o4 o5 o6 o7 o8 o9 o10 o11 o12 ou (z12.2.1, (z16.2, z12.2.2)))) ⟨hx, hb, hml, hown, hts⟩ (c_Mo_thrown l D cI cJ cZ oh o0 o1 o2 o3 o4 o5 o6 o7 o8 o9 o10 o11 o12 N  z15.2 z16 hz16) (x_cwV 0 hts rfl k_391 k_392 k_393 k_246 k_394 (by decide +kernel) ⟨(by simp only [room_1, rm_La_read, rm_Mo_read, rm_Mo_thrown] <;> omega), (by simp only [room_1, rm_La_read, rm_Mo_read, rm_Mo_thrown] <;> omega)⟩) hK hP hD hS hA hZ [16, 17, 18, 19, 20, 21, 22, 23, 24, 25, 26, 27, 28, 29] [0, 1, 2, 3, 4, 5, 6, 7, 8, 9, 10, 11, 12, 13, 14, 15, 30] [0, 1, 2, 3, 4, 5, 6, 7, 8, 9, 10, 11, 12, 13, 14, 15, 17, 18, 19, 20, 21, 22, 23, 24, 25, 26, 27, 28, 29, 30, 16] (by decide) rfl rfl (by decide) (by decide) (by decide) rfl (ci := 3) rfl rfl rfl hl.1 rfl (Nat.le_of_ble_eq_true rfl) d_La_law_194 ⟨(by simp only [room_1, rm_La_read, rm_Mo_read, rm_Mo_thrown] <;> omega), (by simp only [room_1, rm_La_read, rm_Mo_read, rm_Mo_thrown] <;> omega)⟩ (fun H locs hP hD hS => ?_)
        refine W.eq (g2 := F0 m 197 ls [.int z16.1]) rfl ?_
        refine lv_iload hx hb d_La_law_197 (lv_at hl 1 rfl) ?_
        refine lv_icmp_eq (tgt := 204) hx hb d_La_law_199 (by decide) (fun c19 => ?_) (fun c19 => ?_)
        · have hf := x_ifp c19 hf
          refine lv_iload hx hb d_La_law_204 (lv_at hl 1 rfl) ?_
          refine lv_if_ne (tgt := 221) hx hb d_La_law_206 (by decide) (fun c18 => ?_) (fun c18 => ?_)
          · have hf := x_ifn c18 hf
            refine lv_goto (tgt := 883) hx hb d_La_law_221 (by decide) ?_
            refine lv_iinc (v := (x4 + (4 : Int32))) (lv' := [(4, .int (x4 + (4 : Int32))), (6, .int z15.1), (5, .int z12.1), (0, .ref b), (1, .ref rh), (2, .ref oh), (3, .ref ou)]) hx hb d_La_law_883 hl (k := 6) rfl rfl (by decide) rfl (fun ls hl => ?_)
            refine lv_goto (tgt := 23) hx hb d_La_law_886 (by decide) ?_
            refine W.widen (k := c0 + 4 * (j + 1)) (n := s0 + 24 * (j + 1)) (by simp only [rm_La_read, rm_Mo_read, rm_Mo_thrown] <;> omega) (by simp only [rm_La_read, rm_Mo_read, rm_Mo_thrown] <;> omega) ?_
            exact ih (j + 1) (by omega) _ _ hf _ _ _ hP hD hS (lv_sub hl [3, 4, 5, 6, 0] rfl)
          · have hf := x_ifp c18 hf
            refine lv_aload_n hx hb d_La_law_209 rfl (lv_at hl 5 rfl) ?_
            refine lv_iconst (v := (0 : Int32)) hx hb d_La_law_210 (by decide) ?_
            refine va_lald hx hb hK hP 30 1 rfl rfl (xi_in rfl) d_La_law_211 ?_
            refine lv_iload hx hb d_La_law_212 (lv_at hl 0 rfl) ?_
            refine lv_i2l (v := (z15.1).toInt64) hx hb d_La_law_214 rfl ?_
            refine W.lcmp hx hb d_La_law_215 ?_
            refine lv_if_eq (tgt := 221) hx hb d_La_law_216 (by decide) (fun c17 => ?_) (fun c17 => ?_)
            · have hf := x_ifp c17 hf
              refine lv_goto (tgt := 883) hx hb d_La_law_221 (by decide) ?_
              refine lv_iinc (v := (x4 + (4 : Int32))) (lv' := [(4, .int (x4 + (4 : Int32))), (6, .int z15.1), (5, .int z12.1), (0, .ref b), (1, .ref rh), (2, .ref oh), (3, .ref ou)]) hx hb d_La_law_883 hl (k := 6) rfl rfl (by decide) rfl (fun ls hl => ?_)
              refine lv_goto (tgt := 23) hx hb d_La_law_886 (by decide) ?_
              refine W.widen (k := c0 + 4 * (j + 1)) (n := s0 + 24 * (j + 1)) (by simp only [rm_La_read, rm_Mo_read, rm_Mo_thrown] <;> omega) (by simp only [rm_La_read, rm_Mo_read, rm_Mo_thrown] <;> omega) ?_
              exact ih (j + 1) (by omega) _ _ hf _ _ _ hP hD hS (lv_sub hl [3, 4, 5, 6, 0] rfl)
            · have hf := x_ifn c17 hf
              refine lv_iconst (v := (0 : Int32)) hx hb d_La_law_219 (by decide) ?_
              exact absurd (Option.some.inj hf) (by decide)
        · have hf := x_ifn c19 hf
          refine lv_iconst (v := (0 : Int32)) hx hb d_La_law_202 (by decide) ?_
          exact absurd (Option.some.inj hf) (by decide)
      have hf := x_ifn c9 hf
      by_cases c20 : ((xs x4.toNatClampNeg) &&& (15 : Int32)) = (2 : Int32)
      · have hf := x_ifp c20 hf
        refine lv_tableIn (tgt := 224) hx hb d_La_law_39 (by rw [c20]; decide) (by rw [c20]; decide) (by rw [c20]; rfl) (by decide) ?_
        refine lv_aload_n hx hb d_La_law_224 rfl (lv_at hl 1 rfl) ?_
        refine lv_aload_n hx hb d_La_law_225 rfl (lv_at hl 0 rfl) ?_
        refine lv_iload hx hb d_La_law_226 (lv_at hl 4 rfl) ?_
        refine lv_iconst (v := (1 : Int32)) hx hb d_La_law_228 (by decide) ?_
        refine lv_iadd hx hb d_La_law_229 ?_
        obtain ⟨g21, hf⟩ := x_if hf
        refine va_sld hx hb hX hbl hbA hS (xi_in g21) d_La_law_230 ?_
        refine lv_aload_n hx hb d_La_law_231 rfl (lv_at hl 0 rfl) ?_
        refine lv_iload hx hb d_La_law_232 (lv_at hl 4 rfl) ?_
        refine lv_iconst (v := (2 : Int32)) hx hb d_La_law_234 (by decide) ?_
        refine lv_iadd hx hb d_La_law_235 ?_
        obtain ⟨g22, hf⟩ := x_if hf
        refine va_sld hx hb hX hbl hbA hS (xi_in g22) d_La_law_236 ?_
        refine lv_aload_n hx hb d_La_law_237 rfl (lv_at hl 0 rfl) ?_
        refine lv_iload hx hb d_La_law_238 (lv_at hl 4 rfl) ?_
        refine lv_iconst (v := (3 : Int32)) hx hb d_La_law_240 (by decide) ?_
        refine lv_iadd hx hb d_La_law_241 ?_
        obtain ⟨g23, hf⟩ := x_if hf
        refine va_sld hx hb hX hbl hbA hS (xi_in g23) d_La_law_242 ?_
        refine lv_aload_n hx hb d_La_law_243 rfl (lv_at hl 3 rfl) ?_
        obtain ⟨z24, hz24, hf⟩ := x_bind hf
        refine x_callSW (w2 := (w_La cI cJ cZ rh sh mh m0 m1 m2 m3 dh d0 d1 d2 d3 ea cb ch be oh o0 o1 o2 o3 o4 o5 o6 o7 o8 o9 o10 o11 o12 ou (z24.2.1, (U.2.1, z24.2.2)))) ⟨hx, hb, hml, hown, hts⟩ (c_La_write l D cI cJ cZ rh sh mh m0 m1 m2 m3 dh d0 d1 d2 d3 ea cb ch be ou hL0 N (xs (x4 + (1 : Int32)).toNatClampNeg) (xs (x4 + (2 : Int32)).toNatClampNeg) (xs (x4 + (3 : Int32)).toNatClampNeg) (U.1, U.2.2) z24 hz24) (n := 5) rfl k_414 k_415 k_401 k_416 (by decide +kernel) ⟨(by simp only [room_1, rm_La_write] <;> omega), (by simp only [room_1, rm_La_write] <;> omega)⟩ hK hP hD hS hA hZ [0, 1, 2, 3, 4, 5, 6, 7, 8, 9, 10, 11, 12, 13, 14, 15, 30] [16, 17, 18, 19, 20, 21, 22, 23, 24, 25, 26, 27, 28, 29] [14, 15, 16, 17, 18, 19, 20, 21, 22, 23, 24, 25, 26, 27, 28, 29, 0, 1, 2, 3, 4, 5, 6, 7, 8, 9, 10, 11, 12, 13, 30] (by decide) rfl rfl (by decide) (by decide) (by decide) rfl rfl hl.1 rfl (Nat.le_of_ble_eq_true rfl) d_La_law_244 ⟨(by simp only [room_1, rm_La_write] <;> omega), (by simp only [room_1, rm_La_write] <;> omega)⟩ (fun H locs hP hD hS => ?_)
        refine W.eq (g2 := F0 m 247 ls [.int z24.1]) rfl ?_
        refine lv_istore (lv' := [(5, .int z24.1), (0, .ref b), (1, .ref rh), (2, .ref oh), (3, .ref ou), (4, .int x4)]) hx hb d_La_law_247 hl (by decide) rfl (fun ls hl => ?_)
        refine lv_aload_n hx hb d_La_law_249 rfl (lv_at hl 3 rfl) ?_
        refine lv_aload_n hx hb d_La_law_250 rfl (lv_at hl 1 rfl) ?_
        refine lv_iload hx hb d_La_law_251 (lv_at hl 5 rfl) ?_
        refine lv_iconst (v := (1 : Int32)) hx hb d_La_law_253 (by decide) ?_
        refine lv_iadd hx hb d_La_law_254 ?_
        obtain ⟨g25, hf⟩ := x_if hf
        refine va_sld hx hb hX hbl hbA hS (xi_in g25) d_La_law_255 ?_
        refine lv_aload_n hx hb d_La_law_256 rfl (lv_at hl 1 rfl) ?_
        refine lv_iload hx hb d_La_law_257 (lv_at hl 5 rfl) ?_
        refine lv_iconst (v := (2 : Int32)) hx hb d_La_law_259 (by decide) ?_
        refine lv_iadd hx hb d_La_law_260 ?_
        obtain ⟨g26, hf⟩ := x_if hf
        refine va_sld hx hb hX hbl hbA hS (xi_in g26) d_La_law_261 ?_
        refine lv_aload_n hx hb d_La_law_262 rfl (lv_at hl 1 rfl) ?_
        refine lv_iload hx hb d_La_law_263 (lv_at hl 5 rfl) ?_
        refine lv_iconst (v := (3 : Int32)) hx hb d_La_law_265 (by decide) ?_
        refine lv_iadd hx hb d_La_law_266 ?_
        obtain ⟨g27, hf⟩ := x_if hf
        refine va_sld hx hb hX hbl hbA hS (xi_in g27) d_La_law_267 ?_
        obtain ⟨z28, hz28, hf⟩ := x_bind hf
        refine x_callV (w2 := (w_La cI cJ cZ rh sh mh m0 m1 m2 m3 dh d0 d1 d2 d3 ea cb ch be oh o0 o1 o2 o3 o4 o5 o6 o7 o8 o9 o10 o11 o12 ou (z24.2.1, (z28.2, z24.2.2)))) ⟨hx, hb, hml, hown, hts⟩ (c_Mo_write l D cI cJ cZ oh o0 o1 o2 o3 o4 o5 o6 o7 o8 o9 o10 o11 o12 N (xs (x4 + (1 : Int32)).toNatClampNeg) (xs (x4 + (2 : Int32)).toNatClampNeg) (xs (x4 + (3 : Int32)).toNatClampNeg) U.2.1 z28 hz28) (x_cwV 3 hts rfl k_410 k_411 k_412 k_246 k_413 (by decide +kernel) ⟨(by simp only [room_1, rm_La_write, rm_Mo_write] <;> omega), (by simp only [room_1, rm_La_write, rm_Mo_write] <;> omega)⟩) hK hP hD hS hA hZ [16, 17, 18, 19, 20, 21, 22, 23, 24, 25, 26, 27, 28, 29] [0, 1, 2, 3, 4, 5, 6, 7, 8, 9, 10, 11, 12, 13, 14, 15, 30] [0, 1, 2, 3, 4, 5, 6, 7, 8, 9, 10, 11, 12, 13, 14, 15, 17, 18, 19, 20, 21, 22, 23, 24, 25, 26, 27, 28, 29, 30, 16] (by decide) rfl rfl (by decide) (by decide) (by decide) rfl (ci := 3) rfl rfl rfl hl.1 rfl (Nat.le_of_ble_eq_true rfl) d_La_law_268 ⟨(by simp only [room_1, rm_La_write, rm_Mo_write] <;> omega), (by simp only [room_1, rm_La_write, rm_Mo_write] <;> omega)⟩ (fun H locs hP hD hS => ?_)
        refine W.eq (g2 := F0 m 271 ls [.int z28.1]) rfl ?_
        refine lv_istore (lv' := [(6, .int z28.1), (5, .int z24.1), (0, .ref b), (1, .ref rh), (2, .ref oh), (3, .ref ou), (4, .int x4)]) hx hb d_La_law_271 hl (by decide) rfl (fun ls hl => ?_)
        refine lv_aload_n hx hb d_La_law_273 rfl (lv_at hl 4 rfl) ?_
        obtain ⟨z29, hz29, hf⟩ := x_bind hf
        refine x_callV (w2 := (w_La cI cJ cZ rh sh mh m0 m1 m2 m3 dh d0 d1 d2 d3 ea cb ch be oh o0 o1 o2 o3 o4 o5 o6 o7 o8 o9 o10 o11 o12 ou (z24.2.1, (z29.2, z24.2.2)))) ⟨hx, hb, hml, hown, hts⟩ (c_Mo_thrown l D cI cJ cZ oh o0 o1 o2 o3 o4 o5 o6 o7 o8 o9 o10 o11 o12 N  z28.2 z29 hz29) (x_cwV 0 hts rfl k_391 k_392 k_393 k_246 k_394 (by decide +kernel) ⟨(by simp only [room_1, rm_La_write, rm_Mo_thrown, rm_Mo_write] <;> omega), (by simp only [room_1, rm_La_write, rm_Mo_thrown, rm_Mo_write] <;> omega)⟩) hK hP hD hS hA hZ [16, 17, 18, 19, 20, 21, 22, 23, 24, 25, 26, 27, 28, 29] [0, 1, 2, 3, 4, 5, 6, 7, 8, 9, 10, 11, 12, 13, 14, 15, 30] [0, 1, 2, 3, 4, 5, 6, 7, 8, 9, 10, 11, 12, 13, 14, 15, 17, 18, 19, 20, 21, 22, 23, 24, 25, 26, 27, 28, 29, 30, 16] (by decide) rfl rfl (by decide) (by decide) (by decide) rfl (ci := 3) rfl rfl rfl hl.1 rfl (Nat.le_of_ble_eq_true rfl) d_La_law_274 ⟨(by simp only [room_1, rm_La_write, rm_Mo_thrown, rm_Mo_write] <;> omega), (by simp only [room_1, rm_La_write, rm_Mo_thrown, rm_Mo_write] <;> omega)⟩ (fun H locs hP hD hS => ?_)
        refine W.eq (g2 := F0 m 277 ls [.int z29.1]) rfl ?_
        refine lv_iload hx hb d_La_law_277 (lv_at hl 1 rfl) ?_
        refine lv_icmp_eq (tgt := 284) hx hb d_La_law_279 (by decide) (fun c32 => ?_) (fun c32 => ?_)
        · have hf := x_ifp c32 hf
          refine lv_iload hx hb d_La_law_284 (lv_at hl 1 rfl) ?_
          refine lv_if_ne (tgt := 301) hx hb d_La_law_286 (by decide) (fun c31 => ?_) (fun c31 => ?_)
          · have hf := x_ifn c31 hf
            refine lv_goto (tgt := 883) hx hb d_La_law_301 (by decide) ?_
            refine lv_iinc (v := (x4 + (4 : Int32))) (lv' := [(4, .int (x4 + (4 : Int32))), (6, .int z28.1), (5, .int z24.1), (0, .ref b), (1, .ref rh), (2, .ref oh), (3, .ref ou)]) hx hb d_La_law_883 hl (k := 6) rfl rfl (by decide) rfl (fun ls hl => ?_)
            refine lv_goto (tgt := 23) hx hb d_La_law_886 (by decide) ?_
            refine W.widen (k := c0 + 4 * (j + 1)) (n := s0 + 24 * (j + 1)) (by simp only [rm_La_write, rm_Mo_thrown, rm_Mo_write] <;> omega) (by simp only [rm_La_write, rm_Mo_thrown, rm_Mo_write] <;> omega) ?_
            exact ih (j + 1) (by omega) _ _ hf _ _ _ hP hD hS (lv_sub hl [3, 4, 5, 6, 0] rfl)
          · have hf := x_ifp c31 hf
            refine lv_aload_n hx hb d_La_law_289 rfl (lv_at hl 5 rfl) ?_
            refine lv_iconst (v := (0 : Int32)) hx hb d_La_law_290 (by decide) ?_
            refine va_lald hx hb hK hP 30 1 rfl rfl (xi_in rfl) d_La_law_291 ?_
            refine lv_iload hx hb d_La_law_292 (lv_at hl 0 rfl) ?_
            refine lv_i2l (v := (z28.1).toInt64) hx hb d_La_law_294 rfl ?_
            refine W.lcmp hx hb d_La_law_295 ?_
            refine lv_if_eq (tgt := 301) hx hb d_La_law_296 (by decide) (fun c30 => ?_) (fun c30 => ?_)
            · have hf := x_ifp c30 hf
              refine lv_goto (tgt := 883) hx hb d_La_law_301 (by decide) ?_
              refine lv_iinc (v := (x4 + (4 : Int32))) (lv' := [(4, .int (x4 + (4 : Int32))), (6, .int z28.1), (5, .int z24.1), (0, .ref b), (1, .ref rh), (2, .ref oh), (3, .ref ou)]) hx hb d_La_law_883 hl (k := 6) rfl rfl (by decide) rfl (fun ls hl => ?_)
              refine lv_goto (tgt := 23) hx hb d_La_law_886 (by decide) ?_
              refine W.widen (k := c0 + 4 * (j + 1)) (n := s0 + 24 * (j + 1)) (by simp only [rm_La_write, rm_Mo_thrown, rm_Mo_write] <;> omega) (by simp only [rm_La_write, rm_Mo_thrown, rm_Mo_write] <;> omega) ?_
              exact ih (j + 1) (by omega) _ _ hf _ _ _ hP hD hS (lv_sub hl [3, 4, 5, 6, 0] rfl)
            · have hf := x_ifn c30 hf
              refine lv_iconst (v := (0 : Int32)) hx hb d_La_law_299 (by decide) ?_
              exact absurd (Option.some.inj hf) (by decide)
        · have hf := x_ifn c32 hf
          refine lv_iconst (v := (0 : Int32)) hx hb d_La_law_282 (by decide) ?_
          exact absurd (Option.some.inj hf) (by decide)
      have hf := x_ifn c20 hf
      by_cases c33 : ((xs x4.toNatClampNeg) &&& (15 : Int32)) = (3 : Int32)
      · have hf := x_ifp c33 hf
        refine lv_tableIn (tgt := 304) hx hb d_La_law_39 (by rw [c33]; decide) (by rw [c33]; decide) (by rw [c33]; rfl) (by decide) ?_
        refine lv_aload_n hx hb d_La_law_304 rfl (lv_at hl 1 rfl) ?_
        refine lv_aload_n hx hb d_La_law_305 rfl (lv_at hl 0 rfl) ?_
        refine lv_iload hx hb d_La_law_306 (lv_at hl 4 rfl) ?_
        refine lv_iconst (v := (1 : Int32)) hx hb d_La_law_308 (by decide) ?_
        refine lv_iadd hx hb d_La_law_309 ?_
        obtain ⟨g34, hf⟩ := x_if hf
        refine va_sld hx hb hX hbl hbA hS (xi_in g34) d_La_law_310 ?_
        refine lv_aload_n hx hb d_La_law_311 rfl (lv_at hl 0 rfl) ?_
        refine lv_iload hx hb d_La_law_312 (lv_at hl 4 rfl) ?_
        refine lv_iconst (v := (2 : Int32)) hx hb d_La_law_314 (by decide) ?_
        refine lv_iadd hx hb d_La_law_315 ?_
        obtain ⟨g35, hf⟩ := x_if hf
        refine va_sld hx hb hX hbl hbA hS (xi_in g35) d_La_law_316 ?_
        refine lv_aload_n hx hb d_La_law_317 rfl (lv_at hl 3 rfl) ?_
        obtain ⟨z36, hz36, hf⟩ := x_bind hf
        refine x_callSW (w2 := (w_La cI cJ cZ rh sh mh m0 m1 m2 m3 dh d0 d1 d2 d3 ea cb ch be oh o0 o1 o2 o3 o4 o5 o6 o7 o8 o9 o10 o11 o12 ou (z36.2.1, (U.2.1, z36.2.2)))) ⟨hx, hb, hml, hown, hts⟩ (c_La_erase l D cI cJ cZ rh sh mh m0 m1 m2 m3 dh d0 d1 d2 d3 ea cb ch be ou hL0 N (xs (x4 + (1 : Int32)).toNatClampNeg) (xs (x4 + (2 : Int32)).toNatClampNeg) (U.1, U.2.2) z36 hz36) (n := 4) rfl k_421 k_422 k_401 k_423 (by decide +kernel) ⟨(by simp only [room_1, rm_La_erase] <;> omega), (by simp only [room_1, rm_La_erase] <;> omega)⟩ hK hP hD hS hA hZ [0, 1, 2, 3, 4, 5, 6, 7, 8, 9, 10, 11, 12, 13, 14, 15, 30] [16, 17, 18, 19, 20, 21, 22, 23, 24, 25, 26, 27, 28, 29] [14, 15, 16, 17, 18, 19, 20, 21, 22, 23, 24, 25, 26, 27, 28, 29, 0, 1, 2, 3, 4, 5, 6, 7, 8, 9, 10, 11, 12, 13, 30] (by decide) rfl rfl (by decide) (by decide) (by decide) rfl rfl hl.1 rfl (Nat.le_of_ble_eq_true rfl) d_La_law_318 ⟨(by simp only [room_1, rm_La_erase] <;> omega), (by simp only [room_1, rm_La_erase] <;> omega)⟩ (fun H locs hP hD hS => ?_)
        refine W.eq (g2 := F0 m 321 ls [.int z36.1]) rfl ?_
        refine lv_istore (lv' := [(5, .int z36.1), (0, .ref b), (1, .ref rh), (2, .ref oh), (3, .ref ou), (4, .int x4)]) hx hb d_La_law_321 hl (by decide) rfl (fun ls hl => ?_)
        refine lv_aload_n hx hb d_La_law_323 rfl (lv_at hl 3 rfl) ?_
        refine lv_aload_n hx hb d_La_law_324 rfl (lv_at hl 1 rfl) ?_
        refine lv_iload hx hb d_La_law_325 (lv_at hl 5 rfl) ?_
        refine lv_iconst (v := (1 : Int32)) hx hb d_La_law_327 (by decide) ?_
        refine lv_iadd hx hb d_La_law_328 ?_
        obtain ⟨g37, hf⟩ := x_if hf
        refine va_sld hx hb hX hbl hbA hS (xi_in g37) d_La_law_329 ?_
        refine lv_aload_n hx hb d_La_law_330 rfl (lv_at hl 1 rfl) ?_
        refine lv_iload hx hb d_La_law_331 (lv_at hl 5 rfl) ?_
        refine lv_iconst (v := (2 : Int32)) hx hb d_La_law_333 (by decide) ?_
        refine lv_iadd hx hb d_La_law_334 ?_
        obtain ⟨g38, hf⟩ := x_if hf
        refine va_sld hx hb hX hbl hbA hS (xi_in g38) d_La_law_335 ?_
        obtain ⟨z39, hz39, hf⟩ := x_bind hf
        refine x_callV (w2 := (w_La cI cJ cZ rh sh mh m0 m1 m2 m3 dh d0 d1 d2 d3 ea cb ch be oh o0 o1 o2 o3 o4 o5 o6 o7 o8 o9 o10 o11 o12 ou (z36.2.1, (z39.2, z36.2.2)))) ⟨hx, hb, hml, hown, hts⟩ (c_Mo_erase l D cI cJ cZ oh o0 o1 o2 o3 o4 o5 o6 o7 o8 o9 o10 o11 o12 N (xs (x4 + (1 : Int32)).toNatClampNeg) (xs (x4 + (2 : Int32)).toNatClampNeg) U.2.1 z39 hz39) (x_cwV 2 hts rfl k_417 k_418 k_419 k_246 k_420 (by decide +kernel) ⟨(by simp only [room_1, rm_La_erase, rm_Mo_erase] <;> omega), (by simp only [room_1, rm_La_erase, rm_Mo_erase] <;> omega)⟩) hK hP hD hS hA hZ [16, 17, 18, 19, 20, 21, 22, 23, 24, 25, 26, 27, 28, 29] [0, 1, 2, 3, 4, 5, 6, 7, 8, 9, 10, 11, 12, 13, 14, 15, 30] [0, 1, 2, 3, 4, 5, 6, 7, 8, 9, 10, 11, 12, 13, 14, 15, 17, 18, 19, 20, 21, 22, 23, 24, 25, 26, 27, 28, 29, 30, 16] (by decide) rfl rfl (by decide) (by decide) (by decide) rfl (ci := 3) rfl rfl rfl hl.1 rfl (Nat.le_of_ble_eq_true rfl) d_La_law_336 ⟨(by simp only [room_1, rm_La_erase, rm_Mo_erase] <;> omega), (by simp only [room_1, rm_La_erase, rm_Mo_erase] <;> omega)⟩ (fun H locs hP hD hS => ?_)
        refine W.eq (g2 := F0 m 339 ls [.int z39.1]) rfl ?_
        refine lv_istore (lv' := [(6, .int z39.1), (5, .int z36.1), (0, .ref b), (1, .ref rh), (2, .ref oh), (3, .ref ou), (4, .int x4)]) hx hb d_La_law_339 hl (by decide) rfl (fun ls hl => ?_)
        refine lv_aload_n hx hb d_La_law_341 rfl (lv_at hl 4 rfl) ?_
        obtain ⟨z40, hz40, hf⟩ := x_bind hf
        refine x_callV (w2 := (w_La cI cJ cZ rh sh mh m0 m1 m2 m3 dh d0 d1 d2 d3 ea cb ch be oh o0 o1 o2 o3 o4 o5 o6 o7 o8 o9 o10 o11 o12 ou (z36.2.1, (z40.2, z36.2.2)))) ⟨hx, hb, hml, hown, hts⟩ (c_Mo_thrown l D cI cJ cZ oh o0 o1 o2 o3 o4 o5 o6 o7 o8 o9 o10 o11 o12 N  z39.2 z40 hz40) (x_cwV 0 hts rfl k_391 k_392 k_393 k_246 k_394 (by decide +kernel) ⟨(by simp only [room_1, rm_La_erase, rm_Mo_erase, rm_Mo_thrown] <;> omega), (by simp only [room_1, rm_La_erase, rm_Mo_erase, rm_Mo_thrown] <;> omega)⟩) hK hP hD hS hA hZ [16, 17, 18, 19, 20, 21, 22, 23, 24, 25, 26, 27, 28, 29] [0, 1, 2, 3, 4, 5, 6, 7, 8, 9, 10, 11, 12, 13, 14, 15, 30] [0, 1, 2, 3, 4, 5, 6, 7, 8, 9, 10, 11, 12, 13, 14, 15, 17, 18, 19, 20, 21, 22, 23, 24, 25, 26, 27, 28, 29, 30, 16] (by decide) rfl rfl (by decide) (by decide) (by decide) rfl (ci := 3) rfl rfl rfl hl.1 rfl (Nat.le_of_ble_eq_true rfl) d_La_law_342 ⟨(by simp only [room_1, rm_La_erase, rm_Mo_erase, rm_Mo_thrown] <;> omega), (by simp only [room_1, rm_La_erase, rm_Mo_erase, rm_Mo_thrown] <;> omega)⟩ (fun H locs hP hD hS => ?_)
        refine W.eq (g2 := F0 m 345 ls [.int z40.1]) rfl ?_
        refine lv_iload hx hb d_La_law_345 (lv_at hl 1 rfl) ?_
        refine lv_icmp_eq (tgt := 352) hx hb d_La_law_347 (by decide) (fun c43 => ?_) (fun c43 => ?_)
        · have hf := x_ifp c43 hf
          refine lv_iload hx hb d_La_law_352 (lv_at hl 1 rfl) ?_
          refine lv_if_ne (tgt := 369) hx hb d_La_law_354 (by decide) (fun c42 => ?_) (fun c42 => ?_)
          · have hf := x_ifn c42 hf
            refine lv_goto (tgt := 883) hx hb d_La_law_369 (by decide) ?_
            refine lv_iinc (v := (x4 + (4 : Int32))) (lv' := [(4, .int (x4 + (4 : Int32))), (6, .int z39.1), (5, .int z36.1), (0, .ref b), (1, .ref rh), (2, .ref oh), (3, .ref ou)]) hx hb d_La_law_883 hl (k := 6) rfl rfl (by decide) rfl (fun ls hl => ?_)
            refine lv_goto (tgt := 23) hx hb d_La_law_886 (by decide) ?_
            refine W.widen (k := c0 + 4 * (j + 1)) (n := s0 + 24 * (j + 1)) (by simp only [rm_La_erase, rm_Mo_erase, rm_Mo_thrown] <;> omega) (by simp only [rm_La_erase, rm_Mo_erase, rm_Mo_thrown] <;> omega) ?_
            exact ih (j + 1) (by omega) _ _ hf _ _ _ hP hD hS (lv_sub hl [3, 4, 5, 6, 0] rfl)
          · have hf := x_ifp c42 hf
            refine lv_aload_n hx hb d_La_law_357 rfl (lv_at hl 5 rfl) ?_
            refine lv_iconst (v := (0 : Int32)) hx hb d_La_law_358 (by decide) ?_
            refine va_lald hx hb hK hP 30 1 rfl rfl (xi_in rfl) d_La_law_359 ?_
            refine lv_iload hx hb d_La_law_360 (lv_at hl 0 rfl) ?_
            refine lv_i2l (v := (z39.1).toInt64) hx hb d_La_law_362 rfl ?_
            refine W.lcmp hx hb d_La_law_363 ?_
            refine lv_if_eq (tgt := 369) hx hb d_La_law_364 (by decide) (fun c41 => ?_) (fun c41 => ?_)
            · have hf := x_ifp c41 hf
              refine lv_goto (tgt := 883) hx hb d_La_law_369 (by decide) ?_
              refine lv_iinc (v := (x4 + (4 : Int32))) (lv' := [(4, .int (x4 + (4 : Int32))), (6, .int z39.1), (5, .int z36.1), (0, .ref b), (1, .ref rh), (2, .ref oh), (3, .ref ou)]) hx hb d_La_law_883 hl (k := 6) rfl rfl (by decide) rfl (fun ls hl => ?_)
              refine lv_goto (tgt := 23) hx hb d_La_law_886 (by decide) ?_
              refine W.widen (k := c0 + 4 * (j + 1)) (n := s0 + 24 * (j + 1)) (by simp only [rm_La_erase, rm_Mo_erase, rm_Mo_thrown] <;> omega) (by simp only [rm_La_erase, rm_Mo_erase, rm_Mo_thrown] <;> omega) ?_
              exact ih (j + 1) (by omega) _ _ hf _ _ _ hP hD hS (lv_sub hl [3, 4, 5, 6, 0] rfl)
            · have hf := x_ifn c41 hf
              refine lv_iconst (v := (0 : Int32)) hx hb d_La_law_367 (by decide) ?_
              exact absurd (Option.some.inj hf) (by decide)
        · have hf := x_ifn c43 hf
          refine lv_iconst (v := (0 : Int32)) hx hb d_La_law_350 (by decide) ?_
          exact absurd (Option.some.inj hf) (by decide)
      have hf := x_ifn c33 hf
      by_cases c44 : ((xs x4.toNatClampNeg) &&& (15 : Int32)) = (4 : Int32)
      · have hf := x_ifp c44 hf
        refine lv_tableIn (tgt := 372) hx hb d_La_law_39 (by rw [c44]; decide) (by rw [c44]; decide) (by rw [c44]; rfl) (by decide) ?_
        refine lv_aload_n hx hb d_La_law_372 rfl (lv_at hl 1 rfl) ?_
        refine lv_aload_n hx hb d_La_law_373 rfl (lv_at hl 0 rfl) ?_
        refine lv_iload hx hb d_La_law_374 (lv_at hl 4 rfl) ?_
        refine lv_iconst (v := (1 : Int32)) hx hb d_La_law_376 (by decide) ?_
        refine lv_iadd hx hb d_La_law_377 ?_
        obtain ⟨g45, hf⟩ := x_if hf
        refine va_sld hx hb hX hbl hbA hS (xi_in g45) d_La_law_378 ?_
        refine lv_aload_n hx hb d_La_law_379 rfl (lv_at hl 3 rfl) ?_
        obtain ⟨z46, hz46, hf⟩ := x_bind hf
        refine x_callSW (w2 := (w_La cI cJ cZ rh sh mh m0 m1 m2 m3 dh d0 d1 d2 d3 ea cb ch be oh o0 o1 o2 o3 o4 o5 o6 o7 o8 o9 o10 o11 o12 ou (z46.2.1, (U.2.1, z46.2.2)))) ⟨hx, hb, hml, hown, hts⟩ (c_La_commit l D cI cJ cZ rh sh mh m0 m1 m2 m3 dh d0 d1 d2 d3 ea cb ch be ou hL0 N (xs (x4 + (1 : Int32)).toNatClampNeg) (U.1, U.2.2) z46 hz46) (n := 3) rfl k_428 k_429 k_401 k_430 (by decide +kernel) ⟨(by simp only [room_1, rm_La_commit] <;> omega), (by simp only [room_1, rm_La_commit] <;> omega)⟩ hK hP hD hS hA hZ [0, 1, 2, 3, 4, 5, 6, 7, 8, 9, 10, 11, 12, 13, 14, 15, 30] [16, 17, 18, 19, 20, 21, 22, 23, 24, 25, 26, 27, 28, 29] [14, 15, 16, 17, 18, 19, 20, 21, 22, 23, 24, 25, 26, 27, 28, 29, 0, 1, 2, 3, 4, 5, 6, 7, 8, 9, 10, 11, 12, 13, 30] (by decide) rfl rfl (by decide) (by decide) (by decide) rfl rfl hl.1 rfl (Nat.le_of_ble_eq_true rfl) d_La_law_380 ⟨(by simp only [room_1, rm_La_commit] <;> omega), (by simp only [room_1, rm_La_commit] <;> omega)⟩ (fun H locs hP hD hS => ?_)
        refine W.eq (g2 := F0 m 383 ls [.int z46.1]) rfl ?_
        refine lv_istore (lv' := [(5, .int z46.1), (0, .ref b), (1, .ref rh), (2, .ref oh), (3, .ref ou), (4, .int x4)]) hx hb d_La_law_383 hl (by decide) rfl (fun ls hl => ?_)
        refine lv_aload_n hx hb d_La_law_385 rfl (lv_at hl 3 rfl) ?_
        refine lv_aload_n hx hb d_La_law_386 rfl (lv_at hl 1 rfl) ?_
        refine lv_iload hx hb d_La_law_387 (lv_at hl 5 rfl) ?_
        refine lv_iconst (v := (1 : Int32)) hx hb d_La_law_389 (by decide) ?_
        refine lv_iadd hx hb d_La_law_390 ?_
        obtain ⟨g47, hf⟩ := x_if hf
        refine va_sld hx hb hX hbl hbA hS (xi_in g47) d_La_law_391 ?_
        obtain ⟨z48, hz48, hf⟩ := x_bind hf
        refine x_callV (w2 := (w_La cI cJ cZ rh sh mh m0 m1 m2 m3 dh d0 d1 d2 d3 ea cb ch be oh o0 o1 o2 o3 o4 o5 o6 o7 o8 o9 o10 o11 o12 ou (z46.2.1, (z48.2, z46.2.2)))) ⟨hx, hb, hml, hown, hts⟩ (c_Mo_commit l D cI cJ cZ oh o0 o1 o2 o3 o4 o5 o6 o7 o8 o9 o10 o11 o12 N (xs (x4 + (1 : Int32)).toNatClampNeg) U.2.1 z48 hz48) (x_cwV 1 hts rfl k_424 k_425 k_426 k_246 k_427 (by decide +kernel) ⟨(by simp only [room_1, rm_La_commit, rm_Mo_commit] <;> omega), (by simp only [room_1, rm_La_commit, rm_Mo_commit] <;> omega)⟩) hK hP hD hS hA hZ [16, 17, 18, 19, 20, 21, 22, 23, 24, 25, 26, 27, 28, 29] [0, 1, 2, 3, 4, 5, 6, 7, 8, 9, 10, 11, 12, 13, 14, 15, 30] [0, 1, 2, 3, 4, 5, 6, 7, 8, 9, 10, 11, 12, 13, 14, 15, 17, 18, 19, 20, 21, 22, 23, 24, 25, 26, 27, 28, 29, 30, 16] (by decide) rfl rfl (by decide) (by decide) (by decide) rfl (ci := 3) rfl rfl rfl hl.1 rfl (Nat.le_of_ble_eq_true rfl) d_La_law_392 ⟨(by simp only [room_1, rm_La_commit, rm_Mo_commit] <;> omega), (by simp only [room_1, rm_La_commit, rm_Mo_commit] <;> omega)⟩ (fun H locs hP hD hS => ?_)
        refine W.eq (g2 := F0 m 395 ls [.int z48.1]) rfl ?_
        refine lv_istore (lv' := [(6, .int z48.1), (5, .int z46.1), (0, .ref b), (1, .ref rh), (2, .ref oh), (3, .ref ou), (4, .int x4)]) hx hb d_La_law_395 hl (by decide) rfl (fun ls hl => ?_)
        refine lv_aload_n hx hb d_La_law_397 rfl (lv_at hl 4 rfl) ?_
        obtain ⟨z49, hz49, hf⟩ := x_bind hf
        refine x_callV (w2 := (w_La cI cJ cZ rh sh mh m0 m1 m2 m3 dh d0 d1 d2 d3 ea cb ch be oh o0 o1 o2 o3 o4 o5 o6 o7 o8 o9 o10 o11 o12 ou (z46.2.1, (z49.2, z46.2.2)))) ⟨hx, hb, hml, hown, hts⟩ (c_Mo_thrown l D cI cJ cZ oh o0 o1 o2 o3 o4 o5 o6 o7 o8 o9 o10 o11 o12 N  z48.2 z49 hz49) (x_cwV 0 hts rfl k_391 k_392 k_393 k_246 k_394 (by decide +kernel) ⟨(by simp only [room_1, rm_La_commit, rm_Mo_commit, rm_Mo_thrown] <;> omega), (by simp only [room_1, rm_La_commit, rm_Mo_commit, rm_Mo_thrown] <;> omega)⟩) hK hP hD hS hA hZ [16, 17, 18, 19, 20, 21, 22, 23, 24, 25, 26, 27, 28, 29] [0, 1, 2, 3, 4, 5, 6, 7, 8, 9, 10, 11, 12, 13, 14, 15, 30] [0, 1, 2, 3, 4, 5, 6, 7, 8, 9, 10, 11, 12, 13, 14, 15, 17, 18, 19, 20, 21, 22, 23, 24, 25, 26, 27, 28, 29, 30, 16] (by decide) rfl rfl (by decide) (by decide) (by decide) rfl (ci := 3) rfl rfl rfl hl.1 rfl (Nat.le_of_ble_eq_true rfl) d_La_law_398 ⟨(by simp only [room_1, rm_La_commit, rm_Mo_commit, rm_Mo_thrown] <;> omega), (by simp only [room_1, rm_La_commit, rm_Mo_commit, rm_Mo_thrown] <;> omega)⟩ (fun H locs hP hD hS => ?_)
        refine W.eq (g2 := F0 m 401 ls [.int z49.1]) rfl ?_
        refine lv_iload hx hb d_La_law_401 (lv_at hl 1 rfl) ?_
        refine lv_icmp_eq (tgt := 408) hx hb d_La_law_403 (by decide) (fun c52 => ?_) (fun c52 => ?_)
        · have hf := x_ifp c52 hf
          refine lv_iload hx hb d_La_law_408 (lv_at hl 1 rfl) ?_
          refine lv_if_ne (tgt := 425) hx hb d_La_law_410 (by decide) (fun c51 => ?_) (fun c51 => ?_)
          · have hf := x_ifn c51 hf
            refine lv_goto (tgt := 883) hx hb d_La_law_425 (by decide) ?_
            refine lv_iinc (v := (x4 + (4 : Int32))) (lv' := [(4, .int (x4 + (4 : Int32))), (6, .int z48.1), (5, .int z46.1), (0, .ref b), (1, .ref rh), (2, .ref oh), (3, .ref ou)]) hx hb d_La_law_883 hl (k := 6) rfl rfl (by decide) rfl (fun ls hl => ?_)
            refine lv_goto (tgt := 23) hx hb d_La_law_886 (by decide) ?_
            refine W.widen (k := c0 + 4 * (j + 1)) (n := s0 + 24 * (j + 1)) (by simp only [rm_La_commit, rm_Mo_commit, rm_Mo_thrown] <;> omega) (by simp only [rm_La_commit, rm_Mo_commit, rm_Mo_thrown] <;> omega) ?_
            exact ih (j + 1) (by omega) _ _ hf _ _ _ hP hD hS (lv_sub hl [3, 4, 5, 6, 0] rfl)
          · have hf := x_ifp c51 hf
            refine lv_aload_n hx hb d_La_law_413 rfl (lv_at hl 5 rfl) ?_
            refine lv_iconst (v := (0 : Int32)) hx hb d_La_law_414 (by decide) ?_
            refine va_lald hx hb hK hP 30 1 rfl rfl (xi_in rfl) d_La_law_415 ?_
            refine lv_iload hx hb d_La_law_416 (lv_at hl 0 rfl) ?_
            refine lv_i2l (v := (z48.1).toInt64) hx hb d_La_law_418 rfl ?_
            refine W.lcmp hx hb d_La_law_419 ?_
            refine lv_if_eq (tgt := 425) hx hb d_La_law_420 (by decide) (fun c50 => ?_) (fun c50 => ?_)
            · have hf := x_ifp c50 hf
              refine lv_goto (tgt := 883) hx hb d_La_law_425 (by decide) ?_
              refine lv_iinc (v := (x4 + (4 : Int32))) (lv' := [(4, .int (x4 + (4 : Int32))), (6, .int z48.1), (5, .int z46.1), (0, .ref b), (1, .ref rh), (2, .ref oh), (3, .ref ou)]) hx hb d_La_law_883 hl (k := 6) rfl rfl (by decide) rfl (fun ls hl => ?_)
              refine lv_goto (tgt := 23) hx hb d_La_law_886 (by decide) ?_
              refine W.widen (k := c0 + 4 * (j + 1)) (n := s0 + 24 * (j + 1)) (by simp only [rm_La_commit, rm_Mo_commit, rm_Mo_thrown] <;> omega) (by simp only [rm_La_commit, rm_Mo_commit, rm_Mo_thrown] <;> omega) ?_
              exact ih (j + 1) (by omega) _ _ hf _ _ _ hP hD hS (lv_sub hl [3, 4, 5, 6, 0] rfl)
            · have hf := x_ifn c50 hf
              refine lv_iconst (v := (0 : Int32)) hx hb d_La_law_423 (by decide) ?_
              exact absurd (Option.some.inj hf) (by decide)
        · have hf := x_ifn c52 hf
          refine lv_iconst (v := (0 : Int32)) hx hb d_La_law_406 (by decide) ?_
          exact absurd (Option.some.inj hf) (by decide)
      have hf := x_ifn c44 hf
      by_cases c53 : ((xs x4.toNatClampNeg) &&& (15 : Int32)) = (5 : Int32)
      · have hf := x_ifp c53 hf
        refine lv_tableIn (tgt := 428) hx hb d_La_law_39 (by rw [c53]; decide) (by rw [c53]; decide) (by rw [c53]; rfl) (by decide) ?_
        refine lv_aload_n hx hb d_La_law_428 rfl (lv_at hl 1 rfl) ?_
        refine lv_aload_n hx hb d_La_law_429 rfl (lv_at hl 0 rfl) ?_
        refine lv_iload hx hb d_La_law_430 (lv_at hl 4 rfl) ?_
        refine lv_iconst (v := (1 : Int32)) hx hb d_La_law_432 (by decide) ?_
        refine lv_iadd hx hb d_La_law_433 ?_
        obtain ⟨g54, hf⟩ := x_if hf
        refine va_sld hx hb hX hbl hbA hS (xi_in g54) d_La_law_434 ?_
        refine lv_aload_n hx hb d_La_law_435 rfl (lv_at hl 3 rfl) ?_
        obtain ⟨z55, hz55, hf⟩ := x_bind hf
        refine x_callSW (w2 := (w_La cI cJ cZ rh sh mh m0 m1 m2 m3 dh d0 d1 d2 d3 ea cb ch be oh o0 o1 o2 o3 o4 o5 o6 o7 o8 o9 o10 o11 o12 ou (z55.2.1, (U.2.1, z55.2.2)))) ⟨hx, hb, hml, hown, hts⟩ (c_La_rollback l D cI cJ cZ rh sh mh m0 m1 m2 m3 dh d0 d1 d2 d3 ea cb ch be ou hL0 N (xs (x4 + (1 : Int32)).toNatClampNeg) (U.1, U.2.2) z55 hz55) (n := 3) rfl k_435 k_436 k_401 k_437 (by decide +kernel) ⟨(by simp only [room_1, rm_La_rollback] <;> omega), (by simp only [room_1, rm_La_rollback] <;> omega)⟩ hK hP hD hS hA hZ [0, 1, 2, 3, 4, 5, 6, 7, 8, 9, 10, 11, 12, 13, 14, 15, 30] [16, 17, 18, 19, 20, 21, 22, 23, 24, 25, 26, 27, 28, 29] [14, 15, 16, 17, 18, 19, 20, 21, 22, 23, 24, 25, 26, 27, 28, 29, 0, 1, 2, 3, 4, 5, 6, 7, 8, 9, 10, 11, 12, 13, 30] (by decide) rfl rfl (by decide) (by decide) (by decide) rfl rfl hl.1 rfl (Nat.le_of_ble_eq_true rfl) d_La_law_436 ⟨(by simp only [room_1, rm_La_rollback] <;> omega), (by simp only [room_1, rm_La_rollback] <;> omega)⟩ (fun H locs hP hD hS => ?_)
        refine W.eq (g2 := F0 m 439 ls [.int z55.1]) rfl ?_
        refine lv_istore (lv' := [(5, .int z55.1), (0, .ref b), (1, .ref rh), (2, .ref oh), (3, .ref ou), (4, .int x4)]) hx hb d_La_law_439 hl (by decide) rfl (fun ls hl => ?_)
        refine lv_aload_n hx hb d_La_law_441 rfl (lv_at hl 3 rfl) ?_
        refine lv_aload_n hx hb d_La_law_442 rfl (lv_at hl 1 rfl) ?_
        refine lv_iload hx hb d_La_law_443 (lv_at hl 5 rfl) ?_
        refine lv_iconst (v := (1 : Int32)) hx hb d_La_law_445 (by decide) ?_
        refine lv_iadd hx hb d_La_law_446 ?_
        obtain ⟨g56, hf⟩ := x_if hf
        refine va_sld hx hb hX hbl hbA hS (xi_in g56) d_La_law_447 ?_
        obtain ⟨z57, hz57, hf⟩ := x_bind hf
        refine x_callV (w2 := (w_La cI cJ cZ rh sh mh m0 m1 m2 m3 dh d0 d1 d2 d3 ea cb ch be oh o0 o1 o2 o3 o4 o5 o6 o7 o8 o9 o10 o11 o12 ou (z55.2.1, (z57.2, z55.2.2)))) ⟨hx, hb, hml, hown, hts⟩ (c_Mo_rollback l D cI cJ cZ oh o0 o1 o2 o3 o4 o5 o6 o7 o8 o9 o10 o11 o12 N (xs (x4 + (1 : Int32)).toNatClampNeg) U.2.1 z57 hz57) (x_cwV 1 hts rfl k_431 k_432 k_433 k_246 k_434 (by decide +kernel) ⟨(by simp only [room_1, rm_La_rollback, rm_Mo_rollback] <;> omega), (by simp only [room_1, rm_La_rollback, rm_Mo_rollback] <;> omega)⟩) hK hP hD hS hA hZ [16, 17, 18, 19, 20, 21, 22, 23, 24, 25, 26, 27, 28, 29] [0, 1, 2, 3, 4, 5, 6, 7, 8, 9, 10, 11, 12, 13, 14, 15, 30] [0, 1, 2, 3, 4, 5, 6, 7, 8, 9, 10, 11, 12, 13, 14, 15, 17, 18, 19, 20, 21, 22, 23, 24, 25, 26, 27, 28, 29, 30, 16] (by decide) rfl rfl (by decide) (by decide) (by decide) rfl (ci := 3) rfl rfl rfl hl.1 rfl (Nat.le_of_ble_eq_true rfl) d_La_law_448 ⟨(by simp only [room_1, rm_La_rollback, rm_Mo_rollback] <;> omega), (by simp only [room_1, rm_La_rollback, rm_Mo_rollback] <;> omega)⟩ (fun H locs hP hD hS => ?_)
        refine W.eq (g2 := F0 m 451 ls [.int z57.1]) rfl ?_
        refine lv_istore (lv' := [(6, .int z57.1), (5, .int z55.1), (0, .ref b), (1, .ref rh), (2, .ref oh), (3, .ref ou), (4, .int x4)]) hx hb d_La_law_451 hl (by decide) rfl (fun ls hl => ?_)
        refine lv_aload_n hx hb d_La_law_453 rfl (lv_at hl 4 rfl) ?_
        obtain ⟨z58, hz58, hf⟩ := x_bind hf
        refine x_callV (w2 := (w_La cI cJ cZ rh sh mh m0 m1 m2 m3 dh d0 d1 d2 d3 ea cb ch be oh o0 o1 o2 o3 o4 o5 o6 o7 o8 o9 o10 o11 o12 ou (z55.2.1, (z58.2, z55.2.2)))) ⟨hx, hb, hml, hown, hts⟩ (c_Mo_thrown l D cI cJ cZ oh o0 o1 o2 o3 o4 o5 o6 o7 o8 o9 o10 o11 o12 N  z57.2 z58 hz58) (x_cwV 0 hts rfl k_391 k_392 k_393 k_246 k_394 (by decide +kernel) ⟨(by simp only [room_1, rm_La_rollback, rm_Mo_rollback, rm_Mo_thrown] <;> omega), (by simp only [room_1, rm_La_rollback, rm_Mo_rollback, rm_Mo_thrown] <;> omega)⟩) hK hP hD hS hA hZ [16, 17, 18, 19, 20, 21, 22, 23, 24, 25, 26, 27, 28, 29] [0, 1, 2, 3, 4, 5, 6, 7, 8, 9, 10, 11, 12, 13, 14, 15, 30] [0, 1, 2, 3, 4, 5, 6, 7, 8, 9, 10, 11, 12, 13, 14, 15, 17, 18, 19, 20, 21, 22, 23, 24, 25, 26, 27, 28, 29, 30, 16] (by decide) rfl rfl (by decide) (by decide) (by decide) rfl (ci := 3) rfl rfl rfl hl.1 rfl (Nat.le_of_ble_eq_true rfl) d_La_law_454 ⟨(by simp only [room_1, rm_La_rollback, rm_Mo_rollback, rm_Mo_thrown] <;> omega), (by simp only [room_1, rm_La_rollback, rm_Mo_rollback, rm_Mo_thrown] <;> omega)⟩ (fun H locs hP hD hS => ?_)
        refine W.eq (g2 := F0 m 457 ls [.int z58.1]) rfl ?_
        refine lv_iload hx hb d_La_law_457 (lv_at hl 1 rfl) ?_
        refine lv_icmp_eq (tgt := 464) hx hb d_La_law_459 (by decide) (fun c61 => ?_) (fun c61 => ?_)
        · have hf := x_ifp c61 hf
          refine lv_iload hx hb d_La_law_464 (lv_at hl 1 rfl) ?_
          refine lv_if_ne (tgt := 481) hx hb d_La_law_466 (by decide) (fun c60 => ?_) (fun c60 => ?_)
          · have hf := x_ifn c60 hf
            refine lv_goto (tgt := 883) hx hb d_La_law_481 (by decide) ?_
            refine lv_iinc (v := (x4 + (4 : Int32))) (lv' := [(4, .int (x4 + (4 : Int32))), (6, .int z57.1), (5, .int z55.1), (0, .ref b), (1, .ref rh), (2, .ref oh), (3, .ref ou)]) hx hb d_La_law_883 hl (k := 6) rfl rfl (by decide) rfl (fun ls hl => ?_)
            refine lv_goto (tgt := 23) hx hb d_La_law_886 (by decide) ?_
            refine W.widen (k := c0 + 4 * (j + 1)) (n := s0 + 24 * (j + 1)) (by simp only [rm_La_rollback, rm_Mo_rollback, rm_Mo_thrown] <;> omega) (by simp only [rm_La_rollback, rm_Mo_rollback, rm_Mo_thrown] <;> omega) ?_
            exact ih (j + 1) (by omega) _ _ hf _ _ _ hP hD hS (lv_sub hl [3, 4, 5, 6, 0] rfl)
          · have hf := x_ifp c60 hf
            refine lv_aload_n hx hb d_La_law_469 rfl (lv_at hl 5 rfl) ?_
            refine lv_iconst (v := (0 : Int32)) hx hb d_La_law_470 (by decide) ?_
            refine va_lald hx hb hK hP 30 1 rfl rfl (xi_in rfl) d_La_law_471 ?_
            refine lv_iload hx hb d_La_law_472 (lv_at hl 0 rfl) ?_
            refine lv_i2l (v := (z57.1).toInt64) hx hb d_La_law_474 rfl ?_
            refine W.lcmp hx hb d_La_law_475 ?_
            refine lv_if_eq (tgt := 481) hx hb d_La_law_476 (by decide) (fun c59 => ?_) (fun c59 => ?_)
            · have hf := x_ifp c59 hf
              refine lv_goto (tgt := 883) hx hb d_La_law_481 (by decide) ?_
              refine lv_iinc (v := (x4 + (4 : Int32))) (lv' := [(4, .int (x4 + (4 : Int32))), (6, .int z57.1), (5, .int z55.1), (0, .ref b), (1, .ref rh), (2, .ref oh), (3, .ref ou)]) hx hb d_La_law_883 hl (k := 6) rfl rfl (by decide) rfl (fun ls hl => ?_)
              refine lv_goto (tgt := 23) hx hb d_La_law_886 (by decide) ?_
              refine W.widen (k := c0 + 4 * (j + 1)) (n := s0 + 24 * (j + 1)) (by simp only [rm_La_rollback, rm_Mo_rollback, rm_Mo_thrown] <;> omega) (by simp only [rm_La_rollback, rm_Mo_rollback, rm_Mo_thrown] <;> omega) ?_
              exact ih (j + 1) (by omega) _ _ hf _ _ _ hP hD hS (lv_sub hl [3, 4, 5, 6, 0] rfl)
            · have hf := x_ifn c59 hf
              refine lv_iconst (v := (0 : Int32)) hx hb d_La_law_479 (by decide) ?_
              exact absurd (Option.some.inj hf) (by decide)
        · have hf := x_ifn c61 hf
          refine lv_iconst (v := (0 : Int32)) hx hb d_La_law_462 (by decide) ?_
          exact absurd (Option.some.inj hf) (by decide)
      have hf := x_ifn c53 hf
      by_cases c62 : ((xs x4.toNatClampNeg) &&& (15 : Int32)) = (6 : Int32)
      · have hf := x_ifp c62 hf
        refine lv_tableIn (tgt := 484) hx hb d_La_law_39 (by rw [c62]; decide) (by rw [c62]; decide) (by rw [c62]; rfl) (by decide) ?_
        refine lv_aload_n hx hb d_La_law_484 rfl (lv_at hl 1 rfl) ?_
        obtain ⟨z63, hz63, hf⟩ := x_bind hf
        refine x_callV (w2 := (w_La cI cJ cZ rh sh mh m0 m1 m2 m3 dh d0 d1 d2 d3 ea cb ch be oh o0 o1 o2 o3 o4 o5 o6 o7 o8 o9 o10 o11 o12 ou (z63.2, U.2))) ⟨hx, hb, hml, hown, hts⟩ (c_Rv_sweep l D cI cJ cZ rh sh mh m0 m1 m2 m3 dh d0 d1 d2 d3 ea cb ch be N  U.1 z63 hz63) (x_cwV 0 hts rfl k_442 k_443 k_444 k_23 k_445 (by decide +kernel) ⟨(by simp only [room_1, rm_Rv_sweep] <;> omega), (by simp only [room_1, rm_Rv_sweep] <;> omega)⟩) hK hP hD hS hA hZ [0, 1, 2, 3, 4, 5, 6, 7, 8, 9, 10, 11, 12, 13, 14, 15] [16, 17, 18, 19, 20, 21, 22, 23, 24, 25, 26, 27, 28, 29, 30] [15, 16, 17, 18, 19, 20, 21, 22, 23, 24, 25, 26, 27, 28, 29, 30, 0, 1, 2, 3, 4, 5, 6, 7, 8, 9, 10, 11, 12, 13, 14] (by decide) rfl rfl (by decide) (by decide) (by decide) rfl (ci := 2) rfl rfl rfl hl.1 rfl (Nat.le_of_ble_eq_true rfl) d_La_law_485 ⟨(by simp only [room_1, rm_Rv_sweep] <;> omega), (by simp only [room_1, rm_Rv_sweep] <;> omega)⟩ (fun H locs hP hD hS => ?_)
        refine W.eq (g2 := F0 m 488 ls [.int z63.1]) rfl ?_
        refine lv_aload_n hx hb d_La_law_488 rfl (lv_at hl 2 rfl) ?_
        obtain ⟨z64, hz64, hf⟩ := x_bind hf
        refine x_callV (w2 := (w_La cI cJ cZ rh sh mh m0 m1 m2 m3 dh d0 d1 d2 d3 ea cb ch be oh o0 o1 o2 o3 o4 o5 o6 o7 o8 o9 o10 o11 o12 ou (z63.2, (z64.2, U.2.2)))) ⟨hx, hb, hml, hown, hts⟩ (c_Mo_sweep l D cI cJ cZ oh o0 o1 o2 o3 o4 o5 o6 o7 o8 o9 o10 o11 o12 N  U.2.1 z64 hz64) (x_cwV 0 hts rfl k_438 k_439 k_440 k_246 k_441 (by decide +kernel) ⟨(by simp only [room_1, rm_Mo_sweep, rm_Rv_sweep] <;> omega), (by simp only [room_1, rm_Mo_sweep, rm_Rv_sweep] <;> omega)⟩) hK hP hD hS hA hZ [16, 17, 18, 19, 20, 21, 22, 23, 24, 25, 26, 27, 28, 29] [0, 1, 2, 3, 4, 5, 6, 7, 8, 9, 10, 11, 12, 13, 14, 15, 30] [0, 1, 2, 3, 4, 5, 6, 7, 8, 9, 10, 11, 12, 13, 14, 15, 17, 18, 19, 20, 21, 22, 23, 24, 25, 26, 27, 28, 29, 30, 16] (by decide) rfl rfl (by decide) (by decide) (by decide) rfl (ci := 3) rfl rfl rfl hl.1 rfl (Nat.le_of_ble_eq_true rfl) d_La_law_489 ⟨(by simp only [room_1, rm_Mo_sweep, rm_Rv_sweep] <;> omega), (by simp only [room_1, rm_Mo_sweep, rm_Rv_sweep] <;> omega)⟩ (fun H locs hP hD hS => ?_)
        refine W.eq (g2 := F0 m 492 ls [.int z64.1, .int z63.1]) rfl ?_
        refine lv_icmp_eq (tgt := 883) hx hb d_La_law_492 (by decide) (fun c65 => ?_) (fun c65 => ?_)
        · have hf := x_ifp c65 hf
          refine lv_iinc (v := (x4 + (4 : Int32))) (lv' := [(4, .int (x4 + (4 : Int32))), (0, .ref b), (1, .ref rh), (2, .ref oh), (3, .ref ou)]) hx hb d_La_law_883 hl (k := 4) rfl rfl (by decide) rfl (fun ls hl => ?_)
          refine lv_goto (tgt := 23) hx hb d_La_law_886 (by decide) ?_
          refine W.widen (k := c0 + 4 * (j + 1)) (n := s0 + 24 * (j + 1)) (by simp only [rm_Mo_sweep, rm_Rv_sweep] <;> omega) (by simp only [rm_Mo_sweep, rm_Rv_sweep] <;> omega) ?_
          exact ih (j + 1) (by omega) _ _ hf _ _ _ hP hD hS (lv_sub hl [1, 2, 3, 4, 0] rfl)
        · have hf := x_ifn c65 hf
          refine lv_iconst (v := (0 : Int32)) hx hb d_La_law_495 (by decide) ?_
          exact absurd (Option.some.inj hf) (by decide)
      have hf := x_ifn c62 hf
      by_cases c66 : ((xs x4.toNatClampNeg) &&& (15 : Int32)) = (7 : Int32)
      · have hf := x_ifp c66 hf
        refine lv_tableIn (tgt := 497) hx hb d_La_law_39 (by rw [c66]; decide) (by rw [c66]; decide) (by rw [c66]; rfl) (by decide) ?_
        refine lv_aload_n hx hb d_La_law_497 rfl (lv_at hl 1 rfl) ?_
        obtain ⟨z67, hz67, hf⟩ := x_bind hf
        refine x_callV (w2 := (w_La cI cJ cZ rh sh mh m0 m1 m2 m3 dh d0 d1 d2 d3 ea cb ch be oh o0 o1 o2 o3 o4 o5 o6 o7 o8 o9 o10 o11 o12 ou (z67.2, U.2))) ⟨hx, hb, hml, hown, hts⟩ (c_Rv_flush l D cI cJ cZ rh sh mh m0 m1 m2 m3 dh d0 d1 d2 d3 ea cb ch be N  U.1 z67 hz67) (x_cwV 0 hts rfl k_450 k_451 k_452 k_23 k_453 (by decide +kernel) ⟨(by simp only [room_1, rm_Rv_flush] <;> omega), (by simp only [room_1, rm_Rv_flush] <;> omega)⟩) hK hP hD hS hA hZ [0, 1, 2, 3, 4, 5, 6, 7, 8, 9, 10, 11, 12, 13, 14, 15] [16, 17, 18, 19, 20, 21, 22, 23, 24, 25, 26, 27, 28, 29, 30] [15, 16, 17, 18, 19, 20, 21, 22, 23, 24, 25, 26, 27, 28, 29, 30, 0, 1, 2, 3, 4, 5, 6, 7, 8, 9, 10, 11, 12, 13, 14] (by decide) rfl rfl (by decide) (by decide) (by decide) rfl (ci := 2) rfl rfl rfl hl.1 rfl (Nat.le_of_ble_eq_true rfl) d_La_law_498 ⟨(by simp only [room_1, rm_Rv_flush] <;> omega), (by simp only [room_1, rm_Rv_flush] <;> omega)⟩ (fun H locs hP hD hS => ?_)
        refine W.eq (g2 := F0 m 501 ls [.int z67.1]) rfl ?_
        refine lv_aload_n hx hb d_La_law_501 rfl (lv_at hl 2 rfl) ?_
        obtain ⟨z68, hz68, hf⟩ := x_bind hf
        refine x_callV (w2 := (w_La cI cJ cZ rh sh mh m0 m1 m2 m3 dh d0 d1 d2 d3 ea cb ch be oh o0 o1 o2 o3 o4 o5 o6 o7 o8 o9 o10 o11 o12 ou (z67.2, (z68.2, U.2.2)))) ⟨hx, hb, hml, hown, hts⟩ (c_Mo_flush l D cI cJ cZ oh o0 o1 o2 o3 o4 o5 o6 o7 o8 o9 o10 o11 o12 N  U.2.1 z68 hz68) (x_cwV 0 hts rfl k_446 k_447 k_448 k_246 k_449 (by decide +kernel) ⟨(by simp only [room_1, rm_Mo_flush, rm_Rv_flush] <;> omega), (by simp only [room_1, rm_Mo_flush, rm_Rv_flush] <;> omega)⟩) hK hP hD hS hA hZ [16, 17, 18, 19, 20, 21, 22, 23, 24, 25, 26, 27, 28, 29] [0, 1, 2, 3, 4, 5, 6, 7, 8, 9, 10, 11, 12, 13, 14, 15, 30] [0, 1, 2, 3, 4, 5, 6, 7, 8, 9, 10, 11, 12, 13, 14, 15, 17, 18, 19, 20, 21, 22, 23, 24, 25, 26, 27, 28, 29, 30, 16] (by decide) rfl rfl (by decide) (by decide) (by decide) rfl (ci := 3) rfl rfl rfl hl.1 rfl (Nat.le_of_ble_eq_true rfl) d_La_law_502 ⟨(by simp only [room_1, rm_Mo_flush, rm_Rv_flush] <;> omega), (by simp only [room_1, rm_Mo_flush, rm_Rv_flush] <;> omega)⟩ (fun H locs hP hD hS => ?_)
        refine W.eq (g2 := F0 m 505 ls [.int z68.1, .int z67.1]) rfl ?_
        refine lv_icmp_eq (tgt := 883) hx hb d_La_law_505 (by decide) (fun c69 => ?_) (fun c69 => ?_)
        · have hf := x_ifp c69 hf
          refine lv_iinc (v := (x4 + (4 : Int32))) (lv' := [(4, .int (x4 + (4 : Int32))), (0, .ref b), (1, .ref rh), (2, .ref oh), (3, .ref ou)]) hx hb d_La_law_883 hl (k := 4) rfl rfl (by decide) rfl (fun ls hl => ?_)
          refine lv_goto (tgt := 23) hx hb d_La_law_886 (by decide) ?_
          refine W.widen (k := c0 + 4 * (j + 1)) (n := s0 + 24 * (j + 1)) (by simp only [rm_Mo_flush, rm_Rv_flush] <;> omega) (by simp only [rm_Mo_flush, rm_Rv_flush] <;> omega) ?_
          exact ih (j + 1) (by omega) _ _ hf _ _ _ hP hD hS (lv_sub hl [1, 2, 3, 4, 0] rfl)
        · have hf := x_ifn c69 hf
          refine lv_iconst (v := (0 : Int32)) hx hb d_La_law_508 (by decide) ?_
          exact absurd (Option.some.inj hf) (by decide)
      have hf := x_ifn c66 hf
      by_cases c70 : ((xs x4.toNatClampNeg) &&& (15 : Int32)) = (8 : Int32)
      · have hf := x_ifp c70 hf
        refine lv_tableIn (tgt := 510) hx hb d_La_law_39 (by rw [c70]; decide) (by rw [c70]; decide) (by rw [c70]; rfl) (by decide) ?_
        refine lv_aload_n hx hb d_La_law_510 rfl (lv_at hl 1 rfl) ?_
        refine lv_aload_n hx hb d_La_law_511 rfl (lv_at hl 0 rfl) ?_
        refine lv_iload hx hb d_La_law_512 (lv_at hl 4 rfl) ?_
        refine lv_iconst (v := (1 : Int32)) hx hb d_La_law_514 (by decide) ?_
        refine lv_iadd hx hb d_La_law_515 ?_
        obtain ⟨g71, hf⟩ := x_if hf
        refine va_sld hx hb hX hbl hbA hS (xi_in g71) d_La_law_516 ?_
        refine lv_aload_n hx hb d_La_law_517 rfl (lv_at hl 3 rfl) ?_
        obtain ⟨z72, hz72, hf⟩ := x_bind hf
        refine x_callSW (w2 := (w_La cI cJ cZ rh sh mh m0 m1 m2 m3 dh d0 d1 d2 d3 ea cb ch be oh o0 o1 o2 o3 o4 o5 o6 o7 o8 o9 o10 o11 o12 ou (z72.2.1, (U.2.1, z72.2.2)))) ⟨hx, hb, hml, hown, hts⟩ (c_La_fail l D cI cJ cZ rh sh mh m0 m1 m2 m3 dh d0 d1 d2 d3 ea cb ch be ou hL0 N (xs (x4 + (1 : Int32)).toNatClampNeg) (U.1, U.2.2) z72 hz72) (n := 3) rfl k_458 k_459 k_401 k_460 (by decide +kernel) ⟨(by simp only [room_1, rm_La_fail] <;> omega), (by simp only [room_1, rm_La_fail] <;> omega)⟩ hK hP hD hS hA hZ [0, 1, 2, 3, 4, 5, 6, 7, 8, 9, 10, 11, 12, 13, 14, 15, 30] [16, 17, 18, 19, 20, 21, 22, 23, 24, 25, 26, 27, 28, 29] [14, 15, 16, 17, 18, 19, 20, 21, 22, 23, 24, 25, 26, 27, 28, 29, 0, 1, 2, 3, 4, 5, 6, 7, 8, 9, 10, 11, 12, 13, 30] (by decide) rfl rfl (by decide) (by decide) (by decide) rfl rfl hl.1 rfl (Nat.le_of_ble_eq_true rfl) d_La_law_518 ⟨(by simp only [room_1, rm_La_fail] <;> omega), (by simp only [room_1, rm_La_fail] <;> omega)⟩ (fun H locs hP hD hS => ?_)
        refine W.eq (g2 := F0 m 521 ls [.int z72.1]) rfl ?_
        refine lv_istore (lv' := [(5, .int z72.1), (0, .ref b), (1, .ref rh), (2, .ref oh), (3, .ref ou), (4, .int x4)]) hx hb d_La_law_521 hl (by decide) rfl (fun ls hl => ?_)
        refine lv_aload_n hx hb d_La_law_523 rfl (lv_at hl 3 rfl) ?_
        refine lv_aload_n hx hb d_La_law_524 rfl (lv_at hl 1 rfl) ?_
        refine lv_iload hx hb d_La_law_525 (lv_at hl 5 rfl) ?_
        refine lv_iconst (v := (1 : Int32)) hx hb d_La_law_527 (by decide) ?_
        refine lv_iadd hx hb d_La_law_528 ?_
        obtain ⟨g73, hf⟩ := x_if hf
        refine va_sld hx hb hX hbl hbA hS (xi_in g73) d_La_law_529 ?_
        obtain ⟨z74, hz74, hf⟩ := x_bind hf
        refine x_callV (w2 := (w_La cI cJ cZ rh sh mh m0 m1 m2 m3 dh d0 d1 d2 d3 ea cb ch be oh o0 o1 o2 o3 o4 o5 o6 o7 o8 o9 o10 o11 o12 ou (z72.2.1, (z74.2, z72.2.2)))) ⟨hx, hb, hml, hown, hts⟩ (c_Mo_fail l D cI cJ cZ oh o0 o1 o2 o3 o4 o5 o6 o7 o8 o9 o10 o11 o12 N (xs (x4 + (1 : Int32)).toNatClampNeg) U.2.1 z74 hz74) (x_cwV 1 hts rfl k_454 k_455 k_456 k_246 k_457 (by decide +kernel) ⟨(by simp only [room_1, rm_La_fail, rm_Mo_fail] <;> omega), (by simp only [room_1, rm_La_fail, rm_Mo_fail] <;> omega)⟩) hK hP hD hS hA hZ [16, 17, 18, 19, 20, 21, 22, 23, 24, 25, 26, 27, 28, 29] [0, 1, 2, 3, 4, 5, 6, 7, 8, 9, 10, 11, 12, 13, 14, 15, 30] [0, 1, 2, 3, 4, 5, 6, 7, 8, 9, 10, 11, 12, 13, 14, 15, 17, 18, 19, 20, 21, 22, 23, 24, 25, 26, 27, 28, 29, 30, 16] (by decide) rfl rfl (by decide) (by decide) (by decide) rfl (ci := 3) rfl rfl rfl hl.1 rfl (Nat.le_of_ble_eq_true rfl) d_La_law_530 ⟨(by simp only [room_1, rm_La_fail, rm_Mo_fail] <;> omega), (by simp only [room_1, rm_La_fail, rm_Mo_fail] <;> omega)⟩ (fun H locs hP hD hS => ?_)
        refine W.eq (g2 := F0 m 533 ls [.int z74.1]) rfl ?_
        refine lv_istore (lv' := [(6, .int z74.1), (5, .int z72.1), (0, .ref b), (1, .ref rh), (2, .ref oh), (3, .ref ou), (4, .int x4)]) hx hb d_La_law_533 hl (by decide) rfl (fun ls hl => ?_)
        refine lv_aload_n hx hb d_La_law_535 rfl (lv_at hl 4 rfl) ?_
        obtain ⟨z75, hz75, hf⟩ := x_bind hf
        refine x_callV (w2 := (w_La cI cJ cZ rh sh mh m0 m1 m2 m3 dh d0 d1 d2 d3 ea cb ch be oh o0 o1 o2 o3 o4 o5 o6 o7 o8 o9 o10 o11 o12 ou (z72.2.1, (z75.2, z72.2.2)))) ⟨hx, hb, hml, hown, hts⟩ (c_Mo_thrown l D cI cJ cZ oh o0 o1 o2 o3 o4 o5 o6 o7 o8 o9 o10 o11 o12 N  z74.2 z75 hz75) (x_cwV 0 hts rfl k_391 k_392 k_393 k_246 k_394 (by decide +kernel) ⟨(by simp only [room_1, rm_La_fail, rm_Mo_fail, rm_Mo_thrown] <;> omega), (by simp only [room_1, rm_La_fail, rm_Mo_fail, rm_Mo_thrown] <;> omega)⟩) hK hP hD hS hA hZ [16, 17, 18, 19, 20, 21, 22, 23, 24, 25, 26, 27, 28, 29] [0, 1, 2, 3, 4, 5, 6, 7, 8, 9, 10, 11, 12, 13, 14, 15, 30] [0, 1, 2, 3, 4, 5, 6, 7, 8, 9, 10, 11, 12, 13, 14, 15, 17, 18, 19, 20, 21, 22, 23, 24, 25, 26, 27, 28, 29, 30, 16] (by decide) rfl rfl (by decide) (by decide) (by decide) rfl (ci := 3) rfl rfl rfl hl.1 rfl (Nat.le_of_ble_eq_true rfl) d_La_law_536 ⟨(by simp only [room_1, rm_La_fail, rm_Mo_fail, rm_Mo_thrown] <;> omega), (by simp only [room_1, rm_La_fail, rm_Mo_fail, rm_Mo_thrown] <;> omega)⟩ (fun H locs hP hD hS => ?_)
        refine W.eq (g2 := F0 m 539 ls [.int z75.1]) rfl ?_
        refine lv_iload hx hb d_La_law_539 (lv_at hl 1 rfl) ?_
        refine lv_icmp_eq (tgt := 546) hx hb d_La_law_541 (by decide) (fun c78 => ?_) (fun c78 => ?_)
        · have hf := x_ifp c78 hf
          refine lv_iload hx hb d_La_law_546 (lv_at hl 1 rfl) ?_
          refine lv_if_ne (tgt := 563) hx hb d_La_law_548 (by decide) (fun c77 => ?_) (fun c77 => ?_)
          · have hf := x_ifn c77 hf
            refine lv_goto (tgt := 883) hx hb d_La_law_563 (by decide) ?_
            refine lv_iinc (v := (x4 + (4 : Int32))) (lv' := [(4, .int (x4 + (4 : Int32))), (6, .int z74.1), (5, .int z72.1), (0, .ref b), (1, .ref rh), (2, .ref oh), (3, .ref ou)]) hx hb d_La_law_883 hl (k := 6) rfl rfl (by decide) rfl (fun ls hl => ?_)
            refine lv_goto (tgt := 23) hx hb d_La_law_886 (by decide) ?_
            refine W.widen (k := c0 + 4 * (j + 1)) (n := s0 + 24 * (j + 1)) (by simp only [rm_La_fail, rm_Mo_fail, rm_Mo_thrown] <;> omega) (by simp only [rm_La_fail, rm_Mo_fail, rm_Mo_thrown] <;> omega) ?_
            exact ih (j + 1) (by omega) _ _ hf _ _ _ hP hD hS (lv_sub hl [3, 4, 5, 6, 0] rfl)
          · have hf := x_ifp c77 hf
            refine lv_aload_n hx hb d_La_law_551 rfl (lv_at hl 5 rfl) ?_
            refine lv_iconst (v := (0 : Int32)) hx hb d_La_law_552 (by decide) ?_
            refine va_lald hx hb hK hP 30 1 rfl rfl (xi_in rfl) d_La_law_553 ?_
            refine lv_iload hx hb d_La_law_554 (lv_at hl 0 rfl) ?_
            refine lv_i2l (v := (z74.1).toInt64) hx hb d_La_law_556 rfl ?_
            refine W.lcmp hx hb d_La_law_557 ?_
            refine lv_if_eq (tgt := 563) hx hb d_La_law_558 (by decide) (fun c76 => ?_) (fun c76 => ?_)
            · have hf := x_ifp c76 hf
              refine lv_goto (tgt := 883) hx hb d_La_law_563 (by decide) ?_
              refine lv_iinc (v := (x4 + (4 : Int32))) (lv' := [(4, .int (x4 + (4 : Int32))), (6, .int z74.1), (5, .int z72.1), (0, .ref b), (1, .ref rh), (2, .ref oh), (3, .ref ou)]) hx hb d_La_law_883 hl (k := 6) rfl rfl (by decide) rfl (fun ls hl => ?_)
              refine lv_goto (tgt := 23) hx hb d_La_law_886 (by decide) ?_
              refine W.widen (k := c0 + 4 * (j + 1)) (n := s0 + 24 * (j + 1)) (by simp only [rm_La_fail, rm_Mo_fail, rm_Mo_thrown] <;> omega) (by simp only [rm_La_fail, rm_Mo_fail, rm_Mo_thrown] <;> omega) ?_
              exact ih (j + 1) (by omega) _ _ hf _ _ _ hP hD hS (lv_sub hl [3, 4, 5, 6, 0] rfl)
            · have hf := x_ifn c76 hf
              refine lv_iconst (v := (0 : Int32)) hx hb d_La_law_561 (by decide) ?_
              exact absurd (Option.some.inj hf) (by decide)
        · have hf := x_ifn c78 hf
          refine lv_iconst (v := (0 : Int32)) hx hb d_La_law_544 (by decide) ?_
          exact absurd (Option.some.inj hf) (by decide)
      have hf := x_ifn c70 hf
      by_cases c79 : ((xs x4.toNatClampNeg) &&& (15 : Int32)) = (9 : Int32)
      · have hf := x_ifp c79 hf
        refine lv_tableIn (tgt := 566) hx hb d_La_law_39 (by rw [c79]; decide) (by rw [c79]; decide) (by rw [c79]; rfl) (by decide) ?_
        refine lv_aload_n hx hb d_La_law_566 rfl (lv_at hl 1 rfl) ?_
        obtain ⟨z80, hz80, hf⟩ := x_bind hf
        refine x_callV (w2 := (w_La cI cJ cZ rh sh mh m0 m1 m2 m3 dh d0 d1 d2 d3 ea cb ch be oh o0 o1 o2 o3 o4 o5 o6 o7 o8 o9 o10 o11 o12 ou (z80.2, U.2))) ⟨hx, hb, hml, hown, hts⟩ (c_Rv_crash l D cI cJ cZ rh sh mh m0 m1 m2 m3 dh d0 d1 d2 d3 ea cb ch be N  U.1 z80 hz80) (x_cwV 0 hts rfl k_465 k_466 k_467 k_23 k_468 (by decide +kernel) ⟨(by simp only [room_1, rm_Rv_crash] <;> omega), (by simp only [room_1, rm_Rv_crash] <;> omega)⟩) hK hP hD hS hA hZ [0, 1, 2, 3, 4, 5, 6, 7, 8, 9, 10, 11, 12, 13, 14, 15] [16, 17, 18, 19, 20, 21, 22, 23, 24, 25, 26, 27, 28, 29, 30] [15, 16, 17, 18, 19, 20, 21, 22, 23, 24, 25, 26, 27, 28, 29, 30, 0, 1, 2, 3, 4, 5, 6, 7, 8, 9, 10, 11, 12, 13, 14] (by decide) rfl rfl (by decide) (by decide) (by decide) rfl (ci := 2) rfl rfl rfl hl.1 rfl (Nat.le_of_ble_eq_true rfl) d_La_law_567 ⟨(by simp only [room_1, rm_Rv_crash] <;> omega), (by simp only [room_1, rm_Rv_crash] <;> omega)⟩ (fun H locs hP hD hS => ?_)
        refine W.eq (g2 := F0 m 570 ls [.int z80.1]) rfl ?_
        refine lv_aload_n hx hb d_La_law_570 rfl (lv_at hl 2 rfl) ?_
        obtain ⟨z81, hz81, hf⟩ := x_bind hf
        refine x_callV (w2 := (w_La cI cJ cZ rh sh mh m0 m1 m2 m3 dh d0 d1 d2 d3 ea cb ch be oh o0 o1 o2 o3 o4 o5 o6 o7 o8 o9 o10 o11 o12 ou (z80.2, (z81.2, U.2.2)))) ⟨hx, hb, hml, hown, hts⟩ (c_Mo_crash l D cI cJ cZ oh o0 o1 o2 o3 o4 o5 o6 o7 o8 o9 o10 o11 o12 N  U.2.1 z81 hz81) (x_cwV 0 hts rfl k_461 k_462 k_463 k_246 k_464 (by decide +kernel) ⟨(by simp only [room_1, rm_Mo_crash, rm_Rv_crash] <;> omega), (by simp only [room_1, rm_Mo_crash, rm_Rv_crash] <;> omega)⟩) hK hP hD hS hA hZ [16, 17, 18, 19, 20, 21, 22, 23, 24, 25, 26, 27, 28, 29] [0, 1, 2, 3, 4, 5, 6, 7, 8, 9, 10, 11, 12, 13, 14, 15, 30] [0, 1, 2, 3, 4, 5, 6, 7, 8, 9, 10, 11, 12, 13, 14, 15, 17, 18, 19, 20, 21, 22, 23, 24, 25, 26, 27, 28, 29, 30, 16] (by decide) rfl rfl (by decide) (by decide) (by decide) rfl (ci := 3) rfl rfl rfl hl.1 rfl (Nat.le_of_ble_eq_true rfl) d_La_law_571 ⟨(by simp only [room_1, rm_Mo_crash, rm_Rv_crash] <;> omega), (by simp only [room_1, rm_Mo_crash, rm_Rv_crash] <;> omega)⟩ (fun H locs hP hD hS => ?_)
        refine W.eq (g2 := F0 m 574 ls [.int z81.1, .int z80.1]) rfl ?_
        refine lv_icmp_eq (tgt := 883) hx hb d_La_law_574 (by decide) (fun c82 => ?_) (fun c82 => ?_)
        · have hf := x_ifp c82 hf
          refine lv_iinc (v := (x4 + (4 : Int32))) (lv' := [(4, .int (x4 + (4 : Int32))), (0, .ref b), (1, .ref rh), (2, .ref oh), (3, .ref ou)]) hx hb d_La_law_883 hl (k := 4) rfl rfl (by decide) rfl (fun ls hl => ?_)
          refine lv_goto (tgt := 23) hx hb d_La_law_886 (by decide) ?_
          refine W.widen (k := c0 + 4 * (j + 1)) (n := s0 + 24 * (j + 1)) (by simp only [rm_Mo_crash, rm_Rv_crash] <;> omega) (by simp only [rm_Mo_crash, rm_Rv_crash] <;> omega) ?_
          exact ih (j + 1) (by omega) _ _ hf _ _ _ hP hD hS (lv_sub hl [1, 2, 3, 4, 0] rfl)
        · have hf := x_ifn c82 hf
          refine lv_iconst (v := (0 : Int32)) hx hb d_La_law_577 (by decide) ?_
          exact absurd (Option.some.inj hf) (by decide)
      have hf := x_ifn c79 hf
      by_cases c83 : ((xs x4.toNatClampNeg) &&& (15 : Int32)) = (10 : Int32)
      · have hf := x_ifp c83 hf
        refine lv_tableIn (tgt := 579) hx hb d_La_law_39 (by rw [c83]; decide) (by rw [c83]; decide) (by rw [c83]; rfl) (by decide) ?_
        refine lv_aload_n hx hb d_La_law_579 rfl (lv_at hl 1 rfl) ?_
        refine lv_aload_n hx hb d_La_law_580 rfl (lv_at hl 0 rfl) ?_
        refine lv_iload hx hb d_La_law_581 (lv_at hl 4 rfl) ?_
        refine lv_iconst (v := (1 : Int32)) hx hb d_La_law_583 (by decide) ?_
        refine lv_iadd hx hb d_La_law_584 ?_
        obtain ⟨g84, hf⟩ := x_if hf
        refine va_sld hx hb hX hbl hbA hS (xi_in g84) d_La_law_585 ?_
        refine lv_aload_n hx hb d_La_law_586 rfl (lv_at hl 3 rfl) ?_
        obtain ⟨z85, hz85, hf⟩ := x_bind hf
        refine x_callSW (w2 := (w_La cI cJ cZ rh sh mh m0 m1 m2 m3 dh d0 d1 d2 d3 ea cb ch be oh o0 o1 o2 o3 o4 o5 o6 o7 o8 o9 o10 o11 o12 ou (z85.2.1, (U.2.1, z85.2.2)))) ⟨hx, hb, hml, hown, hts⟩ (c_La_image l D cI cJ cZ rh sh mh m0 m1 m2 m3 dh d0 d1 d2 d3 ea cb ch be ou hL0 N (xs (x4 + (1 : Int32)).toNatClampNeg) (U.1, U.2.2) z85 hz85) (n := 3) rfl k_473 k_474 k_401 k_475 (by decide +kernel) ⟨(by simp only [room_1, rm_La_image] <;> omega), (by simp only [room_1, rm_La_image] <;> omega)⟩ hK hP hD hS hA hZ [0, 1, 2, 3, 4, 5, 6, 7, 8, 9, 10, 11, 12, 13, 14, 15, 30] [16, 17, 18, 19, 20, 21, 22, 23, 24, 25, 26, 27, 28, 29] [14, 15, 16, 17, 18, 19, 20, 21, 22, 23, 24, 25, 26, 27, 28, 29, 0, 1, 2, 3, 4, 5, 6, 7, 8, 9, 10, 11, 12, 13, 30] (by decide) rfl rfl (by decide) (by decide) (by decide) rfl rfl hl.1 rfl (Nat.le_of_ble_eq_true rfl) d_La_law_587 ⟨(by simp only [room_1, rm_La_image] <;> omega), (by simp only [room_1, rm_La_image] <;> omega)⟩ (fun H locs hP hD hS => ?_)
        refine W.eq (g2 := F0 m 590 ls [.int z85.1]) rfl ?_
        refine lv_istore (lv' := [(5, .int z85.1), (0, .ref b), (1, .ref rh), (2, .ref oh), (3, .ref ou), (4, .int x4)]) hx hb d_La_law_590 hl (by decide) rfl (fun ls hl => ?_)
        refine lv_aload_n hx hb d_La_law_592 rfl (lv_at hl 3 rfl) ?_
        refine lv_aload_n hx hb d_La_law_593 rfl (lv_at hl 1 rfl) ?_
        refine lv_iload hx hb d_La_law_594 (lv_at hl 5 rfl) ?_
        refine lv_iconst (v := (1 : Int32)) hx hb d_La_law_596 (by decide) ?_
        refine lv_iadd hx hb d_La_law_597 ?_
        obtain ⟨g86, hf⟩ := x_if hf
        refine va_sld hx hb hX hbl hbA hS (xi_in g86) d_La_law_598 ?_
        obtain ⟨z87, hz87, hf⟩ := x_bind hf
        refine x_callV (w2 := (w_La cI cJ cZ rh sh mh m0 m1 m2 m3 dh d0 d1 d2 d3 ea cb ch be oh o0 o1 o2 o3 o4 o5 o6 o7 o8 o9 o10 o11 o12 ou (z85.2.1, (z87.2, z85.2.2)))) ⟨hx, hb, hml, hown, hts⟩ (c_Mo_image l D cI cJ cZ oh o0 o1 o2 o3 o4 o5 o6 o7 o8 o9 o10 o11 o12 N (xs (x4 + (1 : Int32)).toNatClampNeg) U.2.1 z87 hz87) (x_cwV 1 hts rfl k_469 k_470 k_471 k_246 k_472 (by decide +kernel) ⟨(by simp only [room_1, rm_La_image, rm_Mo_image] <;> omega), (by simp only [room_1, rm_La_image, rm_Mo_image] <;> omega)⟩) hK hP hD hS hA hZ [16, 17, 18, 19, 20, 21, 22, 23, 24, 25, 26, 27, 28, 29] [0, 1, 2, 3, 4, 5, 6, 7, 8, 9, 10, 11, 12, 13, 14, 15, 30] [0, 1, 2, 3, 4, 5, 6, 7, 8, 9, 10, 11, 12, 13, 14, 15, 17, 18, 19, 20, 21, 22, 23, 24, 25, 26, 27, 28, 29, 30, 16] (by decide) rfl rfl (by decide) (by decide) (by decide) rfl (ci := 3) rfl rfl rfl hl.1 rfl (Nat.le_of_ble_eq_true rfl) d_La_law_599 ⟨(by simp only [room_1, rm_La_image, rm_Mo_image] <;> omega), (by simp only [room_1, rm_La_image, rm_Mo_image] <;> omega)⟩ (fun H locs hP hD hS => ?_)
        refine W.eq (g2 := F0 m 602 ls [.int z87.1]) rfl ?_
        refine lv_istore (lv' := [(6, .int z87.1), (5, .int z85.1), (0, .ref b), (1, .ref rh), (2, .ref oh), (3, .ref ou), (4, .int x4)]) hx hb d_La_law_602 hl (by decide) rfl (fun ls hl => ?_)
        refine lv_aload_n hx hb d_La_law_604 rfl (lv_at hl 4 rfl) ?_
        obtain ⟨z88, hz88, hf⟩ := x_bind hf
        refine x_callV (w2 := (w_La cI cJ cZ rh sh mh m0 m1 m2 m3 dh d0 d1 d2 d3 ea cb ch be oh o0 o1 o2 o3 o4 o5 o6 o7 o8 o9 o10 o11 o12 ou (z85.2.1, (z88.2, z85.2.2)))) ⟨hx, hb, hml, hown, hts⟩ (c_Mo_thrown l D cI cJ cZ oh o0 o1 o2 o3 o4 o5 o6 o7 o8 o9 o10 o11 o12 N  z87.2 z88 hz88) (x_cwV 0 hts rfl k_391 k_392 k_393 k_246 k_394 (by decide +kernel) ⟨(by simp only [room_1, rm_La_image, rm_Mo_image, rm_Mo_thrown] <;> omega), (by simp only [room_1, rm_La_image, rm_Mo_image, rm_Mo_thrown] <;> omega)⟩) hK hP hD hS hA hZ [16, 17, 18, 19, 20, 21, 22, 23, 24, 25, 26, 27, 28, 29] [0, 1, 2, 3, 4, 5, 6, 7, 8, 9, 10, 11, 12, 13, 14, 15, 30] [0, 1, 2, 3, 4, 5, 6, 7, 8, 9, 10, 11, 12, 13, 14, 15, 17, 18, 19, 20, 21, 22, 23, 24, 25, 26, 27, 28, 29, 30, 16] (by decide) rfl rfl (by decide) (by decide) (by decide) rfl (ci := 3) rfl rfl rfl hl.1 rfl (Nat.le_of_ble_eq_true rfl) d_La_law_605 ⟨(by simp only [room_1, rm_La_image, rm_Mo_image, rm_Mo_thrown] <;> omega), (by simp only [room_1, rm_La_image, rm_Mo_image, rm_Mo_thrown] <;> omega)⟩ (fun H locs hP hD hS => ?_)
        refine W.eq (g2 := F0 m 608 ls [.int z88.1]) rfl ?_
        refine lv_iload hx hb d_La_law_608 (lv_at hl 1 rfl) ?_
        refine lv_icmp_eq (tgt := 615) hx hb d_La_law_610 (by decide) (fun c91 => ?_) (fun c91 => ?_)
        · have hf := x_ifp c91 hf
          refine lv_iload hx hb d_La_law_615 (lv_at hl 1 rfl) ?_
          refine lv_if_ne (tgt := 632) hx hb d_La_law_617 (by decide) (fun c90 => ?_) (fun c90 => ?_)
          · have hf := x_ifn c90 hf
            refine lv_goto (tgt := 883) hx hb d_La_law_632 (by decide) ?_
            refine lv_iinc (v := (x4 + (4 : Int32))) (lv' := [(4, .int (x4 + (4 : Int32))), (6, .int z87.1), (5, .int z85.1), (0, .ref b), (1, .ref rh), (2, .ref oh), (3, .ref ou)]) hx hb d_La_law_883 hl (k := 6) rfl rfl (by decide) rfl (fun ls hl => ?_)
            refine lv_goto (tgt := 23) hx hb d_La_law_886 (by decide) ?_
            refine W.widen (k := c0 + 4 * (j + 1)) (n := s0 + 24 * (j + 1)) (by simp only [rm_La_image, rm_Mo_image, rm_Mo_thrown] <;> omega) (by simp only [rm_La_image, rm_Mo_image, rm_Mo_thrown] <;> omega) ?_
            exact ih (j + 1) (by omega) _ _ hf _ _ _ hP hD hS (lv_sub hl [3, 4, 5, 6, 0] rfl)
          · have hf := x_ifp c90 hf
            refine lv_aload_n hx hb d_La_law_620 rfl (lv_at hl 5 rfl) ?_
            refine lv_iconst (v := (0 : Int32)) hx hb d_La_law_621 (by decide) ?_
            refine va_lald hx hb hK hP 30 1 rfl rfl (xi_in rfl) d_La_law_622 ?_
            refine lv_iload hx hb d_La_law_623 (lv_at hl 0 rfl) ?_
            refine lv_i2l (v := (z87.1).toInt64) hx hb d_La_law_625 rfl ?_
            refine W.lcmp hx hb d_La_law_626 ?_
            refine lv_if_eq (tgt := 632) hx hb d_La_law_627 (by decide) (fun c89 => ?_) (fun c89 => ?_)
            · have hf := x_ifp c89 hf
              refine lv_goto (tgt := 883) hx hb d_La_law_632 (by decide) ?_
              refine lv_iinc (v := (x4 + (4 : Int32))) (lv' := [(4, .int (x4 + (4 : Int32))), (6, .int z87.1), (5, .int z85.1), (0, .ref b), (1, .ref rh), (2, .ref oh), (3, .ref ou)]) hx hb d_La_law_883 hl (k := 6) rfl rfl (by decide) rfl (fun ls hl => ?_)
              refine lv_goto (tgt := 23) hx hb d_La_law_886 (by decide) ?_
              refine W.widen (k := c0 + 4 * (j + 1)) (n := s0 + 24 * (j + 1)) (by simp only [rm_La_image, rm_Mo_image, rm_Mo_thrown] <;> omega) (by simp only [rm_La_image, rm_Mo_image, rm_Mo_thrown] <;> omega) ?_
              exact ih (j + 1) (by omega) _ _ hf _ _ _ hP hD hS (lv_sub hl [3, 4, 5, 6, 0] rfl)
            · have hf := x_ifn c89 hf
              refine lv_iconst (v := (0 : Int32)) hx hb d_La_law_630 (by decide) ?_
              exact absurd (Option.some.inj hf) (by decide)
        · have hf := x_ifn c91 hf
          refine lv_iconst (v := (0 : Int32)) hx hb d_La_law_613 (by decide) ?_
          exact absurd (Option.some.inj hf) (by decide)
      have hf := x_ifn c83 hf
      by_cases c92 : ((xs x4.toNatClampNeg) &&& (15 : Int32)) = (11 : Int32)
      · have hf := x_ifp c92 hf
        refine lv_tableIn (tgt := 635) hx hb d_La_law_39 (by rw [c92]; decide) (by rw [c92]; decide) (by rw [c92]; rfl) (by decide) ?_
        refine lv_aload_n hx hb d_La_law_635 rfl (lv_at hl 1 rfl) ?_
        refine lv_aload_n hx hb d_La_law_636 rfl (lv_at hl 0 rfl) ?_
        refine lv_iload hx hb d_La_law_637 (lv_at hl 4 rfl) ?_
        refine lv_iconst (v := (1 : Int32)) hx hb d_La_law_639 (by decide) ?_
        refine lv_iadd hx hb d_La_law_640 ?_
        obtain ⟨g93, hf⟩ := x_if hf
        refine va_sld hx hb hX hbl hbA hS (xi_in g93) d_La_law_641 ?_
        refine lv_aload_n hx hb d_La_law_642 rfl (lv_at hl 3 rfl) ?_
        obtain ⟨z94, hz94, hf⟩ := x_bind hf
        refine x_callSW (w2 := (w_La cI cJ cZ rh sh mh m0 m1 m2 m3 dh d0 d1 d2 d3 ea cb ch be oh o0 o1 o2 o3 o4 o5 o6 o7 o8 o9 o10 o11 o12 ou (z94.2.1, (U.2.1, z94.2.2)))) ⟨hx, hb, hml, hown, hts⟩ (c_La_state l D cI cJ cZ rh sh mh m0 m1 m2 m3 dh d0 d1 d2 d3 ea cb ch be ou hL0 N (xs (x4 + (1 : Int32)).toNatClampNeg) (U.1, U.2.2) z94 hz94) (n := 3) rfl k_480 k_481 k_401 k_482 (by decide +kernel) ⟨(by simp only [room_1, rm_La_state] <;> omega), (by simp only [room_1, rm_La_state] <;> omega)⟩ hK hP hD hS hA hZ [0, 1, 2, 3, 4, 5, 6, 7, 8, 9, 10, 11, 12, 13, 14, 15, 30] [16, 17, 18, 19, 20, 21, 22, 23, 24, 25, 26, 27, 28, 29] [14, 15, 16, 17, 18, 19, 20, 21, 22, 23, 24, 25, 26, 27, 28, 29, 0, 1, 2, 3, 4, 5, 6, 7, 8, 9, 10, 11, 12, 13, 30] (by decide) rfl rfl (by decide) (by decide) (by decide) rfl rfl hl.1 rfl (Nat.le_of_ble_eq_true rfl) d_La_law_643 ⟨(by simp only [room_1, rm_La_state] <;> omega), (by simp only [room_1, rm_La_state] <;> omega)⟩ (fun H locs hP hD hS => ?_)
        refine W.eq (g2 := F0 m 646 ls [.int z94.1]) rfl ?_
        refine lv_istore (lv' := [(5, .int z94.1), (0, .ref b), (1, .ref rh), (2, .ref oh), (3, .ref ou), (4, .int x4)]) hx hb d_La_law_646 hl (by decide) rfl (fun ls hl => ?_)
        refine lv_aload_n hx hb d_La_law_648 rfl (lv_at hl 3 rfl) ?_
        refine lv_aload_n hx hb d_La_law_649 rfl (lv_at hl 1 rfl) ?_
        refine lv_iload hx hb d_La_law_650 (lv_at hl 5 rfl) ?_
        refine lv_iconst (v := (1 : Int32)) hx hb d_La_law_652 (by decide) ?_
        refine lv_iadd hx hb d_La_law_653 ?_
        obtain ⟨g95, hf⟩ := x_if hf
        refine va_sld hx hb hX hbl hbA hS (xi_in g95) d_La_law_654 ?_
        obtain ⟨z96, hz96, hf⟩ := x_bind hf
        refine x_callV (w2 := (w_La cI cJ cZ rh sh mh m0 m1 m2 m3 dh d0 d1 d2 d3 ea cb ch be oh o0 o1 o2 o3 o4 o5 o6 o7 o8 o9 o10 o11 o12 ou (z94.2.1, (z96.2, z94.2.2)))) ⟨hx, hb, hml, hown, hts⟩ (c_Mo_state l D cI cJ cZ oh o0 o1 o2 o3 o4 o5 o6 o7 o8 o9 o10 o11 o12 N (xs (x4 + (1 : Int32)).toNatClampNeg) U.2.1 z96 hz96) (x_cwV 1 hts rfl k_476 k_477 k_478 k_246 k_479 (by decide +kernel) ⟨(by simp only [room_1, rm_La_state, rm_Mo_state] <;> omega), (by simp only [room_1, rm_La_state, rm_Mo_state] <;> omega)⟩) hK hP hD hS hA hZ [16, 17, 18, 19, 20, 21, 22, 23, 24, 25, 26, 27, 28, 29] [0, 1, 2, 3, 4, 5, 6, 7, 8, 9, 10, 11, 12, 13, 14, 15, 30] [0, 1, 2, 3, 4, 5, 6, 7, 8, 9, 10, 11, 12, 13, 14, 15, 17, 18, 19, 20, 21, 22, 23, 24, 25, 26, 27, 28, 29, 30, 16] (by decide) rfl rfl (by decide) (by decide) (by decide) rfl (ci := 3) rfl rfl rfl hl.1 rfl (Nat.le_of_ble_eq_true rfl) d_La_law_655 ⟨(by simp only [room_1, rm_La_state, rm_Mo_state] <;> omega), (by simp only [room_1, rm_La_state, rm_Mo_state] <;> omega)⟩ (fun H locs hP hD hS => ?_)
        refine W.eq (g2 := F0 m 658 ls [.int z96.1]) rfl ?_
        refine lv_istore (lv' := [(6, .int z96.1), (5, .int z94.1), (0, .ref b), (1, .ref rh), (2, .ref oh), (3, .ref ou), (4, .int x4)]) hx hb d_La_law_658 hl (by decide) rfl (fun ls hl => ?_)
        refine lv_aload_n hx hb d_La_law_660 rfl (lv_at hl 4 rfl) ?_
        obtain ⟨z97, hz97, hf⟩ := x_bind hf
        refine x_callV (w2 := (w_La cI cJ cZ rh sh mh m0 m1 m2 m3 dh d0 d1 d2 d3 ea cb ch be oh o0 o1 o2 o3 o4 o5 o6 o7 o8 o9 o10 o11 o12 ou (z94.2.1, (z97.2, z94.2.2)))) ⟨hx, hb, hml, hown, hts⟩ (c_Mo_thrown l D cI cJ cZ oh o0 o1 o2 o3 o4 o5 o6 o7 o8 o9 o10 o11 o12 N  z96.2 z97 hz97) (x_cwV 0 hts rfl k_391 k_392 k_393 k_246 k_394 (by decide +kernel) ⟨(by simp only [room_1, rm_La_state, rm_Mo_state, rm_Mo_thrown] <;> omega), (by simp only [room_1, rm_La_state, rm_Mo_state, rm_Mo_thrown] <;> omega)⟩) hK hP hD hS hA hZ [16, 17, 18, 19, 20, 21, 22, 23, 24, 25, 26, 27, 28, 29] [0, 1, 2, 3, 4, 5, 6, 7, 8, 9, 10, 11, 12, 13, 14, 15, 30] [0, 1, 2, 3, 4, 5, 6, 7, 8, 9, 10, 11, 12, 13, 14, 15, 17, 18, 19, 20, 21, 22, 23, 24, 25, 26, 27, 28, 29, 30, 16] (by decide) rfl rfl (by decide) (by decide) (by decide) rfl (ci := 3) rfl rfl rfl hl.1 rfl (Nat.le_of_ble_eq_true rfl) d_La_law_661 ⟨(by simp only [room_1, rm_La_state, rm_Mo_state, rm_Mo_thrown] <;> omega), (by simp only [room_1, rm_La_state, rm_Mo_state, rm_Mo_thrown] <;> omega)⟩ (fun H locs hP hD hS => ?_)
        refine W.eq (g2 := F0 m 664 ls [.int z97.1]) rfl ?_
        refine lv_iload hx hb d_La_law_664 (lv_at hl 1 rfl) ?_
        refine lv_icmp_eq (tgt := 671) hx hb d_La_law_666 (by decide) (fun c100 => ?_) (fun c100 => ?_)
        · have hf := x_ifp c100 hf
          refine lv_iload hx hb d_La_law_671 (lv_at hl 1 rfl) ?_
          refine lv_if_ne (tgt := 688) hx hb d_La_law_673 (by decide) (fun c99 => ?_) (fun c99 => ?_)
          · have hf := x_ifn c99 hf
            refine lv_goto (tgt := 883) hx hb d_La_law_688 (by decide) ?_
            refine lv_iinc (v := (x4 + (4 : Int32))) (lv' := [(4, .int (x4 + (4 : Int32))), (6, .int z96.1), (5, .int z94.1), (0, .ref b), (1, .ref rh), (2, .ref oh), (3, .ref ou)]) hx hb d_La_law_883 hl (k := 6) rfl rfl (by decide) rfl (fun ls hl => ?_)
            refine lv_goto (tgt := 23) hx hb d_La_law_886 (by decide) ?_
            refine W.widen (k := c0 + 4 * (j + 1)) (n := s0 + 24 * (j + 1)) (by simp only [rm_La_state, rm_Mo_state, rm_Mo_thrown] <;> omega) (by simp only [rm_La_state, rm_Mo_state, rm_Mo_thrown] <;> omega) ?_
            exact ih (j + 1) (by omega) _ _ hf _ _ _ hP hD hS (lv_sub hl [3, 4, 5, 6, 0] rfl)
          · have hf := x_ifp c99 hf
            refine lv_aload_n hx hb d_La_law_676 rfl (lv_at hl 5 rfl) ?_
            refine lv_iconst (v := (0 : Int32)) hx hb d_La_law_677 (by decide) ?_
            refine va_lald hx hb hK hP 30 1 rfl rfl (xi_in rfl) d_La_law_678 ?_
            refine lv_iload hx hb d_La_law_679 (lv_at hl 0 rfl) ?_
            refine lv_i2l (v := (z96.1).toInt64) hx hb d_La_law_681 rfl ?_
            refine W.lcmp hx hb d_La_law_682 ?_
            refine lv_if_eq (tgt := 688) hx hb d_La_law_683 (by decide) (fun c98 => ?_) (fun c98 => ?_)
            · have hf := x_ifp c98 hf
              refine lv_goto (tgt := 883) hx hb d_La_law_688 (by decide) ?_
              refine lv_iinc (v := (x4 + (4 : Int32))) (lv' := [(4, .int (x4 + (4 : Int32))), (6, .int z96.1), (5, .int z94.1), (0, .ref b), (1, .ref rh), (2, .ref oh), (3, .ref ou)]) hx hb d_La_law_883 hl (k := 6) rfl rfl (by decide) rfl (fun ls hl => ?_)
              refine lv_goto (tgt := 23) hx hb d_La_law_886 (by decide) ?_
              refine W.widen (k := c0 + 4 * (j + 1)) (n := s0 + 24 * (j + 1)) (by simp only [rm_La_state, rm_Mo_state, rm_Mo_thrown] <;> omega) (by simp only [rm_La_state, rm_Mo_state, rm_Mo_thrown] <;> omega) ?_
              exact ih (j + 1) (by omega) _ _ hf _ _ _ hP hD hS (lv_sub hl [3, 4, 5, 6, 0] rfl)
            · have hf := x_ifn c98 hf
              refine lv_iconst (v := (0 : Int32)) hx hb d_La_law_686 (by decide) ?_
              exact absurd (Option.some.inj hf) (by decide)
        · have hf := x_ifn c100 hf
          refine lv_iconst (v := (0 : Int32)) hx hb d_La_law_669 (by decide) ?_
          exact absurd (Option.some.inj hf) (by decide)
      have hf := x_ifn c92 hf
      by_cases c101 : ((xs x4.toNatClampNeg) &&& (15 : Int32)) = (12 : Int32)
      · have hf := x_ifp c101 hf
        refine lv_tableIn (tgt := 691) hx hb d_La_law_39 (by rw [c101]; decide) (by rw [c101]; decide) (by rw [c101]; rfl) (by decide) ?_
        refine lv_aload_n hx hb d_La_law_691 rfl (lv_at hl 1 rfl) ?_
        refine lv_aload_n hx hb d_La_law_692 rfl (lv_at hl 0 rfl) ?_
        refine lv_iload hx hb d_La_law_693 (lv_at hl 4 rfl) ?_
        refine lv_iconst (v := (1 : Int32)) hx hb d_La_law_695 (by decide) ?_
        refine lv_iadd hx hb d_La_law_696 ?_
        obtain ⟨g102, hf⟩ := x_if hf
        refine va_sld hx hb hX hbl hbA hS (xi_in g102) d_La_law_697 ?_
        refine lv_aload_n hx hb d_La_law_698 rfl (lv_at hl 0 rfl) ?_
        refine lv_iload hx hb d_La_law_699 (lv_at hl 4 rfl) ?_
        refine lv_iconst (v := (2 : Int32)) hx hb d_La_law_701 (by decide) ?_
        refine lv_iadd hx hb d_La_law_702 ?_
        obtain ⟨g103, hf⟩ := x_if hf
        refine va_sld hx hb hX hbl hbA hS (xi_in g103) d_La_law_703 ?_
        refine lv_aload_n hx hb d_La_law_704 rfl (lv_at hl 0 rfl) ?_
        refine lv_iload hx hb d_La_law_705 (lv_at hl 4 rfl) ?_
        refine lv_iconst (v := (3 : Int32)) hx hb d_La_law_707 (by decide) ?_
        refine lv_iadd hx hb d_La_law_708 ?_
        obtain ⟨g104, hf⟩ := x_if hf
        refine va_sld hx hb hX hbl hbA hS (xi_in g104) d_La_law_709 ?_
        refine lv_aload_n hx hb d_La_law_710 rfl (lv_at hl 3 rfl) ?_
        obtain ⟨z105, hz105, hf⟩ := x_bind hf
        refine x_callSW (w2 := (w_La cI cJ cZ rh sh mh m0 m1 m2 m3 dh d0 d1 d2 d3 ea cb ch be oh o0 o1 o2 o3 o4 o5 o6 o7 o8 o9 o10 o11 o12 ou (z105.2.1, (U.2.1, z105.2.2)))) ⟨hx, hb, hml, hown, hts⟩ (c_La_version l D cI cJ cZ rh sh mh m0 m1 m2 m3 dh d0 d1 d2 d3 ea cb ch be ou hL0 N (xs (x4 + (1 : Int32)).toNatClampNeg) (xs (x4 + (2 : Int32)).toNatClampNeg) (xs (x4 + (3 : Int32)).toNatClampNeg) (U.1, U.2.2) z105 hz105) (n := 5) rfl k_487 k_488 k_401 k_489 (by decide +kernel) ⟨(by simp only [room_1, rm_La_version] <;> omega), (by simp only [room_1, rm_La_version] <;> omega)⟩ hK hP hD hS hA hZ [0, 1, 2, 3, 4, 5, 6, 7, 8, 9, 10, 11, 12, 13, 14, 15, 30] [16, 17, 18, 19, 20, 21, 22, 23, 24, 25, 26, 27, 28, 29] [14, 15, 16, 17, 18, 19, 20, 21, 22, 23, 24, 25, 26, 27, 28, 29, 0, 1, 2, 3, 4, 5, 6, 7, 8, 9, 10, 11, 12, 13, 30] (by decide) rfl rfl (by decide) (by decide) (by decide) rfl rfl hl.1 rfl (Nat.le_of_ble_eq_true rfl) d_La_law_711 ⟨(by simp only [room_1, rm_La_version] <;> omega), (by simp only [room_1, rm_La_version] <;> omega)⟩ (fun H locs hP hD hS => ?_)
        refine W.eq (g2 := F0 m 714 ls [.int z105.1]) rfl ?_
        refine lv_istore (lv' := [(5, .int z105.1), (0, .ref b), (1, .ref rh), (2, .ref oh), (3, .ref ou), (4, .int x4)]) hx hb d_La_law_714 hl (by decide) rfl (fun ls hl => ?_)
        refine lv_aload_n hx hb d_La_law_716 rfl (lv_at hl 3 rfl) ?_
        refine lv_aload_n hx hb d_La_law_717 rfl (lv_at hl 1 rfl) ?_
        refine lv_iload hx hb d_La_law_718 (lv_at hl 5 rfl) ?_
        refine lv_iconst (v := (1 : Int32)) hx hb d_La_law_720 (by decide) ?_
        refine lv_iadd hx hb d_La_law_721 ?_
        obtain ⟨g106, hf⟩ := x_if hf
        refine va_sld hx hb hX hbl hbA hS (xi_in g106) d_La_law_722 ?_
        refine lv_aload_n hx hb d_La_law_723 rfl (lv_at hl 1 rfl) ?_
        refine lv_iload hx hb d_La_law_724 (lv_at hl 5 rfl) ?_
        refine lv_iconst (v := (2 : Int32)) hx hb d_La_law_726 (by decide) ?_
        refine lv_iadd hx hb d_La_law_727 ?_
        obtain ⟨g107, hf⟩ := x_if hf
        refine va_sld hx hb hX hbl hbA hS (xi_in g107) d_La_law_728 ?_
        refine lv_aload_n hx hb d_La_law_729 rfl (lv_at hl 1 rfl) ?_
        refine lv_iload hx hb d_La_law_730 (lv_at hl 5 rfl) ?_
        refine lv_iconst (v := (3 : Int32)) hx hb d_La_law_732 (by decide) ?_
        refine lv_iadd hx hb d_La_law_733 ?_
        obtain ⟨g108, hf⟩ := x_if hf
        refine va_sld hx hb hX hbl hbA hS (xi_in g108) d_La_law_734 ?_
        obtain ⟨z109, hz109, hf⟩ := x_bind hf
        refine x_callV (w2 := (w_La cI cJ cZ rh sh mh m0 m1 m2 m3 dh d0 d1 d2 d3 ea cb ch be oh o0 o1 o2 o3 o4 o5 o6 o7 o8 o9 o10 o11 o12 ou (z105.2.1, (z109.2, z105.2.2)))) ⟨hx, hb, hml, hown, hts⟩ (c_Mo_version l D cI cJ cZ oh o0 o1 o2 o3 o4 o5 o6 o7 o8 o9 o10 o11 o12 N (xs (x4 + (1 : Int32)).toNatClampNeg) (xs (x4 + (2 : Int32)).toNatClampNeg) (xs (x4 + (3 : Int32)).toNatClampNeg) U.2.1 z109 hz109) (x_cwV 3 hts rfl k_483 k_484 k_485 k_246 k_486 (by decide +kernel) ⟨(by simp only [room_1, rm_La_version, rm_Mo_version] <;> omega), (by simp only [room_1, rm_La_version, rm_Mo_version] <;> omega)⟩) hK hP hD hS hA hZ [16, 17, 18, 19, 20, 21, 22, 23, 24, 25, 26, 27, 28, 29] [0, 1, 2, 3, 4, 5, 6, 7, 8, 9, 10, 11, 12, 13, 14, 15, 30] [0, 1, 2, 3, 4, 5, 6, 7, 8, 9, 10, 11, 12, 13, 14, 15, 17, 18, 19, 20, 21, 22, 23, 24, 25, 26, 27, 28, 29, 30, 16] (by decide) rfl rfl (by decide) (by decide) (by decide) rfl (ci := 3) rfl rfl rfl hl.1 rfl (Nat.le_of_ble_eq_true rfl) d_La_law_735 ⟨(by simp only [room_1, rm_La_version, rm_Mo_version] <;> omega), (by simp only [room_1, rm_La_version, rm_Mo_version] <;> omega)⟩ (fun H locs hP hD hS => ?_)
        refine W.eq (g2 := F0 m 738 ls [.int z109.1]) rfl ?_
        refine lv_istore (lv' := [(6, .int z109.1), (5, .int z105.1), (0, .ref b), (1, .ref rh), (2, .ref oh), (3, .ref ou), (4, .int x4)]) hx hb d_La_law_738 hl (by decide) rfl (fun ls hl => ?_)
        refine lv_aload_n hx hb d_La_law_740 rfl (lv_at hl 4 rfl) ?_
        obtain ⟨z110, hz110, hf⟩ := x_bind hf
        refine x_callV (w2 := (w_La cI cJ cZ rh sh mh m0 m1 m2 m3 dh d0 d1 d2 d3 ea cb ch be oh o0 o1 o2 o3 o4 o5 o6 o7 o8 o9 o10 o11 o12 ou (z105.2.1, (z110.2, z105.2.2)))) ⟨hx, hb, hml, hown, hts⟩ (c_Mo_thrown l D cI cJ cZ oh o0 o1 o2 o3 o4 o5 o6 o7 o8 o9 o10 o11 o12 N  z109.2 z110 hz110) (x_cwV 0 hts rfl k_391 k_392 k_393 k_246 k_394 (by decide +kernel) ⟨(by simp only [room_1, rm_La_version, rm_Mo_thrown, rm_Mo_version] <;> omega), (by simp only [room_1, rm_La_version, rm_Mo_thrown, rm_Mo_version] <;> omega)⟩) hK hP hD hS hA hZ [16, 17, 18, 19, 20, 21, 22, 23, 24, 25, 26, 27, 28, 29] [0, 1, 2, 3, 4, 5, 6, 7, 8, 9, 10, 11, 12, 13, 14, 15, 30] [0, 1, 2, 3, 4, 5, 6, 7, 8, 9, 10, 11, 12, 13, 14, 15, 17, 18, 19, 20, 21, 22, 23, 24, 25, 26, 27, 28, 29, 30, 16] (by decide) rfl rfl (by decide) (by decide) (by decide) rfl (ci := 3) rfl rfl rfl hl.1 rfl (Nat.le_of_ble_eq_true rfl) d_La_law_741 ⟨(by simp only [room_1, rm_La_version, rm_Mo_thrown, rm_Mo_version] <;> omega), (by simp only [room_1, rm_La_version, rm_Mo_thrown, rm_Mo_version] <;> omega)⟩ (fun H locs hP hD hS => ?_)
        refine W.eq (g2 := F0 m 744 ls [.int z110.1]) rfl ?_
        refine lv_iload hx hb d_La_law_744 (lv_at hl 1 rfl) ?_
        refine lv_icmp_eq (tgt := 751) hx hb d_La_law_746 (by decide) (fun c113 => ?_) (fun c113 => ?_)
        · have hf := x_ifp c113 hf
          refine lv_iload hx hb d_La_law_751 (lv_at hl 1 rfl) ?_
          refine lv_if_ne (tgt := 768) hx hb d_La_law_753 (by decide) (fun c112 => ?_) (fun c112 => ?_)
          · have hf := x_ifn c112 hf
            refine lv_goto (tgt := 883) hx hb d_La_law_768 (by decide) ?_
            refine lv_iinc (v := (x4 + (4 : Int32))) (lv' := [(4, .int (x4 + (4 : Int32))), (6, .int z109.1), (5, .int z105.1), (0, .ref b), (1, .ref rh), (2, .ref oh), (3, .ref ou)]) hx hb d_La_law_883 hl (k := 6) rfl rfl (by decide) rfl (fun ls hl => ?_)
            refine lv_goto (tgt := 23) hx hb d_La_law_886 (by decide) ?_
            refine W.widen (k := c0 + 4 * (j + 1)) (n := s0 + 24 * (j + 1)) (by simp only [rm_La_version, rm_Mo_thrown, rm_Mo_version] <;> omega) (by simp only [rm_La_version, rm_Mo_thrown, rm_Mo_version] <;> omega) ?_
            exact ih (j + 1) (by omega) _ _ hf _ _ _ hP hD hS (lv_sub hl [3, 4, 5, 6, 0] rfl)
          · have hf := x_ifp c112 hf
            refine lv_aload_n hx hb d_La_law_756 rfl (lv_at hl 5 rfl) ?_
            refine lv_iconst (v := (0 : Int32)) hx hb d_La_law_757 (by decide) ?_
            refine va_lald hx hb hK hP 30 1 rfl rfl (xi_in rfl) d_La_law_758 ?_
            refine lv_iload hx hb d_La_law_759 (lv_at hl 0 rfl) ?_
            refine lv_i2l (v := (z109.1).toInt64) hx hb d_La_law_761 rfl ?_
            refine W.lcmp hx hb d_La_law_762 ?_
            refine lv_if_eq (tgt := 768) hx hb d_La_law_763 (by decide) (fun c111 => ?_) (fun c111 => ?_)
            · have hf := x_ifp c111 hf
              refine lv_goto (tgt := 883) hx hb d_La_law_768 (by decide) ?_
              refine lv_iinc (v := (x4 + (4 : Int32))) (lv' := [(4, .int (x4 + (4 : Int32))), (6, .int z109.1), (5, .int z105.1), (0, .ref b), (1, .ref rh), (2, .ref oh), (3, .ref ou)]) hx hb d_La_law_883 hl (k := 6) rfl rfl (by decide) rfl (fun ls hl => ?_)
              refine lv_goto (tgt := 23) hx hb d_La_law_886 (by decide) ?_
              refine W.widen (k := c0 + 4 * (j + 1)) (n := s0 + 24 * (j + 1)) (by simp only [rm_La_version, rm_Mo_thrown, rm_Mo_version] <;> omega) (by simp only [rm_La_version, rm_Mo_thrown, rm_Mo_version] <;> omega) ?_
              exact ih (j + 1) (by omega) _ _ hf _ _ _ hP hD hS (lv_sub hl [3, 4, 5, 6, 0] rfl)
            · have hf := x_ifn c111 hf
              refine lv_iconst (v := (0 : Int32)) hx hb d_La_law_766 (by decide) ?_
              exact absurd (Option.some.inj hf) (by decide)
        · have hf := x_ifn c113 hf
          refine lv_iconst (v := (0 : Int32)) hx hb d_La_law_749 (by decide) ?_
          exact absurd (Option.some.inj hf) (by decide)
      have hf := x_ifn c101 hf
      by_cases c114 : ((xs x4.toNatClampNeg) &&& (15 : Int32)) = (13 : Int32)
      · have hf := x_ifp c114 hf
        refine lv_tableIn (tgt := 771) hx hb d_La_law_39 (by rw [c114]; decide) (by rw [c114]; decide) (by rw [c114]; rfl) (by decide) ?_
        refine lv_aload_n hx hb d_La_law_771 rfl (lv_at hl 1 rfl) ?_
        refine lv_aload_n hx hb d_La_law_772 rfl (lv_at hl 0 rfl) ?_
        refine lv_iload hx hb d_La_law_773 (lv_at hl 4 rfl) ?_
        refine lv_iconst (v := (1 : Int32)) hx hb d_La_law_775 (by decide) ?_
        refine lv_iadd hx hb d_La_law_776 ?_
        obtain ⟨g115, hf⟩ := x_if hf
        refine va_sld hx hb hX hbl hbA hS (xi_in g115) d_La_law_777 ?_
        refine lv_aload_n hx hb d_La_law_778 rfl (lv_at hl 3 rfl) ?_
        obtain ⟨z116, hz116, hf⟩ := x_bind hf
        refine x_callSW (w2 := (w_La cI cJ cZ rh sh mh m0 m1 m2 m3 dh d0 d1 d2 d3 ea cb ch be oh o0 o1 o2 o3 o4 o5 o6 o7 o8 o9 o10 o11 o12 ou (z116.2.1, (U.2.1, z116.2.2)))) ⟨hx, hb, hml, hown, hts⟩ (c_La_page l D cI cJ cZ rh sh mh m0 m1 m2 m3 dh d0 d1 d2 d3 ea cb ch be ou hL0 N (xs (x4 + (1 : Int32)).toNatClampNeg) (U.1, U.2.2) z116 hz116) (n := 3) rfl k_494 k_495 k_401 k_496 (by decide +kernel) ⟨(by simp only [room_1, rm_La_page] <;> omega), (by simp only [room_1, rm_La_page] <;> omega)⟩ hK hP hD hS hA hZ [0, 1, 2, 3, 4, 5, 6, 7, 8, 9, 10, 11, 12, 13, 14, 15, 30] [16, 17, 18, 19, 20, 21, 22, 23, 24, 25, 26, 27, 28, 29] [14, 15, 16, 17, 18, 19, 20, 21, 22, 23, 24, 25, 26, 27, 28, 29, 0, 1, 2, 3, 4, 5, 6, 7, 8, 9, 10, 11, 12, 13, 30] (by decide) rfl rfl (by decide) (by decide) (by decide) rfl rfl hl.1 rfl (Nat.le_of_ble_eq_true rfl) d_La_law_779 ⟨(by simp only [room_1, rm_La_page] <;> omega), (by simp only [room_1, rm_La_page] <;> omega)⟩ (fun H locs hP hD hS => ?_)
        refine W.eq (g2 := F0 m 782 ls [.int z116.1]) rfl ?_
        refine lv_istore (lv' := [(5, .int z116.1), (0, .ref b), (1, .ref rh), (2, .ref oh), (3, .ref ou), (4, .int x4)]) hx hb d_La_law_782 hl (by decide) rfl (fun ls hl => ?_)
        refine lv_aload_n hx hb d_La_law_784 rfl (lv_at hl 3 rfl) ?_
        refine lv_aload_n hx hb d_La_law_785 rfl (lv_at hl 1 rfl) ?_
        refine lv_iload hx hb d_La_law_786 (lv_at hl 5 rfl) ?_
        refine lv_iconst (v := (1 : Int32)) hx hb d_La_law_788 (by decide) ?_
        refine lv_iadd hx hb d_La_law_789 ?_
        obtain ⟨g117, hf⟩ := x_if hf
        refine va_sld hx hb hX hbl hbA hS (xi_in g117) d_La_law_790 ?_
        obtain ⟨z118, hz118, hf⟩ := x_bind hf
        refine x_callV (w2 := (w_La cI cJ cZ rh sh mh m0 m1 m2 m3 dh d0 d1 d2 d3 ea cb ch be oh o0 o1 o2 o3 o4 o5 o6 o7 o8 o9 o10 o11 o12 ou (z116.2.1, (z118.2, z116.2.2)))) ⟨hx, hb, hml, hown, hts⟩ (c_Mo_page l D cI cJ cZ oh o0 o1 o2 o3 o4 o5 o6 o7 o8 o9 o10 o11 o12 N (xs (x4 + (1 : Int32)).toNatClampNeg) U.2.1 z118 hz118) (x_cwV 1 hts rfl k_490 k_491 k_492 k_246 k_493 (by decide +kernel) ⟨(by simp only [room_1, rm_La_page, rm_Mo_page] <;> omega), (by simp only [room_1, rm_La_page, rm_Mo_page] <;> omega)⟩) hK hP hD hS hA hZ [16, 17, 18, 19, 20, 21, 22, 23, 24, 25, 26, 27, 28, 29] [0, 1, 2, 3, 4, 5, 6, 7, 8, 9, 10, 11, 12, 13, 14, 15, 30] [0, 1, 2, 3, 4, 5, 6, 7, 8, 9, 10, 11, 12, 13, 14, 15, 17, 18, 19, 20, 21, 22, 23, 24, 25, 26, 27, 28, 29, 30, 16] (by decide) rfl rfl (by decide) (by decide) (by decide) rfl (ci := 3) rfl rfl rfl hl.1 rfl (Nat.le_of_ble_eq_true rfl) d_La_law_791 ⟨(by simp only [room_1, rm_La_page, rm_Mo_page] <;> omega), (by simp only [room_1, rm_La_page, rm_Mo_page] <;> omega)⟩ (fun H locs hP hD hS => ?_)
        refine W.eq (g2 := F0 m 794 ls [.int z118.1]) rfl ?_
        refine lv_istore (lv' := [(6, .int z118.1), (5, .int z116.1), (0, .ref b), (1, .ref rh), (2, .ref oh), (3, .ref ou), (4, .int x4)]) hx hb d_La_law_794 hl (by decide) rfl (fun ls hl => ?_)
        refine lv_aload_n hx hb d_La_law_796 rfl (lv_at hl 4 rfl) ?_
        obtain ⟨z119, hz119, hf⟩ := x_bind hf
        refine x_callV (w2 := (w_La cI cJ cZ rh sh mh m0 m1 m2 m3 dh d0 d1 d2 d3 ea cb ch be oh o0 o1 o2 o3 o4 o5 o6 o7 o8 o9 o10 o11 o12 ou (z116.2.1, (z119.2, z116.2.2)))) ⟨hx, hb, hml, hown, hts⟩ (c_Mo_thrown l D cI cJ cZ oh o0 o1 o2 o3 o4 o5 o6 o7 o8 o9 o10 o11 o12 N  z118.2 z119 hz119) (x_cwV 0 hts rfl k_391 k_392 k_393 k_246 k_394 (by decide +kernel) ⟨(by simp only [room_1, rm_La_page, rm_Mo_page, rm_Mo_thrown] <;> omega), (by simp only [room_1, rm_La_page, rm_Mo_page, rm_Mo_thrown] <;> omega)⟩) hK hP hD hS hA hZ [16, 17, 18, 19, 20, 21, 22, 23, 24, 25, 26, 27, 28, 29] [0, 1, 2, 3, 4, 5, 6, 7, 8, 9, 10, 11, 12, 13, 14, 15, 30] [0, 1, 2, 3, 4, 5, 6, 7, 8, 9, 10, 11, 12, 13, 14, 15, 17, 18, 19, 20, 21, 22, 23, 24, 25, 26, 27, 28, 29, 30, 16] (by decide) rfl rfl (by decide) (by decide) (by decide) rfl (ci := 3) rfl rfl rfl hl.1 rfl (Nat.le_of_ble_eq_true rfl) d_La_law_797 ⟨(by simp only [room_1, rm_La_page, rm_Mo_page, rm_Mo_thrown] <;> omega), (by simp only [room_1, rm_La_page, rm_Mo_page, rm_Mo_thrown] <;> omega)⟩ (fun H locs hP hD hS => ?_)
        refine W.eq (g2 := F0 m 800 ls [.int z119.1]) rfl ?_
        refine lv_iload hx hb d_La_law_800 (lv_at hl 1 rfl) ?_
        refine lv_icmp_eq (tgt := 807) hx hb d_La_law_802 (by decide) (fun c122 => ?_) (fun c122 => ?_)
        · have hf := x_ifp c122 hf
          refine lv_iload hx hb d_La_law_807 (lv_at hl 1 rfl) ?_
          refine lv_if_ne (tgt := 824) hx hb d_La_law_809 (by decide) (fun c121 => ?_) (fun c121 => ?_)
          · have hf := x_ifn c121 hf
            refine lv_goto (tgt := 883) hx hb d_La_law_824 (by decide) ?_
            refine lv_iinc (v := (x4 + (4 : Int32))) (lv' := [(4, .int (x4 + (4 : Int32))), (6, .int z118.1), (5, .int z116.1), (0, .ref b), (1, .ref rh), (2, .ref oh), (3, .ref ou)]) hx hb d_La_law_883 hl (k := 6) rfl rfl (by decide) rfl (fun ls hl => ?_)
            refine lv_goto (tgt := 23) hx hb d_La_law_886 (by decide) ?_
            refine W.widen (k := c0 + 4 * (j + 1)) (n := s0 + 24 * (j + 1)) (by simp only [rm_La_page, rm_Mo_page, rm_Mo_thrown] <;> omega) (by simp only [rm_La_page, rm_Mo_page, rm_Mo_thrown] <;> omega) ?_
            exact ih (j + 1) (by omega) _ _ hf _ _ _ hP hD hS (lv_sub hl [3, 4, 5, 6, 0] rfl)
          · have hf := x_ifp c121 hf
            refine lv_aload_n hx hb d_La_law_812 rfl (lv_at hl 5 rfl) ?_
            refine lv_iconst (v := (0 : Int32)) hx hb d_La_law_813 (by decide) ?_
            refine va_lald hx hb hK hP 30 1 rfl rfl (xi_in rfl) d_La_law_814 ?_
            refine lv_iload hx hb d_La_law_815 (lv_at hl 0 rfl) ?_
            refine lv_i2l (v := (z118.1).toInt64) hx hb d_La_law_817 rfl ?_
            refine W.lcmp hx hb d_La_law_818 ?_
            refine lv_if_eq (tgt := 824) hx hb d_La_law_819 (by decide) (fun c120 => ?_) (fun c120 => ?_)
            · have hf := x_ifp c120 hf
              refine lv_goto (tgt := 883) hx hb d_La_law_824 (by decide) ?_
              refine lv_iinc (v := (x4 + (4 : Int32))) (lv' := [(4, .int (x4 + (4 : Int32))), (6, .int z118.1), (5, .int z116.1), (0, .ref b), (1, .ref rh), (2, .ref oh), (3, .ref ou)]) hx hb d_La_law_883 hl (k := 6) rfl rfl (by decide) rfl (fun ls hl => ?_)
              refine lv_goto (tgt := 23) hx hb d_La_law_886 (by decide) ?_
              refine W.widen (k := c0 + 4 * (j + 1)) (n := s0 + 24 * (j + 1)) (by simp only [rm_La_page, rm_Mo_page, rm_Mo_thrown] <;> omega) (by simp only [rm_La_page, rm_Mo_page, rm_Mo_thrown] <;> omega) ?_
              exact ih (j + 1) (by omega) _ _ hf _ _ _ hP hD hS (lv_sub hl [3, 4, 5, 6, 0] rfl)
            · have hf := x_ifn c120 hf
              refine lv_iconst (v := (0 : Int32)) hx hb d_La_law_822 (by decide) ?_
              exact absurd (Option.some.inj hf) (by decide)
        · have hf := x_ifn c122 hf
          refine lv_iconst (v := (0 : Int32)) hx hb d_La_law_805 (by decide) ?_
          exact absurd (Option.some.inj hf) (by decide)
      have hf := x_ifn c114 hf
      by_cases c123 : ((xs x4.toNatClampNeg) &&& (15 : Int32)) = (14 : Int32)
      · have hf := x_ifp c123 hf
        refine lv_tableIn (tgt := 827) hx hb d_La_law_39 (by rw [c123]; decide) (by rw [c123]; decide) (by rw [c123]; rfl) (by decide) ?_
        refine lv_aload_n hx hb d_La_law_827 rfl (lv_at hl 1 rfl) ?_
        refine lv_aload_n hx hb d_La_law_828 rfl (lv_at hl 0 rfl) ?_
        refine lv_iload hx hb d_La_law_829 (lv_at hl 4 rfl) ?_
        refine lv_iconst (v := (1 : Int32)) hx hb d_La_law_831 (by decide) ?_
        refine lv_iadd hx hb d_La_law_832 ?_
        obtain ⟨g124, hf⟩ := x_if hf
        refine va_sld hx hb hX hbl hbA hS (xi_in g124) d_La_law_833 ?_
        refine lv_aload_n hx hb d_La_law_834 rfl (lv_at hl 3 rfl) ?_
        obtain ⟨z125, hz125, hf⟩ := x_bind hf
        refine x_callSW (w2 := (w_La cI cJ cZ rh sh mh m0 m1 m2 m3 dh d0 d1 d2 d3 ea cb ch be oh o0 o1 o2 o3 o4 o5 o6 o7 o8 o9 o10 o11 o12 ou (z125.2.1, (U.2.1, z125.2.2)))) ⟨hx, hb, hml, hown, hts⟩ (c_La_count l D cI cJ cZ rh sh mh m0 m1 m2 m3 dh d0 d1 d2 d3 ea cb ch be ou hL0 N (xs (x4 + (1 : Int32)).toNatClampNeg) (U.1, U.2.2) z125 hz125) (n := 3) rfl k_501 k_502 k_401 k_503 (by decide +kernel) ⟨(by simp only [room_1, rm_La_count] <;> omega), (by simp only [room_1, rm_La_count] <;> omega)⟩ hK hP hD hS hA hZ [0, 1, 2, 3, 4, 5, 6, 7, 8, 9, 10, 11, 12, 13, 14, 15, 30] [16, 17, 18, 19, 20, 21, 22, 23, 24, 25, 26, 27, 28, 29] [14, 15, 16, 17, 18, 19, 20, 21, 22, 23, 24, 25, 26, 27, 28, 29, 0, 1, 2, 3, 4, 5, 6, 7, 8, 9, 10, 11, 12, 13, 30] (by decide) rfl rfl (by decide) (by decide) (by decide) rfl rfl hl.1 rfl (Nat.le_of_ble_eq_true rfl) d_La_law_835 ⟨(by simp only [room_1, rm_La_count] <;> omega), (by simp only [room_1, rm_La_count] <;> omega)⟩ (fun H locs hP hD hS => ?_)
        refine W.eq (g2 := F0 m 838 ls [.int z125.1]) rfl ?_
        refine lv_istore (lv' := [(5, .int z125.1), (0, .ref b), (1, .ref rh), (2, .ref oh), (3, .ref ou), (4, .int x4)]) hx hb d_La_law_838 hl (by decide) rfl (fun ls hl => ?_)
        refine lv_aload_n hx hb d_La_law_840 rfl (lv_at hl 3 rfl) ?_
        refine lv_aload_n hx hb d_La_law_841 rfl (lv_at hl 1 rfl) ?_
        refine lv_iload hx hb d_La_law_842 (lv_at hl 5 rfl) ?_
        refine lv_iconst (v := (1 : Int32)) hx hb d_La_law_844 (by decide) ?_
        refine lv_iadd hx hb d_La_law_845 ?_
        obtain ⟨g126, hf⟩ := x_if hf
        refine va_sld hx hb hX hbl hbA hS (xi_in g126) d_La_law_846 ?_
        obtain ⟨z127, hz127, hf⟩ := x_bind hf
        refine x_callV (w2 := (w_La cI cJ cZ rh sh mh m0 m1 m2 m3 dh d0 d1 d2 d3 ea cb ch be oh o0 o1 o2 o3 o4 o5 o6 o7 o8 o9 o10 o11 o12 ou (z125.2.1, (z127.2, z125.2.2)))) ⟨hx, hb, hml, hown, hts⟩ (c_Mo_count l D cI cJ cZ oh o0 o1 o2 o3 o4 o5 o6 o7 o8 o9 o10 o11 o12 N (xs (x4 + (1 : Int32)).toNatClampNeg) U.2.1 z127 hz127) (x_cwV 1 hts rfl k_497 k_498 k_499 k_246 k_500 (by decide +kernel) ⟨(by simp only [room_1, rm_La_count, rm_Mo_count] <;> omega), (by simp only [room_1, rm_La_count, rm_Mo_count] <;> omega)⟩) hK hP hD hS hA hZ [16, 17, 18, 19, 20, 21, 22, 23, 24, 25, 26, 27, 28, 29] [0, 1, 2, 3, 4, 5, 6, 7, 8, 9, 10, 11, 12, 13, 14, 15, 30] [0, 1, 2, 3, 4, 5, 6, 7, 8, 9, 10, 11, 12, 13, 14, 15, 17, 18, 19, 20, 21, 22, 23, 24, 25, 26, 27, 28, 29, 30, 16] (by decide) rfl rfl (by decide) (by decide) (by decide) rfl (ci := 3) rfl rfl rfl hl.1 rfl (Nat.le_of_ble_eq_true rfl) d_La_law_847 ⟨(by simp only [room_1, rm_La_count, rm_Mo_count] <;> omega), (by simp only [room_1, rm_La_count, rm_Mo_count] <;> omega)⟩ (fun H locs hP hD hS => ?_)
        refine W.eq (g2 := F0 m 850 ls [.int z127.1]) rfl ?_
        refine lv_istore (lv' := [(6, .int z127.1), (5, .int z125.1), (0, .ref b), (1, .ref rh), (2, .ref oh), (3, .ref ou), (4, .int x4)]) hx hb d_La_law_850 hl (by decide) rfl (fun ls hl => ?_)
        refine lv_aload_n hx hb d_La_law_852 rfl (lv_at hl 4 rfl) ?_
        obtain ⟨z128, hz128, hf⟩ := x_bind hf
        refine x_callV (w2 := (w_La cI cJ cZ rh sh mh m0 m1 m2 m3 dh d0 d1 d2 d3 ea cb ch be oh o0 o1 o2 o3 o4 o5 o6 o7 o8 o9 o10 o11 o12 ou (z125.2.1, (z128.2, z125.2.2)))) ⟨hx, hb, hml, hown, hts⟩ (c_Mo_thrown l D cI cJ cZ oh o0 o1 o2 o3 o4 o5 o6 o7 o8 o9 o10 o11 o12 N  z127.2 z128 hz128) (x_cwV 0 hts rfl k_391 k_392 k_393 k_246 k_394 (by decide +kernel) ⟨(by simp only [room_1, rm_La_count, rm_Mo_count, rm_Mo_thrown] <;> omega), (by simp only [room_1, rm_La_count, rm_Mo_count, rm_Mo_thrown] <;> omega)⟩) hK hP hD hS hA hZ [16, 17, 18, 19, 20, 21, 22, 23, 24, 25, 26, 27, 28, 29] [0, 1, 2, 3, 4, 5, 6, 7, 8, 9, 10, 11, 12, 13, 14, 15, 30] [0, 1, 2, 3, 4, 5, 6, 7, 8, 9, 10, 11, 12, 13, 14, 15, 17, 18, 19, 20, 21, 22, 23, 24, 25, 26, 27, 28, 29, 30, 16] (by decide) rfl rfl (by decide) (by decide) (by decide) rfl (ci := 3) rfl rfl rfl hl.1 rfl (Nat.le_of_ble_eq_true rfl) d_La_law_853 ⟨(by simp only [room_1, rm_La_count, rm_Mo_count, rm_Mo_thrown] <;> omega), (by simp only [room_1, rm_La_count, rm_Mo_count, rm_Mo_thrown] <;> omega)⟩ (fun H locs hP hD hS => ?_)
        refine W.eq (g2 := F0 m 856 ls [.int z128.1]) rfl ?_
        refine lv_iload hx hb d_La_law_856 (lv_at hl 1 rfl) ?_
        refine lv_icmp_eq (tgt := 863) hx hb d_La_law_858 (by decide) (fun c131 => ?_) (fun c131 => ?_)
        · have hf := x_ifp c131 hf
          refine lv_iload hx hb d_La_law_863 (lv_at hl 1 rfl) ?_
          refine lv_if_ne (tgt := 880) hx hb d_La_law_865 (by decide) (fun c130 => ?_) (fun c130 => ?_)
          · have hf := x_ifn c130 hf
            refine lv_goto (tgt := 883) hx hb d_La_law_880 (by decide) ?_
            refine lv_iinc (v := (x4 + (4 : Int32))) (lv' := [(4, .int (x4 + (4 : Int32))), (6, .int z127.1), (5, .int z125.1), (0, .ref b), (1, .ref rh), (2, .ref oh), (3, .ref ou)]) hx hb d_La_law_883 hl (k := 6) rfl rfl (by decide) rfl (fun ls hl => ?_)
            refine lv_goto (tgt := 23) hx hb d_La_law_886 (by decide) ?_
            refine W.widen (k := c0 + 4 * (j + 1)) (n := s0 + 24 * (j + 1)) (by simp only [rm_La_count, rm_Mo_count, rm_Mo_thrown] <;> omega) (by simp only [rm_La_count, rm_Mo_count, rm_Mo_thrown] <;> omega) ?_
            exact ih (j + 1) (by omega) _ _ hf _ _ _ hP hD hS (lv_sub hl [3, 4, 5, 6, 0] rfl)
          · have hf := x_ifp c130 hf
            refine lv_aload_n hx hb d_La_law_868 rfl (lv_at hl 5 rfl) ?_
            refine lv_iconst (v := (0 : Int32)) hx hb d_La_law_869 (by decide) ?_
            refine va_lald hx hb hK hP 30 1 rfl rfl (xi_in rfl) d_La_law_870 ?_
            refine lv_iload hx hb d_La_law_871 (lv_at hl 0 rfl) ?_
            refine lv_i2l (v := (z127.1).toInt64) hx hb d_La_law_873 rfl ?_
            refine W.lcmp hx hb d_La_law_874 ?_
            refine lv_if_eq (tgt := 880) hx hb d_La_law_875 (by decide) (fun c129 => ?_) (fun c129 => ?_)
            · have hf := x_ifp c129 hf
              refine lv_goto (tgt := 883) hx hb d_La_law_880 (by decide) ?_
              refine lv_iinc (v := (x4 + (4 : Int32))) (lv' := [(4, .int (x4 + (4 : Int32))), (6, .int z127.1), (5, .int z125.1), (0, .ref b), (1, .ref rh), (2, .ref oh), (3, .ref ou)]) hx hb d_La_law_883 hl (k := 6) rfl rfl (by decide) rfl (fun ls hl => ?_)
              refine lv_goto (tgt := 23) hx hb d_La_law_886 (by decide) ?_
              refine W.widen (k := c0 + 4 * (j + 1)) (n := s0 + 24 * (j + 1)) (by simp only [rm_La_count, rm_Mo_count, rm_Mo_thrown] <;> omega) (by simp only [rm_La_count, rm_Mo_count, rm_Mo_thrown] <;> omega) ?_
              exact ih (j + 1) (by omega) _ _ hf _ _ _ hP hD hS (lv_sub hl [3, 4, 5, 6, 0] rfl)
            · have hf := x_ifn c129 hf
              refine lv_iconst (v := (0 : Int32)) hx hb d_La_law_878 (by decide) ?_
              exact absurd (Option.some.inj hf) (by decide)
        · have hf := x_ifn c131 hf
          refine lv_iconst (v := (0 : Int32)) hx hb d_La_law_861 (by decide) ?_
          exact absurd (Option.some.inj hf) (by decide)
      have hf := x_ifn c123 hf
      refine lv_tableOut (tgt := 883) hx hb d_La_law_39 (x_sw15 c2 c9 c20 c33 c44 c53 c62 c66 c70 c79 c83 c92 c101 c114 c123) (by decide) ?_
      refine lv_iinc (v := (x4 + (4 : Int32))) (lv' := [(4, .int (x4 + (4 : Int32))), (0, .ref b), (1, .ref rh), (2, .ref oh), (3, .ref ou)]) hx hb d_La_law_883 hl (k := 4) rfl rfl (by decide) rfl (fun ls hl => ?_)
      refine lv_goto (tgt := 23) hx hb d_La_law_886 (by decide) ?_
      refine W.widen (k := c0 + 4 * (j + 1)) (n := s0 + 24 * (j + 1)) (by omega) (by omega) ?_
      exact ih (j + 1) (by omega) _ _ hf _ _ _ hP hD hS (lv_sub hl [1, 2, 3, 4, 0] rfl)
