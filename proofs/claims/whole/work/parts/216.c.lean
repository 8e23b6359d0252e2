set_option maxHeartbeats 4000000 in
set_option maxRecDepth 100000 in
theorem c_Mo_count (l : Launch) (D : va_G) (cI cJ cZ : ClassId) (oh o0 o1 o2 o3 o4 o5 o6 o7 o8 o9 o10 o11 o12 : Nat) (N : Nat) (p0 : Int32) (U : K_Mo) (r : (Int32 × K_Mo)) (hf : f_Mo_count N p0 U = some r) : Cx l y_Mo_count ws_Mo_count rm_Mo_count D vwCl (tyL cI cJ cZ) [.ref oh, .int p0] (w_Mo cI cJ cZ oh o0 o1 o2 o3 o4 o5 o6 o7 o8 o9 o10 o11 o12 U) (oI r.1) (w_Mo cI cJ cZ oh o0 o1 o2 o3 o4 o5 o6 o7 o8 o9 o10 o11 o12 r.2) := by
  unfold f_Mo_count at hf
  refine Cx.ofW (cc := b_Mo_count) (maxL := 4) (ret := (some .int)) (by decide) rfl ?_
  intro p e s m below meth c A C0 hP hK hD hA hns hZ
  obtain ⟨hx, hb, hml, hown, hts0, hr, hlocks, hnm, hno⟩ := C0
  have hown : s.vm.findClass R_Mo = some m.cls := hown
  have hts : ∀ w ∈ tb, w.before [.ref oh, .int p0].toArray s = true := fun w h => hts0 w (List.mem_cons_of_mem _ h)
  have hS : va_S A s.heap s.heap [] := va_S.rf
  have hl := lv_entry ([.ref oh, .int p0]) (n := 4) (Nat.le_of_ble_eq_true rfl)
  rw [lg_entry_eq]
  generalize (lg_sl ([.ref oh, .int p0]) ++ List.replicate (4 - (lg_sl ([.ref oh, .int p0])).length) Slot.unset).toArray = ls at hl ⊢
  have hl : lv_has ls 4 [(0, .ref oh), (1, .int p0)] := hl
  have L_43 : ∀ n : Nat, ∀ (x2 : Int32) (x3 : Int32) (U : K_Mo), f_Mo_count_43 N n x2 x3 U = some r → ∀ (H : Heap) (locs : List Loc) (ls : Array Slot), va_P D vwCl (w_Mo cI cJ cZ oh o0 o1 o2 o3 o4 o5 o6 o7 o8 o9 o10 o11 o12 U) H → va_D A (w_Mo cI cJ cZ oh o0 o1 o2 o3 o4 o5 o6 o7 o8 o9 o10 o11 o12 U) → va_S A s.heap H locs → lv_has ls 4 [(0, .ref oh), (2, .int x2), (3, .int x3)] → W p l e (rm_Mo_count) s m [.ref oh, .int p0].toArray below meth c H locs 0 0 (xQ D vwCl (tyL cI cJ cZ) below s A (oI r.1) (w_Mo cI cJ cZ oh o0 o1 o2 o3 o4 o5 o6 o7 o8 o9 o10 o11 o12 r.2) (rm_Mo_count).cells (rm_Mo_count).slots) (F0 m 43 ls []) := by
    intro n
    induction n with
    | zero =>
      intro x2 x3 U hf
      have hf : (none : Option (Int32 × K_Mo)) = some r := hf
      cases hf
    | succ n ih =>
      intro x2 x3 U hf H locs ls hP hD hS hl
      rw [f_Mo_count_43] at hf
      refine lv_iload_n hx hb d_Mo_count_43 rfl (lv_at hl 2 rfl) ?_
      refine lv_bipush (v := (15 : Int32)) hx hb d_Mo_count_44 (by decide) ?_
      refine lv_icmp_ge (tgt := 67) hx hb d_Mo_count_46 (by decide) (fun c5 => ?_) (fun c5 => ?_)
      · have hf := x_ifp c5 hf
        refine lv_iload_n hx hb d_Mo_count_67 rfl (lv_at hl 1 rfl) ?_
        obtain rfl := Option.some.inj hf
        exact x_iret hx hb hr hlocks hK hP hD hS (Nat.le_of_ble_eq_true rfl) (Nat.le_of_ble_eq_true rfl) d_Mo_count_68
      · have hf := x_ifn c5 hf
        refine lv_aload_n hx hb d_Mo_count_49 rfl (lv_at hl 0 rfl) ?_
        refine va_get (D := D) (ci := 3) (v := .ref o0) (C := R_Mo) (T := F_Mo) (N := 19) hx hb hts i_Mo hown hK hP 0 rfl rfl 1 (by decide) (hts _ k_225) (fun _ h9 => h9) rfl d_Mo_count_50 ?_
        refine lv_iload_n hx hb d_Mo_count_53 rfl (lv_at hl 2 rfl) ?_
        obtain ⟨g3, hf⟩ := x_if hf
        refine va_iald hx hb hK hP 1 0 rfl rfl (xi_in g3) d_Mo_count_54 ?_
        refine lv_if_ne (tgt := 61) hx hb d_Mo_count_55 (by decide) (fun c4 => ?_) (fun c4 => ?_)
        · have hf := x_ifn c4 hf
          refine lv_iinc (v := (x3 + (1 : Int32))) (lv' := [(3, .int (x3 + (1 : Int32))), (0, .ref oh), (2, .int x2)]) hx hb d_Mo_count_61 hl (k := 2) rfl rfl (by decide) rfl (fun ls hl => ?_)
          refine lv_goto (tgt := 43) hx hb d_Mo_count_64 (by decide) ?_
          exact ih _ _ _ hf _ _ _ hP hD hS (lv_sub hl [1, 2, 0] rfl)
        · have hf := x_ifp c4 hf
          refine lv_iinc (v := (x2 + (1 : Int32))) (lv' := [(2, .int (x2 + (1 : Int32))), (0, .ref oh), (3, .int x3)]) hx hb d_Mo_count_58 hl (k := 1) rfl rfl (by decide) rfl (fun ls hl => ?_)
          refine lv_iinc (v := (x3 + (1 : Int32))) (lv' := [(3, .int (x3 + (1 : Int32))), (2, .int (x2 + (1 : Int32))), (0, .ref oh)]) hx hb d_Mo_count_61 hl (k := 2) rfl rfl (by decide) rfl (fun ls hl => ?_)
          refine lv_goto (tgt := 43) hx hb d_Mo_count_64 (by decide) ?_
          exact ih _ _ _ hf _ _ _ hP hD hS (lv_sub hl [2, 1, 0] rfl)
  have L_86 : ∀ n : Nat, ∀ (x2 : Int32) (x3 : Int32) (U : K_Mo), f_Mo_count_86 N n x2 x3 U = some r → ∀ (H : Heap) (locs : List Loc) (ls : Array Slot), va_P D vwCl (w_Mo cI cJ cZ oh o0 o1 o2 o3 o4 o5 o6 o7 o8 o9 o10 o11 o12 U) H → va_D A (w_Mo cI cJ cZ oh o0 o1 o2 o3 o4 o5 o6 o7 o8 o9 o10 o11 o12 U) → va_S A s.heap H locs → lv_has ls 4 [(0, .ref oh), (2, .int x2), (3, .int x3)] → W p l e (rm_Mo_count) s m [.ref oh, .int p0].toArray below meth c H locs 0 0 (xQ D vwCl (tyL cI cJ cZ) below s A (oI r.1) (w_Mo cI cJ cZ oh o0 o1 o2 o3 o4 o5 o6 o7 o8 o9 o10 o11 o12 r.2) (rm_Mo_count).cells (rm_Mo_count).slots) (F0 m 86 ls []) := by
    intro n
    induction n with
    | zero =>
      intro x2 x3 U hf
      have hf : (none : Option (Int32 × K_Mo)) = some r := hf
      cases hf
    | succ n ih =>
      intro x2 x3 U hf H locs ls hP hD hS hl
      rw [f_Mo_count_86] at hf
      refine lv_iload_n hx hb d_Mo_count_86 rfl (lv_at hl 2 rfl) ?_
      refine lv_bipush (v := (7 : Int32)) hx hb d_Mo_count_87 (by decide) ?_
      refine lv_icmp_ge (tgt := 110) hx hb d_Mo_count_89 (by decide) (fun c13 => ?_) (fun c13 => ?_)
      · have hf := x_ifp c13 hf
        refine lv_iload_n hx hb d_Mo_count_110 rfl (lv_at hl 1 rfl) ?_
        obtain rfl := Option.some.inj hf
        exact x_iret hx hb hr hlocks hK hP hD hS (Nat.le_of_ble_eq_true rfl) (Nat.le_of_ble_eq_true rfl) d_Mo_count_111
      · have hf := x_ifn c13 hf
        refine lv_aload_n hx hb d_Mo_count_92 rfl (lv_at hl 0 rfl) ?_
        refine va_get (D := D) (ci := 3) (v := .ref o8) (C := R_Mo) (T := F_Mo) (N := 19) hx hb hts i_Mo hown hK hP 0 rfl rfl 9 (by decide) (hts _ k_234) (fun _ h9 => h9) rfl d_Mo_count_93 ?_
        refine lv_iload_n hx hb d_Mo_count_96 rfl (lv_at hl 2 rfl) ?_
        obtain ⟨g11, hf⟩ := x_if hf
        refine va_zald hx hb hK hP 9 2 rfl rfl (xi_in g11) d_Mo_count_97 ?_
        refine lv_if_eq (tgt := 104) hx hb d_Mo_count_98 (by decide) (fun c12 => ?_) (fun c12 => ?_)
        · have hf := x_ifp c12 hf
          refine lv_iinc (v := (x3 + (1 : Int32))) (lv' := [(3, .int (x3 + (1 : Int32))), (0, .ref oh), (2, .int x2)]) hx hb d_Mo_count_104 hl (k := 2) rfl rfl (by decide) rfl (fun ls hl => ?_)
          refine lv_goto (tgt := 86) hx hb d_Mo_count_107 (by decide) ?_
          exact ih _ _ _ hf _ _ _ hP hD hS (lv_sub hl [1, 2, 0] rfl)
        · have hf := x_ifn c12 hf
          refine lv_iinc (v := (x2 + (1 : Int32))) (lv' := [(2, .int (x2 + (1 : Int32))), (0, .ref oh), (3, .int x3)]) hx hb d_Mo_count_101 hl (k := 1) rfl rfl (by decide) rfl (fun ls hl => ?_)
          refine lv_iinc (v := (x3 + (1 : Int32))) (lv' := [(3, .int (x3 + (1 : Int32))), (2, .int (x2 + (1 : Int32))), (0, .ref oh)]) hx hb d_Mo_count_104 hl (k := 2) rfl rfl (by decide) rfl (fun ls hl => ?_)
          refine lv_goto (tgt := 86) hx hb d_Mo_count_107 (by decide) ?_
          exact ih _ _ _ hf _ _ _ hP hD hS (lv_sub hl [2, 1, 0] rfl)
  refine lv_aload_n hx hb d_Mo_count_0 rfl (lv_at hl 0 rfl) ?_
  obtain ⟨z1, hz1, hf⟩ := x_bind hf
  refine x_callV (w2 := (w_Mo cI cJ cZ oh o0 o1 o2 o3 o4 o5 o6 o7 o8 o9 o10 o11 o12 z1.2)) ⟨hx, hb, hml, hown, hts⟩ (c_Mo_begun l D cI cJ cZ oh o0 o1 o2 o3 o4 o5 o6 o7 o8 o9 o10 o11 o12 N  U z1 hz1) (x_cwV 0 hts rfl k_284 k_285 k_286 k_246 k_287 (by decide +kernel) ⟨(Nat.le_of_ble_eq_true rfl), (Nat.le_of_ble_eq_true rfl)⟩) hK hP hD hS hA hZ [0, 1, 2, 3, 4, 5, 6, 7, 8, 9, 10, 11, 12, 13] [] [0, 1, 2, 3, 4, 5, 6, 7, 8, 9, 10, 11, 12, 13] (by decide) rfl rfl (by decide) (by decide) (by decide) rfl (ci := 3) rfl rfl rfl hl.1 rfl (Nat.le_of_ble_eq_true rfl) d_Mo_count_1 ⟨(Nat.le_of_ble_eq_true rfl), (Nat.le_of_ble_eq_true rfl)⟩ (fun H locs hP hD hS => ?_)
  refine W.eq (g2 := F0 m 4 ls []) rfl ?_
  refine lv_iconst (v := (0 : Int32)) hx hb d_Mo_count_4 (by decide) ?_
  refine lv_istore_n (lv' := [(2, .int (0 : Int32)), (0, .ref oh), (1, .int p0)]) hx hb d_Mo_count_5 rfl hl (by decide) rfl (fun ls hl => ?_)
  refine lv_iload_n hx hb d_Mo_count_6 rfl (lv_at hl 2 rfl) ?_
  by_cases c2 : p0 = (0 : Int32)
  · have hf := x_ifp c2 hf
    refine lv_tableIn (tgt := 40) hx hb d_Mo_count_7 (by rw [c2]; decide) (by rw [c2]; decide) (by rw [c2]; rfl) (by decide) ?_
    refine lv_bipush (v := (6 : Int32)) hx hb d_Mo_count_40 (by decide) ?_
    refine lv_istore_n (lv' := [(3, .int (6 : Int32)), (2, .int (0 : Int32)), (0, .ref oh), (1, .int p0)]) hx hb d_Mo_count_42 rfl hl (by decide) rfl (fun ls hl => ?_)
    exact L_43 _ _ _ _ hf _ _ _ hP hD hS (lv_sub hl [2, 1, 0] rfl)
  have hf := x_ifn c2 hf
  by_cases c6 : p0 = (1 : Int32)
  · have hf := x_ifp c6 hf
    refine lv_tableIn (tgt := 69) hx hb d_Mo_count_7 (by rw [c6]; decide) (by rw [c6]; decide) (by rw [c6]; rfl) (by decide) ?_
    refine lv_aload_n hx hb d_Mo_count_69 rfl (lv_at hl 1 rfl) ?_
    obtain ⟨z7, hz7, hf⟩ := x_bind hf
    refine x_callV (w2 := (w_Mo cI cJ cZ oh o0 o1 o2 o3 o4 o5 o6 o7 o8 o9 o10 o11 o12 z7.2)) ⟨hx, hb, hml, hown, hts⟩ (c_Mo_actives l D cI cJ cZ oh o0 o1 o2 o3 o4 o5 o6 o7 o8 o9 o10 o11 o12 N  z1.2 z7 hz7) (x_cwV 0 hts rfl k_280 k_281 k_282 k_246 k_283 (by decide +kernel) ⟨(Nat.le_of_ble_eq_true rfl), (Nat.le_of_ble_eq_true rfl)⟩) hK hP hD hS hA hZ [0, 1, 2, 3, 4, 5, 6, 7, 8, 9, 10, 11, 12, 13] [] [0, 1, 2, 3, 4, 5, 6, 7, 8, 9, 10, 11, 12, 13] (by decide) rfl rfl (by decide) (by decide) (by decide) rfl (ci := 3) rfl rfl rfl hl.1 rfl (Nat.le_of_ble_eq_true rfl) d_Mo_count_70 ⟨(Nat.le_of_ble_eq_true rfl), (Nat.le_of_ble_eq_true rfl)⟩ (fun H locs hP hD hS => ?_)
    refine W.eq (g2 := F0 m 73 ls [.int z7.1]) rfl ?_
    obtain rfl := Option.some.inj hf
    exact x_iret hx hb hr hlocks hK hP hD hS (Nat.le_of_ble_eq_true rfl) (Nat.le_of_ble_eq_true rfl) d_Mo_count_73
  have hf := x_ifn c6 hf
  by_cases c8 : p0 = (2 : Int32)
  · have hf := x_ifp c8 hf
    refine lv_tableIn (tgt := 74) hx hb d_Mo_count_7 (by rw [c8]; decide) (by rw [c8]; decide) (by rw [c8]; rfl) (by decide) ?_
    refine lv_aload_n hx hb d_Mo_count_74 rfl (lv_at hl 1 rfl) ?_
    refine va_get (D := D) (ci := 3) (v := .int z1.2.2.2.2.2.2.2.2.2.1) (C := R_Mo) (T := F_Mo) (N := 19) hx hb hts i_Mo hown hK hP 0 rfl rfl 14 (by decide) (hts _ k_243) (fun _ h9 => h9) rfl d_Mo_count_75 ?_
    obtain rfl := Option.some.inj hf
    exact x_iret hx hb hr hlocks hK hP hD hS (Nat.le_of_ble_eq_true rfl) (Nat.le_of_ble_eq_true rfl) d_Mo_count_78
  have hf := x_ifn c8 hf
  by_cases c9 : p0 = (3 : Int32)
  · have hf := x_ifp c9 hf
    refine lv_tableIn (tgt := 79) hx hb d_Mo_count_7 (by rw [c9]; decide) (by rw [c9]; decide) (by rw [c9]; rfl) (by decide) ?_
    refine lv_aload_n hx hb d_Mo_count_79 rfl (lv_at hl 1 rfl) ?_
    refine va_get (D := D) (ci := 3) (v := .int z1.2.2.2.2.2.2.2.2.2.2.1) (C := R_Mo) (T := F_Mo) (N := 19) hx hb hts i_Mo hown hK hP 0 rfl rfl 15 (by decide) (hts _ k_240) (fun _ h9 => h9) rfl d_Mo_count_80 ?_
    obtain rfl := Option.some.inj hf
    exact x_iret hx hb hr hlocks hK hP hD hS (Nat.le_of_ble_eq_true rfl) (Nat.le_of_ble_eq_true rfl) d_Mo_count_83
  have hf := x_ifn c9 hf
  by_cases c10 : p0 = (4 : Int32)
  · have hf := x_ifp c10 hf
    refine lv_tableIn (tgt := 84) hx hb d_Mo_count_7 (by rw [c10]; decide) (by rw [c10]; decide) (by rw [c10]; rfl) (by decide) ?_
    refine lv_iconst (v := (0 : Int32)) hx hb d_Mo_count_84 (by decide) ?_
    refine lv_istore_n (lv' := [(3, .int (0 : Int32)), (2, .int (0 : Int32)), (0, .ref oh), (1, .int p0)]) hx hb d_Mo_count_85 rfl hl (by decide) rfl (fun ls hl => ?_)
    exact L_86 _ _ _ _ hf _ _ _ hP hD hS (lv_sub hl [2, 1, 0] rfl)
  have hf := x_ifn c10 hf
  refine lv_tableOut (tgt := 112) hx hb d_Mo_count_7 (x_sw5 c2 c6 c8 c9 c10) (by decide) ?_
  refine lv_aload_n hx hb d_Mo_count_112 rfl (lv_at hl 1 rfl) ?_
  refine lv_iconst (v := (1 : Int32)) hx hb d_Mo_count_113 (by decide) ?_
  obtain ⟨z14, hz14, hf⟩ := x_bind hf
  refine x_callV (w2 := (w_Mo cI cJ cZ oh o0 o1 o2 o3 o4 o5 o6 o7 o8 o9 o10 o11 o12 z14.2)) ⟨hx, hb, hml, hown, hts⟩ (c_Mo_raise l D cI cJ cZ oh o0 o1 o2 o3 o4 o5 o6 o7 o8 o9 o10 o11 o12 N (1 : Int32) z1.2 z14 hz14) (x_cwV 1 hts rfl k_272 k_273 k_274 k_246 k_275 (by decide +kernel) ⟨(Nat.le_of_ble_eq_true rfl), (Nat.le_of_ble_eq_true rfl)⟩) hK hP hD hS hA hZ [0, 1, 2, 3, 4, 5, 6, 7, 8, 9, 10, 11, 12, 13] [] [0, 1, 2, 3, 4, 5, 6, 7, 8, 9, 10, 11, 12, 13] (by decide) rfl rfl (by decide) (by decide) (by decide) rfl (ci := 3) rfl rfl rfl hl.1 rfl (Nat.le_of_ble_eq_true rfl) d_Mo_count_114 ⟨(Nat.le_of_ble_eq_true rfl), (Nat.le_of_ble_eq_true rfl)⟩ (fun H locs hP hD hS => ?_)
  refine W.eq (g2 := F0 m 117 ls [.int z14.1]) rfl ?_
  obtain rfl := Option.some.inj hf
  exact x_iret hx hb hr hlocks hK hP hD hS (Nat.le_of_ble_eq_true rfl) (Nat.le_of_ble_eq_true rfl) d_Mo_count_117
set_option maxHeartbeats 4000000 in
set_option maxRecDepth 100000 in
theorem c_La_begin (l : Launch) (D : va_G) (cI cJ cZ : ClassId) (rh sh mh m0 m1 m2 m3 dh d0 d1 d2 d3 ea cb ch be ou : Nat) (hL0 : xL l) (N : Nat) (U : K_LH) (r : (Int32 × K_LH)) (hf : f_La_begin N U = some r) : Cx l y_La_begin ws_La_begin rm_La_begin D vwCl (tyL cI cJ cZ) [.ref rh, .ref ou] (w_LH cI cJ cZ rh sh mh m0 m1 m2 m3 dh d0 d1 d2 d3 ea cb ch be ou U) (oI r.1) (w_LH cI cJ cZ rh sh mh m0 m1 m2 m3 dh d0 d1 d2 d3 ea cb ch be ou r.2) := by
  unfold f_La_begin at hf
  refine Cx.ofWH (hh := hh_La_begin) (cc := b_La_begin) (maxL := 3) (ret := (some .int)) (by decide) rfl ?_
  intro p e s m below meth c A C0 hP hK hD hA hns hZ
  obtain ⟨hx, hb, hml, hown, hts0, hr, hlocks, hnm, htab⟩ := C0
  have hown : s.vm.findClass R_La = some m.cls := hown
  have hts : ∀ w ∈ tb, w.before [.ref rh, .ref ou].toArray s = true := fun w h => hts0 w (List.mem_cons_of_mem _ h)
  have hS : va_S A s.heap s.heap [] := va_S.rf
  have hl := lv_entry ([.ref rh, .ref ou]) (n := 3) (Nat.le_of_ble_eq_true rfl)
  rw [lg_entry_eq]
  generalize (lg_sl ([.ref rh, .ref ou]) ++ List.replicate (3 - (lg_sl ([.ref rh, .ref ou])).length) Slot.unset).toArray = ls at hl ⊢
  have hl : lv_has ls 3 [(0, .ref rh), (1, .ref ou)] := hl
  refine lv_aload_n hx hb d_La_begin_0 rfl (lv_at hl 1 rfl) ?_
  refine lv_iconst (v := (0 : Int32)) hx hb d_La_begin_1 (by decide) ?_
  refine lv_aload_n hx hb d_La_begin_2 rfl (lv_at hl 0 rfl) ?_
  obtain ⟨⟨v2 | E3, U4⟩, hz1, hf⟩ := x_bind hf
  · dsimp only at hf
    refine x_callV (w2 := (w_LH cI cJ cZ rh sh mh m0 m1 m2 m3 dh d0 d1 d2 d3 ea cb ch be ou (U4, U.2))) ⟨hx, hb, hml, hown, hts⟩ (c_Rv_begin l D cI cJ cZ rh sh mh m0 m1 m2 m3 dh d0 d1 d2 d3 ea cb ch be hL0 N  U.1 (Sum.inl v2, U4) hz1) (x_cwV 0 hts rfl k_333 k_334 k_335 k_23 k_336 (by decide +kernel) ⟨(Nat.le_of_ble_eq_true rfl), (Nat.le_of_ble_eq_true rfl)⟩) hK hP hD hS hA hZ [0, 1, 2, 3, 4, 5, 6, 7, 8, 9, 10, 11, 12, 13, 14, 15] [16] [1, 2, 3, 4, 5, 6, 7, 8, 9, 10, 11, 12, 13, 14, 15, 16, 0] (by decide) rfl rfl (by decide) (by decide) (by decide) rfl (ci := 2) rfl rfl rfl hl.1 rfl (Nat.le_of_ble_eq_true rfl) d_La_begin_3 ⟨(Nat.le_of_ble_eq_true rfl), (Nat.le_of_ble_eq_true rfl)⟩ (fun H locs hP hD hS => ?_)
    refine W.eq (g2 := F0 m 6 ls [.int v2, .int (0 : Int32), .ref ou]) rfl ?_
    refine lv_i2l (v := (v2).toInt64) hx hb d_La_begin_6 rfl ?_
    refine va_last hx hb hK hP hD hS 16 1 rfl rfl (xi_in rfl) d_La_begin_7 (fun H locs hP hD hS => ?_)
    have hP : va_P D vwCl (w_LH cI cJ cZ rh sh mh m0 m1 m2 m3 dh d0 d1 d2 d3 ea cb ch be ou (U4, (vp_updL U.2 (0 : Int32).toNatClampNeg (v2).toInt64))) H := hP
    have hD : va_D A (w_LH cI cJ cZ rh sh mh m0 m1 m2 m3 dh d0 d1 d2 d3 ea cb ch be ou (U4, (vp_updL U.2 (0 : Int32).toNatClampNeg (v2).toInt64))) := hD
    refine lv_goto (tgt := 14) hx hb d_La_begin_8 (by decide) ?_
    refine lv_iconst (v := (0 : Int32)) hx hb d_La_begin_14 (by decide) ?_
    obtain rfl := Option.some.inj hf
    exact x_iret hx hb hr hlocks hK hP hD hS (Nat.le_of_ble_eq_true rfl) (Nat.le_of_ble_eq_true rfl) d_La_begin_15
  · dsimp only at hf
    by_cases c5 : E3 = "java/lang/IllegalStateException"
    · have hf := x_ifp c5 hf
      subst c5
      refine x_catch (w2 := (w_LH cI cJ cZ rh sh mh m0 m1 m2 m3 dh d0 d1 d2 d3 ea cb ch be ou (U4, U.2))) (x_noteV ⟨hx, hb, hml, hown, hts⟩ (c_Rv_begin l D cI cJ cZ rh sh mh m0 m1 m2 m3 dh d0 d1 d2 d3 ea cb ch be hL0 N  U.1 (Sum.inr "java/lang/IllegalStateException", U4) hz1) (x_cwV 0 hts rfl k_333 k_334 k_335 k_23 k_336 (by decide +kernel) ⟨(Nat.le_of_ble_eq_true rfl), (Nat.le_of_ble_eq_true rfl)⟩) hK (x_cut hP hD hK hS hA hZ [0, 1, 2, 3, 4, 5, 6, 7, 8, 9, 10, 11, 12, 13, 14, 15] (by decide) rfl).1 (x_cut hP hD hK hS hA hZ [0, 1, 2, 3, 4, 5, 6, 7, 8, 9, 10, 11, 12, 13, 14, 15] (by decide) rfl).2 (ci := 2) rfl rfl rfl hl.1 rfl (Nat.le_of_ble_eq_true rfl) d_La_begin_3 ⟨(Nat.le_of_ble_eq_true rfl), (Nat.le_of_ble_eq_true rfl)⟩) hown htab (by decide +kernel) hZ.2.2 [] (0, 8, 11, 13) [] rfl (fun _ h => absurd h List.not_mem_nil) ⟨rfl, by decide⟩ (hts _ k_337) (hts _ k_338) hP hD hS hA [0, 1, 2, 3, 4, 5, 6, 7, 8, 9, 10, 11, 12, 13, 14, 15] [16] [1, 2, 3, 4, 5, 6, 7, 8, 9, 10, 11, 12, 13, 14, 15, 16, 0] rfl rfl (by decide) (by decide) (by decide) rfl (fun xq6 H locs hP hD hS => ?_)
      refine lv_astore_n (lv' := [(2, .ref xq6), (0, .ref rh), (1, .ref ou)]) hx hb d_La_begin_11 rfl hl (by decide) rfl (fun ls hl => ?_)
      refine lv_iconst (v := (1 : Int32)) hx hb d_La_begin_12 (by decide) ?_
      obtain rfl := Option.some.inj hf
      exact x_iret hx hb hr hlocks hK hP hD hS (Nat.le_of_ble_eq_true rfl) (Nat.le_of_ble_eq_true rfl) d_La_begin_13
    have hf := x_ifn c5 hf
    cases hf
set_option maxHeartbeats 4000000 in
set_option maxRecDepth 100000 in
theorem c_La_read (l : Launch) (D : va_G) (cI cJ cZ : ClassId) (rh sh mh m0 m1 m2 m3 dh d0 d1 d2 d3 ea cb ch be ou : Nat) (hL0 : xL l) (N : Nat) (p1 : Int32) (p2 : Int32) (U : K_LH) (r : (Int32 × K_LH)) (hf : f_La_read N p1 p2 U = some r) : Cx l y_La_read ws_La_read rm_La_read D vwCl (tyL cI cJ cZ) [.ref rh, .int p1, .int p2, .ref ou] (w_LH cI cJ cZ rh sh mh m0 m1 m2 m3 dh d0 d1 d2 d3 ea cb ch be ou U) (oI r.1) (w_LH cI cJ cZ rh sh mh m0 m1 m2 m3 dh d0 d1 d2 d3 ea cb ch be ou r.2) := by
  unfold f_La_read at hf
  refine Cx.ofWH (hh := hh_La_read) (cc := b_La_read) (maxL := 5) (ret := (some .int)) (by decide) rfl ?_
  intro p e s m below meth c A C0 hP hK hD hA hns hZ
  obtain ⟨hx, hb, hml, hown, hts0, hr, hlocks, hnm, htab⟩ := C0
  have hown : s.vm.findClass R_La = some m.cls := hown
  have hts : ∀ w ∈ tb, w.before [.ref rh, .int p1, .int p2, .ref ou].toArray s = true := fun w h => hts0 w (List.mem_cons_of_mem _ h)
  have hS : va_S A s.heap s.heap [] := va_S.rf
  have hl := lv_entry ([.ref rh, .int p1, .int p2, .ref ou]) (n := 5) (Nat.le_of_ble_eq_true rfl)
  rw [lg_entry_eq]
  generalize (lg_sl ([.ref rh, .int p1, .int p2, .ref ou]) ++ List.replicate (5 - (lg_sl ([.ref rh, .int p1, .int p2, .ref ou])).length) Slot.unset).toArray = ls at hl ⊢
  have hl : lv_has ls 5 [(0, .ref rh), (1, .int p1), (2, .int p2), (3, .ref ou)] := hl
  refine lv_aload_n hx hb d_La_read_0 rfl (lv_at hl 3 rfl) ?_
  refine lv_iconst (v := (0 : Int32)) hx hb d_La_read_1 (by decide) ?_
  refine lv_aload_n hx hb d_La_read_2 rfl (lv_at hl 0 rfl) ?_
  refine lv_iload_n hx hb d_La_read_3 rfl (lv_at hl 1 rfl) ?_
  refine lv_iload_n hx hb d_La_read_4 rfl (lv_at hl 2 rfl) ?_
  obtain ⟨⟨v2 | E3, U4⟩, hz1, hf⟩ := x_bind hf
  · dsimp only at hf
    refine x_callV (w2 := (w_LH cI cJ cZ rh sh mh m0 m1 m2 m3 dh d0 d1 d2 d3 ea cb ch be ou (U4, U.2))) ⟨hx, hb, hml, hown, hts⟩ (c_Rv_read l D cI cJ cZ rh sh mh m0 m1 m2 m3 dh d0 d1 d2 d3 ea cb ch be hL0 N p1 p2 U.1 (Sum.inl v2, U4) hz1) (x_cwV 2 hts rfl k_339 k_340 k_341 k_23 k_342 (by decide +kernel) ⟨(Nat.le_of_ble_eq_true rfl), (Nat.le_of_ble_eq_true rfl)⟩) hK hP hD hS hA hZ [0, 1, 2, 3, 4, 5, 6, 7, 8, 9, 10, 11, 12, 13, 14, 15] [16] [1, 2, 3, 4, 5, 6, 7, 8, 9, 10, 11, 12, 13, 14, 15, 16, 0] (by decide) rfl rfl (by decide) (by decide) (by decide) rfl (ci := 2) rfl rfl rfl hl.1 rfl (Nat.le_of_ble_eq_true rfl) d_La_read_5 ⟨(Nat.le_of_ble_eq_true rfl), (Nat.le_of_ble_eq_true rfl)⟩ (fun H locs hP hD hS => ?_)
    refine W.eq (g2 := F0 m 8 ls [.int v2, .int (0 : Int32), .ref ou]) rfl ?_
    refine lv_i2l (v := (v2).toInt64) hx hb d_La_read_8 rfl ?_
    refine va_last hx hb hK hP hD hS 16 1 rfl rfl (xi_in rfl) d_La_read_9 (fun H locs hP hD hS => ?_)
    have hP : va_P D vwCl (w_LH cI cJ cZ rh sh mh m0 m1 m2 m3 dh d0 d1 d2 d3 ea cb ch be ou (U4, (vp_updL U.2 (0 : Int32).toNatClampNeg (v2).toInt64))) H := hP
    have hD : va_D A (w_LH cI cJ cZ rh sh mh m0 m1 m2 m3 dh d0 d1 d2 d3 ea cb ch be ou (U4, (vp_updL U.2 (0 : Int32).toNatClampNeg (v2).toInt64))) := hD
    refine lv_goto (tgt := 25) hx hb d_La_read_10 (by decide) ?_
    refine lv_iconst (v := (0 : Int32)) hx hb d_La_read_25 (by decide) ?_
    obtain rfl := Option.some.inj hf
    exact x_iret hx hb hr hlocks hK hP hD hS (Nat.le_of_ble_eq_true rfl) (Nat.le_of_ble_eq_true rfl) d_La_read_26
  · dsimp only at hf
    by_cases c5 : E3 = "java/lang/IllegalArgumentException"
    · have hf := x_ifp c5 hf
      subst c5
      refine x_catch (w2 := (w_LH cI cJ cZ rh sh mh m0 m1 m2 m3 dh d0 d1 d2 d3 ea cb ch be ou (U4, U.2))) (x_noteV ⟨hx, hb, hml, hown, hts⟩ (c_Rv_read l D cI cJ cZ rh sh mh m0 m1 m2 m3 dh d0 d1 d2 d3 ea cb ch be hL0 N p1 p2 U.1 (Sum.inr "java/lang/IllegalArgumentException", U4) hz1) (x_cwV 2 hts rfl k_339 k_340 k_341 k_23 k_342 (by decide +kernel) ⟨(Nat.le_of_ble_eq_true rfl), (Nat.le_of_ble_eq_true rfl)⟩) hK (x_cut hP hD hK hS hA hZ [0, 1, 2, 3, 4, 5, 6, 7, 8, 9, 10, 11, 12, 13, 14, 15] (by decide) rfl).1 (x_cut hP hD hK hS hA hZ [0, 1, 2, 3, 4, 5, 6, 7, 8, 9, 10, 11, 12, 13, 14, 15] (by decide) rfl).2 (ci := 2) rfl rfl rfl hl.1 rfl (Nat.le_of_ble_eq_true rfl) d_La_read_5 ⟨(Nat.le_of_ble_eq_true rfl), (Nat.le_of_ble_eq_true rfl)⟩) hown htab (by decide +kernel) hZ.2.2 [] (0, 10, 13, 19) [(0, 10, 17, 13), (0, 10, 21, 21)] rfl (fun _ h => absurd h List.not_mem_nil) ⟨rfl, by decide⟩ (hts _ k_343) (hts _ k_344) hP hD hS hA [0, 1, 2, 3, 4, 5, 6, 7, 8, 9, 10, 11, 12, 13, 14, 15] [16] [1, 2, 3, 4, 5, 6, 7, 8, 9, 10, 11, 12, 13, 14, 15, 16, 0] rfl rfl (by decide) (by decide) (by decide) rfl (fun xq6 H locs hP hD hS => ?_)
      refine lv_astore (lv' := [(4, .ref xq6), (0, .ref rh), (1, .int p1), (2, .int p2), (3, .ref ou)]) hx hb d_La_read_13 hl (by decide) rfl (fun ls hl => ?_)
      refine lv_iconst (v := (1 : Int32)) hx hb d_La_read_15 (by decide) ?_
      obtain rfl := Option.some.inj hf
      exact x_iret hx hb hr hlocks hK hP hD hS (Nat.le_of_ble_eq_true rfl) (Nat.le_of_ble_eq_true rfl) d_La_read_16
    have hf := x_ifn c5 hf
    by_cases c7 : E3 = "java/lang/IllegalStateException"
    · have hf := x_ifp c7 hf
      subst c7
      refine x_catch (w2 := (w_LH cI cJ cZ rh sh mh m0 m1 m2 m3 dh d0 d1 d2 d3 ea cb ch be ou (U4, U.2))) (x_noteV ⟨hx, hb, hml, hown, hts⟩ (c_Rv_read l D cI cJ cZ rh sh mh m0 m1 m2 m3 dh d0 d1 d2 d3 ea cb ch be hL0 N p1 p2 U.1 (Sum.inr "java/lang/IllegalStateException", U4) hz1) (x_cwV 2 hts rfl k_339 k_340 k_341 k_23 k_342 (by decide +kernel) ⟨(Nat.le_of_ble_eq_true rfl), (Nat.le_of_ble_eq_true rfl)⟩) hK (x_cut hP hD hK hS hA hZ [0, 1, 2, 3, 4, 5, 6, 7, 8, 9, 10, 11, 12, 13, 14, 15] (by decide) rfl).1 (x_cut hP hD hK hS hA hZ [0, 1, 2, 3, 4, 5, 6, 7, 8, 9, 10, 11, 12, 13, 14, 15] (by decide) rfl).2 (ci := 2) rfl rfl rfl hl.1 rfl (Nat.le_of_ble_eq_true rfl) d_La_read_5 ⟨(Nat.le_of_ble_eq_true rfl), (Nat.le_of_ble_eq_true rfl)⟩) hown htab (by decide +kernel) hZ.2.2 [(0, 10, 13, 19, "java/lang/IllegalArgumentException")] (0, 10, 17, 13) [(0, 10, 21, 21)] rfl (List.forall_mem_cons.mpr ⟨⟨rfl, by decide, by decide +kernel, by decide +kernel, hts _ k_343⟩, fun _ h => absurd h List.not_mem_nil⟩) ⟨rfl, by decide⟩ (hts _ k_337) (hts _ k_338) hP hD hS hA [0, 1, 2, 3, 4, 5, 6, 7, 8, 9, 10, 11, 12, 13, 14, 15] [16] [1, 2, 3, 4, 5, 6, 7, 8, 9, 10, 11, 12, 13, 14, 15, 16, 0] rfl rfl (by decide) (by decide) (by decide) rfl (fun xq8 H locs hP hD hS => ?_)
      refine lv_astore (lv' := [(4, .ref xq8), (0, .ref rh), (1, .int p1), (2, .int p2), (3, .ref ou)]) hx hb d_La_read_17 hl (by decide) rfl (fun ls hl => ?_)
      refine lv_iconst (v := (2 : Int32)) hx hb d_La_read_19 (by decide) ?_
      obtain rfl := Option.some.inj hf
      exact x_iret hx hb hr hlocks hK hP hD hS (Nat.le_of_ble_eq_true rfl) (Nat.le_of_ble_eq_true rfl) d_La_read_20
    have hf := x_ifn c7 hf
    by_cases c9 : E3 = "java/util/NoSuchElementException"
    · have hf := x_ifp c9 hf
      subst c9
      refine x_catch (w2 := (w_LH cI cJ cZ rh sh mh m0 m1 m2 m3 dh d0 d1 d2 d3 ea cb ch be ou (U4, U.2))) (x_noteV ⟨hx, hb, hml, hown, hts⟩ (c_Rv_read l D cI cJ cZ rh sh mh m0 m1 m2 m3 dh d0 d1 d2 d3 ea cb ch be hL0 N p1 p2 U.1 (Sum.inr "java/util/NoSuchElementException", U4) hz1) (x_cwV 2 hts rfl k_339 k_340 k_341 k_23 k_342 (by decide +kernel) ⟨(Nat.le_of_ble_eq_true rfl), (Nat.le_of_ble_eq_true rfl)⟩) hK (x_cut hP hD hK hS hA hZ [0, 1, 2, 3, 4, 5, 6, 7, 8, 9, 10, 11, 12, 13, 14, 15] (by decide) rfl).1 (x_cut hP hD hK hS hA hZ [0, 1, 2, 3, 4, 5, 6, 7, 8, 9, 10, 11, 12, 13, 14, 15] (by decide) rfl).2 (ci := 2) rfl rfl rfl hl.1 rfl (Nat.le_of_ble_eq_true rfl) d_La_read_5 ⟨(Nat.le_of_ble_eq_true rfl), (Nat.le_of_ble_eq_true rfl)⟩) hown htab (by decide +kernel) hZ.2.2 [(0, 10, 13, 19, "java/lang/IllegalArgumentException"), (0, 10, 17, 13, "java/lang/IllegalStateException")] (0, 10, 21, 21) [] rfl (List.forall_mem_cons.mpr ⟨⟨rfl, by decide, by decide +kernel, by decide +kernel, hts _ k_343⟩, List.forall_mem_cons.mpr ⟨⟨rfl, by decide, by decide +kernel, by decide +kernel, hts _ k_337⟩, fun _ h => absurd h List.not_mem_nil⟩⟩) ⟨rfl, by decide⟩ (hts _ k_345) (hts _ k_346) hP hD hS hA [0, 1, 2, 3, 4, 5, 6, 7, 8, 9, 10, 11, 12, 13, 14, 15] [16] [1, 2, 3, 4, 5, 6, 7, 8, 9, 10, 11, 12, 13, 14, 15, 16, 0] rfl rfl (by decide) (by decide) (by decide) rfl (fun xq10 H locs hP hD hS => ?_)
      refine lv_astore (lv' := [(4, .ref xq10), (0, .ref rh), (1, .int p1), (2, .int p2), (3, .ref ou)]) hx hb d_La_read_21 hl (by decide) rfl (fun ls hl => ?_)
      refine lv_iconst (v := (3 : Int32)) hx hb d_La_read_23 (by decide) ?_
      obtain rfl := Option.some.inj hf
      exact x_iret hx hb hr hlocks hK hP hD hS (Nat.le_of_ble_eq_true rfl) (Nat.le_of_ble_eq_true rfl) d_La_read_24
    have hf := x_ifn c9 hf
    cases hf
set_option maxHeartbeats 4000000 in
set_option maxRecDepth 100000 in
theorem c_La_write (l : Launch) (D : va_G) (cI cJ cZ : ClassId) (rh sh mh m0 m1 m2 m3 dh d0 d1 d2 d3 ea cb ch be ou : Nat) (hL0 : xL l) (N : Nat) (p1 : Int32) (p2 : Int32) (p3 : Int32) (U : K_LH) (r : (Int32 × K_LH)) (hf : f_La_write N p1 p2 p3 U = some r) : Cx l y_La_write ws_La_write rm_La_write D vwCl (tyL cI cJ cZ) [.ref rh, .int p1, .int p2, .int p3, .ref ou] (w_LH cI cJ cZ rh sh mh m0 m1 m2 m3 dh d0 d1 d2 d3 ea cb ch be ou U) (oI r.1) (w_LH cI cJ cZ rh sh mh m0 m1 m2 m3 dh d0 d1 d2 d3 ea cb ch be ou r.2) := by
  unfold f_La_write at hf
  refine Cx.ofWH (hh := hh_La_write) (cc := b_La_write) (maxL := 6) (ret := (some .int)) (by decide) rfl ?_
  intro p e s m below meth c A C0 hP hK hD hA hns hZ
  obtain ⟨hx, hb, hml, hown, hts0, hr, hlocks, hnm, htab⟩ := C0
  have hown : s.vm.findClass R_La = some m.cls := hown
  have hts : ∀ w ∈ tb, w.before [.ref rh, .int p1, .int p2, .int p3, .ref ou].toArray s = true := fun w h => hts0 w (List.mem_cons_of_mem _ h)
  have hS : va_S A s.heap s.heap [] := va_S.rf
  have hl := lv_entry ([.ref rh, .int p1, .int p2, .int p3, .ref ou]) (n := 6) (Nat.le_of_ble_eq_true rfl)
  rw [lg_entry_eq]
  generalize (lg_sl ([.ref rh, .int p1, .int p2, .int p3, .ref ou]) ++ List.replicate (6 - (lg_sl ([.ref rh, .int p1, .int p2, .int p3, .ref ou])).length) Slot.unset).toArray = ls at hl ⊢
  have hl : lv_has ls 6 [(0, .ref rh), (1, .int p1), (2, .int p2), (3, .int p3), (4, .ref ou)] := hl
  refine lv_aload hx hb d_La_write_0 (lv_at hl 4 rfl) ?_
  refine lv_iconst (v := (0 : Int32)) hx hb d_La_write_2 (by decide) ?_
  refine lv_aload_n hx hb d_La_write_3 rfl (lv_at hl 0 rfl) ?_
  refine lv_iload_n hx hb d_La_write_4 rfl (lv_at hl 1 rfl) ?_
  refine lv_iload_n hx hb d_La_write_5 rfl (lv_at hl 2 rfl) ?_
  refine lv_iload_n hx hb d_La_write_6 rfl (lv_at hl 3 rfl) ?_
  obtain ⟨⟨v2 | E3, U4⟩, hz1, hf⟩ := x_bind hf
  · dsimp only at hf
    refine x_callV (w2 := (w_LH cI cJ cZ rh sh mh m0 m1 m2 m3 dh d0 d1 d2 d3 ea cb ch be ou (U4, U.2))) ⟨hx, hb, hml, hown, hts⟩ (c_Rv_write l D cI cJ cZ rh sh mh m0 m1 m2 m3 dh d0 d1 d2 d3 ea cb ch be hL0 N p1 p2 p3 U.1 (Sum.inl v2, U4) hz1) (x_cwV 3 hts rfl k_347 k_348 k_349 k_23 k_350 (by decide +kernel) ⟨(Nat.le_of_ble_eq_true rfl), (Nat.le_of_ble_eq_true rfl)⟩) hK hP hD hS hA hZ [0, 1, 2, 3, 4, 5, 6, 7, 8, 9, 10, 11, 12, 13, 14, 15] [16] [1, 2, 3, 4, 5, 6, 7, 8, 9, 10, 11, 12, 13, 14, 15, 16, 0] (by decide) rfl rfl (by decide) (by decide) (by decide) rfl (ci := 2) rfl rfl rfl hl.1 rfl (Nat.le_of_ble_eq_true rfl) d_La_write_7 ⟨(Nat.le_of_ble_eq_true rfl), (Nat.le_of_ble_eq_true rfl)⟩ (fun H locs hP hD hS => ?_)
    refine W.eq (g2 := F0 m 10 ls [.int v2, .int (0 : Int32), .ref ou]) rfl ?_
    refine lv_i2l (v := (v2).toInt64) hx hb d_La_write_10 rfl ?_
    refine va_last hx hb hK hP hD hS 16 1 rfl rfl (xi_in rfl) d_La_write_11 (fun H locs hP hD hS => ?_)
    have hP : va_P D vwCl (w_LH cI cJ cZ rh sh mh m0 m1 m2 m3 dh d0 d1 d2 d3 ea cb ch be ou (U4, (vp_updL U.2 (0 : Int32).toNatClampNeg (v2).toInt64))) H := hP
    have hD : va_D A (w_LH cI cJ cZ rh sh mh m0 m1 m2 m3 dh d0 d1 d2 d3 ea cb ch be ou (U4, (vp_updL U.2 (0 : Int32).toNatClampNeg (v2).toInt64))) := hD
    refine lv_goto (tgt := 31) hx hb d_La_write_12 (by decide) ?_
    refine lv_iconst (v := (0 : Int32)) hx hb d_La_write_31 (by decide) ?_
    obtain rfl := Option.some.inj hf
    exact x_iret hx hb hr hlocks hK hP hD hS (Nat.le_of_ble_eq_true rfl) (Nat.le_of_ble_eq_true rfl) d_La_write_32
  · dsimp only at hf
    by_cases c5 : E3 = "java/lang/IllegalArgumentException"
    · have hf := x_ifp c5 hf
      subst c5
      refine x_catch (w2 := (w_LH cI cJ cZ rh sh mh m0 m1 m2 m3 dh d0 d1 d2 d3 ea cb ch be ou (U4, U.2))) (x_noteV ⟨hx, hb, hml, hown, hts⟩ (c_Rv_write l D cI cJ cZ rh sh mh m0 m1 m2 m3 dh d0 d1 d2 d3 ea cb ch be hL0 N p1 p2 p3 U.1 (Sum.inr "java/lang/IllegalArgumentException", U4) hz1) (x_cwV 3 hts rfl k_347 k_348 k_349 k_23 k_350 (by decide +kernel) ⟨(Nat.le_of_ble_eq_true rfl), (Nat.le_of_ble_eq_true rfl)⟩) hK (x_cut hP hD hK hS hA hZ [0, 1, 2, 3, 4, 5, 6, 7, 8, 9, 10, 11, 12, 13, 14, 15] (by decide) rfl).1 (x_cut hP hD hK hS hA hZ [0, 1, 2, 3, 4, 5, 6, 7, 8, 9, 10, 11, 12, 13, 14, 15] (by decide) rfl).2 (ci := 2) rfl rfl rfl hl.1 rfl (Nat.le_of_ble_eq_true rfl) d_La_write_7 ⟨(Nat.le_of_ble_eq_true rfl), (Nat.le_of_ble_eq_true rfl)⟩) hown htab (by decide +kernel) hZ.2.2 [] (0, 12, 15, 19) [(0, 12, 19, 13), (0, 12, 23, 27), (0, 12, 27, 29)] rfl (fun _ h => absurd h List.not_mem_nil) ⟨rfl, by decide⟩ (hts _ k_343) (hts _ k_344) hP hD hS hA [0, 1, 2, 3, 4, 5, 6, 7, 8, 9, 10, 11, 12, 13, 14, 15] [16] [1, 2, 3, 4, 5, 6, 7, 8, 9, 10, 11, 12, 13, 14, 15, 16, 0] rfl rfl (by decide) (by decide) (by decide) rfl (fun xq6 H locs hP hD hS => ?_)
      refine lv_astore (lv' := [(5, .ref xq6), (0, .ref rh), (1, .int p1), (2, .int p2), (3, .int p3), (4, .ref ou)]) hx hb d_La_write_15 hl (by decide) rfl (fun ls hl => ?_)
      refine lv_iconst (v := (1 : Int32)) hx hb d_La_write_17 (by decide) ?_
      obtain rfl := Option.some.inj hf
      exact x_iret hx hb hr hlocks hK hP hD hS (Nat.le_of_ble_eq_true rfl) (Nat.le_of_ble_eq_true rfl) d_La_write_18
    have hf := x_ifn c5 hf
    by_cases c7 : E3 = "java/lang/IllegalStateException"
    · have hf := x_ifp c7 hf
      subst c7
      refine x_catch (w2 := (w_LH cI cJ cZ rh sh mh m0 m1 m2 m3 dh d0 d1 d2 d3 ea cb ch be ou (U4, U.2))) (x_noteV ⟨hx, hb, hml, hown, hts⟩ (c_Rv_write l D cI cJ cZ rh sh mh m0 m1 m2 m3 dh d0 d1 d2 d3 ea cb ch be hL0 N p1 p2 p3 U.1 (Sum.inr "java/lang/IllegalStateException", U4) hz1) (x_cwV 3 hts rfl k_347 k_348 k_349 k_23 k_350 (by decide +kernel) ⟨(Nat.le_of_ble_eq_true rfl), (Nat.le_of_ble_eq_true rfl)⟩) hK (x_cut hP hD hK hS hA hZ [0, 1, 2, 3, 4, 5, 6, 7, 8, 9, 10, 11, 12, 13, 14, 15] (by decide) rfl).1 (x_cut hP hD hK hS hA hZ [0, 1, 2, 3, 4, 5, 6, 7, 8, 9, 10, 11, 12, 13, 14, 15] (by decide) rfl).2 (ci := 2) rfl rfl rfl hl.1 rfl (Nat.le_of_ble_eq_true rfl) d_La_write_7 ⟨(Nat.le_of_ble_eq_true rfl), (Nat.le_of_ble_eq_true rfl)⟩) hown htab (by decide +kernel) hZ.2.2 [(0, 12, 15, 19, "java/lang/IllegalArgumentException")] (0, 12, 19, 13) [(0, 12, 23, 27), (0, 12, 27, 29)] rfl (List.forall_mem_cons.mpr ⟨⟨rfl, by decide, by decide +kernel, by decide +kernel, hts _ k_343⟩, fun _ h => absurd h List.not_mem_nil⟩) ⟨rfl, by decide⟩ (hts _ k_337) (hts _ k_338) hP hD hS hA [0, 1, 2, 3, 4, 5, 6, 7, 8, 9, 10, 11, 12, 13, 14, 15] [16] [1, 2, 3, 4, 5, 6, 7, 8, 9, 10, 11, 12, 13, 14, 15, 16, 0] rfl rfl (by decide) (by decide) (by decide) rfl (fun xq8 H locs hP hD hS => ?_)
      refine lv_astore (lv' := [(5, .ref xq8), (0, .ref rh), (1, .int p1), (2, .int p2), (3, .int p3), (4, .ref ou)]) hx hb d_La_write_19 hl (by decide) rfl (fun ls hl => ?_)
      refine lv_iconst (v := (2 : Int32)) hx hb d_La_write_21 (by decide) ?_
      obtain rfl := Option.some.inj hf
      exact x_iret hx hb hr hlocks hK hP hD hS (Nat.le_of_ble_eq_true rfl) (Nat.le_of_ble_eq_true rfl) d_La_write_22
    have hf := x_ifn c7 hf
    by_cases c9 : E3 = "java/lang/UnsupportedOperationException"
    · have hf := x_ifp c9 hf
      subst c9
      refine x_catch (w2 := (w_LH cI cJ cZ rh sh mh m0 m1 m2 m3 dh d0 d1 d2 d3 ea cb ch be ou (U4, U.2))) (x_noteV ⟨hx, hb, hml, hown, hts⟩ (c_Rv_write l D cI cJ cZ rh sh mh m0 m1 m2 m3 dh d0 d1 d2 d3 ea cb ch be hL0 N p1 p2 p3 U.1 (Sum.inr "java/lang/UnsupportedOperationException", U4) hz1) (x_cwV 3 hts rfl k_347 k_348 k_349 k_23 k_350 (by decide +kernel) ⟨(Nat.le_of_ble_eq_true rfl), (Nat.le_of_ble_eq_true rfl)⟩) hK (x_cut hP hD hK hS hA hZ [0, 1, 2, 3, 4, 5, 6, 7, 8, 9, 10, 11, 12, 13, 14, 15] (by decide) rfl).1 (x_cut hP hD hK hS hA hZ [0, 1, 2, 3, 4, 5, 6, 7, 8, 9, 10, 11, 12, 13, 14, 15] (by decide) rfl).2 (ci := 2) rfl rfl rfl hl.1 rfl (Nat.le_of_ble_eq_true rfl) d_La_write_7 ⟨(Nat.le_of_ble_eq_true rfl), (Nat.le_of_ble_eq_true rfl)⟩) hown htab (by decide +kernel) hZ.2.2 [(0, 12, 15, 19, "java/lang/IllegalArgumentException"), (0, 12, 19, 13, "java/lang/IllegalStateException")] (0, 12, 23, 27) [(0, 12, 27, 29)] rfl (List.forall_mem_cons.mpr ⟨⟨rfl, by decide, by decide +kernel, by decide +kernel, hts _ k_343⟩, List.forall_mem_cons.mpr ⟨⟨rfl, by decide, by decide +kernel, by decide +kernel, hts _ k_337⟩, fun _ h => absurd h List.not_mem_nil⟩⟩) ⟨rfl, by decide⟩ (hts _ k_351) (hts _ k_352) hP hD hS hA [0, 1, 2, 3, 4, 5, 6, 7, 8, 9, 10, 11, 12, 13, 14, 15] [16] [1, 2, 3, 4, 5, 6, 7, 8, 9, 10, 11, 12, 13, 14, 15, 16, 0] rfl rfl (by decide) (by decide) (by decide) rfl (fun xq10 H locs hP hD hS => ?_)
      refine lv_astore (lv' := [(5, .ref xq10), (0, .ref rh), (1, .int p1), (2, .int p2), (3, .int p3), (4, .ref ou)]) hx hb d_La_write_23 hl (by decide) rfl (fun ls hl => ?_)
      refine lv_iconst (v := (3 : Int32)) hx hb d_La_write_25 (by decide) ?_
      obtain rfl := Option.some.inj hf
      exact x_iret hx hb hr hlocks hK hP hD hS (Nat.le_of_ble_eq_true rfl) (Nat.le_of_ble_eq_true rfl) d_La_write_26
    have hf := x_ifn c9 hf
    by_cases c11 : E3 = "java/lang/IndexOutOfBoundsException"
    · have hf := x_ifp c11 hf
      subst c11
      refine x_catch (w2 := (w_LH cI cJ cZ rh sh mh m0 m1 m2 m3 dh d0 d1 d2 d3 ea cb ch be ou (U4, U.2))) (x_noteV ⟨hx, hb, hml, hown, hts⟩ (c_Rv_write l D cI cJ cZ rh sh mh m0 m1 m2 m3 dh d0 d1 d2 d3 ea cb ch be hL0 N p1 p2 p3 U.1 (Sum.inr "java/lang/IndexOutOfBoundsException", U4) hz1) (x_cwV 3 hts rfl k_347 k_348 k_349 k_23 k_350 (by decide +kernel) ⟨(Nat.le_of_ble_eq_true rfl), (Nat.le_of_ble_eq_true rfl)⟩) hK (x_cut hP hD hK hS hA hZ [0, 1, 2, 3, 4, 5, 6, 7, 8, 9, 10, 11, 12, 13, 14, 15] (by decide) rfl).1 (x_cut hP hD hK hS hA hZ [0, 1, 2, 3, 4, 5, 6, 7, 8, 9, 10, 11, 12, 13, 14, 15] (by decide) rfl).2 (ci := 2) rfl rfl rfl hl.1 rfl (Nat.le_of_ble_eq_true rfl) d_La_write_7 ⟨(Nat.le_of_ble_eq_true rfl), (Nat.le_of_ble_eq_true rfl)⟩) hown htab (by decide +kernel) hZ.2.2 [(0, 12, 15, 19, "java/lang/IllegalArgumentException"), (0, 12, 19, 13, "java/lang/IllegalStateException"), (0, 12, 23, 27, "java/lang/UnsupportedOperationException")] (0, 12, 27, 29) [] rfl (List.forall_mem_cons.mpr ⟨⟨rfl, by decide, by decide +kernel, by decide +kernel, hts _ k_343⟩, List.forall_mem_cons.mpr ⟨⟨rfl, by decide, by decide +kernel, by decide +kernel, hts _ k_337⟩, List.forall_mem_cons.mpr ⟨⟨rfl, by decide, by decide +kernel, by decide +kernel, hts _ k_351⟩, fun _ h => absurd h List.not_mem_nil⟩⟩⟩) ⟨rfl, by decide⟩ (hts _ k_353) (hts _ k_354) hP hD hS hA [0, 1, 2, 3, 4, 5, 6, 7, 8, 9, 10, 11, 12, 13, 14, 15] [16] [1, 2, 3, 4, 5, 6, 7, 8, 9, 10, 11, 12, 13, 14, 15, 16, 0] rfl rfl (by decide) (by decide) (by decide) rfl (fun xq12 H locs hP hD hS => ?_)
      refine lv_astore (lv' := [(5, .ref xq12), (0, .ref rh), (1, .int p1), (2, .int p2), (3, .int p3), (4, .ref ou)]) hx hb d_La_write_27 hl (by decide) rfl (fun ls hl => ?_)
      refine lv_iconst (v := (4 : Int32)) hx hb d_La_write_29 (by decide) ?_
      obtain rfl := Option.some.inj hf
      exact x_iret hx hb hr hlocks hK hP hD hS (Nat.le_of_ble_eq_true rfl) (Nat.le_of_ble_eq_true rfl) d_La_write_30
    have hf := x_ifn c11 hf
    cases hf
set_option maxHeartbeats 4000000 in
set_option maxRecDepth 100000 in
theorem c_La_erase (l : Launch) (D : va_G) (cI cJ cZ : ClassId) (rh sh mh m0 m1 m2 m3 dh d0 d1 d2 d3 ea cb ch be ou : Nat) (hL0 : xL l) (N : Nat) (p1 : Int32) (p2 : Int32) (U : K_LH) (r : (Int32 × K_LH)) (hf : f_La_erase N p1 p2 U = some r) : Cx l y_La_erase ws_La_erase rm_La_erase D vwCl (tyL cI cJ cZ) [.ref rh, .int p1, .int p2, .ref ou] (w_LH cI cJ cZ rh sh mh m0 m1 m2 m3 dh d0 d1 d2 d3 ea cb ch be ou U) (oI r.1) (w_LH cI cJ cZ rh sh mh m0 m1 m2 m3 dh d0 d1 d2 d3 ea cb ch be ou r.2) := by
  unfold f_La_erase at hf
  refine Cx.ofWH (hh := hh_La_erase) (cc := b_La_erase) (maxL := 5) (ret := (some .int)) (by decide) rfl ?_
  intro p e s m below meth c A C0 hP hK hD hA hns hZ
  obtain ⟨hx, hb, hml, hown, hts0, hr, hlocks, hnm, htab⟩ := C0
  have hown : s.vm.findClass R_La = some m.cls := hown
  have hts : ∀ w ∈ tb, w.before [.ref rh, .int p1, .int p2, .ref ou].toArray s = true := fun w h => hts0 w (List.mem_cons_of_mem _ h)
  have hS : va_S A s.heap s.heap [] := va_S.rf
  have hl := lv_entry ([.ref rh, .int p1, .int p2, .ref ou]) (n := 5) (Nat.le_of_ble_eq_true rfl)
  rw [lg_entry_eq]
  generalize (lg_sl ([.ref rh, .int p1, .int p2, .ref ou]) ++ List.replicate (5 - (lg_sl ([.ref rh, .int p1, .int p2, .ref ou])).length) Slot.unset).toArray = ls at hl ⊢
  have hl : lv_has ls 5 [(0, .ref rh), (1, .int p1), (2, .int p2), (3, .ref ou)] := hl
  refine lv_aload_n hx hb d_La_erase_0 rfl (lv_at hl 3 rfl) ?_
  refine lv_iconst (v := (0 : Int32)) hx hb d_La_erase_1 (by decide) ?_
  refine lv_aload_n hx hb d_La_erase_2 rfl (lv_at hl 0 rfl) ?_
  refine lv_iload_n hx hb d_La_erase_3 rfl (lv_at hl 1 rfl) ?_
  refine lv_iload_n hx hb d_La_erase_4 rfl (lv_at hl 2 rfl) ?_
  obtain ⟨⟨v2 | E3, U4⟩, hz1, hf⟩ := x_bind hf
  · dsimp only at hf
    refine x_callV (w2 := (w_LH cI cJ cZ rh sh mh m0 m1 m2 m3 dh d0 d1 d2 d3 ea cb ch be ou (U4, U.2))) ⟨hx, hb, hml, hown, hts⟩ (c_Rv_erase l D cI cJ cZ rh sh mh m0 m1 m2 m3 dh d0 d1 d2 d3 ea cb ch be hL0 N p1 p2 U.1 (Sum.inl v2, U4) hz1) (x_cwV 2 hts rfl k_355 k_356 k_357 k_23 k_358 (by decide +kernel) ⟨(Nat.le_of_ble_eq_true rfl), (Nat.le_of_ble_eq_true rfl)⟩) hK hP hD hS hA hZ [0, 1, 2, 3, 4, 5, 6, 7, 8, 9, 10, 11, 12, 13, 14, 15] [16] [1, 2, 3, 4, 5, 6, 7, 8, 9, 10, 11, 12, 13, 14, 15, 16, 0] (by decide) rfl rfl (by decide) (by decide) (by decide) rfl (ci := 2) rfl rfl rfl hl.1 rfl (Nat.le_of_ble_eq_true rfl) d_La_erase_5 ⟨(Nat.le_of_ble_eq_true rfl), (Nat.le_of_ble_eq_true rfl)⟩ (fun H locs hP hD hS => ?_)
    refine W.eq (g2 := F0 m 8 ls [.int v2, .int (0 : Int32), .ref ou]) rfl ?_
    refine lv_i2l (v := (v2).toInt64) hx hb d_La_erase_8 rfl ?_
    refine va_last hx hb hK hP hD hS 16 1 rfl rfl (xi_in rfl) d_La_erase_9 (fun H locs hP hD hS => ?_)
    have hP : va_P D vwCl (w_LH cI cJ cZ rh sh mh m0 m1 m2 m3 dh d0 d1 d2 d3 ea cb ch be ou (U4, (vp_updL U.2 (0 : Int32).toNatClampNeg (v2).toInt64))) H := hP
    have hD : va_D A (w_LH cI cJ cZ rh sh mh m0 m1 m2 m3 dh d0 d1 d2 d3 ea cb ch be ou (U4, (vp_updL U.2 (0 : Int32).toNatClampNeg (v2).toInt64))) := hD
    refine lv_goto (tgt := 33) hx hb d_La_erase_10 (by decide) ?_
    refine lv_iconst (v := (0 : Int32)) hx hb d_La_erase_33 (by decide) ?_
    obtain rfl := Option.some.inj hf
    exact x_iret hx hb hr hlocks hK hP hD hS (Nat.le_of_ble_eq_true rfl) (Nat.le_of_ble_eq_true rfl) d_La_erase_34
  · dsimp only at hf
    by_cases c5 : E3 = "java/lang/IllegalArgumentException"
    · have hf := x_ifp c5 hf
      subst c5
      refine x_catch (w2 := (w_LH cI cJ cZ rh sh mh m0 m1 m2 m3 dh d0 d1 d2 d3 ea cb ch be ou (U4, U.2))) (x_noteV ⟨hx, hb, hml, hown, hts⟩ (c_Rv_erase l D cI cJ cZ rh sh mh m0 m1 m2 m3 dh d0 d1 d2 d3 ea cb ch be hL0 N p1 p2 U.1 (Sum.inr "java/lang/IllegalArgumentException", U4) hz1) (x_cwV 2 hts rfl k_355 k_356 k_357 k_23 k_358 (by decide +kernel) ⟨(Nat.le_of_ble_eq_true rfl), (Nat.le_of_ble_eq_true rfl)⟩) hK (x_cut hP hD hK hS hA hZ [0, 1, 2, 3, 4, 5, 6, 7, 8, 9, 10, 11, 12, 13, 14, 15] (by decide) rfl).1 (x_cut hP hD hK hS hA hZ [0, 1, 2, 3, 4, 5, 6, 7, 8, 9, 10, 11, 12, 13, 14, 15] (by decide) rfl).2 (ci := 2) rfl rfl rfl hl.1 rfl (Nat.le_of_ble_eq_true rfl) d_La_erase_5 ⟨(Nat.le_of_ble_eq_true rfl), (Nat.le_of_ble_eq_true rfl)⟩) hown htab (by decide +kernel) hZ.2.2 [] (0, 10, 13, 19) [(0, 10, 17, 13), (0, 10, 21, 21), (0, 10, 25, 27), (0, 10, 29, 29)] rfl (fun _ h => absurd h List.not_mem_nil) ⟨rfl, by decide⟩ (hts _ k_343) (hts _ k_344) hP hD hS hA [0, 1, 2, 3, 4, 5, 6, 7, 8, 9, 10, 11, 12, 13, 14, 15] [16] [1, 2, 3, 4, 5, 6, 7, 8, 9, 10, 11, 12, 13, 14, 15, 16, 0] rfl rfl (by decide) (by decide) (by decide) rfl (fun xq6 H locs hP hD hS => ?_)
      refine lv_astore (lv' := [(4, .ref xq6), (0, .ref rh), (1, .int p1), (2, .int p2), (3, .ref ou)]) hx hb d_La_erase_13 hl (by decide) rfl (fun ls hl => ?_)
      refine lv_iconst (v := (1 : Int32)) hx hb d_La_erase_15 (by decide) ?_
      obtain rfl := Option.some.inj hf
      exact x_iret hx hb hr hlocks hK hP hD hS (Nat.le_of_ble_eq_true rfl) (Nat.le_of_ble_eq_true rfl) d_La_erase_16
    have hf := x_ifn c5 hf
    by_cases c7 : E3 = "java/lang/IllegalStateException"
    · have hf := x_ifp c7 hf
      subst c7
      refine x_catch (w2 := (w_LH cI cJ cZ rh sh mh m0 m1 m2 m3 dh d0 d1 d2 d3 ea cb ch be ou (U4, U.2))) (x_noteV ⟨hx, hb, hml, hown, hts⟩ (c_Rv_erase l D cI cJ cZ rh sh mh m0 m1 m2 m3 dh d0 d1 d2 d3 ea cb ch be hL0 N p1 p2 U.1 (Sum.inr "java/lang/IllegalStateException", U4) hz1) (x_cwV 2 hts rfl k_355 k_356 k_357 k_23 k_358 (by decide +kernel) ⟨(Nat.le_of_ble_eq_true rfl), (Nat.le_of_ble_eq_true rfl)⟩) hK (x_cut hP hD hK hS hA hZ [0, 1, 2, 3, 4, 5, 6, 7, 8, 9, 10, 11, 12, 13, 14, 15] (by decide) rfl).1 (x_cut hP hD hK hS hA hZ [0, 1, 2, 3, 4, 5, 6, 7, 8, 9, 10, 11, 12, 13, 14, 15] (by decide) rfl).2 (ci := 2) rfl rfl rfl hl.1 rfl (Nat.le_of_ble_eq_true rfl) d_La_erase_5 ⟨(Nat.le_of_ble_eq_true rfl), (Nat.le_of_ble_eq_true rfl)⟩) hown htab (by decide +kernel) hZ.2.2 [(0, 10, 13, 19, "java/lang/IllegalArgumentException")] (0, 10, 17, 13) [(0, 10, 21, 21), (0, 10, 25, 27), (0, 10, 29, 29)] rfl (List.forall_mem_cons.mpr ⟨⟨rfl, by decide, by decide +kernel, by decide +kernel, hts _ k_343⟩, fun _ h => absurd h List.not_mem_nil⟩) ⟨rfl, by decide⟩ (hts _ k_337) (hts _ k_338) hP hD hS hA [0, 1, 2, 3, 4, 5, 6, 7, 8, 9, 10, 11, 12, 13, 14, 15] [16] [1, 2, 3, 4, 5, 6, 7, 8, 9, 10, 11, 12, 13, 14, 15, 16, 0] rfl rfl (by decide) (by decide) (by decide) rfl (fun xq8 H locs hP hD hS => ?_)
      refine lv_astore (lv' := [(4, .ref xq8), (0, .ref rh), (1, .int p1), (2, .int p2), (3, .ref ou)]) hx hb d_La_erase_17 hl (by decide) rfl (fun ls hl => ?_)
      refine lv_iconst (v := (2 : Int32)) hx hb d_La_erase_19 (by decide) ?_
      obtain rfl := Option.some.inj hf
      exact x_iret hx hb hr hlocks hK hP hD hS (Nat.le_of_ble_eq_true rfl) (Nat.le_of_ble_eq_true rfl) d_La_erase_20
    have hf := x_ifn c7 hf
    by_cases c9 : E3 = "java/util/NoSuchElementException"
    · have hf := x_ifp c9 hf
      subst c9
      refine x_catch (w2 := (w_LH cI cJ cZ rh sh mh m0 m1 m2 m3 dh d0 d1 d2 d3 ea cb ch be ou (U4, U.2))) (x_noteV ⟨hx, hb, hml, hown, hts⟩ (c_Rv_erase l D cI cJ cZ rh sh mh m0 m1 m2 m3 dh d0 d1 d2 d3 ea cb ch be hL0 N p1 p2 U.1 (Sum.inr "java/util/NoSuchElementException", U4) hz1) (x_cwV 2 hts rfl k_355 k_356 k_357 k_23 k_358 (by decide +kernel) ⟨(Nat.le_of_ble_eq_true rfl), (Nat.le_of_ble_eq_true rfl)⟩) hK (x_cut hP hD hK hS hA hZ [0, 1, 2, 3, 4, 5, 6, 7, 8, 9, 10, 11, 12, 13, 14, 15] (by decide) rfl).1 (x_cut hP hD hK hS hA hZ [0, 1, 2, 3, 4, 5, 6, 7, 8, 9, 10, 11, 12, 13, 14, 15] (by decide) rfl).2 (ci := 2) rfl rfl rfl hl.1 rfl (Nat.le_of_ble_eq_true rfl) d_La_erase_5 ⟨(Nat.le_of_ble_eq_true rfl), (Nat.le_of_ble_eq_true rfl)⟩) hown htab (by decide +kernel) hZ.2.2 [(0, 10, 13, 19, "java/lang/IllegalArgumentException"), (0, 10, 17, 13, "java/lang/IllegalStateException")] (0, 10, 21, 21) [(0, 10, 25, 27), (0, 10, 29, 29)] rfl (List.forall_mem_cons.mpr ⟨⟨rfl, by decide, by decide +kernel, by decide +kernel, hts _ k_343⟩, List.forall_mem_cons.mpr ⟨⟨rfl, by decide, by decide +kernel, by decide +kernel, hts _ k_337⟩, fun _ h => absurd h List.not_mem_nil⟩⟩) ⟨rfl, by decide⟩ (hts _ k_345) (hts _ k_346) hP hD hS hA [0, 1, 2, 3, 4, 5, 6, 7, 8, 9, 10, 11, 12, 13, 14, 15] [16] [1, 2, 3, 4, 5, 6, 7, 8, 9, 10, 11, 12, 13, 14, 15, 16, 0] rfl rfl (by decide) (by decide) (by decide) rfl (fun xq10 H locs hP hD hS => ?_)
      refine lv_astore (lv' := [(4, .ref xq10), (0, .ref rh), (1, .int p1), (2, .int p2), (3, .ref ou)]) hx hb d_La_erase_21 hl (by decide) rfl (fun ls hl => ?_)
      refine lv_iconst (v := (3 : Int32)) hx hb d_La_erase_23 (by decide) ?_
      obtain rfl := Option.some.inj hf
      exact x_iret hx hb hr hlocks hK hP hD hS (Nat.le_of_ble_eq_true rfl) (Nat.le_of_ble_eq_true rfl) d_La_erase_24
    have hf := x_ifn c9 hf
    by_cases c11 : E3 = "java/lang/UnsupportedOperationException"
    · have hf := x_ifp c11 hf
      subst c11
      refine x_catch (w2 := (w_LH cI cJ cZ rh sh mh m0 m1 m2 m3 dh d0 d1 d2 d3 ea cb ch be ou (U4, U.2))) (x_noteV ⟨hx, hb, hml, hown, hts⟩ (c_Rv_erase l D cI cJ cZ rh sh mh m0 m1 m2 m3 dh d0 d1 d2 d3 ea cb ch be hL0 N p1 p2 U.1 (Sum.inr "java/lang/UnsupportedOperationException", U4) hz1) (x_cwV 2 hts rfl k_355 k_356 k_357 k_23 k_358 (by decide +kernel) ⟨(Nat.le_of_ble_eq_true rfl), (Nat.le_of_ble_eq_true rfl)⟩) hK (x_cut hP hD hK hS hA hZ [0, 1, 2, 3, 4, 5, 6, 7, 8, 9, 10, 11, 12, 13, 14, 15] (by decide) rfl).1 (x_cut hP hD hK hS hA hZ [0, 1, 2, 3, 4, 5, 6, 7, 8, 9, 10, 11, 12, 13, 14, 15] (by decide) rfl).2 (ci := 2) rfl rfl rfl hl.1 rfl (Nat.le_of_ble_eq_true rfl) d_La_erase_5 ⟨(Nat.le_of_ble_eq_true rfl), (Nat.le_of_ble_eq_true rfl)⟩) hown htab (by decide +kernel) hZ.2.2 [(0, 10, 13, 19, "java/lang/IllegalArgumentException"), (0, 10, 17, 13, "java/lang/IllegalStateException"), (0, 10, 21, 21, "java/util/NoSuchElementException")] (0, 10, 25, 27) [(0, 10, 29, 29)] rfl (List.forall_mem_cons.mpr ⟨⟨rfl, by decide, by decide +kernel, by decide +kernel, hts _ k_343⟩, List.forall_mem_cons.mpr ⟨⟨rfl, by decide, by decide +kernel, by decide +kernel, hts _ k_337⟩, List.forall_mem_cons.mpr ⟨⟨rfl, by decide, by decide +kernel, by decide +kernel, hts _ k_345⟩, fun _ h => absurd h List.not_mem_nil⟩⟩⟩) ⟨rfl, by decide⟩ (hts _ k_351) (hts _ k_352) hP hD hS hA [0, 1, 2, 3, 4, 5, 6, 7, 8, 9, 10, 11, 12, 13, 14, 15] [16] [1, 2, 3, 4, 5, 6, 7, 8, 9, 10, 11, 12, 13, 14, 15, 16, 0] rfl rfl (by decide) (by decide) (by decide) rfl (fun xq12 H locs hP hD hS => ?_)
      refine lv_astore (lv' := [(4, .ref xq12), (0, .ref rh), (1, .int p1), (2, .int p2), (3, .ref ou)]) hx hb d_La_erase_25 hl (by decide) rfl (fun ls hl => ?_)
      refine lv_iconst (v := (4 : Int32)) hx hb d_La_erase_27 (by decide) ?_
      obtain rfl := Option.some.inj hf
      exact x_iret hx hb hr hlocks hK hP hD hS (Nat.le_of_ble_eq_true rfl) (Nat.le_of_ble_eq_true rfl) d_La_erase_28
    have hf := x_ifn c11 hf
    by_cases c13 : E3 = "java/lang/IndexOutOfBoundsException"
    · have hf := x_ifp c13 hf
      subst c13
      refine x_catch (w2 := (w_LH cI cJ cZ rh sh mh m0 m1 m2 m3 dh d0 d1 d2 d3 ea cb ch be ou (U4, U.2))) (x_noteV ⟨hx, hb, hml, hown, hts⟩ (c_Rv_erase l D cI cJ cZ rh sh mh m0 m1 m2 m3 dh d0 d1 d2 d3 ea cb ch be hL0 N p1 p2 U.1 (Sum.inr "java/lang/IndexOutOfBoundsException", U4) hz1) (x_cwV 2 hts rfl k_355 k_356 k_357 k_23 k_358 (by decide +kernel) ⟨(Nat.le_of_ble_eq_true rfl), (Nat.le_of_ble_eq_true rfl)⟩) hK (x_cut hP hD hK hS hA hZ [0, 1, 2, 3, 4, 5, 6, 7, 8, 9, 10, 11, 12, 13, 14, 15] (by decide) rfl).1 (x_cut hP hD hK hS hA hZ [0, 1, 2, 3, 4, 5, 6, 7, 8, 9, 10, 11, 12, 13, 14, 15] (by decide) rfl).2 (ci := 2) rfl rfl rfl hl.1 rfl (Nat.le_of_ble_eq_true rfl) d_La_erase_5 ⟨(Nat.le_of_ble_eq_true rfl), (Nat.le_of_ble_eq_true rfl)⟩) hown htab (by decide +kernel) hZ.2.2 [(0, 10, 13, 19, "java/lang/IllegalArgumentException"), (0, 10, 17, 13, "java/lang/IllegalStateException"), (0, 10, 21, 21, "java/util/NoSuchElementException"), (0, 10, 25, 27, "java/lang/UnsupportedOperationException")] (0, 10, 29, 29) [] rfl (List.forall_mem_cons.mpr ⟨⟨rfl, by decide, by decide +kernel, by decide +kernel, hts _ k_343⟩, List.forall_mem_cons.mpr ⟨⟨rfl, by decide, by decide +kernel, by decide +kernel, hts _ k_337⟩, List.forall_mem_cons.mpr ⟨⟨rfl, by decide, by decide +kernel, by decide +kernel, hts _ k_345⟩, List.forall_mem_cons.mpr ⟨⟨rfl, by decide, by decide +kernel, by decide +kernel, hts _ k_351⟩, fun _ h => absurd h List.not_mem_nil⟩⟩⟩⟩) ⟨rfl, by decide⟩ (hts _ k_353) (hts _ k_354) hP hD hS hA [0, 1, 2, 3, 4, 5, 6, 7, 8, 9, 10, 11, 12, 13, 14, 15] [16] [1, 2, 3, 4, 5, 6, 7, 8, 9, 10, 11, 12, 13, 14, 15, 16, 0] rfl rfl (by decide) (by decide) (by decide) rfl (fun xq14 H locs hP hD hS => ?_)
      refine lv_astore (lv' := [(4, .ref xq14), (0, .ref rh), (1, .int p1), (2, .int p2), (3, .ref ou)]) hx hb d_La_erase_29 hl (by decide) rfl (fun ls hl => ?_)
      refine lv_iconst (v := (5 : Int32)) hx hb d_La_erase_31 (by decide) ?_
      obtain rfl := Option.some.inj hf
      exact x_iret hx hb hr hlocks hK hP hD hS (Nat.le_of_ble_eq_true rfl) (Nat.le_of_ble_eq_true rfl) d_La_erase_32
    have hf := x_ifn c13 hf
    cases hf
set_option maxHeartbeats 4000000 in
set_option maxRecDepth 100000 in
theorem c_La_commit (l : Launch) (D : va_G) (cI cJ cZ : ClassId) (rh sh mh m0 m1 m2 m3 dh d0 d1 d2 d3 ea cb ch be ou : Nat) (hL0 : xL l) (N : Nat) (p1 : Int32) (U : K_LH) (r : (Int32 × K_LH)) (hf : f_La_commit N p1 U = some r) : Cx l y_La_commit ws_La_commit rm_La_commit D vwCl (tyL cI cJ cZ) [.ref rh, .int p1, .ref ou] (w_LH cI cJ cZ rh sh mh m0 m1 m2 m3 dh d0 d1 d2 d3 ea cb ch be ou U) (oI r.1) (w_LH cI cJ cZ rh sh mh m0 m1 m2 m3 dh d0 d1 d2 d3 ea cb ch be ou r.2) := by
  unfold f_La_commit at hf
  refine Cx.ofWH (hh := hh_La_commit) (cc := b_La_commit) (maxL := 4) (ret := (some .int)) (by decide) rfl ?_
  intro p e s m below meth c A C0 hP hK hD hA hns hZ
  obtain ⟨hx, hb, hml, hown, hts0, hr, hlocks, hnm, htab⟩ := C0
  have hown : s.vm.findClass R_La = some m.cls := hown
  have hts : ∀ w ∈ tb, w.before [.ref rh, .int p1, .ref ou].toArray s = true := fun w h => hts0 w (List.mem_cons_of_mem _ h)
  have hS : va_S A s.heap s.heap [] := va_S.rf
  have hl := lv_entry ([.ref rh, .int p1, .ref ou]) (n := 4) (Nat.le_of_ble_eq_true rfl)
  rw [lg_entry_eq]
  generalize (lg_sl ([.ref rh, .int p1, .ref ou]) ++ List.replicate (4 - (lg_sl ([.ref rh, .int p1, .ref ou])).length) Slot.unset).toArray = ls at hl ⊢
  have hl : lv_has ls 4 [(0, .ref rh), (1, .int p1), (2, .ref ou)] := hl
  refine lv_aload_n hx hb d_La_commit_0 rfl (lv_at hl 2 rfl) ?_
  refine lv_iconst (v := (0 : Int32)) hx hb d_La_commit_1 (by decide) ?_
  refine lv_aload_n hx hb d_La_commit_2 rfl (lv_at hl 0 rfl) ?_
  refine lv_iload_n hx hb d_La_commit_3 rfl (lv_at hl 1 rfl) ?_
  obtain ⟨⟨v2 | E3, U4⟩, hz1, hf⟩ := x_bind hf
  · dsimp only at hf
    refine x_callV (w2 := (w_LH cI cJ cZ rh sh mh m0 m1 m2 m3 dh d0 d1 d2 d3 ea cb ch be ou (U4, U.2))) ⟨hx, hb, hml, hown, hts⟩ (c_Rv_commit l D cI cJ cZ rh sh mh m0 m1 m2 m3 dh d0 d1 d2 d3 ea cb ch be hL0 N p1 U.1 (Sum.inl v2, U4) hz1) (x_cwV 1 hts rfl k_359 k_360 k_361 k_23 k_362 (by decide +kernel) ⟨(Nat.le_of_ble_eq_true rfl), (Nat.le_of_ble_eq_true rfl)⟩) hK hP hD hS hA hZ [0, 1, 2, 3, 4, 5, 6, 7, 8, 9, 10, 11, 12, 13, 14, 15] [16] [1, 2, 3, 4, 5, 6, 7, 8, 9, 10, 11, 12, 13, 14, 15, 16, 0] (by decide) rfl rfl (by decide) (by decide) (by decide) rfl (ci := 2) rfl rfl rfl hl.1 rfl (Nat.le_of_ble_eq_true rfl) d_La_commit_4 ⟨(Nat.le_of_ble_eq_true rfl), (Nat.le_of_ble_eq_true rfl)⟩ (fun H locs hP hD hS => ?_)
    refine W.eq (g2 := F0 m 7 ls [.int v2, .int (0 : Int32), .ref ou]) rfl ?_
    refine lv_i2l (v := (v2).toInt64) hx hb d_La_commit_7 rfl ?_
    refine va_last hx hb hK hP hD hS 16 1 rfl rfl (xi_in rfl) d_La_commit_8 (fun H locs hP hD hS => ?_)
    have hP : va_P D vwCl (w_LH cI cJ cZ rh sh mh m0 m1 m2 m3 dh d0 d1 d2 d3 ea cb ch be ou (U4, (vp_updL U.2 (0 : Int32).toNatClampNeg (v2).toInt64))) H := hP
    have hD : va_D A (w_LH cI cJ cZ rh sh mh m0 m1 m2 m3 dh d0 d1 d2 d3 ea cb ch be ou (U4, (vp_updL U.2 (0 : Int32).toNatClampNeg (v2).toInt64))) := hD
    refine lv_goto (tgt := 15) hx hb d_La_commit_9 (by decide) ?_
    refine lv_iconst (v := (0 : Int32)) hx hb d_La_commit_15 (by decide) ?_
    obtain rfl := Option.some.inj hf
    exact x_iret hx hb hr hlocks hK hP hD hS (Nat.le_of_ble_eq_true rfl) (Nat.le_of_ble_eq_true rfl) d_La_commit_16
  · dsimp only at hf
    by_cases c5 : E3 = "java/lang/IllegalStateException"
    · have hf := x_ifp c5 hf
      subst c5
      refine x_catch (w2 := (w_LH cI cJ cZ rh sh mh m0 m1 m2 m3 dh d0 d1 d2 d3 ea cb ch be ou (U4, U.2))) (x_noteV ⟨hx, hb, hml, hown, hts⟩ (c_Rv_commit l D cI cJ cZ rh sh mh m0 m1 m2 m3 dh d0 d1 d2 d3 ea cb ch be hL0 N p1 U.1 (Sum.inr "java/lang/IllegalStateException", U4) hz1) (x_cwV 1 hts rfl k_359 k_360 k_361 k_23 k_362 (by decide +kernel) ⟨(Nat.le_of_ble_eq_true rfl), (Nat.le_of_ble_eq_true rfl)⟩) hK (x_cut hP hD hK hS hA hZ [0, 1, 2, 3, 4, 5, 6, 7, 8, 9, 10, 11, 12, 13, 14, 15] (by decide) rfl).1 (x_cut hP hD hK hS hA hZ [0, 1, 2, 3, 4, 5, 6, 7, 8, 9, 10, 11, 12, 13, 14, 15] (by decide) rfl).2 (ci := 2) rfl rfl rfl hl.1 rfl (Nat.le_of_ble_eq_true rfl) d_La_commit_4 ⟨(Nat.le_of_ble_eq_true rfl), (Nat.le_of_ble_eq_true rfl)⟩) hown htab (by decide +kernel) hZ.2.2 [] (0, 9, 12, 13) [] rfl (fun _ h => absurd h List.not_mem_nil) ⟨rfl, by decide⟩ (hts _ k_337) (hts _ k_338) hP hD hS hA [0, 1, 2, 3, 4, 5, 6, 7, 8, 9, 10, 11, 12, 13, 14, 15] [16] [1, 2, 3, 4, 5, 6, 7, 8, 9, 10, 11, 12, 13, 14, 15, 16, 0] rfl rfl (by decide) (by decide) (by decide) rfl (fun xq6 H locs hP hD hS => ?_)
      refine lv_astore_n (lv' := [(3, .ref xq6), (0, .ref rh), (1, .int p1), (2, .ref ou)]) hx hb d_La_commit_12 rfl hl (by decide) rfl (fun ls hl => ?_)
      refine lv_iconst (v := (1 : Int32)) hx hb d_La_commit_13 (by decide) ?_
      obtain rfl := Option.some.inj hf
      exact x_iret hx hb hr hlocks hK hP hD hS (Nat.le_of_ble_eq_true rfl) (Nat.le_of_ble_eq_true rfl) d_La_commit_14
    have hf := x_ifn c5 hf
    cases hf
