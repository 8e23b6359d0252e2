set_option maxHeartbeats 4000000 in
set_option maxRecDepth 100000 in
theorem c_Mo_fall (l : Launch) (D : va_G) (cI cJ cZ : ClassId) (oh o0 o1 o2 o3 o4 o5 o6 o7 o8 o9 o10 o11 o12 : Nat) (N : Nat) (U : K_Mo) (r : (Unit × K_Mo)) (hf : f_Mo_fall N U = some r) : Cx l y_Mo_fall ws_Mo_fall rm_Mo_fall D vwCl (tyL cI cJ cZ) [.ref oh] (w_Mo cI cJ cZ oh o0 o1 o2 o3 o4 o5 o6 o7 o8 o9 o10 o11 o12 U) (oV r.1) (w_Mo cI cJ cZ oh o0 o1 o2 o3 o4 o5 o6 o7 o8 o9 o10 o11 o12 r.2) := by
  unfold f_Mo_fall at hf
  refine Cx.ofW (cc := b_Mo_fall) (maxL := 2) (ret := none) (by decide) rfl ?_
  intro p e s m below meth c A C0 hP hK hD hA hns hZ
  obtain ⟨hx, hb, hml, hown, hts0, hr, hlocks, hnm, hno⟩ := C0
  have hown : s.vm.findClass R_Mo = some m.cls := hown
  have hts : ∀ w ∈ tb, w.before [.ref oh].toArray s = true := fun w h => hts0 w (List.mem_cons_of_mem _ h)
  have hS : va_S A s.heap s.heap [] := va_S.rf
  have hl := lv_entry ([.ref oh]) (n := 2) (Nat.le_of_ble_eq_true rfl)
  rw [lg_entry_eq]
  generalize (lg_sl ([.ref oh]) ++ List.replicate (2 - (lg_sl ([.ref oh])).length) Slot.unset).toArray = ls at hl ⊢
  have hl : lv_has ls 2 [(0, .ref oh)] := hl
  have L_80 : ∀ n : Nat, ∀ (x1 : Int32) (U : K_Mo), f_Mo_fall_80 N n x1 U = some r → ∀ (H : Heap) (locs : List Loc) (ls : Array Slot), va_P D vwCl (w_Mo cI cJ cZ oh o0 o1 o2 o3 o4 o5 o6 o7 o8 o9 o10 o11 o12 U) H → va_D A (w_Mo cI cJ cZ oh o0 o1 o2 o3 o4 o5 o6 o7 o8 o9 o10 o11 o12 U) → va_S A s.heap H locs → lv_has ls 2 [(0, .ref oh), (1, .int x1)] → W p l e (rm_Mo_fall) s m [.ref oh].toArray below meth c H locs 0 0 (xQ D vwCl (tyL cI cJ cZ) below s A (oV r.1) (w_Mo cI cJ cZ oh o0 o1 o2 o3 o4 o5 o6 o7 o8 o9 o10 o11 o12 r.2) (rm_Mo_fall).cells (rm_Mo_fall).slots) (F0 m 80 ls []) := by
    intro n
    induction n with
    | zero =>
      intro x1 U hf
      have hf : (none : Option (Unit × K_Mo)) = some r := hf
      cases hf
    | succ n ih =>
      intro x1 U hf H locs ls hP hD hS hl
      rw [f_Mo_fall_80] at hf
      refine lv_iload_n hx hb d_Mo_fall_80 rfl (lv_at hl 1 rfl) ?_
      refine lv_bipush (v := (40 : Int32)) hx hb d_Mo_fall_81 (by decide) ?_
      refine lv_icmp_gt (tgt := 132) hx hb d_Mo_fall_83 (by decide) (fun c6 => ?_) (fun c6 => ?_)
      · have hf := x_ifp c6 hf
        refine lv_aload_n hx hb d_Mo_fall_132 rfl (lv_at hl 0 rfl) ?_
        refine lv_dup hx hb d_Mo_fall_133 rfl ?_
        refine va_get (D := D) (ci := 3) (v := .int U.2.2.2.2.2.2.2.2.2.1) (C := R_Mo) (T := F_Mo) (N := 19) hx hb hts i_Mo hown hK hP 0 rfl rfl 15 (by decide) (hts _ k_240) (fun _ h9 => h9) rfl d_Mo_fall_134 ?_
        refine lv_iconst (v := (1 : Int32)) hx hb d_Mo_fall_137 (by decide) ?_
        refine lv_iadd hx hb d_Mo_fall_138 ?_
        refine va_put (D := D) (ci := 3) (v := .int (U.2.2.2.2.2.2.2.2.2.1 + (1 : Int32))) (ty := .int) (C := R_Mo) (T := F_Mo) (N := 19) hx hb hts i_Mo t_Mo t_Mo_ok n_Mo hown hK hP hD hS 0 rfl rfl 15 (by decide) (hts _ k_240) (fun _ h9 => h9) rfl (by decide +kernel) rfl rfl (Nat.le_of_ble_eq_true rfl) d_Mo_fall_139 (fun H locs hP hD hS => ?_)
        have hP : va_P D vwCl (w_Mo cI cJ cZ oh o0 o1 o2 o3 o4 o5 o6 o7 o8 o9 o10 o11 o12 (U.1, (U.2.1, (U.2.2.1, (U.2.2.2.1, (U.2.2.2.2.1, (U.2.2.2.2.2.1, (U.2.2.2.2.2.2.1, (U.2.2.2.2.2.2.2.1, (U.2.2.2.2.2.2.2.2.1, ((U.2.2.2.2.2.2.2.2.2.1 + (1 : Int32)), U.2.2.2.2.2.2.2.2.2.2))))))))))) H := hP
        have hD : va_D A (w_Mo cI cJ cZ oh o0 o1 o2 o3 o4 o5 o6 o7 o8 o9 o10 o11 o12 (U.1, (U.2.1, (U.2.2.1, (U.2.2.2.1, (U.2.2.2.2.1, (U.2.2.2.2.2.1, (U.2.2.2.2.2.2.1, (U.2.2.2.2.2.2.2.1, (U.2.2.2.2.2.2.2.2.1, ((U.2.2.2.2.2.2.2.2.2.1 + (1 : Int32)), U.2.2.2.2.2.2.2.2.2.2))))))))))) := hD
        refine lv_aload_n hx hb d_Mo_fall_142 rfl (lv_at hl 0 rfl) ?_
        refine lv_iconst (v := (1 : Int32)) hx hb d_Mo_fall_143 (by decide) ?_
        refine va_put (D := D) (ci := 3) (v := .int (1 : Int32)) (ty := .boolean) (C := R_Mo) (T := F_Mo) (N := 19) hx hb hts i_Mo t_Mo t_Mo_ok n_Mo hown hK hP hD hS 0 rfl rfl 17 (by decide) (hts _ k_241) (fun _ h9 => h9) rfl (by decide +kernel) rfl rfl (Nat.le_of_ble_eq_true rfl) d_Mo_fall_144 (fun H locs hP hD hS => ?_)
        have hP : va_P D vwCl (w_Mo cI cJ cZ oh o0 o1 o2 o3 o4 o5 o6 o7 o8 o9 o10 o11 o12 (U.1, (U.2.1, (U.2.2.1, (U.2.2.2.1, (U.2.2.2.2.1, (U.2.2.2.2.2.1, (U.2.2.2.2.2.2.1, (U.2.2.2.2.2.2.2.1, (U.2.2.2.2.2.2.2.2.1, ((U.2.2.2.2.2.2.2.2.2.1 + (1 : Int32)), (U.2.2.2.2.2.2.2.2.2.2.1, ((1 : Int32), U.2.2.2.2.2.2.2.2.2.2.2.2))))))))))))) H := hP
        have hD : va_D A (w_Mo cI cJ cZ oh o0 o1 o2 o3 o4 o5 o6 o7 o8 o9 o10 o11 o12 (U.1, (U.2.1, (U.2.2.1, (U.2.2.2.1, (U.2.2.2.2.1, (U.2.2.2.2.2.1, (U.2.2.2.2.2.2.1, (U.2.2.2.2.2.2.2.1, (U.2.2.2.2.2.2.2.2.1, ((U.2.2.2.2.2.2.2.2.2.1 + (1 : Int32)), (U.2.2.2.2.2.2.2.2.2.2.1, ((1 : Int32), U.2.2.2.2.2.2.2.2.2.2.2.2))))))))))))) := hD
        obtain rfl := Option.some.inj hf
        exact x_vret hx hb hr hlocks hK hP hD hS (Nat.le_of_ble_eq_true rfl) (Nat.le_of_ble_eq_true rfl) d_Mo_fall_147
      · have hf := x_ifn c6 hf
        refine lv_aload_n hx hb d_Mo_fall_86 rfl (lv_at hl 0 rfl) ?_
        refine va_get (D := D) (ci := 3) (v := .ref o6) (C := R_Mo) (T := F_Mo) (N := 19) hx hb hts i_Mo hown hK hP 0 rfl rfl 7 (by decide) (hts _ k_231) (fun _ h9 => h9) rfl d_Mo_fall_87 ?_
        refine lv_iload_n hx hb d_Mo_fall_90 rfl (lv_at hl 1 rfl) ?_
        refine lv_aload_n hx hb d_Mo_fall_91 rfl (lv_at hl 0 rfl) ?_
        refine va_get (D := D) (ci := 3) (v := .ref o7) (C := R_Mo) (T := F_Mo) (N := 19) hx hb hts i_Mo hown hK hP 0 rfl rfl 8 (by decide) (hts _ k_232) (fun _ h9 => h9) rfl d_Mo_fall_92 ?_
        refine lv_iload_n hx hb d_Mo_fall_95 rfl (lv_at hl 1 rfl) ?_
        obtain ⟨g1, hf⟩ := x_if hf
        refine va_iald hx hb hK hP 8 0 rfl rfl (xi_in g1) d_Mo_fall_96 ?_
        obtain ⟨g2, hf⟩ := x_if hf
        refine va_iast hx hb hK hP hD hS 7 0 rfl rfl (xi_in g2) d_Mo_fall_97 (fun H locs hP hD hS => ?_)
        have hP : va_P D vwCl (w_Mo cI cJ cZ oh o0 o1 o2 o3 o4 o5 o6 o7 o8 o9 o10 o11 o12 ((U.1.1, (U.1.2.1, (U.1.2.2.1, (upd U.1.2.2.2 x1.toNatClampNeg (U.2.1.2.2.2 x1.toNatClampNeg))))), U.2)) H := hP
        have hD : va_D A (w_Mo cI cJ cZ oh o0 o1 o2 o3 o4 o5 o6 o7 o8 o9 o10 o11 o12 ((U.1.1, (U.1.2.1, (U.1.2.2.1, (upd U.1.2.2.2 x1.toNatClampNeg (U.2.1.2.2.2 x1.toNatClampNeg))))), U.2)) := hD
        refine lv_aload_n hx hb d_Mo_fall_98 rfl (lv_at hl 0 rfl) ?_
        refine va_get (D := D) (ci := 3) (v := .ref o6) (C := R_Mo) (T := F_Mo) (N := 19) hx hb hts i_Mo hown hK hP 0 rfl rfl 7 (by decide) (hts _ k_231) (fun _ h9 => h9) rfl d_Mo_fall_99 ?_
        refine lv_iload_n hx hb d_Mo_fall_102 rfl (lv_at hl 1 rfl) ?_
        obtain ⟨g3, hf⟩ := x_if hf
        refine va_iald hx hb hK hP 7 0 rfl rfl (xi_in g3) d_Mo_fall_103 ?_
        refine lv_iconst (v := (1 : Int32)) hx hb d_Mo_fall_104 (by decide) ?_
        refine lv_icmp_eq (tgt := 111) hx hb d_Mo_fall_105 (by decide) (fun c5 => ?_) (fun c5 => ?_)
        · have hf := x_ifp c5 hf
          refine lv_aload_n hx hb d_Mo_fall_111 rfl (lv_at hl 0 rfl) ?_
          refine va_get (D := D) (ci := 3) (v := .ref o6) (C := R_Mo) (T := F_Mo) (N := 19) hx hb hts i_Mo hown hK hP 0 rfl rfl 7 (by decide) (hts _ k_231) (fun _ h9 => h9) rfl d_Mo_fall_112 ?_
          refine lv_iload_n hx hb d_Mo_fall_115 rfl (lv_at hl 1 rfl) ?_
          refine lv_iconst (v := (3 : Int32)) hx hb d_Mo_fall_116 (by decide) ?_
          obtain ⟨g4, hf⟩ := x_if hf
          refine va_iast hx hb hK hP hD hS 7 0 rfl rfl (xi_in g4) d_Mo_fall_117 (fun H locs hP hD hS => ?_)
          have hP : va_P D vwCl (w_Mo cI cJ cZ oh o0 o1 o2 o3 o4 o5 o6 o7 o8 o9 o10 o11 o12 ((U.1.1, (U.1.2.1, (U.1.2.2.1, (upd (upd U.1.2.2.2 x1.toNatClampNeg (U.2.1.2.2.2 x1.toNatClampNeg)) x1.toNatClampNeg (3 : Int32))))), U.2)) H := hP
          have hD : va_D A (w_Mo cI cJ cZ oh o0 o1 o2 o3 o4 o5 o6 o7 o8 o9 o10 o11 o12 ((U.1.1, (U.1.2.1, (U.1.2.2.1, (upd (upd U.1.2.2.2 x1.toNatClampNeg (U.2.1.2.2.2 x1.toNatClampNeg)) x1.toNatClampNeg (3 : Int32))))), U.2)) := hD
          refine lv_aload_n hx hb d_Mo_fall_118 rfl (lv_at hl 0 rfl) ?_
          refine va_get (D := D) (ci := 3) (v := .ref o8) (C := R_Mo) (T := F_Mo) (N := 19) hx hb hts i_Mo hown hK hP 0 rfl rfl 9 (by decide) (hts _ k_234) (fun _ h9 => h9) rfl d_Mo_fall_119 ?_
          refine lv_bipush (v := (6 : Int32)) hx hb d_Mo_fall_122 (by decide) ?_
          refine lv_iconst (v := (1 : Int32)) hx hb d_Mo_fall_124 (by decide) ?_
          refine va_zast hx hb hK hP hD hS 9 2 rfl rfl (xi_in rfl) d_Mo_fall_125 (fun H locs hP hD hS => ?_)
          have hP : va_P D vwCl (w_Mo cI cJ cZ oh o0 o1 o2 o3 o4 o5 o6 o7 o8 o9 o10 o11 o12 ((U.1.1, (U.1.2.1, (U.1.2.2.1, (upd (upd U.1.2.2.2 x1.toNatClampNeg (U.2.1.2.2.2 x1.toNatClampNeg)) x1.toNatClampNeg (3 : Int32))))), (U.2.1, ((upd U.2.2.1 (6 : Int32).toNatClampNeg (vp_nar .boolean (1 : Int32))), U.2.2.2)))) H := hP
          have hD : va_D A (w_Mo cI cJ cZ oh o0 o1 o2 o3 o4 o5 o6 o7 o8 o9 o10 o11 o12 ((U.1.1, (U.1.2.1, (U.1.2.2.1, (upd (upd U.1.2.2.2 x1.toNatClampNeg (U.2.1.2.2.2 x1.toNatClampNeg)) x1.toNatClampNeg (3 : Int32))))), (U.2.1, ((upd U.2.2.1 (6 : Int32).toNatClampNeg (vp_nar .boolean (1 : Int32))), U.2.2.2)))) := hD
          refine lv_iinc (v := (x1 + (1 : Int32))) (lv' := [(1, .int (x1 + (1 : Int32))), (0, .ref oh)]) hx hb d_Mo_fall_126 hl (k := 1) rfl rfl (by decide) rfl (fun ls hl => ?_)
          refine lv_goto (tgt := 80) hx hb d_Mo_fall_129 (by decide) ?_
          exact ih _ _ hf _ _ _ hP hD hS (lv_sub hl [1, 0] rfl)
        · have hf := x_ifn c5 hf
          refine lv_goto (tgt := 126) hx hb d_Mo_fall_108 (by decide) ?_
          refine lv_iinc (v := (x1 + (1 : Int32))) (lv' := [(1, .int (x1 + (1 : Int32))), (0, .ref oh)]) hx hb d_Mo_fall_126 hl (k := 1) rfl rfl (by decide) rfl (fun ls hl => ?_)
          refine lv_goto (tgt := 80) hx hb d_Mo_fall_129 (by decide) ?_
          exact ih _ _ hf _ _ _ hP hD hS (lv_sub hl [1, 0] rfl)
  have L_52 : ∀ n : Nat, ∀ (x1 : Int32) (U : K_Mo), f_Mo_fall_52 N n x1 U = some r → ∀ (H : Heap) (locs : List Loc) (ls : Array Slot), va_P D vwCl (w_Mo cI cJ cZ oh o0 o1 o2 o3 o4 o5 o6 o7 o8 o9 o10 o11 o12 U) H → va_D A (w_Mo cI cJ cZ oh o0 o1 o2 o3 o4 o5 o6 o7 o8 o9 o10 o11 o12 U) → va_S A s.heap H locs → lv_has ls 2 [(0, .ref oh), (1, .int x1)] → W p l e (rm_Mo_fall) s m [.ref oh].toArray below meth c H locs 0 0 (xQ D vwCl (tyL cI cJ cZ) below s A (oV r.1) (w_Mo cI cJ cZ oh o0 o1 o2 o3 o4 o5 o6 o7 o8 o9 o10 o11 o12 r.2) (rm_Mo_fall).cells (rm_Mo_fall).slots) (F0 m 52 ls []) := by
    intro n
    induction n with
    | zero =>
      intro x1 U hf
      have hf : (none : Option (Unit × K_Mo)) = some r := hf
      cases hf
    | succ n ih =>
      intro x1 U hf H locs ls hP hD hS hl
      rw [f_Mo_fall_52] at hf
      refine lv_iload_n hx hb d_Mo_fall_52 rfl (lv_at hl 1 rfl) ?_
      refine lv_bipush (v := (7 : Int32)) hx hb d_Mo_fall_53 (by decide) ?_
      refine lv_icmp_ge (tgt := 78) hx hb d_Mo_fall_55 (by decide) (fun c9 => ?_) (fun c9 => ?_)
      · have hf := x_ifp c9 hf
        refine lv_iconst (v := (1 : Int32)) hx hb d_Mo_fall_78 (by decide) ?_
        refine lv_istore_n (lv' := [(1, .int (1 : Int32)), (0, .ref oh)]) hx hb d_Mo_fall_79 rfl hl (by decide) rfl (fun ls hl => ?_)
        exact L_80 _ _ _ hf _ _ _ hP hD hS (lv_sub hl [1, 0] rfl)
      · have hf := x_ifn c9 hf
        refine lv_aload_n hx hb d_Mo_fall_58 rfl (lv_at hl 0 rfl) ?_
        refine va_get (D := D) (ci := 3) (v := .ref o8) (C := R_Mo) (T := F_Mo) (N := 19) hx hb hts i_Mo hown hK hP 0 rfl rfl 9 (by decide) (hts _ k_234) (fun _ h9 => h9) rfl d_Mo_fall_59 ?_
        refine lv_iload_n hx hb d_Mo_fall_62 rfl (lv_at hl 1 rfl) ?_
        refine lv_iconst (v := (0 : Int32)) hx hb d_Mo_fall_63 (by decide) ?_
        obtain ⟨g7, hf⟩ := x_if hf
        refine va_zast hx hb hK hP hD hS 9 2 rfl rfl (xi_in g7) d_Mo_fall_64 (fun H locs hP hD hS => ?_)
        have hP : va_P D vwCl (w_Mo cI cJ cZ oh o0 o1 o2 o3 o4 o5 o6 o7 o8 o9 o10 o11 o12 (U.1, (U.2.1, ((upd U.2.2.1 x1.toNatClampNeg (vp_nar .boolean (0 : Int32))), U.2.2.2)))) H := hP
        have hD : va_D A (w_Mo cI cJ cZ oh o0 o1 o2 o3 o4 o5 o6 o7 o8 o9 o10 o11 o12 (U.1, (U.2.1, ((upd U.2.2.1 x1.toNatClampNeg (vp_nar .boolean (0 : Int32))), U.2.2.2)))) := hD
        refine lv_aload_n hx hb d_Mo_fall_65 rfl (lv_at hl 0 rfl) ?_
        refine va_get (D := D) (ci := 3) (v := .ref o9) (C := R_Mo) (T := F_Mo) (N := 19) hx hb hts i_Mo hown hK hP 0 rfl rfl 10 (by decide) (hts _ k_235) (fun _ h9 => h9) rfl d_Mo_fall_66 ?_
        refine lv_iload_n hx hb d_Mo_fall_69 rfl (lv_at hl 1 rfl) ?_
        refine lv_iconst (v := (0 : Int32)) hx hb d_Mo_fall_70 (by decide) ?_
        obtain ⟨g8, hf⟩ := x_if hf
        refine va_iast hx hb hK hP hD hS 10 0 rfl rfl (xi_in g8) d_Mo_fall_71 (fun H locs hP hD hS => ?_)
        have hP : va_P D vwCl (w_Mo cI cJ cZ oh o0 o1 o2 o3 o4 o5 o6 o7 o8 o9 o10 o11 o12 (U.1, (U.2.1, ((upd U.2.2.1 x1.toNatClampNeg (vp_nar .boolean (0 : Int32))), ((upd U.2.2.2.1 x1.toNatClampNeg (0 : Int32)), U.2.2.2.2))))) H := hP
        have hD : va_D A (w_Mo cI cJ cZ oh o0 o1 o2 o3 o4 o5 o6 o7 o8 o9 o10 o11 o12 (U.1, (U.2.1, ((upd U.2.2.1 x1.toNatClampNeg (vp_nar .boolean (0 : Int32))), ((upd U.2.2.2.1 x1.toNatClampNeg (0 : Int32)), U.2.2.2.2))))) := hD
        refine lv_iinc (v := (x1 + (1 : Int32))) (lv' := [(1, .int (x1 + (1 : Int32))), (0, .ref oh)]) hx hb d_Mo_fall_72 hl (k := 1) rfl rfl (by decide) rfl (fun ls hl => ?_)
        refine lv_goto (tgt := 52) hx hb d_Mo_fall_75 (by decide) ?_
        exact ih _ _ hf _ _ _ hP hD hS (lv_sub hl [1, 0] rfl)
  have L_2 : ∀ n : Nat, ∀ (x1 : Int32) (U : K_Mo), f_Mo_fall_2 N n x1 U = some r → ∀ (H : Heap) (locs : List Loc) (ls : Array Slot), va_P D vwCl (w_Mo cI cJ cZ oh o0 o1 o2 o3 o4 o5 o6 o7 o8 o9 o10 o11 o12 U) H → va_D A (w_Mo cI cJ cZ oh o0 o1 o2 o3 o4 o5 o6 o7 o8 o9 o10 o11 o12 U) → va_S A s.heap H locs → lv_has ls 2 [(0, .ref oh), (1, .int x1)] → W p l e (rm_Mo_fall) s m [.ref oh].toArray below meth c H locs 0 0 (xQ D vwCl (tyL cI cJ cZ) below s A (oV r.1) (w_Mo cI cJ cZ oh o0 o1 o2 o3 o4 o5 o6 o7 o8 o9 o10 o11 o12 r.2) (rm_Mo_fall).cells (rm_Mo_fall).slots) (F0 m 2 ls []) := by
    intro n
    induction n with
    | zero =>
      intro x1 U hf
      have hf : (none : Option (Unit × K_Mo)) = some r := hf
      cases hf
    | succ n ih =>
      intro x1 U hf H locs ls hP hD hS hl
      rw [f_Mo_fall_2] at hf
      refine lv_iload_n hx hb d_Mo_fall_2 rfl (lv_at hl 1 rfl) ?_
      refine lv_bipush (v := (15 : Int32)) hx hb d_Mo_fall_3 (by decide) ?_
      refine lv_icmp_ge (tgt := 50) hx hb d_Mo_fall_5 (by decide) (fun c16 => ?_) (fun c16 => ?_)
      · have hf := x_ifp c16 hf
        refine lv_iconst (v := (0 : Int32)) hx hb d_Mo_fall_50 (by decide) ?_
        refine lv_istore_n (lv' := [(1, .int (0 : Int32)), (0, .ref oh)]) hx hb d_Mo_fall_51 rfl hl (by decide) rfl (fun ls hl => ?_)
        exact L_52 _ _ _ hf _ _ _ hP hD hS (lv_sub hl [1, 0] rfl)
      · have hf := x_ifn c16 hf
        refine lv_aload_n hx hb d_Mo_fall_8 rfl (lv_at hl 0 rfl) ?_
        refine va_get (D := D) (ci := 3) (v := .ref o0) (C := R_Mo) (T := F_Mo) (N := 19) hx hb hts i_Mo hown hK hP 0 rfl rfl 1 (by decide) (hts _ k_225) (fun _ h9 => h9) rfl d_Mo_fall_9 ?_
        refine lv_iload_n hx hb d_Mo_fall_12 rfl (lv_at hl 1 rfl) ?_
        refine lv_aload_n hx hb d_Mo_fall_13 rfl (lv_at hl 0 rfl) ?_
        refine va_get (D := D) (ci := 3) (v := .ref o3) (C := R_Mo) (T := F_Mo) (N := 19) hx hb hts i_Mo hown hK hP 0 rfl rfl 4 (by decide) (hts _ k_228) (fun _ h9 => h9) rfl d_Mo_fall_14 ?_
        refine lv_iload_n hx hb d_Mo_fall_17 rfl (lv_at hl 1 rfl) ?_
        obtain ⟨g10, hf⟩ := x_if hf
        refine va_iald hx hb hK hP 4 0 rfl rfl (xi_in g10) d_Mo_fall_18 ?_
        obtain ⟨g11, hf⟩ := x_if hf
        refine va_iast hx hb hK hP hD hS 1 0 rfl rfl (xi_in g11) d_Mo_fall_19 (fun H locs hP hD hS => ?_)
        have hP : va_P D vwCl (w_Mo cI cJ cZ oh o0 o1 o2 o3 o4 o5 o6 o7 o8 o9 o10 o11 o12 (((upd U.1.1 x1.toNatClampNeg (U.2.1.1 x1.toNatClampNeg)), U.1.2), U.2)) H := hP
        have hD : va_D A (w_Mo cI cJ cZ oh o0 o1 o2 o3 o4 o5 o6 o7 o8 o9 o10 o11 o12 (((upd U.1.1 x1.toNatClampNeg (U.2.1.1 x1.toNatClampNeg)), U.1.2), U.2)) := hD
        refine lv_aload_n hx hb d_Mo_fall_20 rfl (lv_at hl 0 rfl) ?_
        refine va_get (D := D) (ci := 3) (v := .ref o1) (C := R_Mo) (T := F_Mo) (N := 19) hx hb hts i_Mo hown hK hP 0 rfl rfl 2 (by decide) (hts _ k_226) (fun _ h9 => h9) rfl d_Mo_fall_21 ?_
        refine lv_iload_n hx hb d_Mo_fall_24 rfl (lv_at hl 1 rfl) ?_
        refine lv_aload_n hx hb d_Mo_fall_25 rfl (lv_at hl 0 rfl) ?_
        refine va_get (D := D) (ci := 3) (v := .ref o4) (C := R_Mo) (T := F_Mo) (N := 19) hx hb hts i_Mo hown hK hP 0 rfl rfl 5 (by decide) (hts _ k_229) (fun _ h9 => h9) rfl d_Mo_fall_26 ?_
        refine lv_iload_n hx hb d_Mo_fall_29 rfl (lv_at hl 1 rfl) ?_
        obtain ⟨g12, hf⟩ := x_if hf
        refine va_iald hx hb hK hP 5 0 rfl rfl (xi_in g12) d_Mo_fall_30 ?_
        obtain ⟨g13, hf⟩ := x_if hf
        refine va_iast hx hb hK hP hD hS 2 0 rfl rfl (xi_in g13) d_Mo_fall_31 (fun H locs hP hD hS => ?_)
        have hP : va_P D vwCl (w_Mo cI cJ cZ oh o0 o1 o2 o3 o4 o5 o6 o7 o8 o9 o10 o11 o12 (((upd U.1.1 x1.toNatClampNeg (U.2.1.1 x1.toNatClampNeg)), ((upd U.1.2.1 x1.toNatClampNeg (U.2.1.2.1 x1.toNatClampNeg)), U.1.2.2)), U.2)) H := hP
        have hD : va_D A (w_Mo cI cJ cZ oh o0 o1 o2 o3 o4 o5 o6 o7 o8 o9 o10 o11 o12 (((upd U.1.1 x1.toNatClampNeg (U.2.1.1 x1.toNatClampNeg)), ((upd U.1.2.1 x1.toNatClampNeg (U.2.1.2.1 x1.toNatClampNeg)), U.1.2.2)), U.2)) := hD
        refine lv_aload_n hx hb d_Mo_fall_32 rfl (lv_at hl 0 rfl) ?_
        refine va_get (D := D) (ci := 3) (v := .ref o2) (C := R_Mo) (T := F_Mo) (N := 19) hx hb hts i_Mo hown hK hP 0 rfl rfl 3 (by decide) (hts _ k_227) (fun _ h9 => h9) rfl d_Mo_fall_33 ?_
        refine lv_iload_n hx hb d_Mo_fall_36 rfl (lv_at hl 1 rfl) ?_
        refine lv_aload_n hx hb d_Mo_fall_37 rfl (lv_at hl 0 rfl) ?_
        refine va_get (D := D) (ci := 3) (v := .ref o5) (C := R_Mo) (T := F_Mo) (N := 19) hx hb hts i_Mo hown hK hP 0 rfl rfl 6 (by decide) (hts _ k_230) (fun _ h9 => h9) rfl d_Mo_fall_38 ?_
        refine lv_iload_n hx hb d_Mo_fall_41 rfl (lv_at hl 1 rfl) ?_
        obtain ⟨g14, hf⟩ := x_if hf
        refine va_iald hx hb hK hP 6 0 rfl rfl (xi_in g14) d_Mo_fall_42 ?_
        obtain ⟨g15, hf⟩ := x_if hf
        refine va_iast hx hb hK hP hD hS 3 0 rfl rfl (xi_in g15) d_Mo_fall_43 (fun H locs hP hD hS => ?_)
        have hP : va_P D vwCl (w_Mo cI cJ cZ oh o0 o1 o2 o3 o4 o5 o6 o7 o8 o9 o10 o11 o12 (((upd U.1.1 x1.toNatClampNeg (U.2.1.1 x1.toNatClampNeg)), ((upd U.1.2.1 x1.toNatClampNeg (U.2.1.2.1 x1.toNatClampNeg)), ((upd U.1.2.2.1 x1.toNatClampNeg (U.2.1.2.2.1 x1.toNatClampNeg)), U.1.2.2.2))), U.2)) H := hP
        have hD : va_D A (w_Mo cI cJ cZ oh o0 o1 o2 o3 o4 o5 o6 o7 o8 o9 o10 o11 o12 (((upd U.1.1 x1.toNatClampNeg (U.2.1.1 x1.toNatClampNeg)), ((upd U.1.2.1 x1.toNatClampNeg (U.2.1.2.1 x1.toNatClampNeg)), ((upd U.1.2.2.1 x1.toNatClampNeg (U.2.1.2.2.1 x1.toNatClampNeg)), U.1.2.2.2))), U.2)) := hD
        refine lv_iinc (v := (x1 + (1 : Int32))) (lv' := [(1, .int (x1 + (1 : Int32))), (0, .ref oh)]) hx hb d_Mo_fall_44 hl (k := 1) rfl rfl (by decide) rfl (fun ls hl => ?_)
        refine lv_goto (tgt := 2) hx hb d_Mo_fall_47 (by decide) ?_
        exact ih _ _ hf _ _ _ hP hD hS (lv_sub hl [1, 0] rfl)
  refine lv_iconst (v := (0 : Int32)) hx hb d_Mo_fall_0 (by decide) ?_
  refine lv_istore_n (lv' := [(1, .int (0 : Int32)), (0, .ref oh)]) hx hb d_Mo_fall_1 rfl hl (by decide) rfl (fun ls hl => ?_)
  exact L_2 _ _ _ hf _ _ _ hP hD hS (lv_sub hl [1, 0] rfl)
set_option maxHeartbeats 4000000 in
set_option maxRecDepth 100000 in
theorem c_Mo_put (l : Launch) (D : va_G) (cI cJ cZ : ClassId) (oh o0 o1 o2 o3 o4 o5 o6 o7 o8 o9 o10 o11 o12 : Nat) (N : Nat) (p0 : Int32) (U : K_Mo) (r : (Unit × K_Mo)) (hf : f_Mo_put N p0 U = some r) : Cx l y_Mo_put ws_Mo_put rm_Mo_put D vwCl (tyL cI cJ cZ) [.ref oh, .int p0] (w_Mo cI cJ cZ oh o0 o1 o2 o3 o4 o5 o6 o7 o8 o9 o10 o11 o12 U) (oV r.1) (w_Mo cI cJ cZ oh o0 o1 o2 o3 o4 o5 o6 o7 o8 o9 o10 o11 o12 r.2) := by
  unfold f_Mo_put at hf
  refine Cx.ofW (cc := b_Mo_put) (maxL := 3) (ret := none) (by decide) rfl ?_
  intro p e s m below meth c A C0 hP hK hD hA hns hZ
  obtain ⟨hx, hb, hml, hown, hts0, hr, hlocks, hnm, hno⟩ := C0
  have hown : s.vm.findClass R_Mo = some m.cls := hown
  have hts : ∀ w ∈ tb, w.before [.ref oh, .int p0].toArray s = true := fun w h => hts0 w (List.mem_cons_of_mem _ h)
  have hS : va_S A s.heap s.heap [] := va_S.rf
  have hl := lv_entry ([.ref oh, .int p0]) (n := 3) (Nat.le_of_ble_eq_true rfl)
  rw [lg_entry_eq]
  generalize (lg_sl ([.ref oh, .int p0]) ++ List.replicate (3 - (lg_sl ([.ref oh, .int p0])).length) Slot.unset).toArray = ls at hl ⊢
  have hl : lv_has ls 3 [(0, .ref oh), (1, .int p0)] := hl
  have L_137 : ∀ n : Nat, ∀ (x1 : Int32) (x2 : Int32) (U : K_Mo), f_Mo_put_137 N n x1 x2 U = some r → ∀ (H : Heap) (locs : List Loc) (ls : Array Slot), va_P D vwCl (w_Mo cI cJ cZ oh o0 o1 o2 o3 o4 o5 o6 o7 o8 o9 o10 o11 o12 U) H → va_D A (w_Mo cI cJ cZ oh o0 o1 o2 o3 o4 o5 o6 o7 o8 o9 o10 o11 o12 U) → va_S A s.heap H locs → lv_has ls 3 [(0, .ref oh), (1, .int x1), (2, .int x2)] → W p l e (rm_Mo_put) s m [.ref oh, .int p0].toArray below meth c H locs 0 0 (xQ D vwCl (tyL cI cJ cZ) below s A (oV r.1) (w_Mo cI cJ cZ oh o0 o1 o2 o3 o4 o5 o6 o7 o8 o9 o10 o11 o12 r.2) (rm_Mo_put).cells (rm_Mo_put).slots) (F0 m 137 ls []) := by
    intro n
    induction n with
    | zero =>
      intro x1 x2 U hf
      have hf : (none : Option (Unit × K_Mo)) = some r := hf
      cases hf
    | succ n ih =>
      intro x1 x2 U hf H locs ls hP hD hS hl
      rw [f_Mo_put_137] at hf
      refine lv_iload_n hx hb d_Mo_put_137 rfl (lv_at hl 2 rfl) ?_
      refine lv_bipush (v := (7 : Int32)) hx hb d_Mo_put_138 (by decide) ?_
      refine lv_icmp_ge (tgt := 163) hx hb d_Mo_put_140 (by decide) (fun c4 => ?_) (fun c4 => ?_)
      · have hf := x_ifp c4 hf
        refine lv_aload_n hx hb d_Mo_put_163 rfl (lv_at hl 0 rfl) ?_
        refine lv_dup hx hb d_Mo_put_164 rfl ?_
        refine va_get (D := D) (ci := 3) (v := .int U.2.2.2.2.2.2.2.2.1) (C := R_Mo) (T := F_Mo) (N := 19) hx hb hts i_Mo hown hK hP 0 rfl rfl 14 (by decide) (hts _ k_243) (fun _ h9 => h9) rfl d_Mo_put_165 ?_
        refine lv_iconst (v := (1 : Int32)) hx hb d_Mo_put_168 (by decide) ?_
        refine lv_iadd hx hb d_Mo_put_169 ?_
        refine va_put (D := D) (ci := 3) (v := .int (U.2.2.2.2.2.2.2.2.1 + (1 : Int32))) (ty := .int) (C := R_Mo) (T := F_Mo) (N := 19) hx hb hts i_Mo t_Mo t_Mo_ok n_Mo hown hK hP hD hS 0 rfl rfl 14 (by decide) (hts _ k_243) (fun _ h9 => h9) rfl (by decide +kernel) rfl rfl (Nat.le_of_ble_eq_true rfl) d_Mo_put_170 (fun H locs hP hD hS => ?_)
        have hP : va_P D vwCl (w_Mo cI cJ cZ oh o0 o1 o2 o3 o4 o5 o6 o7 o8 o9 o10 o11 o12 (U.1, (U.2.1, (U.2.2.1, (U.2.2.2.1, (U.2.2.2.2.1, (U.2.2.2.2.2.1, (U.2.2.2.2.2.2.1, (U.2.2.2.2.2.2.2.1, ((U.2.2.2.2.2.2.2.2.1 + (1 : Int32)), U.2.2.2.2.2.2.2.2.2)))))))))) H := hP
        have hD : va_D A (w_Mo cI cJ cZ oh o0 o1 o2 o3 o4 o5 o6 o7 o8 o9 o10 o11 o12 (U.1, (U.2.1, (U.2.2.1, (U.2.2.2.1, (U.2.2.2.2.1, (U.2.2.2.2.2.1, (U.2.2.2.2.2.2.1, (U.2.2.2.2.2.2.2.1, ((U.2.2.2.2.2.2.2.2.1 + (1 : Int32)), U.2.2.2.2.2.2.2.2.2)))))))))) := hD
        obtain rfl := Option.some.inj hf
        exact x_vret hx hb hr hlocks hK hP hD hS (Nat.le_of_ble_eq_true rfl) (Nat.le_of_ble_eq_true rfl) d_Mo_put_173
      · have hf := x_ifn c4 hf
        refine lv_aload_n hx hb d_Mo_put_143 rfl (lv_at hl 0 rfl) ?_
        refine va_get (D := D) (ci := 3) (v := .ref o9) (C := R_Mo) (T := F_Mo) (N := 19) hx hb hts i_Mo hown hK hP 0 rfl rfl 10 (by decide) (hts _ k_235) (fun _ h9 => h9) rfl d_Mo_put_144 ?_
        refine lv_iload_n hx hb d_Mo_put_147 rfl (lv_at hl 2 rfl) ?_
        refine lv_dup2_11 hx hb d_Mo_put_148 rfl rfl ?_
        obtain ⟨g2, hf⟩ := x_if hf
        refine va_iald hx hb hK hP 10 0 rfl rfl (xi_in g2) d_Mo_put_149 ?_
        refine lv_iconst (v := (1 : Int32)) hx hb d_Mo_put_150 (by decide) ?_
        refine lv_iload_n hx hb d_Mo_put_151 rfl (lv_at hl 1 rfl) ?_
        refine lv_ishl hx hb d_Mo_put_152 ?_
        refine lv_iconst (v := (-1 : Int32)) hx hb d_Mo_put_153 (by decide) ?_
        refine lv_ixor hx hb d_Mo_put_154 ?_
        refine lv_iand hx hb d_Mo_put_155 ?_
        obtain ⟨g3, hf⟩ := x_if hf
        refine va_iast hx hb hK hP hD hS 10 0 rfl rfl (xi_in g3) d_Mo_put_156 (fun H locs hP hD hS => ?_)
        have hP : va_P D vwCl (w_Mo cI cJ cZ oh o0 o1 o2 o3 o4 o5 o6 o7 o8 o9 o10 o11 o12 (U.1, (U.2.1, (U.2.2.1, ((upd U.2.2.2.1 x2.toNatClampNeg ((U.2.2.2.1 x2.toNatClampNeg) &&& (((1 : Int32) <<< (x1 &&& 31)) ^^^ (-1 : Int32)))), U.2.2.2.2))))) H := hP
        have hD : va_D A (w_Mo cI cJ cZ oh o0 o1 o2 o3 o4 o5 o6 o7 o8 o9 o10 o11 o12 (U.1, (U.2.1, (U.2.2.1, ((upd U.2.2.2.1 x2.toNatClampNeg ((U.2.2.2.1 x2.toNatClampNeg) &&& (((1 : Int32) <<< (x1 &&& 31)) ^^^ (-1 : Int32)))), U.2.2.2.2))))) := hD
        refine lv_iinc (v := (x2 + (1 : Int32))) (lv' := [(2, .int (x2 + (1 : Int32))), (0, .ref oh), (1, .int x1)]) hx hb d_Mo_put_157 hl (k := 2) rfl rfl (by decide) rfl (fun ls hl => ?_)
        refine lv_goto (tgt := 137) hx hb d_Mo_put_160 (by decide) ?_
        exact ih _ _ _ hf _ _ _ hP hD hS (lv_sub hl [1, 2, 0] rfl)
  have L_98 : ∀ n : Nat, ∀ (x1 : Int32) (x2 : Int32) (U : K_Mo), f_Mo_put_98 N n x1 x2 U = some r → ∀ (H : Heap) (locs : List Loc) (ls : Array Slot), va_P D vwCl (w_Mo cI cJ cZ oh o0 o1 o2 o3 o4 o5 o6 o7 o8 o9 o10 o11 o12 U) H → va_D A (w_Mo cI cJ cZ oh o0 o1 o2 o3 o4 o5 o6 o7 o8 o9 o10 o11 o12 U) → va_S A s.heap H locs → lv_has ls 3 [(0, .ref oh), (1, .int x1), (2, .int x2)] → W p l e (rm_Mo_put) s m [.ref oh, .int p0].toArray below meth c H locs 0 0 (xQ D vwCl (tyL cI cJ cZ) below s A (oV r.1) (w_Mo cI cJ cZ oh o0 o1 o2 o3 o4 o5 o6 o7 o8 o9 o10 o11 o12 r.2) (rm_Mo_put).cells (rm_Mo_put).slots) (F0 m 98 ls []) := by
    intro n
    induction n with
    | zero =>
      intro x1 x2 U hf
      have hf : (none : Option (Unit × K_Mo)) = some r := hf
      cases hf
    | succ n ih =>
      intro x1 x2 U hf H locs ls hP hD hS hl
      rw [f_Mo_put_98] at hf
      refine lv_iload_n hx hb d_Mo_put_98 rfl (lv_at hl 2 rfl) ?_
      refine lv_bipush (v := (40 : Int32)) hx hb d_Mo_put_99 (by decide) ?_
      refine lv_icmp_gt (tgt := 128) hx hb d_Mo_put_101 (by decide) (fun c9 => ?_) (fun c9 => ?_)
      · have hf := x_ifp c9 hf
        refine lv_aload_n hx hb d_Mo_put_128 rfl (lv_at hl 0 rfl) ?_
        refine va_get (D := D) (ci := 3) (v := .ref o8) (C := R_Mo) (T := F_Mo) (N := 19) hx hb hts i_Mo hown hK hP 0 rfl rfl 9 (by decide) (hts _ k_234) (fun _ h9 => h9) rfl d_Mo_put_129 ?_
        refine lv_iload_n hx hb d_Mo_put_132 rfl (lv_at hl 1 rfl) ?_
        refine lv_iconst (v := (0 : Int32)) hx hb d_Mo_put_133 (by decide) ?_
        obtain ⟨g1, hf⟩ := x_if hf
        refine va_zast hx hb hK hP hD hS 9 2 rfl rfl (xi_in g1) d_Mo_put_134 (fun H locs hP hD hS => ?_)
        have hP : va_P D vwCl (w_Mo cI cJ cZ oh o0 o1 o2 o3 o4 o5 o6 o7 o8 o9 o10 o11 o12 (U.1, (U.2.1, ((upd U.2.2.1 x1.toNatClampNeg (vp_nar .boolean (0 : Int32))), U.2.2.2)))) H := hP
        have hD : va_D A (w_Mo cI cJ cZ oh o0 o1 o2 o3 o4 o5 o6 o7 o8 o9 o10 o11 o12 (U.1, (U.2.1, ((upd U.2.2.1 x1.toNatClampNeg (vp_nar .boolean (0 : Int32))), U.2.2.2)))) := hD
        refine lv_iconst (v := (0 : Int32)) hx hb d_Mo_put_135 (by decide) ?_
        refine lv_istore_n (lv' := [(2, .int (0 : Int32)), (0, .ref oh), (1, .int x1)]) hx hb d_Mo_put_136 rfl hl (by decide) rfl (fun ls hl => ?_)
        exact L_137 _ _ _ _ hf _ _ _ hP hD hS (lv_sub hl [1, 2, 0] rfl)
      · have hf := x_ifn c9 hf
        refine lv_iload_n hx hb d_Mo_put_104 rfl (lv_at hl 1 rfl) ?_
        refine lv_bipush (v := (6 : Int32)) hx hb d_Mo_put_105 (by decide) ?_
        refine lv_icmp_ne (tgt := 128) hx hb d_Mo_put_107 (by decide) (fun c8 => ?_) (fun c8 => ?_)
        · have hf := x_ifn c8 hf
          refine lv_aload_n hx hb d_Mo_put_128 rfl (lv_at hl 0 rfl) ?_
          refine va_get (D := D) (ci := 3) (v := .ref o8) (C := R_Mo) (T := F_Mo) (N := 19) hx hb hts i_Mo hown hK hP 0 rfl rfl 9 (by decide) (hts _ k_234) (fun _ h9 => h9) rfl d_Mo_put_129 ?_
          refine lv_iload_n hx hb d_Mo_put_132 rfl (lv_at hl 1 rfl) ?_
          refine lv_iconst (v := (0 : Int32)) hx hb d_Mo_put_133 (by decide) ?_
          obtain ⟨g5, hf⟩ := x_if hf
          refine va_zast hx hb hK hP hD hS 9 2 rfl rfl (xi_in g5) d_Mo_put_134 (fun H locs hP hD hS => ?_)
          have hP : va_P D vwCl (w_Mo cI cJ cZ oh o0 o1 o2 o3 o4 o5 o6 o7 o8 o9 o10 o11 o12 (U.1, (U.2.1, ((upd U.2.2.1 x1.toNatClampNeg (vp_nar .boolean (0 : Int32))), U.2.2.2)))) H := hP
          have hD : va_D A (w_Mo cI cJ cZ oh o0 o1 o2 o3 o4 o5 o6 o7 o8 o9 o10 o11 o12 (U.1, (U.2.1, ((upd U.2.2.1 x1.toNatClampNeg (vp_nar .boolean (0 : Int32))), U.2.2.2)))) := hD
          refine lv_iconst (v := (0 : Int32)) hx hb d_Mo_put_135 (by decide) ?_
          refine lv_istore_n (lv' := [(2, .int (0 : Int32)), (0, .ref oh), (1, .int x1)]) hx hb d_Mo_put_136 rfl hl (by decide) rfl (fun ls hl => ?_)
          exact L_137 _ _ _ _ hf _ _ _ hP hD hS (lv_sub hl [1, 2, 0] rfl)
        · have hf := x_ifp c8 hf
          refine lv_aload_n hx hb d_Mo_put_110 rfl (lv_at hl 0 rfl) ?_
          refine va_get (D := D) (ci := 3) (v := .ref o7) (C := R_Mo) (T := F_Mo) (N := 19) hx hb hts i_Mo hown hK hP 0 rfl rfl 8 (by decide) (hts _ k_232) (fun _ h9 => h9) rfl d_Mo_put_111 ?_
          refine lv_iload_n hx hb d_Mo_put_114 rfl (lv_at hl 2 rfl) ?_
          refine lv_aload_n hx hb d_Mo_put_115 rfl (lv_at hl 0 rfl) ?_
          refine va_get (D := D) (ci := 3) (v := .ref o6) (C := R_Mo) (T := F_Mo) (N := 19) hx hb hts i_Mo hown hK hP 0 rfl rfl 7 (by decide) (hts _ k_231) (fun _ h9 => h9) rfl d_Mo_put_116 ?_
          refine lv_iload_n hx hb d_Mo_put_119 rfl (lv_at hl 2 rfl) ?_
          obtain ⟨g6, hf⟩ := x_if hf
          refine va_iald hx hb hK hP 7 0 rfl rfl (xi_in g6) d_Mo_put_120 ?_
          obtain ⟨g7, hf⟩ := x_if hf
          refine va_iast hx hb hK hP hD hS 8 0 rfl rfl (xi_in g7) d_Mo_put_121 (fun H locs hP hD hS => ?_)
          have hP : va_P D vwCl (w_Mo cI cJ cZ oh o0 o1 o2 o3 o4 o5 o6 o7 o8 o9 o10 o11 o12 (U.1, ((U.2.1.1, (U.2.1.2.1, (U.2.1.2.2.1, (upd U.2.1.2.2.2 x2.toNatClampNeg (U.1.2.2.2 x2.toNatClampNeg))))), U.2.2))) H := hP
          have hD : va_D A (w_Mo cI cJ cZ oh o0 o1 o2 o3 o4 o5 o6 o7 o8 o9 o10 o11 o12 (U.1, ((U.2.1.1, (U.2.1.2.1, (U.2.1.2.2.1, (upd U.2.1.2.2.2 x2.toNatClampNeg (U.1.2.2.2 x2.toNatClampNeg))))), U.2.2))) := hD
          refine lv_iinc (v := (x2 + (1 : Int32))) (lv' := [(2, .int (x2 + (1 : Int32))), (0, .ref oh), (1, .int x1)]) hx hb d_Mo_put_122 hl (k := 2) rfl rfl (by decide) rfl (fun ls hl => ?_)
          refine lv_goto (tgt := 98) hx hb d_Mo_put_125 (by decide) ?_
          exact ih _ _ _ hf _ _ _ hP hD hS (lv_sub hl [1, 2, 0] rfl)
  have L_37 : ∀ n : Nat, ∀ (x1 : Int32) (x2 : Int32) (U : K_Mo), f_Mo_put_37 N n x1 x2 U = some r → ∀ (H : Heap) (locs : List Loc) (ls : Array Slot), va_P D vwCl (w_Mo cI cJ cZ oh o0 o1 o2 o3 o4 o5 o6 o7 o8 o9 o10 o11 o12 U) H → va_D A (w_Mo cI cJ cZ oh o0 o1 o2 o3 o4 o5 o6 o7 o8 o9 o10 o11 o12 U) → va_S A s.heap H locs → lv_has ls 3 [(0, .ref oh), (1, .int x1), (2, .int x2)] → W p l e (rm_Mo_put) s m [.ref oh, .int p0].toArray below meth c H locs 0 0 (xQ D vwCl (tyL cI cJ cZ) below s A (oV r.1) (w_Mo cI cJ cZ oh o0 o1 o2 o3 o4 o5 o6 o7 o8 o9 o10 o11 o12 r.2) (rm_Mo_put).cells (rm_Mo_put).slots) (F0 m 37 ls []) := by
    intro n
    induction n with
    | zero =>
      intro x1 x2 U hf
      have hf : (none : Option (Unit × K_Mo)) = some r := hf
      cases hf
    | succ n ih =>
      intro x1 x2 U hf H locs ls hP hD hS hl
      rw [f_Mo_put_37] at hf
      refine lv_iload_n hx hb d_Mo_put_37 rfl (lv_at hl 2 rfl) ?_
      refine lv_bipush (v := (15 : Int32)) hx hb d_Mo_put_38 (by decide) ?_
      refine lv_icmp_ge (tgt := 96) hx hb d_Mo_put_40 (by decide) (fun c18 => ?_) (fun c18 => ?_)
      · have hf := x_ifp c18 hf
        refine lv_iconst (v := (1 : Int32)) hx hb d_Mo_put_96 (by decide) ?_
        refine lv_istore_n (lv' := [(2, .int (1 : Int32)), (0, .ref oh), (1, .int x1)]) hx hb d_Mo_put_97 rfl hl (by decide) rfl (fun ls hl => ?_)
        exact L_98 _ _ _ _ hf _ _ _ hP hD hS (lv_sub hl [1, 2, 0] rfl)
      · have hf := x_ifn c18 hf
        refine lv_iload_n hx hb d_Mo_put_43 rfl (lv_at hl 2 rfl) ?_
        obtain ⟨z10, hz10, hf⟩ := x_bind hf
        refine x_callS (w2 := (w_Mo cI cJ cZ oh o0 o1 o2 o3 o4 o5 o6 o7 o8 o9 o10 o11 o12 U)) ⟨hx, hb, hml, hown, hts⟩ (c_Mo_pageOf l D cI cJ cZ  N x2  z10 hz10) (x_cwS 1 hts rfl k_244 k_245 k_246 k_247 (by decide +kernel) ⟨(Nat.le_of_ble_eq_true rfl), (Nat.le_of_ble_eq_true rfl)⟩) hK hP hD hS hA hZ [] [0, 1, 2, 3, 4, 5, 6, 7, 8, 9, 10, 11, 12, 13] [0, 1, 2, 3, 4, 5, 6, 7, 8, 9, 10, 11, 12, 13] (by decide) rfl rfl (by decide) (by decide) (by decide) rfl rfl hl.1 rfl (Nat.le_of_ble_eq_true rfl) d_Mo_put_44 ⟨(Nat.le_of_ble_eq_true rfl), (Nat.le_of_ble_eq_true rfl)⟩ (fun H locs hP hD hS => ?_)
        refine W.eq (g2 := F0 m 47 ls [.int z10]) rfl ?_
        refine lv_iload_n hx hb d_Mo_put_47 rfl (lv_at hl 1 rfl) ?_
        refine lv_icmp_eq (tgt := 54) hx hb d_Mo_put_48 (by decide) (fun c17 => ?_) (fun c17 => ?_)
        · have hf := x_ifp c17 hf
          refine lv_aload_n hx hb d_Mo_put_54 rfl (lv_at hl 0 rfl) ?_
          refine va_get (D := D) (ci := 3) (v := .ref o3) (C := R_Mo) (T := F_Mo) (N := 19) hx hb hts i_Mo hown hK hP 0 rfl rfl 4 (by decide) (hts _ k_228) (fun _ h9 => h9) rfl d_Mo_put_55 ?_
          refine lv_iload_n hx hb d_Mo_put_58 rfl (lv_at hl 2 rfl) ?_
          refine lv_aload_n hx hb d_Mo_put_59 rfl (lv_at hl 0 rfl) ?_
          refine va_get (D := D) (ci := 3) (v := .ref o0) (C := R_Mo) (T := F_Mo) (N := 19) hx hb hts i_Mo hown hK hP 0 rfl rfl 1 (by decide) (hts _ k_225) (fun _ h9 => h9) rfl d_Mo_put_60 ?_
          refine lv_iload_n hx hb d_Mo_put_63 rfl (lv_at hl 2 rfl) ?_
          obtain ⟨g11, hf⟩ := x_if hf
          refine va_iald hx hb hK hP 1 0 rfl rfl (xi_in g11) d_Mo_put_64 ?_
          obtain ⟨g12, hf⟩ := x_if hf
          refine va_iast hx hb hK hP hD hS 4 0 rfl rfl (xi_in g12) d_Mo_put_65 (fun H locs hP hD hS => ?_)
          have hP : va_P D vwCl (w_Mo cI cJ cZ oh o0 o1 o2 o3 o4 o5 o6 o7 o8 o9 o10 o11 o12 (U.1, (((upd U.2.1.1 x2.toNatClampNeg (U.1.1 x2.toNatClampNeg)), U.2.1.2), U.2.2))) H := hP
          have hD : va_D A (w_Mo cI cJ cZ oh o0 o1 o2 o3 o4 o5 o6 o7 o8 o9 o10 o11 o12 (U.1, (((upd U.2.1.1 x2.toNatClampNeg (U.1.1 x2.toNatClampNeg)), U.2.1.2), U.2.2))) := hD
          refine lv_aload_n hx hb d_Mo_put_66 rfl (lv_at hl 0 rfl) ?_
          refine va_get (D := D) (ci := 3) (v := .ref o4) (C := R_Mo) (T := F_Mo) (N := 19) hx hb hts i_Mo hown hK hP 0 rfl rfl 5 (by decide) (hts _ k_229) (fun _ h9 => h9) rfl d_Mo_put_67 ?_
          refine lv_iload_n hx hb d_Mo_put_70 rfl (lv_at hl 2 rfl) ?_
          refine lv_aload_n hx hb d_Mo_put_71 rfl (lv_at hl 0 rfl) ?_
          refine va_get (D := D) (ci := 3) (v := .ref o1) (C := R_Mo) (T := F_Mo) (N := 19) hx hb hts i_Mo hown hK hP 0 rfl rfl 2 (by decide) (hts _ k_226) (fun _ h9 => h9) rfl d_Mo_put_72 ?_
          refine lv_iload_n hx hb d_Mo_put_75 rfl (lv_at hl 2 rfl) ?_
          obtain ⟨g13, hf⟩ := x_if hf
          refine va_iald hx hb hK hP 2 0 rfl rfl (xi_in g13) d_Mo_put_76 ?_
          obtain ⟨g14, hf⟩ := x_if hf
          refine va_iast hx hb hK hP hD hS 5 0 rfl rfl (xi_in g14) d_Mo_put_77 (fun H locs hP hD hS => ?_)
          have hP : va_P D vwCl (w_Mo cI cJ cZ oh o0 o1 o2 o3 o4 o5 o6 o7 o8 o9 o10 o11 o12 (U.1, (((upd U.2.1.1 x2.toNatClampNeg (U.1.1 x2.toNatClampNeg)), ((upd U.2.1.2.1 x2.toNatClampNeg (U.1.2.1 x2.toNatClampNeg)), U.2.1.2.2)), U.2.2))) H := hP
          have hD : va_D A (w_Mo cI cJ cZ oh o0 o1 o2 o3 o4 o5 o6 o7 o8 o9 o10 o11 o12 (U.1, (((upd U.2.1.1 x2.toNatClampNeg (U.1.1 x2.toNatClampNeg)), ((upd U.2.1.2.1 x2.toNatClampNeg (U.1.2.1 x2.toNatClampNeg)), U.2.1.2.2)), U.2.2))) := hD
          refine lv_aload_n hx hb d_Mo_put_78 rfl (lv_at hl 0 rfl) ?_
          refine va_get (D := D) (ci := 3) (v := .ref o5) (C := R_Mo) (T := F_Mo) (N := 19) hx hb hts i_Mo hown hK hP 0 rfl rfl 6 (by decide) (hts _ k_230) (fun _ h9 => h9) rfl d_Mo_put_79 ?_
          refine lv_iload_n hx hb d_Mo_put_82 rfl (lv_at hl 2 rfl) ?_
          refine lv_aload_n hx hb d_Mo_put_83 rfl (lv_at hl 0 rfl) ?_
          refine va_get (D := D) (ci := 3) (v := .ref o2) (C := R_Mo) (T := F_Mo) (N := 19) hx hb hts i_Mo hown hK hP 0 rfl rfl 3 (by decide) (hts _ k_227) (fun _ h9 => h9) rfl d_Mo_put_84 ?_
          refine lv_iload_n hx hb d_Mo_put_87 rfl (lv_at hl 2 rfl) ?_
          obtain ⟨g15, hf⟩ := x_if hf
          refine va_iald hx hb hK hP 3 0 rfl rfl (xi_in g15) d_Mo_put_88 ?_
          obtain ⟨g16, hf⟩ := x_if hf
          refine va_iast hx hb hK hP hD hS 6 0 rfl rfl (xi_in g16) d_Mo_put_89 (fun H locs hP hD hS => ?_)
          have hP : va_P D vwCl (w_Mo cI cJ cZ oh o0 o1 o2 o3 o4 o5 o6 o7 o8 o9 o10 o11 o12 (U.1, (((upd U.2.1.1 x2.toNatClampNeg (U.1.1 x2.toNatClampNeg)), ((upd U.2.1.2.1 x2.toNatClampNeg (U.1.2.1 x2.toNatClampNeg)), ((upd U.2.1.2.2.1 x2.toNatClampNeg (U.1.2.2.1 x2.toNatClampNeg)), U.2.1.2.2.2))), U.2.2))) H := hP
          have hD : va_D A (w_Mo cI cJ cZ oh o0 o1 o2 o3 o4 o5 o6 o7 o8 o9 o10 o11 o12 (U.1, (((upd U.2.1.1 x2.toNatClampNeg (U.1.1 x2.toNatClampNeg)), ((upd U.2.1.2.1 x2.toNatClampNeg (U.1.2.1 x2.toNatClampNeg)), ((upd U.2.1.2.2.1 x2.toNatClampNeg (U.1.2.2.1 x2.toNatClampNeg)), U.2.1.2.2.2))), U.2.2))) := hD
          refine lv_iinc (v := (x2 + (1 : Int32))) (lv' := [(2, .int (x2 + (1 : Int32))), (0, .ref oh), (1, .int x1)]) hx hb d_Mo_put_90 hl (k := 2) rfl rfl (by decide) rfl (fun ls hl => ?_)
          refine lv_goto (tgt := 37) hx hb d_Mo_put_93 (by decide) ?_
          exact ih _ _ _ hf _ _ _ hP hD hS (lv_sub hl [1, 2, 0] rfl)
        · have hf := x_ifn c17 hf
          refine lv_goto (tgt := 90) hx hb d_Mo_put_51 (by decide) ?_
          refine lv_iinc (v := (x2 + (1 : Int32))) (lv' := [(2, .int (x2 + (1 : Int32))), (0, .ref oh), (1, .int x1)]) hx hb d_Mo_put_90 hl (k := 2) rfl rfl (by decide) rfl (fun ls hl => ?_)
          refine lv_goto (tgt := 37) hx hb d_Mo_put_93 (by decide) ?_
          exact ih _ _ _ hf _ _ _ hP hD hS (lv_sub hl [1, 2, 0] rfl)
  refine lv_aload_n hx hb d_Mo_put_0 rfl (lv_at hl 0 rfl) ?_
  refine va_get (D := D) (ci := 3) (v := .int U.2.2.2.2.2.2.2.2.2.2.1) (C := R_Mo) (T := F_Mo) (N := 19) hx hb hts i_Mo hown hK hP 0 rfl rfl 16 (by decide) (hts _ k_242) (fun _ h9 => h9) rfl d_Mo_put_1 ?_
  refine lv_iconst (v := (1 : Int32)) hx hb d_Mo_put_4 (by decide) ?_
  refine lv_icmp_ne (tgt := 18) hx hb d_Mo_put_5 (by decide) (fun c21 => ?_) (fun c21 => ?_)
  · have hf := x_ifn c21 hf
    refine lv_aload_n hx hb d_Mo_put_18 rfl (lv_at hl 0 rfl) ?_
    refine va_get (D := D) (ci := 3) (v := .int U.2.2.2.2.2.2.2.2.2.2.1) (C := R_Mo) (T := F_Mo) (N := 19) hx hb hts i_Mo hown hK hP 0 rfl rfl 16 (by decide) (hts _ k_242) (fun _ h9 => h9) rfl d_Mo_put_19 ?_
    refine lv_if_le (tgt := 35) hx hb d_Mo_put_22 (by decide) (fun c19 => ?_) (fun c19 => ?_)
    · have hf := x_ifp c19 hf
      refine lv_iconst (v := (0 : Int32)) hx hb d_Mo_put_35 (by decide) ?_
      refine lv_istore_n (lv' := [(2, .int (0 : Int32)), (0, .ref oh), (1, .int p0)]) hx hb d_Mo_put_36 rfl hl (by decide) rfl (fun ls hl => ?_)
      exact L_37 _ _ _ _ hf _ _ _ hP hD hS (lv_sub hl [1, 2, 0] rfl)
    · have hf := x_ifn c19 hf
      refine lv_aload_n hx hb d_Mo_put_25 rfl (lv_at hl 0 rfl) ?_
      refine lv_dup hx hb d_Mo_put_26 rfl ?_
      refine va_get (D := D) (ci := 3) (v := .int U.2.2.2.2.2.2.2.2.2.2.1) (C := R_Mo) (T := F_Mo) (N := 19) hx hb hts i_Mo hown hK hP 0 rfl rfl 16 (by decide) (hts _ k_242) (fun _ h9 => h9) rfl d_Mo_put_27 ?_
      refine lv_iconst (v := (1 : Int32)) hx hb d_Mo_put_30 (by decide) ?_
      refine lv_isub hx hb d_Mo_put_31 ?_
      refine va_put (D := D) (ci := 3) (v := .int (U.2.2.2.2.2.2.2.2.2.2.1 - (1 : Int32))) (ty := .int) (C := R_Mo) (T := F_Mo) (N := 19) hx hb hts i_Mo t_Mo t_Mo_ok n_Mo hown hK hP hD hS 0 rfl rfl 16 (by decide) (hts _ k_242) (fun _ h9 => h9) rfl (by decide +kernel) rfl rfl (Nat.le_of_ble_eq_true rfl) d_Mo_put_32 (fun H locs hP hD hS => ?_)
      have hP : va_P D vwCl (w_Mo cI cJ cZ oh o0 o1 o2 o3 o4 o5 o6 o7 o8 o9 o10 o11 o12 (U.1, (U.2.1, (U.2.2.1, (U.2.2.2.1, (U.2.2.2.2.1, (U.2.2.2.2.2.1, (U.2.2.2.2.2.2.1, (U.2.2.2.2.2.2.2.1, (U.2.2.2.2.2.2.2.2.1, (U.2.2.2.2.2.2.2.2.2.1, ((U.2.2.2.2.2.2.2.2.2.2.1 - (1 : Int32)), U.2.2.2.2.2.2.2.2.2.2.2)))))))))))) H := hP
      have hD : va_D A (w_Mo cI cJ cZ oh o0 o1 o2 o3 o4 o5 o6 o7 o8 o9 o10 o11 o12 (U.1, (U.2.1, (U.2.2.1, (U.2.2.2.1, (U.2.2.2.2.1, (U.2.2.2.2.2.1, (U.2.2.2.2.2.2.1, (U.2.2.2.2.2.2.2.1, (U.2.2.2.2.2.2.2.2.1, (U.2.2.2.2.2.2.2.2.2.1, ((U.2.2.2.2.2.2.2.2.2.2.1 - (1 : Int32)), U.2.2.2.2.2.2.2.2.2.2.2)))))))))))) := hD
      refine lv_iconst (v := (0 : Int32)) hx hb d_Mo_put_35 (by decide) ?_
      refine lv_istore_n (lv' := [(2, .int (0 : Int32)), (0, .ref oh), (1, .int p0)]) hx hb d_Mo_put_36 rfl hl (by decide) rfl (fun ls hl => ?_)
      exact L_37 _ _ _ _ hf _ _ _ hP hD hS (lv_sub hl [1, 2, 0] rfl)
  · have hf := x_ifp c21 hf
    refine lv_aload_n hx hb d_Mo_put_8 rfl (lv_at hl 0 rfl) ?_
    refine lv_iconst (v := (0 : Int32)) hx hb d_Mo_put_9 (by decide) ?_
    refine va_put (D := D) (ci := 3) (v := .int (0 : Int32)) (ty := .int) (C := R_Mo) (T := F_Mo) (N := 19) hx hb hts i_Mo t_Mo t_Mo_ok n_Mo hown hK hP hD hS 0 rfl rfl 16 (by decide) (hts _ k_242) (fun _ h9 => h9) rfl (by decide +kernel) rfl rfl (Nat.le_of_ble_eq_true rfl) d_Mo_put_10 (fun H locs hP hD hS => ?_)
    have hP : va_P D vwCl (w_Mo cI cJ cZ oh o0 o1 o2 o3 o4 o5 o6 o7 o8 o9 o10 o11 o12 (U.1, (U.2.1, (U.2.2.1, (U.2.2.2.1, (U.2.2.2.2.1, (U.2.2.2.2.2.1, (U.2.2.2.2.2.2.1, (U.2.2.2.2.2.2.2.1, (U.2.2.2.2.2.2.2.2.1, (U.2.2.2.2.2.2.2.2.2.1, ((0 : Int32), U.2.2.2.2.2.2.2.2.2.2.2)))))))))))) H := hP
    have hD : va_D A (w_Mo cI cJ cZ oh o0 o1 o2 o3 o4 o5 o6 o7 o8 o9 o10 o11 o12 (U.1, (U.2.1, (U.2.2.1, (U.2.2.2.1, (U.2.2.2.2.1, (U.2.2.2.2.2.1, (U.2.2.2.2.2.2.1, (U.2.2.2.2.2.2.2.1, (U.2.2.2.2.2.2.2.2.1, (U.2.2.2.2.2.2.2.2.2.1, ((0 : Int32), U.2.2.2.2.2.2.2.2.2.2.2)))))))))))) := hD
    refine lv_aload_n hx hb d_Mo_put_13 rfl (lv_at hl 0 rfl) ?_
    obtain ⟨z20, hz20, hf⟩ := x_bind hf
    refine x_callV (w2 := (w_Mo cI cJ cZ oh o0 o1 o2 o3 o4 o5 o6 o7 o8 o9 o10 o11 o12 z20.2)) ⟨hx, hb, hml, hown, hts⟩ (c_Mo_fall l D cI cJ cZ oh o0 o1 o2 o3 o4 o5 o6 o7 o8 o9 o10 o11 o12 N  (U.1, (U.2.1, (U.2.2.1, (U.2.2.2.1, (U.2.2.2.2.1, (U.2.2.2.2.2.1, (U.2.2.2.2.2.2.1, (U.2.2.2.2.2.2.2.1, (U.2.2.2.2.2.2.2.2.1, (U.2.2.2.2.2.2.2.2.2.1, ((0 : Int32), U.2.2.2.2.2.2.2.2.2.2.2))))))))))) z20 hz20) (x_cwV 0 hts rfl k_248 k_249 k_250 k_246 k_251 (by decide +kernel) ⟨(Nat.le_of_ble_eq_true rfl), (Nat.le_of_ble_eq_true rfl)⟩) hK hP hD hS hA hZ [0, 1, 2, 3, 4, 5, 6, 7, 8, 9, 10, 11, 12, 13] [] [0, 1, 2, 3, 4, 5, 6, 7, 8, 9, 10, 11, 12, 13] (by decide) rfl rfl (by decide) (by decide) (by decide) rfl (ci := 3) rfl rfl rfl hl.1 rfl (Nat.le_of_ble_eq_true rfl) d_Mo_put_14 ⟨(Nat.le_of_ble_eq_true rfl), (Nat.le_of_ble_eq_true rfl)⟩ (fun H locs hP hD hS => ?_)
    refine W.eq (g2 := F0 m 17 ls []) rfl ?_
    obtain rfl := Option.some.inj hf
    exact x_vret hx hb hr hlocks hK hP hD hS (Nat.le_of_ble_eq_true rfl) (Nat.le_of_ble_eq_true rfl) d_Mo_put_17
set_option maxHeartbeats 4000000 in
set_option maxRecDepth 100000 in
theorem c_Mo_waitsFor (l : Launch) (D : va_G) (cI cJ cZ : ClassId) (oh o0 o1 o2 o3 o4 o5 o6 o7 o8 o9 o10 o11 o12 : Nat) (N : Nat) (p0 : Int32) (U : K_Mo) (r : (Int32 × K_Mo)) (hf : f_Mo_waitsFor N p0 U = some r) : Cx l y_Mo_waitsFor ws_Mo_waitsFor rm_Mo_waitsFor D vwCl (tyL cI cJ cZ) [.ref oh, .int p0] (w_Mo cI cJ cZ oh o0 o1 o2 o3 o4 o5 o6 o7 o8 o9 o10 o11 o12 U) (oI r.1) (w_Mo cI cJ cZ oh o0 o1 o2 o3 o4 o5 o6 o7 o8 o9 o10 o11 o12 r.2) := by
  unfold f_Mo_waitsFor at hf
  refine Cx.ofW (cc := b_Mo_waitsFor) (maxL := 3) (ret := (some .int)) (by decide) rfl ?_
  intro p e s m below meth c A C0 hP hK hD hA hns hZ
  obtain ⟨hx, hb, hml, hown, hts0, hr, hlocks, hnm, hno⟩ := C0
  have hown : s.vm.findClass R_Mo = some m.cls := hown
  have hts : ∀ w ∈ tb, w.before [.ref oh, .int p0].toArray s = true := fun w h => hts0 w (List.mem_cons_of_mem _ h)
  have hS : va_S A s.heap s.heap [] := va_S.rf
  have hl := lv_entry ([.ref oh, .int p0]) (n := 3) (Nat.le_of_ble_eq_true rfl)
  rw [lg_entry_eq]
  generalize (lg_sl ([.ref oh, .int p0]) ++ List.replicate (3 - (lg_sl ([.ref oh, .int p0])).length) Slot.unset).toArray = ls at hl ⊢
  have hl : lv_has ls 3 [(0, .ref oh), (1, .int p0)] := hl
  have L_2 : ∀ n : Nat, ∀ (x1 : Int32) (x2 : Int32) (U : K_Mo), f_Mo_waitsFor_2 N n x1 x2 U = some r → ∀ (H : Heap) (locs : List Loc) (ls : Array Slot), va_P D vwCl (w_Mo cI cJ cZ oh o0 o1 o2 o3 o4 o5 o6 o7 o8 o9 o10 o11 o12 U) H → va_D A (w_Mo cI cJ cZ oh o0 o1 o2 o3 o4 o5 o6 o7 o8 o9 o10 o11 o12 U) → va_S A s.heap H locs → lv_has ls 3 [(0, .ref oh), (1, .int x1), (2, .int x2)] → W p l e (rm_Mo_waitsFor) s m [.ref oh, .int p0].toArray below meth c H locs 0 0 (xQ D vwCl (tyL cI cJ cZ) below s A (oI r.1) (w_Mo cI cJ cZ oh o0 o1 o2 o3 o4 o5 o6 o7 o8 o9 o10 o11 o12 r.2) (rm_Mo_waitsFor).cells (rm_Mo_waitsFor).slots) (F0 m 2 ls []) := by
    intro n
    induction n with
    | zero =>
      intro x1 x2 U hf
      have hf : (none : Option (Int32 × K_Mo)) = some r := hf
      cases hf
    | succ n ih =>
      intro x1 x2 U hf H locs ls hP hD hS hl
      rw [f_Mo_waitsFor_2] at hf
      refine lv_iload_n hx hb d_Mo_waitsFor_2 rfl (lv_at hl 2 rfl) ?_
      refine lv_bipush (v := (7 : Int32)) hx hb d_Mo_waitsFor_3 (by decide) ?_
      refine lv_icmp_ge (tgt := 38) hx hb d_Mo_waitsFor_5 (by decide) (fun c5 => ?_) (fun c5 => ?_)
      · have hf := x_ifp c5 hf
        refine lv_iconst (v := (-1 : Int32)) hx hb d_Mo_waitsFor_38 (by decide) ?_
        obtain rfl := Option.some.inj hf
        exact x_iret hx hb hr hlocks hK hP hD hS (Nat.le_of_ble_eq_true rfl) (Nat.le_of_ble_eq_true rfl) d_Mo_waitsFor_39
      · have hf := x_ifn c5 hf
        refine lv_aload_n hx hb d_Mo_waitsFor_8 rfl (lv_at hl 0 rfl) ?_
        refine va_get (D := D) (ci := 3) (v := .ref o9) (C := R_Mo) (T := F_Mo) (N := 19) hx hb hts i_Mo hown hK hP 0 rfl rfl 10 (by decide) (hts _ k_235) (fun _ h9 => h9) rfl d_Mo_waitsFor_9 ?_
        refine lv_iload_n hx hb d_Mo_waitsFor_12 rfl (lv_at hl 1 rfl) ?_
        obtain ⟨g1, hf⟩ := x_if hf
        refine va_iald hx hb hK hP 10 0 rfl rfl (xi_in g1) d_Mo_waitsFor_13 ?_
        refine lv_iload_n hx hb d_Mo_waitsFor_14 rfl (lv_at hl 2 rfl) ?_
        refine lv_ishr hx hb d_Mo_waitsFor_15 ?_
        refine lv_iconst (v := (1 : Int32)) hx hb d_Mo_waitsFor_16 (by decide) ?_
        refine lv_iand hx hb d_Mo_waitsFor_17 ?_
        refine lv_if_eq (tgt := 32) hx hb d_Mo_waitsFor_18 (by decide) (fun c4 => ?_) (fun c4 => ?_)
        · have hf := x_ifp c4 hf
          refine lv_iinc (v := (x2 + (1 : Int32))) (lv' := [(2, .int (x2 + (1 : Int32))), (0, .ref oh), (1, .int x1)]) hx hb d_Mo_waitsFor_32 hl (k := 2) rfl rfl (by decide) rfl (fun ls hl => ?_)
          refine lv_goto (tgt := 2) hx hb d_Mo_waitsFor_35 (by decide) ?_
          exact ih _ _ _ hf _ _ _ hP hD hS (lv_sub hl [1, 2, 0] rfl)
        · have hf := x_ifn c4 hf
          refine lv_aload_n hx hb d_Mo_waitsFor_21 rfl (lv_at hl 0 rfl) ?_
          refine va_get (D := D) (ci := 3) (v := .ref o8) (C := R_Mo) (T := F_Mo) (N := 19) hx hb hts i_Mo hown hK hP 0 rfl rfl 9 (by decide) (hts _ k_234) (fun _ h9 => h9) rfl d_Mo_waitsFor_22 ?_
          refine lv_iload_n hx hb d_Mo_waitsFor_25 rfl (lv_at hl 2 rfl) ?_
          obtain ⟨g2, hf⟩ := x_if hf
          refine va_zald hx hb hK hP 9 2 rfl rfl (xi_in g2) d_Mo_waitsFor_26 ?_
          refine lv_if_eq (tgt := 32) hx hb d_Mo_waitsFor_27 (by decide) (fun c3 => ?_) (fun c3 => ?_)
          · have hf := x_ifp c3 hf
            refine lv_iinc (v := (x2 + (1 : Int32))) (lv' := [(2, .int (x2 + (1 : Int32))), (0, .ref oh), (1, .int x1)]) hx hb d_Mo_waitsFor_32 hl (k := 2) rfl rfl (by decide) rfl (fun ls hl => ?_)
            refine lv_goto (tgt := 2) hx hb d_Mo_waitsFor_35 (by decide) ?_
            exact ih _ _ _ hf _ _ _ hP hD hS (lv_sub hl [1, 2, 0] rfl)
          · have hf := x_ifn c3 hf
            refine lv_iload_n hx hb d_Mo_waitsFor_30 rfl (lv_at hl 2 rfl) ?_
            obtain rfl := Option.some.inj hf
            exact x_iret hx hb hr hlocks hK hP hD hS (Nat.le_of_ble_eq_true rfl) (Nat.le_of_ble_eq_true rfl) d_Mo_waitsFor_31
  refine lv_iconst (v := (0 : Int32)) hx hb d_Mo_waitsFor_0 (by decide) ?_
  refine lv_istore_n (lv' := [(2, .int (0 : Int32)), (0, .ref oh), (1, .int p0)]) hx hb d_Mo_waitsFor_1 rfl hl (by decide) rfl (fun ls hl => ?_)
  exact L_2 _ _ _ _ hf _ _ _ hP hD hS (lv_sub hl [1, 2, 0] rfl)
set_option maxHeartbeats 4000000 in
set_option maxRecDepth 100000 in
theorem c_Mo_store (l : Launch) (D : va_G) (cI cJ cZ : ClassId) (oh o0 o1 o2 o3 o4 o5 o6 o7 o8 o9 o10 o11 o12 : Nat) (N : Nat) (p0 : Int32) (U : K_Mo) (r : (Unit × K_Mo)) (hf : f_Mo_store N p0 U = some r) : Cx l y_Mo_store ws_Mo_store rm_Mo_store D vwCl (tyL cI cJ cZ) [.ref oh, .int p0] (w_Mo cI cJ cZ oh o0 o1 o2 o3 o4 o5 o6 o7 o8 o9 o10 o11 o12 U) (oV r.1) (w_Mo cI cJ cZ oh o0 o1 o2 o3 o4 o5 o6 o7 o8 o9 o10 o11 o12 r.2) := by
  unfold f_Mo_store at hf
  refine Cx.ofW (cc := b_Mo_store) (maxL := 4) (ret := none) (by decide) rfl ?_
  intro p e s m below meth c A C0 hP hK hD hA hns hZ
  obtain ⟨hx, hb, hml, hown, hts0, hr, hlocks, hnm, hno⟩ := C0
  have hown : s.vm.findClass R_Mo = some m.cls := hown
  have hts : ∀ w ∈ tb, w.before [.ref oh, .int p0].toArray s = true := fun w h => hts0 w (List.mem_cons_of_mem _ h)
  have hS : va_S A s.heap s.heap [] := va_S.rf
  have hl := lv_entry ([.ref oh, .int p0]) (n := 4) (Nat.le_of_ble_eq_true rfl)
  rw [lg_entry_eq]
  generalize (lg_sl ([.ref oh, .int p0]) ++ List.replicate (4 - (lg_sl ([.ref oh, .int p0])).length) Slot.unset).toArray = ls at hl ⊢
  have hl : lv_has ls 4 [(0, .ref oh), (1, .int p0)] := hl
  have L_9 : ∀ n : Nat, ∀ (x2 : Int32) (U : K_Mo), f_Mo_store_9 N n x2 U = some r → ∀ (H : Heap) (locs : List Loc) (ls : Array Slot), va_P D vwCl (w_Mo cI cJ cZ oh o0 o1 o2 o3 o4 o5 o6 o7 o8 o9 o10 o11 o12 U) H → va_D A (w_Mo cI cJ cZ oh o0 o1 o2 o3 o4 o5 o6 o7 o8 o9 o10 o11 o12 U) → va_S A s.heap H locs → lv_has ls 4 [(0, .ref oh), (2, .int x2)] → W p l e (rm_Mo_store) s m [.ref oh, .int p0].toArray below meth c H locs 0 0 (xQ D vwCl (tyL cI cJ cZ) below s A (oV r.1) (w_Mo cI cJ cZ oh o0 o1 o2 o3 o4 o5 o6 o7 o8 o9 o10 o11 o12 r.2) (rm_Mo_store).cells (rm_Mo_store).slots) (F0 m 9 ls []) := by
    intro n
    induction n with
    | zero =>
      intro x2 U hf
      have hf : (none : Option (Unit × K_Mo)) = some r := hf
      cases hf
    | succ n ih =>
      intro x2 U hf H locs ls hP hD hS hl
      rw [f_Mo_store_9] at hf
      refine lv_iload_n hx hb d_Mo_store_9 rfl (lv_at hl 1 rfl) ?_
      refine lv_if_le (tgt := 68) hx hb d_Mo_store_10 (by decide) (fun c8 => ?_) (fun c8 => ?_)
      · have hf := x_ifp c8 hf
        obtain rfl := Option.some.inj hf
        exact x_vret hx hb hr hlocks hK hP hD hS (Nat.le_of_ble_eq_true rfl) (Nat.le_of_ble_eq_true rfl) d_Mo_store_68
      · have hf := x_ifn c8 hf
        refine lv_aload_n hx hb d_Mo_store_13 rfl (lv_at hl 0 rfl) ?_
        refine va_get (D := D) (ci := 3) (v := .int U.2.2.2.2.2.2.2.2.2.2.2.1) (C := R_Mo) (T := F_Mo) (N := 19) hx hb hts i_Mo hown hK hP 0 rfl rfl 17 (by decide) (hts _ k_241) (fun _ h9 => h9) rfl d_Mo_store_14 ?_
        refine lv_if_ne (tgt := 68) hx hb d_Mo_store_17 (by decide) (fun c7 => ?_) (fun c7 => ?_)
        · have hf := x_ifn c7 hf
          obtain rfl := Option.some.inj hf
          exact x_vret hx hb hr hlocks hK hP hD hS (Nat.le_of_ble_eq_true rfl) (Nat.le_of_ble_eq_true rfl) d_Mo_store_68
        · have hf := x_ifp c7 hf
          refine lv_aload_n hx hb d_Mo_store_20 rfl (lv_at hl 0 rfl) ?_
          refine lv_aload_n hx hb d_Mo_store_21 rfl (lv_at hl 0 rfl) ?_
          refine va_get (D := D) (ci := 3) (v := .ref o12) (C := R_Mo) (T := F_Mo) (N := 19) hx hb hts i_Mo hown hK hP 0 rfl rfl 13 (by decide) (hts _ k_238) (fun _ h9 => h9) rfl d_Mo_store_22 ?_
          refine lv_iload_n hx hb d_Mo_store_25 rfl (lv_at hl 1 rfl) ?_
          refine lv_iconst (v := (1 : Int32)) hx hb d_Mo_store_26 (by decide) ?_
          refine lv_isub hx hb d_Mo_store_27 ?_
          obtain ⟨g1, hf⟩ := x_if hf
          refine va_iald hx hb hK hP 13 0 rfl rfl (xi_in g1) d_Mo_store_28 ?_
          obtain ⟨z2, hz2, hf⟩ := x_bind hf
          refine x_callV (w2 := (w_Mo cI cJ cZ oh o0 o1 o2 o3 o4 o5 o6 o7 o8 o9 o10 o11 o12 z2.2)) ⟨hx, hb, hml, hown, hts⟩ (c_Mo_waitsFor l D cI cJ cZ oh o0 o1 o2 o3 o4 o5 o6 o7 o8 o9 o10 o11 o12 N (U.2.2.2.2.2.2.1 (x2 - (1 : Int32)).toNatClampNeg) U z2 hz2) (x_cwV 1 hts rfl k_256 k_257 k_258 k_246 k_259 (by decide +kernel) ⟨(Nat.le_of_ble_eq_true rfl), (Nat.le_of_ble_eq_true rfl)⟩) hK hP hD hS hA hZ [0, 1, 2, 3, 4, 5, 6, 7, 8, 9, 10, 11, 12, 13] [] [0, 1, 2, 3, 4, 5, 6, 7, 8, 9, 10, 11, 12, 13] (by decide) rfl rfl (by decide) (by decide) (by decide) rfl (ci := 3) rfl rfl rfl hl.1 rfl (Nat.le_of_ble_eq_true rfl) d_Mo_store_29 ⟨(Nat.le_of_ble_eq_true rfl), (Nat.le_of_ble_eq_true rfl)⟩ (fun H locs hP hD hS => ?_)
          refine W.eq (g2 := F0 m 32 ls [.int z2.1]) rfl ?_
          refine lv_istore_n (lv' := [(3, .int z2.1), (0, .ref oh), (2, .int x2)]) hx hb d_Mo_store_32 rfl hl (by decide) rfl (fun ls hl => ?_)
          refine lv_iload_n hx hb d_Mo_store_33 rfl (lv_at hl 0 rfl) ?_
          refine lv_if_lt (tgt := 50) hx hb d_Mo_store_34 (by decide) (fun c6 => ?_) (fun c6 => ?_)
          · have hf := x_ifp c6 hf
            refine lv_aload_n hx hb d_Mo_store_50 rfl (lv_at hl 1 rfl) ?_
            refine lv_aload_n hx hb d_Mo_store_51 rfl (lv_at hl 1 rfl) ?_
            refine va_get (D := D) (ci := 3) (v := .ref o12) (C := R_Mo) (T := F_Mo) (N := 19) hx hb hts i_Mo hown hK hP 0 rfl rfl 13 (by decide) (hts _ k_238) (fun _ h9 => h9) rfl d_Mo_store_52 ?_
            refine lv_iload_n hx hb d_Mo_store_55 rfl (lv_at hl 2 rfl) ?_
            refine lv_iconst (v := (1 : Int32)) hx hb d_Mo_store_56 (by decide) ?_
            refine lv_isub hx hb d_Mo_store_57 ?_
            obtain ⟨g3, hf⟩ := x_if hf
            refine va_iald hx hb hK hP 13 0 rfl rfl (xi_in g3) d_Mo_store_58 ?_
            obtain ⟨z4, hz4, hf⟩ := x_bind hf
            refine x_callV (w2 := (w_Mo cI cJ cZ oh o0 o1 o2 o3 o4 o5 o6 o7 o8 o9 o10 o11 o12 z4.2)) ⟨hx, hb, hml, hown, hts⟩ (c_Mo_put l D cI cJ cZ oh o0 o1 o2 o3 o4 o5 o6 o7 o8 o9 o10 o11 o12 N (z2.2.2.2.2.2.2.2.1 (x2 - (1 : Int32)).toNatClampNeg) z2.2 z4 hz4) (x_cwV 1 hts rfl k_252 k_253 k_254 k_246 k_255 (by decide +kernel) ⟨(Nat.le_of_ble_eq_true rfl), (Nat.le_of_ble_eq_true rfl)⟩) hK hP hD hS hA hZ [0, 1, 2, 3, 4, 5, 6, 7, 8, 9, 10, 11, 12, 13] [] [0, 1, 2, 3, 4, 5, 6, 7, 8, 9, 10, 11, 12, 13] (by decide) rfl rfl (by decide) (by decide) (by decide) rfl (ci := 3) rfl rfl rfl hl.1 rfl (Nat.le_of_ble_eq_true rfl) d_Mo_store_59 ⟨(Nat.le_of_ble_eq_true rfl), (Nat.le_of_ble_eq_true rfl)⟩ (fun H locs hP hD hS => ?_)
            refine W.eq (g2 := F0 m 62 ls []) rfl ?_
            refine lv_iinc (v := (x2 + (-1 : Int32))) (lv' := [(2, .int (x2 + (-1 : Int32))), (3, .int z2.1), (0, .ref oh)]) hx hb d_Mo_store_62 hl (k := 2) rfl rfl (by decide) rfl (fun ls hl => ?_)
            refine lv_goto (tgt := 9) hx hb d_Mo_store_65 (by decide) ?_
            exact ih _ _ hf _ _ _ hP hD hS (lv_sub hl [2, 0] rfl)
          · have hf := x_ifn c6 hf
            refine lv_aload_n hx hb d_Mo_store_37 rfl (lv_at hl 1 rfl) ?_
            refine va_get (D := D) (ci := 3) (v := .ref o12) (C := R_Mo) (T := F_Mo) (N := 19) hx hb hts i_Mo hown hK hP 0 rfl rfl 13 (by decide) (hts _ k_238) (fun _ h9 => h9) rfl d_Mo_store_38 ?_
            refine lv_iload_n hx hb d_Mo_store_41 rfl (lv_at hl 2 rfl) ?_
            refine lv_iload_n hx hb d_Mo_store_42 rfl (lv_at hl 0 rfl) ?_
            obtain ⟨g5, hf⟩ := x_if hf
            refine va_iast hx hb hK hP hD hS 13 0 rfl rfl (xi_in g5) d_Mo_store_43 (fun H locs hP hD hS => ?_)
            have hP : va_P D vwCl (w_Mo cI cJ cZ oh o0 o1 o2 o3 o4 o5 o6 o7 o8 o9 o10 o11 o12 (z2.2.1, (z2.2.2.1, (z2.2.2.2.1, (z2.2.2.2.2.1, (z2.2.2.2.2.2.1, (z2.2.2.2.2.2.2.1, ((upd z2.2.2.2.2.2.2.2.1 x2.toNatClampNeg z2.1), z2.2.2.2.2.2.2.2.2)))))))) H := hP
            have hD : va_D A (w_Mo cI cJ cZ oh o0 o1 o2 o3 o4 o5 o6 o7 o8 o9 o10 o11 o12 (z2.2.1, (z2.2.2.1, (z2.2.2.2.1, (z2.2.2.2.2.1, (z2.2.2.2.2.2.1, (z2.2.2.2.2.2.2.1, ((upd z2.2.2.2.2.2.2.2.1 x2.toNatClampNeg z2.1), z2.2.2.2.2.2.2.2.2)))))))) := hD
            refine lv_iinc (v := (x2 + (1 : Int32))) (lv' := [(2, .int (x2 + (1 : Int32))), (3, .int z2.1), (0, .ref oh)]) hx hb d_Mo_store_44 hl (k := 2) rfl rfl (by decide) rfl (fun ls hl => ?_)
            refine lv_goto (tgt := 65) hx hb d_Mo_store_47 (by decide) ?_
            refine lv_goto (tgt := 9) hx hb d_Mo_store_65 (by decide) ?_
            exact ih _ _ hf _ _ _ hP hD hS (lv_sub hl [2, 0] rfl)
  refine lv_aload_n hx hb d_Mo_store_0 rfl (lv_at hl 0 rfl) ?_
  refine va_get (D := D) (ci := 3) (v := .ref o12) (C := R_Mo) (T := F_Mo) (N := 19) hx hb hts i_Mo hown hK hP 0 rfl rfl 13 (by decide) (hts _ k_238) (fun _ h9 => h9) rfl d_Mo_store_1 ?_
  refine lv_iconst (v := (0 : Int32)) hx hb d_Mo_store_4 (by decide) ?_
  refine lv_iload_n hx hb d_Mo_store_5 rfl (lv_at hl 1 rfl) ?_
  refine va_iast hx hb hK hP hD hS 13 0 rfl rfl (xi_in rfl) d_Mo_store_6 (fun H locs hP hD hS => ?_)
  have hP : va_P D vwCl (w_Mo cI cJ cZ oh o0 o1 o2 o3 o4 o5 o6 o7 o8 o9 o10 o11 o12 (U.1, (U.2.1, (U.2.2.1, (U.2.2.2.1, (U.2.2.2.2.1, (U.2.2.2.2.2.1, ((upd U.2.2.2.2.2.2.1 (0 : Int32).toNatClampNeg p0), U.2.2.2.2.2.2.2)))))))) H := hP
  have hD : va_D A (w_Mo cI cJ cZ oh o0 o1 o2 o3 o4 o5 o6 o7 o8 o9 o10 o11 o12 (U.1, (U.2.1, (U.2.2.1, (U.2.2.2.1, (U.2.2.2.2.1, (U.2.2.2.2.2.1, ((upd U.2.2.2.2.2.2.1 (0 : Int32).toNatClampNeg p0), U.2.2.2.2.2.2.2)))))))) := hD
  refine lv_iconst (v := (1 : Int32)) hx hb d_Mo_store_7 (by decide) ?_
  refine lv_istore_n (lv' := [(2, .int (1 : Int32)), (0, .ref oh), (1, .int p0)]) hx hb d_Mo_store_8 rfl hl (by decide) rfl (fun ls hl => ?_)
  exact L_9 _ _ _ hf _ _ _ hP hD hS (lv_sub hl [1, 0] rfl)
