set_option maxHeartbeats 4000000 in
set_option maxRecDepth 100000 in
theorem c_Mo_change (l : Launch) (D : va_G) (cI cJ cZ : ClassId) (oh o0 o1 o2 o3 o4 o5 o6 o7 o8 o9 o10 o11 o12 : Nat) (N : Nat) (p0 : Int32) (p1 : Int32) (p2 : Int32) (U : K_Mo) (r : (Unit × K_Mo)) (hf : f_Mo_change N p0 p1 p2 U = some r) : Cx l y_Mo_change ws_Mo_change rm_Mo_change D vwCl (tyL cI cJ cZ) [.ref oh, .int p0, .int p1, .int p2] (w_Mo cI cJ cZ oh o0 o1 o2 o3 o4 o5 o6 o7 o8 o9 o10 o11 o12 U) (oV r.1) (w_Mo cI cJ cZ oh o0 o1 o2 o3 o4 o5 o6 o7 o8 o9 o10 o11 o12 r.2) := by
  unfold f_Mo_change at hf
  refine Cx.ofW (cc := b_Mo_change) (maxL := 6) (ret := none) (by decide) rfl ?_
  intro p e s m below meth c A C0 hP hK hD hA hns hZ
  obtain ⟨hx, hb, hml, hown, hts0, hr, hlocks, hnm, hno⟩ := C0
  have hown : s.vm.findClass R_Mo = some m.cls := hown
  have hts : ∀ w ∈ tb, w.before [.ref oh, .int p0, .int p1, .int p2].toArray s = true := fun w h => hts0 w (List.mem_cons_of_mem _ h)
  have hS : va_S A s.heap s.heap [] := va_S.rf
  have hl := lv_entry ([.ref oh, .int p0, .int p1, .int p2]) (n := 6) (Nat.le_of_ble_eq_true rfl)
  rw [lg_entry_eq]
  generalize (lg_sl ([.ref oh, .int p0, .int p1, .int p2]) ++ List.replicate (6 - (lg_sl ([.ref oh, .int p0, .int p1, .int p2])).length) Slot.unset).toArray = ls at hl ⊢
  have hl : lv_has ls 6 [(0, .ref oh), (1, .int p0), (2, .int p1), (3, .int p2)] := hl
  have L_66 : ∀ n : Nat, ∀ (x1 : Int32) (x2 : Int32) (x3 : Int32) (x4 : Int32) (x5 : Int32) (U : K_Mo), f_Mo_change_66 N n x1 x2 x3 x4 x5 U = some r → ∀ (H : Heap) (locs : List Loc) (ls : Array Slot), va_P D vwCl (w_Mo cI cJ cZ oh o0 o1 o2 o3 o4 o5 o6 o7 o8 o9 o10 o11 o12 U) H → va_D A (w_Mo cI cJ cZ oh o0 o1 o2 o3 o4 o5 o6 o7 o8 o9 o10 o11 o12 U) → va_S A s.heap H locs → lv_has ls 6 [(0, .ref oh), (1, .int x1), (2, .int x2), (3, .int x3), (4, .int x4), (5, .int x5)] → W p l e (rm_Mo_change) s m [.ref oh, .int p0, .int p1, .int p2].toArray below meth c H locs 0 0 (xQ D vwCl (tyL cI cJ cZ) below s A (oV r.1) (w_Mo cI cJ cZ oh o0 o1 o2 o3 o4 o5 o6 o7 o8 o9 o10 o11 o12 r.2) (rm_Mo_change).cells (rm_Mo_change).slots) (F0 m 66 ls []) := by
    intro n
    induction n with
    | zero =>
      intro x1 x2 x3 x4 x5 U hf
      have hf : (none : Option (Unit × K_Mo)) = some r := hf
      cases hf
    | succ n ih =>
      intro x1 x2 x3 x4 x5 U hf H locs ls hP hD hS hl
      rw [f_Mo_change_66] at hf
      refine lv_iload hx hb d_Mo_change_66 (lv_at hl 5 rfl) ?_
      refine lv_bipush (v := (15 : Int32)) hx hb d_Mo_change_68 (by decide) ?_
      refine lv_icmp_ge (tgt := 89) hx hb d_Mo_change_70 (by decide) (fun c62 => ?_) (fun c62 => ?_)
      · have hf := x_ifp c62 hf
        refine lv_iload hx hb d_Mo_change_89 (lv_at hl 5 rfl) ?_
        refine lv_bipush (v := (15 : Int32)) hx hb d_Mo_change_91 (by decide) ?_
        refine lv_icmp_ne (tgt := 102) hx hb d_Mo_change_93 (by decide) (fun c45 => ?_) (fun c45 => ?_)
        · have hf := x_ifn c45 hf
          refine lv_aload_n hx hb d_Mo_change_102 rfl (lv_at hl 0 rfl) ?_
          refine lv_iload hx hb d_Mo_change_103 (lv_at hl 5 rfl) ?_
          obtain ⟨z32, hz32, hf⟩ := x_bind hf
          refine x_callS (w2 := (w_Mo cI cJ cZ oh o0 o1 o2 o3 o4 o5 o6 o7 o8 o9 o10 o11 o12 U)) ⟨hx, hb, hml, hown, hts⟩ (c_Mo_pageOf l D cI cJ cZ  N x5  z32 hz32) (x_cwS 1 hts rfl k_244 k_245 k_246 k_247 (by decide +kernel) ⟨(Nat.le_of_ble_eq_true rfl), (Nat.le_of_ble_eq_true rfl)⟩) hK hP hD hS hA hZ [] [0, 1, 2, 3, 4, 5, 6, 7, 8, 9, 10, 11, 12, 13] [0, 1, 2, 3, 4, 5, 6, 7, 8, 9, 10, 11, 12, 13] (by decide) rfl rfl (by decide) (by decide) (by decide) rfl rfl hl.1 rfl (Nat.le_of_ble_eq_true rfl) d_Mo_change_105 ⟨(Nat.le_of_ble_eq_true rfl), (Nat.le_of_ble_eq_true rfl)⟩ (fun H locs hP hD hS => ?_)
          refine W.eq (g2 := F0 m 108 ls [.int z32, .ref oh]) rfl ?_
          refine lv_iload hx hb d_Mo_change_108 (lv_at hl 4 rfl) ?_
          obtain ⟨z33, hz33, hf⟩ := x_bind hf
          refine x_callV (w2 := (w_Mo cI cJ cZ oh o0 o1 o2 o3 o4 o5 o6 o7 o8 o9 o10 o11 o12 z33.2)) ⟨hx, hb, hml, hown, hts⟩ (c_Mo_note l D cI cJ cZ oh o0 o1 o2 o3 o4 o5 o6 o7 o8 o9 o10 o11 o12 N z32 x4 U z33 hz33) (x_cwV 2 hts rfl k_312 k_313 k_314 k_246 k_315 (by decide +kernel) ⟨(Nat.le_of_ble_eq_true rfl), (Nat.le_of_ble_eq_true rfl)⟩) hK hP hD hS hA hZ [0, 1, 2, 3, 4, 5, 6, 7, 8, 9, 10, 11, 12, 13] [] [0, 1, 2, 3, 4, 5, 6, 7, 8, 9, 10, 11, 12, 13] (by decide) rfl rfl (by decide) (by decide) (by decide) rfl (ci := 3) rfl rfl rfl hl.1 rfl (Nat.le_of_ble_eq_true rfl) d_Mo_change_110 ⟨(Nat.le_of_ble_eq_true rfl), (Nat.le_of_ble_eq_true rfl)⟩ (fun H locs hP hD hS => ?_)
          refine W.eq (g2 := F0 m 113 ls []) rfl ?_
          refine lv_aload_n hx hb d_Mo_change_113 rfl (lv_at hl 0 rfl) ?_
          refine va_get (D := D) (ci := 3) (v := .int z33.2.2.2.2.2.2.2.2.2.2.2.2.1) (C := R_Mo) (T := F_Mo) (N := 19) hx hb hts i_Mo hown hK hP 0 rfl rfl 17 (by decide) (hts _ k_241) (fun _ h9 => h9) rfl d_Mo_change_114 ?_
          refine lv_if_eq (tgt := 121) hx hb d_Mo_change_117 (by decide) (fun c44 => ?_) (fun c44 => ?_)
          · have hf := x_ifp c44 hf
            refine lv_aload_n hx hb d_Mo_change_121 rfl (lv_at hl 0 rfl) ?_
            refine lv_iload_n hx hb d_Mo_change_122 rfl (lv_at hl 2 rfl) ?_
            refine lv_iload hx hb d_Mo_change_123 (lv_at hl 5 rfl) ?_
            obtain ⟨z34, hz34, hf⟩ := x_bind hf
            refine x_callV (w2 := (w_Mo cI cJ cZ oh o0 o1 o2 o3 o4 o5 o6 o7 o8 o9 o10 o11 o12 z34.2)) ⟨hx, hb, hml, hown, hts⟩ (c_Mo_move l D cI cJ cZ oh o0 o1 o2 o3 o4 o5 o6 o7 o8 o9 o10 o11 o12 N x2 x5 z33.2 z34 hz34) (x_cwV 2 hts rfl k_308 k_309 k_310 k_246 k_311 (by decide +kernel) ⟨(Nat.le_of_ble_eq_true rfl), (Nat.le_of_ble_eq_true rfl)⟩) hK hP hD hS hA hZ [0, 1, 2, 3, 4, 5, 6, 7, 8, 9, 10, 11, 12, 13] [] [0, 1, 2, 3, 4, 5, 6, 7, 8, 9, 10, 11, 12, 13] (by decide) rfl rfl (by decide) (by decide) (by decide) rfl (ci := 3) rfl rfl rfl hl.1 rfl (Nat.le_of_ble_eq_true rfl) d_Mo_change_125 ⟨(Nat.le_of_ble_eq_true rfl), (Nat.le_of_ble_eq_true rfl)⟩ (fun H locs hP hD hS => ?_)
            refine W.eq (g2 := F0 m 128 ls []) rfl ?_
            refine lv_aload_n hx hb d_Mo_change_128 rfl (lv_at hl 0 rfl) ?_
            refine va_get (D := D) (ci := 3) (v := .ref o2) (C := R_Mo) (T := F_Mo) (N := 19) hx hb hts i_Mo hown hK hP 0 rfl rfl 3 (by decide) (hts _ k_227) (fun _ h9 => h9) rfl d_Mo_change_129 ?_
            refine lv_iload_n hx hb d_Mo_change_132 rfl (lv_at hl 2 rfl) ?_
            refine lv_iload hx hb d_Mo_change_133 (lv_at hl 5 rfl) ?_
            refine lv_bipush (v := (6 : Int32)) hx hb d_Mo_change_135 (by decide) ?_
            refine lv_isub hx hb d_Mo_change_137 ?_
            obtain ⟨g35, hf⟩ := x_if hf
            refine va_iast hx hb hK hP hD hS 3 0 rfl rfl (xi_in g35) d_Mo_change_138 (fun H locs hP hD hS => ?_)
            have hP : va_P D vwCl (w_Mo cI cJ cZ oh o0 o1 o2 o3 o4 o5 o6 o7 o8 o9 o10 o11 o12 ((z34.2.1.1, (z34.2.1.2.1, ((upd z34.2.1.2.2.1 x2.toNatClampNeg (x5 - (6 : Int32))), z34.2.1.2.2.2))), z34.2.2)) H := hP
            have hD : va_D A (w_Mo cI cJ cZ oh o0 o1 o2 o3 o4 o5 o6 o7 o8 o9 o10 o11 o12 ((z34.2.1.1, (z34.2.1.2.1, ((upd z34.2.1.2.2.1 x2.toNatClampNeg (x5 - (6 : Int32))), z34.2.1.2.2.2))), z34.2.2)) := hD
            refine lv_aload_n hx hb d_Mo_change_139 rfl (lv_at hl 0 rfl) ?_
            refine va_get (D := D) (ci := 3) (v := .ref o10) (C := R_Mo) (T := F_Mo) (N := 19) hx hb hts i_Mo hown hK hP 0 rfl rfl 11 (by decide) (hts _ k_236) (fun _ h9 => h9) rfl d_Mo_change_140 ?_
            refine lv_iload_n hx hb d_Mo_change_143 rfl (lv_at hl 1 rfl) ?_
            refine lv_dup2_11 hx hb d_Mo_change_144 rfl rfl ?_
            obtain ⟨g36, hf⟩ := x_if hf
            refine va_iald hx hb hK hP 11 0 rfl rfl (xi_in g36) d_Mo_change_145 ?_
            refine lv_iconst (v := (1 : Int32)) hx hb d_Mo_change_146 (by decide) ?_
            refine lv_iload hx hb d_Mo_change_147 (lv_at hl 5 rfl) ?_
            obtain ⟨z37, hz37, hf⟩ := x_bind hf
            refine x_callS (w2 := (w_Mo cI cJ cZ oh o0 o1 o2 o3 o4 o5 o6 o7 o8 o9 o10 o11 o12 ((z34.2.1.1, (z34.2.1.2.1, ((upd z34.2.1.2.2.1 x2.toNatClampNeg (x5 - (6 : Int32))), z34.2.1.2.2.2))), z34.2.2))) ⟨hx, hb, hml, hown, hts⟩ (c_Mo_pageOf l D cI cJ cZ  N x5  z37 hz37) (x_cwS 1 hts rfl k_244 k_245 k_246 k_247 (by decide +kernel) ⟨(Nat.le_of_ble_eq_true rfl), (Nat.le_of_ble_eq_true rfl)⟩) hK hP hD hS hA hZ [] [0, 1, 2, 3, 4, 5, 6, 7, 8, 9, 10, 11, 12, 13] [0, 1, 2, 3, 4, 5, 6, 7, 8, 9, 10, 11, 12, 13] (by decide) rfl rfl (by decide) (by decide) (by decide) rfl rfl hl.1 rfl (Nat.le_of_ble_eq_true rfl) d_Mo_change_149 ⟨(Nat.le_of_ble_eq_true rfl), (Nat.le_of_ble_eq_true rfl)⟩ (fun H locs hP hD hS => ?_)
            refine W.eq (g2 := F0 m 152 ls [.int z37, .int (1 : Int32), .int (z34.2.2.2.2.2.1 x1.toNatClampNeg), .int x1, .ref o10]) rfl ?_
            refine lv_ishl hx hb d_Mo_change_152 ?_
            refine lv_ior hx hb d_Mo_change_153 ?_
            obtain ⟨g38, hf⟩ := x_if hf
            refine va_iast hx hb hK hP hD hS 11 0 rfl rfl (xi_in g38) d_Mo_change_154 (fun H locs hP hD hS => ?_)
            have hP : va_P D vwCl (w_Mo cI cJ cZ oh o0 o1 o2 o3 o4 o5 o6 o7 o8 o9 o10 o11 o12 ((z34.2.1.1, (z34.2.1.2.1, ((upd z34.2.1.2.2.1 x2.toNatClampNeg (x5 - (6 : Int32))), z34.2.1.2.2.2))), (z34.2.2.1, (z34.2.2.2.1, (z34.2.2.2.2.1, ((upd z34.2.2.2.2.2.1 x1.toNatClampNeg ((z34.2.2.2.2.2.1 x1.toNatClampNeg) ||| ((1 : Int32) <<< (z37 &&& 31)))), z34.2.2.2.2.2.2)))))) H := hP
            have hD : va_D A (w_Mo cI cJ cZ oh o0 o1 o2 o3 o4 o5 o6 o7 o8 o9 o10 o11 o12 ((z34.2.1.1, (z34.2.1.2.1, ((upd z34.2.1.2.2.1 x2.toNatClampNeg (x5 - (6 : Int32))), z34.2.1.2.2.2))), (z34.2.2.1, (z34.2.2.2.1, (z34.2.2.2.2.1, ((upd z34.2.2.2.2.2.1 x1.toNatClampNeg ((z34.2.2.2.2.2.1 x1.toNatClampNeg) ||| ((1 : Int32) <<< (z37 &&& 31)))), z34.2.2.2.2.2.2)))))) := hD
            refine lv_goto (tgt := 174) hx hb d_Mo_change_155 (by decide) ?_
            refine lv_aload_n hx hb d_Mo_change_174 rfl (lv_at hl 0 rfl) ?_
            refine va_get (D := D) (ci := 3) (v := .ref o0) (C := R_Mo) (T := F_Mo) (N := 19) hx hb hts i_Mo hown hK hP 0 rfl rfl 1 (by decide) (hts _ k_225) (fun _ h9 => h9) rfl d_Mo_change_175 ?_
            refine lv_iload_n hx hb d_Mo_change_178 rfl (lv_at hl 2 rfl) ?_
            refine lv_iload_n hx hb d_Mo_change_179 rfl (lv_at hl 1 rfl) ?_
            obtain ⟨g39, hf⟩ := x_if hf
            refine va_iast hx hb hK hP hD hS 1 0 rfl rfl (xi_in g39) d_Mo_change_180 (fun H locs hP hD hS => ?_)
            have hP : va_P D vwCl (w_Mo cI cJ cZ oh o0 o1 o2 o3 o4 o5 o6 o7 o8 o9 o10 o11 o12 (((upd z34.2.1.1 x2.toNatClampNeg x1), (z34.2.1.2.1, ((upd z34.2.1.2.2.1 x2.toNatClampNeg (x5 - (6 : Int32))), z34.2.1.2.2.2))), (z34.2.2.1, (z34.2.2.2.1, (z34.2.2.2.2.1, ((upd z34.2.2.2.2.2.1 x1.toNatClampNeg ((z34.2.2.2.2.2.1 x1.toNatClampNeg) ||| ((1 : Int32) <<< (z37 &&& 31)))), z34.2.2.2.2.2.2)))))) H := hP
            have hD : va_D A (w_Mo cI cJ cZ oh o0 o1 o2 o3 o4 o5 o6 o7 o8 o9 o10 o11 o12 (((upd z34.2.1.1 x2.toNatClampNeg x1), (z34.2.1.2.1, ((upd z34.2.1.2.2.1 x2.toNatClampNeg (x5 - (6 : Int32))), z34.2.1.2.2.2))), (z34.2.2.1, (z34.2.2.2.1, (z34.2.2.2.2.1, ((upd z34.2.2.2.2.2.1 x1.toNatClampNeg ((z34.2.2.2.2.2.1 x1.toNatClampNeg) ||| ((1 : Int32) <<< (z37 &&& 31)))), z34.2.2.2.2.2.2)))))) := hD
            refine lv_aload_n hx hb d_Mo_change_181 rfl (lv_at hl 0 rfl) ?_
            refine va_get (D := D) (ci := 3) (v := .ref o1) (C := R_Mo) (T := F_Mo) (N := 19) hx hb hts i_Mo hown hK hP 0 rfl rfl 2 (by decide) (hts _ k_226) (fun _ h9 => h9) rfl d_Mo_change_182 ?_
            refine lv_iload_n hx hb d_Mo_change_185 rfl (lv_at hl 2 rfl) ?_
            refine lv_iload_n hx hb d_Mo_change_186 rfl (lv_at hl 3 rfl) ?_
            obtain ⟨g40, hf⟩ := x_if hf
            refine va_iast hx hb hK hP hD hS 2 0 rfl rfl (xi_in g40) d_Mo_change_187 (fun H locs hP hD hS => ?_)
            have hP : va_P D vwCl (w_Mo cI cJ cZ oh o0 o1 o2 o3 o4 o5 o6 o7 o8 o9 o10 o11 o12 (((upd z34.2.1.1 x2.toNatClampNeg x1), ((upd z34.2.1.2.1 x2.toNatClampNeg x3), ((upd z34.2.1.2.2.1 x2.toNatClampNeg (x5 - (6 : Int32))), z34.2.1.2.2.2))), (z34.2.2.1, (z34.2.2.2.1, (z34.2.2.2.2.1, ((upd z34.2.2.2.2.2.1 x1.toNatClampNeg ((z34.2.2.2.2.2.1 x1.toNatClampNeg) ||| ((1 : Int32) <<< (z37 &&& 31)))), z34.2.2.2.2.2.2)))))) H := hP
            have hD : va_D A (w_Mo cI cJ cZ oh o0 o1 o2 o3 o4 o5 o6 o7 o8 o9 o10 o11 o12 (((upd z34.2.1.1 x2.toNatClampNeg x1), ((upd z34.2.1.2.1 x2.toNatClampNeg x3), ((upd z34.2.1.2.2.1 x2.toNatClampNeg (x5 - (6 : Int32))), z34.2.1.2.2.2))), (z34.2.2.1, (z34.2.2.2.1, (z34.2.2.2.2.1, ((upd z34.2.2.2.2.2.1 x1.toNatClampNeg ((z34.2.2.2.2.2.1 x1.toNatClampNeg) ||| ((1 : Int32) <<< (z37 &&& 31)))), z34.2.2.2.2.2.2)))))) := hD
            refine lv_aload_n hx hb d_Mo_change_188 rfl (lv_at hl 0 rfl) ?_
            refine va_get (D := D) (ci := 3) (v := .ref o8) (C := R_Mo) (T := F_Mo) (N := 19) hx hb hts i_Mo hown hK hP 0 rfl rfl 9 (by decide) (hts _ k_234) (fun _ h9 => h9) rfl d_Mo_change_189 ?_
            refine lv_iload hx hb d_Mo_change_192 (lv_at hl 4 rfl) ?_
            refine lv_iconst (v := (1 : Int32)) hx hb d_Mo_change_194 (by decide) ?_
            obtain ⟨g41, hf⟩ := x_if hf
            refine va_zast hx hb hK hP hD hS 9 2 rfl rfl (xi_in g41) d_Mo_change_195 (fun H locs hP hD hS => ?_)
            have hP : va_P D vwCl (w_Mo cI cJ cZ oh o0 o1 o2 o3 o4 o5 o6 o7 o8 o9 o10 o11 o12 (((upd z34.2.1.1 x2.toNatClampNeg x1), ((upd z34.2.1.2.1 x2.toNatClampNeg x3), ((upd z34.2.1.2.2.1 x2.toNatClampNeg (x5 - (6 : Int32))), z34.2.1.2.2.2))), (z34.2.2.1, ((upd z34.2.2.2.1 x4.toNatClampNeg (vp_nar .boolean (1 : Int32))), (z34.2.2.2.2.1, ((upd z34.2.2.2.2.2.1 x1.toNatClampNeg ((z34.2.2.2.2.2.1 x1.toNatClampNeg) ||| ((1 : Int32) <<< (z37 &&& 31)))), z34.2.2.2.2.2.2)))))) H := hP
            have hD : va_D A (w_Mo cI cJ cZ oh o0 o1 o2 o3 o4 o5 o6 o7 o8 o9 o10 o11 o12 (((upd z34.2.1.1 x2.toNatClampNeg x1), ((upd z34.2.1.2.1 x2.toNatClampNeg x3), ((upd z34.2.1.2.2.1 x2.toNatClampNeg (x5 - (6 : Int32))), z34.2.1.2.2.2))), (z34.2.2.1, ((upd z34.2.2.2.1 x4.toNatClampNeg (vp_nar .boolean (1 : Int32))), (z34.2.2.2.2.1, ((upd z34.2.2.2.2.2.1 x1.toNatClampNeg ((z34.2.2.2.2.2.1 x1.toNatClampNeg) ||| ((1 : Int32) <<< (z37 &&& 31)))), z34.2.2.2.2.2.2)))))) := hD
            refine lv_aload_n hx hb d_Mo_change_196 rfl (lv_at hl 0 rfl) ?_
            refine va_get (D := D) (ci := 3) (v := .ref o10) (C := R_Mo) (T := F_Mo) (N := 19) hx hb hts i_Mo hown hK hP 0 rfl rfl 11 (by decide) (hts _ k_236) (fun _ h9 => h9) rfl d_Mo_change_197 ?_
            refine lv_iload_n hx hb d_Mo_change_200 rfl (lv_at hl 1 rfl) ?_
            refine lv_dup2_11 hx hb d_Mo_change_201 rfl rfl ?_
            obtain ⟨g42, hf⟩ := x_if hf
            refine va_iald hx hb hK hP 11 0 rfl rfl (xi_in g42) d_Mo_change_202 ?_
            refine lv_iconst (v := (1 : Int32)) hx hb d_Mo_change_203 (by decide) ?_
            refine lv_iload hx hb d_Mo_change_204 (lv_at hl 4 rfl) ?_
            refine lv_ishl hx hb d_Mo_change_206 ?_
            refine lv_ior hx hb d_Mo_change_207 ?_
            obtain ⟨g43, hf⟩ := x_if hf
            refine va_iast hx hb hK hP hD hS 11 0 rfl rfl (xi_in g43) d_Mo_change_208 (fun H locs hP hD hS => ?_)
            have hP : va_P D vwCl (w_Mo cI cJ cZ oh o0 o1 o2 o3 o4 o5 o6 o7 o8 o9 o10 o11 o12 (((upd z34.2.1.1 x2.toNatClampNeg x1), ((upd z34.2.1.2.1 x2.toNatClampNeg x3), ((upd z34.2.1.2.2.1 x2.toNatClampNeg (x5 - (6 : Int32))), z34.2.1.2.2.2))), (z34.2.2.1, ((upd z34.2.2.2.1 x4.toNatClampNeg (vp_nar .boolean (1 : Int32))), (z34.2.2.2.2.1, ((upd (upd z34.2.2.2.2.2.1 x1.toNatClampNeg ((z34.2.2.2.2.2.1 x1.toNatClampNeg) ||| ((1 : Int32) <<< (z37 &&& 31)))) x1.toNatClampNeg (((upd z34.2.2.2.2.2.1 x1.toNatClampNeg ((z34.2.2.2.2.2.1 x1.toNatClampNeg) ||| ((1 : Int32) <<< (z37 &&& 31)))) x1.toNatClampNeg) ||| ((1 : Int32) <<< (x4 &&& 31)))), z34.2.2.2.2.2.2)))))) H := hP
            have hD : va_D A (w_Mo cI cJ cZ oh o0 o1 o2 o3 o4 o5 o6 o7 o8 o9 o10 o11 o12 (((upd z34.2.1.1 x2.toNatClampNeg x1), ((upd z34.2.1.2.1 x2.toNatClampNeg x3), ((upd z34.2.1.2.2.1 x2.toNatClampNeg (x5 - (6 : Int32))), z34.2.1.2.2.2))), (z34.2.2.1, ((upd z34.2.2.2.1 x4.toNatClampNeg (vp_nar .boolean (1 : Int32))), (z34.2.2.2.2.1, ((upd (upd z34.2.2.2.2.2.1 x1.toNatClampNeg ((z34.2.2.2.2.2.1 x1.toNatClampNeg) ||| ((1 : Int32) <<< (z37 &&& 31)))) x1.toNatClampNeg (((upd z34.2.2.2.2.2.1 x1.toNatClampNeg ((z34.2.2.2.2.2.1 x1.toNatClampNeg) ||| ((1 : Int32) <<< (z37 &&& 31)))) x1.toNatClampNeg) ||| ((1 : Int32) <<< (x4 &&& 31)))), z34.2.2.2.2.2.2)))))) := hD
            obtain rfl := Option.some.inj hf
            exact x_vret hx hb hr hlocks hK hP hD hS (Nat.le_of_ble_eq_true rfl) (Nat.le_of_ble_eq_true rfl) d_Mo_change_209
          · have hf := x_ifn c44 hf
            obtain rfl := Option.some.inj hf
            exact x_vret hx hb hr hlocks hK hP hD hS (Nat.le_of_ble_eq_true rfl) (Nat.le_of_ble_eq_true rfl) d_Mo_change_120
        · have hf := x_ifp c45 hf
          refine lv_aload_n hx hb d_Mo_change_96 rfl (lv_at hl 0 rfl) ?_
          refine lv_iconst (v := (2 : Int32)) hx hb d_Mo_change_97 (by decide) ?_
          refine va_put (D := D) (ci := 3) (v := .int (2 : Int32)) (ty := .int) (C := R_Mo) (T := F_Mo) (N := 19) hx hb hts i_Mo t_Mo t_Mo_ok n_Mo hown hK hP hD hS 0 rfl rfl 18 (by decide) (hts _ k_268) (fun _ h9 => h9) rfl (by decide +kernel) rfl rfl (Nat.le_of_ble_eq_true rfl) d_Mo_change_98 (fun H locs hP hD hS => ?_)
          have hP : va_P D vwCl (w_Mo cI cJ cZ oh o0 o1 o2 o3 o4 o5 o6 o7 o8 o9 o10 o11 o12 (U.1, (U.2.1, (U.2.2.1, (U.2.2.2.1, (U.2.2.2.2.1, (U.2.2.2.2.2.1, (U.2.2.2.2.2.2.1, (U.2.2.2.2.2.2.2.1, (U.2.2.2.2.2.2.2.2.1, (U.2.2.2.2.2.2.2.2.2.1, (U.2.2.2.2.2.2.2.2.2.2.1, (U.2.2.2.2.2.2.2.2.2.2.2.1, (2 : Int32)))))))))))))) H := hP
          have hD : va_D A (w_Mo cI cJ cZ oh o0 o1 o2 o3 o4 o5 o6 o7 o8 o9 o10 o11 o12 (U.1, (U.2.1, (U.2.2.1, (U.2.2.2.1, (U.2.2.2.2.1, (U.2.2.2.2.2.1, (U.2.2.2.2.2.2.1, (U.2.2.2.2.2.2.2.1, (U.2.2.2.2.2.2.2.2.1, (U.2.2.2.2.2.2.2.2.2.1, (U.2.2.2.2.2.2.2.2.2.2.1, (U.2.2.2.2.2.2.2.2.2.2.2.1, (2 : Int32)))))))))))))) := hD
          obtain rfl := Option.some.inj hf
          exact x_vret hx hb hr hlocks hK hP hD hS (Nat.le_of_ble_eq_true rfl) (Nat.le_of_ble_eq_true rfl) d_Mo_change_101
      · have hf := x_ifn c62 hf
        refine lv_aload_n hx hb d_Mo_change_73 rfl (lv_at hl 0 rfl) ?_
        refine va_get (D := D) (ci := 3) (v := .ref o0) (C := R_Mo) (T := F_Mo) (N := 19) hx hb hts i_Mo hown hK hP 0 rfl rfl 1 (by decide) (hts _ k_225) (fun _ h9 => h9) rfl d_Mo_change_74 ?_
        refine lv_iload hx hb d_Mo_change_77 (lv_at hl 5 rfl) ?_
        obtain ⟨g46, hf⟩ := x_if hf
        refine va_iald hx hb hK hP 1 0 rfl rfl (xi_in g46) d_Mo_change_79 ?_
        refine lv_if_eq (tgt := 89) hx hb d_Mo_change_80 (by decide) (fun c61 => ?_) (fun c61 => ?_)
        · have hf := x_ifp c61 hf
          refine lv_iload hx hb d_Mo_change_89 (lv_at hl 5 rfl) ?_
          refine lv_bipush (v := (15 : Int32)) hx hb d_Mo_change_91 (by decide) ?_
          refine lv_icmp_ne (tgt := 102) hx hb d_Mo_change_93 (by decide) (fun c60 => ?_) (fun c60 => ?_)
          · have hf := x_ifn c60 hf
            refine lv_aload_n hx hb d_Mo_change_102 rfl (lv_at hl 0 rfl) ?_
            refine lv_iload hx hb d_Mo_change_103 (lv_at hl 5 rfl) ?_
            obtain ⟨z47, hz47, hf⟩ := x_bind hf
            refine x_callS (w2 := (w_Mo cI cJ cZ oh o0 o1 o2 o3 o4 o5 o6 o7 o8 o9 o10 o11 o12 U)) ⟨hx, hb, hml, hown, hts⟩ (c_Mo_pageOf l D cI cJ cZ  N x5  z47 hz47) (x_cwS 1 hts rfl k_244 k_245 k_246 k_247 (by decide +kernel) ⟨(Nat.le_of_ble_eq_true rfl), (Nat.le_of_ble_eq_true rfl)⟩) hK hP hD hS hA hZ [] [0, 1, 2, 3, 4, 5, 6, 7, 8, 9, 10, 11, 12, 13] [0, 1, 2, 3, 4, 5, 6, 7, 8, 9, 10, 11, 12, 13] (by decide) rfl rfl (by decide) (by decide) (by decide) rfl rfl hl.1 rfl (Nat.le_of_ble_eq_true rfl) d_Mo_change_105 ⟨(Nat.le_of_ble_eq_true rfl), (Nat.le_of_ble_eq_true rfl)⟩ (fun H locs hP hD hS => ?_)
            refine W.eq (g2 := F0 m 108 ls [.int z47, .ref oh]) rfl ?_
            refine lv_iload hx hb d_Mo_change_108 (lv_at hl 4 rfl) ?_
            obtain ⟨z48, hz48, hf⟩ := x_bind hf
            refine x_callV (w2 := (w_Mo cI cJ cZ oh o0 o1 o2 o3 o4 o5 o6 o7 o8 o9 o10 o11 o12 z48.2)) ⟨hx, hb, hml, hown, hts⟩ (c_Mo_note l D cI cJ cZ oh o0 o1 o2 o3 o4 o5 o6 o7 o8 o9 o10 o11 o12 N z47 x4 U z48 hz48) (x_cwV 2 hts rfl k_312 k_313 k_314 k_246 k_315 (by decide +kernel) ⟨(Nat.le_of_ble_eq_true rfl), (Nat.le_of_ble_eq_true rfl)⟩) hK hP hD hS hA hZ [0, 1, 2, 3, 4, 5, 6, 7, 8, 9, 10, 11, 12, 13] [] [0, 1, 2, 3, 4, 5, 6, 7, 8, 9, 10, 11, 12, 13] (by decide) rfl rfl (by decide) (by decide) (by decide) rfl (ci := 3) rfl rfl rfl hl.1 rfl (Nat.le_of_ble_eq_true rfl) d_Mo_change_110 ⟨(Nat.le_of_ble_eq_true rfl), (Nat.le_of_ble_eq_true rfl)⟩ (fun H locs hP hD hS => ?_)
            refine W.eq (g2 := F0 m 113 ls []) rfl ?_
            refine lv_aload_n hx hb d_Mo_change_113 rfl (lv_at hl 0 rfl) ?_
            refine va_get (D := D) (ci := 3) (v := .int z48.2.2.2.2.2.2.2.2.2.2.2.2.1) (C := R_Mo) (T := F_Mo) (N := 19) hx hb hts i_Mo hown hK hP 0 rfl rfl 17 (by decide) (hts _ k_241) (fun _ h9 => h9) rfl d_Mo_change_114 ?_
            refine lv_if_eq (tgt := 121) hx hb d_Mo_change_117 (by decide) (fun c59 => ?_) (fun c59 => ?_)
            · have hf := x_ifp c59 hf
              refine lv_aload_n hx hb d_Mo_change_121 rfl (lv_at hl 0 rfl) ?_
              refine lv_iload_n hx hb d_Mo_change_122 rfl (lv_at hl 2 rfl) ?_
              refine lv_iload hx hb d_Mo_change_123 (lv_at hl 5 rfl) ?_
              obtain ⟨z49, hz49, hf⟩ := x_bind hf
              refine x_callV (w2 := (w_Mo cI cJ cZ oh o0 o1 o2 o3 o4 o5 o6 o7 o8 o9 o10 o11 o12 z49.2)) ⟨hx, hb, hml, hown, hts⟩ (c_Mo_move l D cI cJ cZ oh o0 o1 o2 o3 o4 o5 o6 o7 o8 o9 o10 o11 o12 N x2 x5 z48.2 z49 hz49) (x_cwV 2 hts rfl k_308 k_309 k_310 k_246 k_311 (by decide +kernel) ⟨(Nat.le_of_ble_eq_true rfl), (Nat.le_of_ble_eq_true rfl)⟩) hK hP hD hS hA hZ [0, 1, 2, 3, 4, 5, 6, 7, 8, 9, 10, 11, 12, 13] [] [0, 1, 2, 3, 4, 5, 6, 7, 8, 9, 10, 11, 12, 13] (by decide) rfl rfl (by decide) (by decide) (by decide) rfl (ci := 3) rfl rfl rfl hl.1 rfl (Nat.le_of_ble_eq_true rfl) d_Mo_change_125 ⟨(Nat.le_of_ble_eq_true rfl), (Nat.le_of_ble_eq_true rfl)⟩ (fun H locs hP hD hS => ?_)
              refine W.eq (g2 := F0 m 128 ls []) rfl ?_
              refine lv_aload_n hx hb d_Mo_change_128 rfl (lv_at hl 0 rfl) ?_
              refine va_get (D := D) (ci := 3) (v := .ref o2) (C := R_Mo) (T := F_Mo) (N := 19) hx hb hts i_Mo hown hK hP 0 rfl rfl 3 (by decide) (hts _ k_227) (fun _ h9 => h9) rfl d_Mo_change_129 ?_
              refine lv_iload_n hx hb d_Mo_change_132 rfl (lv_at hl 2 rfl) ?_
              refine lv_iload hx hb d_Mo_change_133 (lv_at hl 5 rfl) ?_
              refine lv_bipush (v := (6 : Int32)) hx hb d_Mo_change_135 (by decide) ?_
              refine lv_isub hx hb d_Mo_change_137 ?_
              obtain ⟨g50, hf⟩ := x_if hf
              refine va_iast hx hb hK hP hD hS 3 0 rfl rfl (xi_in g50) d_Mo_change_138 (fun H locs hP hD hS => ?_)
              have hP : va_P D vwCl (w_Mo cI cJ cZ oh o0 o1 o2 o3 o4 o5 o6 o7 o8 o9 o10 o11 o12 ((z49.2.1.1, (z49.2.1.2.1, ((upd z49.2.1.2.2.1 x2.toNatClampNeg (x5 - (6 : Int32))), z49.2.1.2.2.2))), z49.2.2)) H := hP
              have hD : va_D A (w_Mo cI cJ cZ oh o0 o1 o2 o3 o4 o5 o6 o7 o8 o9 o10 o11 o12 ((z49.2.1.1, (z49.2.1.2.1, ((upd z49.2.1.2.2.1 x2.toNatClampNeg (x5 - (6 : Int32))), z49.2.1.2.2.2))), z49.2.2)) := hD
              refine lv_aload_n hx hb d_Mo_change_139 rfl (lv_at hl 0 rfl) ?_
              refine va_get (D := D) (ci := 3) (v := .ref o10) (C := R_Mo) (T := F_Mo) (N := 19) hx hb hts i_Mo hown hK hP 0 rfl rfl 11 (by decide) (hts _ k_236) (fun _ h9 => h9) rfl d_Mo_change_140 ?_
              refine lv_iload_n hx hb d_Mo_change_143 rfl (lv_at hl 1 rfl) ?_
              refine lv_dup2_11 hx hb d_Mo_change_144 rfl rfl ?_
              obtain ⟨g51, hf⟩ := x_if hf
              refine va_iald hx hb hK hP 11 0 rfl rfl (xi_in g51) d_Mo_change_145 ?_
              refine lv_iconst (v := (1 : Int32)) hx hb d_Mo_change_146 (by decide) ?_
              refine lv_iload hx hb d_Mo_change_147 (lv_at hl 5 rfl) ?_
              obtain ⟨z52, hz52, hf⟩ := x_bind hf
              refine x_callS (w2 := (w_Mo cI cJ cZ oh o0 o1 o2 o3 o4 o5 o6 o7 o8 o9 o10 o11 o12 ((z49.2.1.1, (z49.2.1.2.1, ((upd z49.2.1.2.2.1 x2.toNatClampNeg (x5 - (6 : Int32))), z49.2.1.2.2.2))), z49.2.2))) ⟨hx, hb, hml, hown, hts⟩ (c_Mo_pageOf l D cI cJ cZ  N x5  z52 hz52) (x_cwS 1 hts rfl k_244 k_245 k_246 k_247 (by decide +kernel) ⟨(Nat.le_of_ble_eq_true rfl), (Nat.le_of_ble_eq_true rfl)⟩) hK hP hD hS hA hZ [] [0, 1, 2, 3, 4, 5, 6, 7, 8, 9, 10, 11, 12, 13] [0, 1, 2, 3, 4, 5, 6, 7, 8, 9, 10, 11, 12, 13] (by decide) rfl rfl (by decide) (by decide) (by decide) rfl rfl hl.1 rfl (Nat.le_of_ble_eq_true rfl) d_Mo_change_149 ⟨(Nat.le_of_ble_eq_true rfl), (Nat.le_of_ble_eq_true rfl)⟩ (fun H locs hP hD hS => ?_)
              refine W.eq (g2 := F0 m 152 ls [.int z52, .int (1 : Int32), .int (z49.2.2.2.2.2.1 x1.toNatClampNeg), .int x1, .ref o10]) rfl ?_
              refine lv_ishl hx hb d_Mo_change_152 ?_
              refine lv_ior hx hb d_Mo_change_153 ?_
              obtain ⟨g53, hf⟩ := x_if hf
              refine va_iast hx hb hK hP hD hS 11 0 rfl rfl (xi_in g53) d_Mo_change_154 (fun H locs hP hD hS => ?_)
              have hP : va_P D vwCl (w_Mo cI cJ cZ oh o0 o1 o2 o3 o4 o5 o6 o7 o8 o9 o10 o11 o12 ((z49.2.1.1, (z49.2.1.2.1, ((upd z49.2.1.2.2.1 x2.toNatClampNeg (x5 - (6 : Int32))), z49.2.1.2.2.2))), (z49.2.2.1, (z49.2.2.2.1, (z49.2.2.2.2.1, ((upd z49.2.2.2.2.2.1 x1.toNatClampNeg ((z49.2.2.2.2.2.1 x1.toNatClampNeg) ||| ((1 : Int32) <<< (z52 &&& 31)))), z49.2.2.2.2.2.2)))))) H := hP
              have hD : va_D A (w_Mo cI cJ cZ oh o0 o1 o2 o3 o4 o5 o6 o7 o8 o9 o10 o11 o12 ((z49.2.1.1, (z49.2.1.2.1, ((upd z49.2.1.2.2.1 x2.toNatClampNeg (x5 - (6 : Int32))), z49.2.1.2.2.2))), (z49.2.2.1, (z49.2.2.2.1, (z49.2.2.2.2.1, ((upd z49.2.2.2.2.2.1 x1.toNatClampNeg ((z49.2.2.2.2.2.1 x1.toNatClampNeg) ||| ((1 : Int32) <<< (z52 &&& 31)))), z49.2.2.2.2.2.2)))))) := hD
              refine lv_goto (tgt := 174) hx hb d_Mo_change_155 (by decide) ?_
              refine lv_aload_n hx hb d_Mo_change_174 rfl (lv_at hl 0 rfl) ?_
              refine va_get (D := D) (ci := 3) (v := .ref o0) (C := R_Mo) (T := F_Mo) (N := 19) hx hb hts i_Mo hown hK hP 0 rfl rfl 1 (by decide) (hts _ k_225) (fun _ h9 => h9) rfl d_Mo_change_175 ?_
              refine lv_iload_n hx hb d_Mo_change_178 rfl (lv_at hl 2 rfl) ?_
              refine lv_iload_n hx hb d_Mo_change_179 rfl (lv_at hl 1 rfl) ?_
              obtain ⟨g54, hf⟩ := x_if hf
              refine va_iast hx hb hK hP hD hS 1 0 rfl rfl (xi_in g54) d_Mo_change_180 (fun H locs hP hD hS => ?_)
              have hP : va_P D vwCl (w_Mo cI cJ cZ oh o0 o1 o2 o3 o4 o5 o6 o7 o8 o9 o10 o11 o12 (((upd z49.2.1.1 x2.toNatClampNeg x1), (z49.2.1.2.1, ((upd z49.2.1.2.2.1 x2.toNatClampNeg (x5 - (6 : Int32))), z49.2.1.2.2.2))), (z49.2.2.1, (z49.2.2.2.1, (z49.2.2.2.2.1, ((upd z49.2.2.2.2.2.1 x1.toNatClampNeg ((z49.2.2.2.2.2.1 x1.toNatClampNeg) ||| ((1 : Int32) <<< (z52 &&& 31)))), z49.2.2.2.2.2.2)))))) H := hP
              have hD : va_D A (w_Mo cI cJ cZ oh o0 o1 o2 o3 o4 o5 o6 o7 o8 o9 o10 o11 o12 (((upd z49.2.1.1 x2.toNatClampNeg x1), (z49.2.1.2.1, ((upd z49.2.1.2.2.1 x2.toNatClampNeg (x5 - (6 : Int32))), z49.2.1.2.2.2))), (z49.2.2.1, (z49.2.2.2.1, (z49.2.2.2.2.1, ((upd z49.2.2.2.2.2.1 x1.toNatClampNeg ((z49.2.2.2.2.2.1 x1.toNatClampNeg) ||| ((1 : Int32) <<< (z52 &&& 31)))), z49.2.2.2.2.2.2)))))) := hD
              refine lv_aload_n hx hb d_Mo_change_181 rfl (lv_at hl 0 rfl) ?_
              refine va_get (D := D) (ci := 3) (v := .ref o1) (C := R_Mo) (T := F_Mo) (N := 19) hx hb hts i_Mo hown hK hP 0 rfl rfl 2 (by decide) (hts _ k_226) (fun _ h9 => h9) rfl d_Mo_change_182 ?_
              refine lv_iload_n hx hb d_Mo_change_185 rfl (lv_at hl 2 rfl) ?_
              refine lv_iload_n hx hb d_Mo_change_186 rfl (lv_at hl 3 rfl) ?_
              obtain ⟨g55, hf⟩ := x_if hf
              refine va_iast hx hb hK hP hD hS 2 0 rfl rfl (xi_in g55) d_Mo_change_187 (fun H locs hP hD hS => ?_)
              have hP : va_P D vwCl (w_Mo cI cJ cZ oh o0 o1 o2 o3 o4 o5 o6 o7 o8 o9 o10 o11 o12 (((upd z49.2.1.1 x2.toNatClampNeg x1), ((upd z49.2.1.2.1 x2.toNatClampNeg x3), ((upd z49.2.1.2.2.1 x2.toNatClampNeg (x5 - (6 : Int32))), z49.2.1.2.2.2))), (z49.2.2.1, (z49.2.2.2.1, (z49.2.2.2.2.1, ((upd z49.2.2.2.2.2.1 x1.toNatClampNeg ((z49.2.2.2.2.2.1 x1.toNatClampNeg) ||| ((1 : Int32) <<< (z52 &&& 31)))), z49.2.2.2.2.2.2)))))) H := hP
              have hD : va_D A (w_Mo cI cJ cZ oh o0 o1 o2 o3 o4 o5 o6 o7 o8 o9 o10 o11 o12 (((upd z49.2.1.1 x2.toNatClampNeg x1), ((upd z49.2.1.2.1 x2.toNatClampNeg x3), ((upd z49.2.1.2.2.1 x2.toNatClampNeg (x5 - (6 : Int32))), z49.2.1.2.2.2))), (z49.2.2.1, (z49.2.2.2.1, (z49.2.2.2.2.1, ((upd z49.2.2.2.2.2.1 x1.toNatClampNeg ((z49.2.2.2.2.2.1 x1.toNatClampNeg) ||| ((1 : Int32) <<< (z52 &&& 31)))), z49.2.2.2.2.2.2)))))) := hD
              refine lv_aload_n hx hb d_Mo_change_188 rfl (lv_at hl 0 rfl) ?_
              refine va_get (D := D) (ci := 3) (v := .ref o8) (C := R_Mo) (T := F_Mo) (N := 19) hx hb hts i_Mo hown hK hP 0 rfl rfl 9 (by decide) (hts _ k_234) (fun _ h9 => h9) rfl d_Mo_change_189 ?_
              refine lv_iload hx hb d_Mo_change_192 (lv_at hl 4 rfl) ?_
              refine lv_iconst (v := (1 : Int32)) hx hb d_Mo_change_194 (by decide) ?_
              obtain ⟨g56, hf⟩ := x_if hf
              refine va_zast hx hb hK hP hD hS 9 2 rfl rfl (xi_in g56) d_Mo_change_195 (fun H locs hP hD hS => ?_)
              have hP : va_P D vwCl (w_Mo cI cJ cZ oh o0 o1 o2 o3 o4 o5 o6 o7 o8 o9 o10 o11 o12 (((upd z49.2.1.1 x2.toNatClampNeg x1), ((upd z49.2.1.2.1 x2.toNatClampNeg x3), ((upd z49.2.1.2.2.1 x2.toNatClampNeg (x5 - (6 : Int32))), z49.2.1.2.2.2))), (z49.2.2.1, ((upd z49.2.2.2.1 x4.toNatClampNeg (vp_nar .boolean (1 : Int32))), (z49.2.2.2.2.1, ((upd z49.2.2.2.2.2.1 x1.toNatClampNeg ((z49.2.2.2.2.2.1 x1.toNatClampNeg) ||| ((1 : Int32) <<< (z52 &&& 31)))), z49.2.2.2.2.2.2)))))) H := hP
              have hD : va_D A (w_Mo cI cJ cZ oh o0 o1 o2 o3 o4 o5 o6 o7 o8 o9 o10 o11 o12 (((upd z49.2.1.1 x2.toNatClampNeg x1), ((upd z49.2.1.2.1 x2.toNatClampNeg x3), ((upd z49.2.1.2.2.1 x2.toNatClampNeg (x5 - (6 : Int32))), z49.2.1.2.2.2))), (z49.2.2.1, ((upd z49.2.2.2.1 x4.toNatClampNeg (vp_nar .boolean (1 : Int32))), (z49.2.2.2.2.1, ((upd z49.2.2.2.2.2.1 x1.toNatClampNeg ((z49.2.2.2.2.2.1 x1.toNatClampNeg) ||| ((1 : Int32) <<< (z52 &&& 31)))), z49.2.2.2.2.2.2)))))) := hD
              refine lv_aload_n hx hb d_Mo_change_196 rfl (lv_at hl 0 rfl) ?_
              refine va_get (D := D) (ci := 3) (v := .ref o10) (C := R_Mo) (T := F_Mo) (N := 19) hx hb hts i_Mo hown hK hP 0 rfl rfl 11 (by decide) (hts _ k_236) (fun _ h9 => h9) rfl d_Mo_change_197 ?_
              refine lv_iload_n hx hb d_Mo_change_200 rfl (lv_at hl 1 rfl) ?_
              refine lv_dup2_11 hx hb d_Mo_change_201 rfl rfl ?_
              obtain ⟨g57, hf⟩ := x_if hf
              refine va_iald hx hb hK hP 11 0 rfl rfl (xi_in g57) d_Mo_change_202 ?_
              refine lv_iconst (v := (1 : Int32)) hx hb d_Mo_change_203 (by decide) ?_
              refine lv_iload hx hb d_Mo_change_204 (lv_at hl 4 rfl) ?_
              refine lv_ishl hx hb d_Mo_change_206 ?_
              refine lv_ior hx hb d_Mo_change_207 ?_
              obtain ⟨g58, hf⟩ := x_if hf
              refine va_iast hx hb hK hP hD hS 11 0 rfl rfl (xi_in g58) d_Mo_change_208 (fun H locs hP hD hS => ?_)
              have hP : va_P D vwCl (w_Mo cI cJ cZ oh o0 o1 o2 o3 o4 o5 o6 o7 o8 o9 o10 o11 o12 (((upd z49.2.1.1 x2.toNatClampNeg x1), ((upd z49.2.1.2.1 x2.toNatClampNeg x3), ((upd z49.2.1.2.2.1 x2.toNatClampNeg (x5 - (6 : Int32))), z49.2.1.2.2.2))), (z49.2.2.1, ((upd z49.2.2.2.1 x4.toNatClampNeg (vp_nar .boolean (1 : Int32))), (z49.2.2.2.2.1, ((upd (upd z49.2.2.2.2.2.1 x1.toNatClampNeg ((z49.2.2.2.2.2.1 x1.toNatClampNeg) ||| ((1 : Int32) <<< (z52 &&& 31)))) x1.toNatClampNeg (((upd z49.2.2.2.2.2.1 x1.toNatClampNeg ((z49.2.2.2.2.2.1 x1.toNatClampNeg) ||| ((1 : Int32) <<< (z52 &&& 31)))) x1.toNatClampNeg) ||| ((1 : Int32) <<< (x4 &&& 31)))), z49.2.2.2.2.2.2)))))) H := hP
              have hD : va_D A (w_Mo cI cJ cZ oh o0 o1 o2 o3 o4 o5 o6 o7 o8 o9 o10 o11 o12 (((upd z49.2.1.1 x2.toNatClampNeg x1), ((upd z49.2.1.2.1 x2.toNatClampNeg x3), ((upd z49.2.1.2.2.1 x2.toNatClampNeg (x5 - (6 : Int32))), z49.2.1.2.2.2))), (z49.2.2.1, ((upd z49.2.2.2.1 x4.toNatClampNeg (vp_nar .boolean (1 : Int32))), (z49.2.2.2.2.1, ((upd (upd z49.2.2.2.2.2.1 x1.toNatClampNeg ((z49.2.2.2.2.2.1 x1.toNatClampNeg) ||| ((1 : Int32) <<< (z52 &&& 31)))) x1.toNatClampNeg (((upd z49.2.2.2.2.2.1 x1.toNatClampNeg ((z49.2.2.2.2.2.1 x1.toNatClampNeg) ||| ((1 : Int32) <<< (z52 &&& 31)))) x1.toNatClampNeg) ||| ((1 : Int32) <<< (x4 &&& 31)))), z49.2.2.2.2.2.2)))))) := hD
              obtain rfl := Option.some.inj hf
              exact x_vret hx hb hr hlocks hK hP hD hS (Nat.le_of_ble_eq_true rfl) (Nat.le_of_ble_eq_true rfl) d_Mo_change_209
            · have hf := x_ifn c59 hf
              obtain rfl := Option.some.inj hf
              exact x_vret hx hb hr hlocks hK hP hD hS (Nat.le_of_ble_eq_true rfl) (Nat.le_of_ble_eq_true rfl) d_Mo_change_120
          · have hf := x_ifp c60 hf
            refine lv_aload_n hx hb d_Mo_change_96 rfl (lv_at hl 0 rfl) ?_
            refine lv_iconst (v := (2 : Int32)) hx hb d_Mo_change_97 (by decide) ?_
            refine va_put (D := D) (ci := 3) (v := .int (2 : Int32)) (ty := .int) (C := R_Mo) (T := F_Mo) (N := 19) hx hb hts i_Mo t_Mo t_Mo_ok n_Mo hown hK hP hD hS 0 rfl rfl 18 (by decide) (hts _ k_268) (fun _ h9 => h9) rfl (by decide +kernel) rfl rfl (Nat.le_of_ble_eq_true rfl) d_Mo_change_98 (fun H locs hP hD hS => ?_)
            have hP : va_P D vwCl (w_Mo cI cJ cZ oh o0 o1 o2 o3 o4 o5 o6 o7 o8 o9 o10 o11 o12 (U.1, (U.2.1, (U.2.2.1, (U.2.2.2.1, (U.2.2.2.2.1, (U.2.2.2.2.2.1, (U.2.2.2.2.2.2.1, (U.2.2.2.2.2.2.2.1, (U.2.2.2.2.2.2.2.2.1, (U.2.2.2.2.2.2.2.2.2.1, (U.2.2.2.2.2.2.2.2.2.2.1, (U.2.2.2.2.2.2.2.2.2.2.2.1, (2 : Int32)))))))))))))) H := hP
            have hD : va_D A (w_Mo cI cJ cZ oh o0 o1 o2 o3 o4 o5 o6 o7 o8 o9 o10 o11 o12 (U.1, (U.2.1, (U.2.2.1, (U.2.2.2.1, (U.2.2.2.2.1, (U.2.2.2.2.2.1, (U.2.2.2.2.2.2.1, (U.2.2.2.2.2.2.2.1, (U.2.2.2.2.2.2.2.2.1, (U.2.2.2.2.2.2.2.2.2.1, (U.2.2.2.2.2.2.2.2.2.2.1, (U.2.2.2.2.2.2.2.2.2.2.2.1, (2 : Int32)))))))))))))) := hD
            obtain rfl := Option.some.inj hf
            exact x_vret hx hb hr hlocks hK hP hD hS (Nat.le_of_ble_eq_true rfl) (Nat.le_of_ble_eq_true rfl) d_Mo_change_101
        · have hf := x_ifn c61 hf
          refine lv_iinc (v := (x5 + (1 : Int32))) (lv' := [(5, .int (x5 + (1 : Int32))), (0, .ref oh), (1, .int x1), (2, .int x2), (3, .int x3), (4, .int x4)]) hx hb d_Mo_change_83 hl (k := 5) rfl rfl (by decide) rfl (fun ls hl => ?_)
          refine lv_goto (tgt := 66) hx hb d_Mo_change_86 (by decide) ?_
          exact ih _ _ _ _ _ _ hf _ _ _ hP hD hS (lv_sub hl [1, 2, 3, 4, 5, 0] rfl)
  refine lv_aload_n hx hb d_Mo_change_0 rfl (lv_at hl 0 rfl) ?_
  refine lv_iload_n hx hb d_Mo_change_1 rfl (lv_at hl 2 rfl) ?_
  obtain ⟨z1, hz1, hf⟩ := x_bind hf
  refine x_callV (w2 := (w_Mo cI cJ cZ oh o0 o1 o2 o3 o4 o5 o6 o7 o8 o9 o10 o11 o12 z1.2)) ⟨hx, hb, hml, hown, hts⟩ (c_Mo_clean l D cI cJ cZ oh o0 o1 o2 o3 o4 o5 o6 o7 o8 o9 o10 o11 o12 N p1 U z1 hz1) (x_cwV 1 hts rfl k_316 k_317 k_318 k_246 k_319 (by decide +kernel) ⟨(Nat.le_of_ble_eq_true rfl), (Nat.le_of_ble_eq_true rfl)⟩) hK hP hD hS hA hZ [0, 1, 2, 3, 4, 5, 6, 7, 8, 9, 10, 11, 12, 13] [] [0, 1, 2, 3, 4, 5, 6, 7, 8, 9, 10, 11, 12, 13] (by decide) rfl rfl (by decide) (by decide) (by decide) rfl (ci := 3) rfl rfl rfl hl.1 rfl (Nat.le_of_ble_eq_true rfl) d_Mo_change_2 ⟨(Nat.le_of_ble_eq_true rfl), (Nat.le_of_ble_eq_true rfl)⟩ (fun H locs hP hD hS => ?_)
  refine W.eq (g2 := F0 m 5 ls []) rfl ?_
  refine lv_aload_n hx hb d_Mo_change_5 rfl (lv_at hl 0 rfl) ?_
  refine va_get (D := D) (ci := 3) (v := .int z1.2.2.2.2.2.2.2.2.2.2.2.2.1) (C := R_Mo) (T := F_Mo) (N := 19) hx hb hts i_Mo hown hK hP 0 rfl rfl 17 (by decide) (hts _ k_241) (fun _ h9 => h9) rfl d_Mo_change_6 ?_
  refine lv_if_eq (tgt := 13) hx hb d_Mo_change_9 (by decide) (fun c99 => ?_) (fun c99 => ?_)
  · have hf := x_ifp c99 hf
    refine lv_aload_n hx hb d_Mo_change_13 rfl (lv_at hl 0 rfl) ?_
    refine va_get (D := D) (ci := 3) (v := .ref o0) (C := R_Mo) (T := F_Mo) (N := 19) hx hb hts i_Mo hown hK hP 0 rfl rfl 1 (by decide) (hts _ k_225) (fun _ h9 => h9) rfl d_Mo_change_14 ?_
    refine lv_iload_n hx hb d_Mo_change_17 rfl (lv_at hl 2 rfl) ?_
    obtain ⟨g2, hf⟩ := x_if hf
    refine va_iald hx hb hK hP 1 0 rfl rfl (xi_in g2) d_Mo_change_18 ?_
    refine lv_if_eq (tgt := 37) hx hb d_Mo_change_19 (by decide) (fun c98 => ?_) (fun c98 => ?_)
    · have hf := x_ifp c98 hf
      refine lv_iload_n hx hb d_Mo_change_37 rfl (lv_at hl 2 rfl) ?_
      obtain ⟨z3, hz3, hf⟩ := x_bind hf
      refine x_callS (w2 := (w_Mo cI cJ cZ oh o0 o1 o2 o3 o4 o5 o6 o7 o8 o9 o10 o11 o12 z1.2)) ⟨hx, hb, hml, hown, hts⟩ (c_Mo_pageOf l D cI cJ cZ  N p1  z3 hz3) (x_cwS 1 hts rfl k_244 k_245 k_246 k_247 (by decide +kernel) ⟨(Nat.le_of_ble_eq_true rfl), (Nat.le_of_ble_eq_true rfl)⟩) hK hP hD hS hA hZ [] [0, 1, 2, 3, 4, 5, 6, 7, 8, 9, 10, 11, 12, 13] [0, 1, 2, 3, 4, 5, 6, 7, 8, 9, 10, 11, 12, 13] (by decide) rfl rfl (by decide) (by decide) (by decide) rfl rfl hl.1 rfl (Nat.le_of_ble_eq_true rfl) d_Mo_change_38 ⟨(Nat.le_of_ble_eq_true rfl), (Nat.le_of_ble_eq_true rfl)⟩ (fun H locs hP hD hS => ?_)
      refine W.eq (g2 := F0 m 41 ls [.int z3]) rfl ?_
      refine lv_istore (lv' := [(4, .int z3), (0, .ref oh), (1, .int p0), (2, .int p1), (3, .int p2)]) hx hb d_Mo_change_41 hl (by decide) rfl (fun ls hl => ?_)
      refine lv_aload_n hx hb d_Mo_change_43 rfl (lv_at hl 1 rfl) ?_
      refine va_get (D := D) (ci := 3) (v := .ref o0) (C := R_Mo) (T := F_Mo) (N := 19) hx hb hts i_Mo hown hK hP 0 rfl rfl 1 (by decide) (hts _ k_225) (fun _ h9 => h9) rfl d_Mo_change_44 ?_
      refine lv_iload_n hx hb d_Mo_change_47 rfl (lv_at hl 3 rfl) ?_
      obtain ⟨g4, hf⟩ := x_if hf
      refine va_iald hx hb hK hP 1 0 rfl rfl (xi_in g4) d_Mo_change_48 ?_
      refine lv_iload_n hx hb d_Mo_change_49 rfl (lv_at hl 2 rfl) ?_
      refine lv_icmp_eq (tgt := 158) hx hb d_Mo_change_50 (by decide) (fun c64 => ?_) (fun c64 => ?_)
      · have hf := x_ifp c64 hf
        refine lv_aload_n hx hb d_Mo_change_158 rfl (lv_at hl 1 rfl) ?_
        refine va_get (D := D) (ci := 3) (v := .ref o0) (C := R_Mo) (T := F_Mo) (N := 19) hx hb hts i_Mo hown hK hP 0 rfl rfl 1 (by decide) (hts _ k_225) (fun _ h9 => h9) rfl d_Mo_change_159 ?_
        refine lv_iload_n hx hb d_Mo_change_162 rfl (lv_at hl 3 rfl) ?_
        obtain ⟨g5, hf⟩ := x_if hf
        refine va_iald hx hb hK hP 1 0 rfl rfl (xi_in g5) d_Mo_change_163 ?_
        refine lv_if_ne (tgt := 174) hx hb d_Mo_change_164 (by decide) (fun c17 => ?_) (fun c17 => ?_)
        · have hf := x_ifn c17 hf
          refine lv_aload_n hx hb d_Mo_change_174 rfl (lv_at hl 1 rfl) ?_
          refine va_get (D := D) (ci := 3) (v := .ref o0) (C := R_Mo) (T := F_Mo) (N := 19) hx hb hts i_Mo hown hK hP 0 rfl rfl 1 (by decide) (hts _ k_225) (fun _ h9 => h9) rfl d_Mo_change_175 ?_
          refine lv_iload_n hx hb d_Mo_change_178 rfl (lv_at hl 3 rfl) ?_
          refine lv_iload_n hx hb d_Mo_change_179 rfl (lv_at hl 2 rfl) ?_
          obtain ⟨g6, hf⟩ := x_if hf
          refine va_iast hx hb hK hP hD hS 1 0 rfl rfl (xi_in g6) d_Mo_change_180 (fun H locs hP hD hS => ?_)
          have hP : va_P D vwCl (w_Mo cI cJ cZ oh o0 o1 o2 o3 o4 o5 o6 o7 o8 o9 o10 o11 o12 (((upd z1.2.1.1 p1.toNatClampNeg p0), z1.2.1.2), z1.2.2)) H := hP
          have hD : va_D A (w_Mo cI cJ cZ oh o0 o1 o2 o3 o4 o5 o6 o7 o8 o9 o10 o11 o12 (((upd z1.2.1.1 p1.toNatClampNeg p0), z1.2.1.2), z1.2.2)) := hD
          refine lv_aload_n hx hb d_Mo_change_181 rfl (lv_at hl 1 rfl) ?_
          refine va_get (D := D) (ci := 3) (v := .ref o1) (C := R_Mo) (T := F_Mo) (N := 19) hx hb hts i_Mo hown hK hP 0 rfl rfl 2 (by decide) (hts _ k_226) (fun _ h9 => h9) rfl d_Mo_change_182 ?_
          refine lv_iload_n hx hb d_Mo_change_185 rfl (lv_at hl 3 rfl) ?_
          refine lv_iload_n hx hb d_Mo_change_186 rfl (lv_at hl 4 rfl) ?_
          obtain ⟨g7, hf⟩ := x_if hf
          refine va_iast hx hb hK hP hD hS 2 0 rfl rfl (xi_in g7) d_Mo_change_187 (fun H locs hP hD hS => ?_)
          have hP : va_P D vwCl (w_Mo cI cJ cZ oh o0 o1 o2 o3 o4 o5 o6 o7 o8 o9 o10 o11 o12 (((upd z1.2.1.1 p1.toNatClampNeg p0), ((upd z1.2.1.2.1 p1.toNatClampNeg p2), z1.2.1.2.2)), z1.2.2)) H := hP
          have hD : va_D A (w_Mo cI cJ cZ oh o0 o1 o2 o3 o4 o5 o6 o7 o8 o9 o10 o11 o12 (((upd z1.2.1.1 p1.toNatClampNeg p0), ((upd z1.2.1.2.1 p1.toNatClampNeg p2), z1.2.1.2.2)), z1.2.2)) := hD
          refine lv_aload_n hx hb d_Mo_change_188 rfl (lv_at hl 1 rfl) ?_
          refine va_get (D := D) (ci := 3) (v := .ref o8) (C := R_Mo) (T := F_Mo) (N := 19) hx hb hts i_Mo hown hK hP 0 rfl rfl 9 (by decide) (hts _ k_234) (fun _ h9 => h9) rfl d_Mo_change_189 ?_
          refine lv_iload hx hb d_Mo_change_192 (lv_at hl 0 rfl) ?_
          refine lv_iconst (v := (1 : Int32)) hx hb d_Mo_change_194 (by decide) ?_
          obtain ⟨g8, hf⟩ := x_if hf
          refine va_zast hx hb hK hP hD hS 9 2 rfl rfl (xi_in g8) d_Mo_change_195 (fun H locs hP hD hS => ?_)
          have hP : va_P D vwCl (w_Mo cI cJ cZ oh o0 o1 o2 o3 o4 o5 o6 o7 o8 o9 o10 o11 o12 (((upd z1.2.1.1 p1.toNatClampNeg p0), ((upd z1.2.1.2.1 p1.toNatClampNeg p2), z1.2.1.2.2)), (z1.2.2.1, ((upd z1.2.2.2.1 z3.toNatClampNeg (vp_nar .boolean (1 : Int32))), z1.2.2.2.2)))) H := hP
          have hD : va_D A (w_Mo cI cJ cZ oh o0 o1 o2 o3 o4 o5 o6 o7 o8 o9 o10 o11 o12 (((upd z1.2.1.1 p1.toNatClampNeg p0), ((upd z1.2.1.2.1 p1.toNatClampNeg p2), z1.2.1.2.2)), (z1.2.2.1, ((upd z1.2.2.2.1 z3.toNatClampNeg (vp_nar .boolean (1 : Int32))), z1.2.2.2.2)))) := hD
          refine lv_aload_n hx hb d_Mo_change_196 rfl (lv_at hl 1 rfl) ?_
          refine va_get (D := D) (ci := 3) (v := .ref o10) (C := R_Mo) (T := F_Mo) (N := 19) hx hb hts i_Mo hown hK hP 0 rfl rfl 11 (by decide) (hts _ k_236) (fun _ h9 => h9) rfl d_Mo_change_197 ?_
          refine lv_iload_n hx hb d_Mo_change_200 rfl (lv_at hl 2 rfl) ?_
          refine lv_dup2_11 hx hb d_Mo_change_201 rfl rfl ?_
          obtain ⟨g9, hf⟩ := x_if hf
          refine va_iald hx hb hK hP 11 0 rfl rfl (xi_in g9) d_Mo_change_202 ?_
          refine lv_iconst (v := (1 : Int32)) hx hb d_Mo_change_203 (by decide) ?_
          refine lv_iload hx hb d_Mo_change_204 (lv_at hl 0 rfl) ?_
          refine lv_ishl hx hb d_Mo_change_206 ?_
          refine lv_ior hx hb d_Mo_change_207 ?_
          obtain ⟨g10, hf⟩ := x_if hf
          refine va_iast hx hb hK hP hD hS 11 0 rfl rfl (xi_in g10) d_Mo_change_208 (fun H locs hP hD hS => ?_)
          have hP : va_P D vwCl (w_Mo cI cJ cZ oh o0 o1 o2 o3 o4 o5 o6 o7 o8 o9 o10 o11 o12 (((upd z1.2.1.1 p1.toNatClampNeg p0), ((upd z1.2.1.2.1 p1.toNatClampNeg p2), z1.2.1.2.2)), (z1.2.2.1, ((upd z1.2.2.2.1 z3.toNatClampNeg (vp_nar .boolean (1 : Int32))), (z1.2.2.2.2.1, ((upd z1.2.2.2.2.2.1 p0.toNatClampNeg ((z1.2.2.2.2.2.1 p0.toNatClampNeg) ||| ((1 : Int32) <<< (z3 &&& 31)))), z1.2.2.2.2.2.2)))))) H := hP
          have hD : va_D A (w_Mo cI cJ cZ oh o0 o1 o2 o3 o4 o5 o6 o7 o8 o9 o10 o11 o12 (((upd z1.2.1.1 p1.toNatClampNeg p0), ((upd z1.2.1.2.1 p1.toNatClampNeg p2), z1.2.1.2.2)), (z1.2.2.1, ((upd z1.2.2.2.1 z3.toNatClampNeg (vp_nar .boolean (1 : Int32))), (z1.2.2.2.2.1, ((upd z1.2.2.2.2.2.1 p0.toNatClampNeg ((z1.2.2.2.2.2.1 p0.toNatClampNeg) ||| ((1 : Int32) <<< (z3 &&& 31)))), z1.2.2.2.2.2.2)))))) := hD
          obtain rfl := Option.some.inj hf
          exact x_vret hx hb hr hlocks hK hP hD hS (Nat.le_of_ble_eq_true rfl) (Nat.le_of_ble_eq_true rfl) d_Mo_change_209
        · have hf := x_ifp c17 hf
          refine lv_aload_n hx hb d_Mo_change_167 rfl (lv_at hl 1 rfl) ?_
          refine va_get (D := D) (ci := 3) (v := .ref o2) (C := R_Mo) (T := F_Mo) (N := 19) hx hb hts i_Mo hown hK hP 0 rfl rfl 3 (by decide) (hts _ k_227) (fun _ h9 => h9) rfl d_Mo_change_168 ?_
          refine lv_iload_n hx hb d_Mo_change_171 rfl (lv_at hl 3 rfl) ?_
          refine lv_iconst (v := (-1 : Int32)) hx hb d_Mo_change_172 (by decide) ?_
          obtain ⟨g11, hf⟩ := x_if hf
          refine va_iast hx hb hK hP hD hS 3 0 rfl rfl (xi_in g11) d_Mo_change_173 (fun H locs hP hD hS => ?_)
          have hP : va_P D vwCl (w_Mo cI cJ cZ oh o0 o1 o2 o3 o4 o5 o6 o7 o8 o9 o10 o11 o12 ((z1.2.1.1, (z1.2.1.2.1, ((upd z1.2.1.2.2.1 p1.toNatClampNeg (-1 : Int32)), z1.2.1.2.2.2))), z1.2.2)) H := hP
          have hD : va_D A (w_Mo cI cJ cZ oh o0 o1 o2 o3 o4 o5 o6 o7 o8 o9 o10 o11 o12 ((z1.2.1.1, (z1.2.1.2.1, ((upd z1.2.1.2.2.1 p1.toNatClampNeg (-1 : Int32)), z1.2.1.2.2.2))), z1.2.2)) := hD
          refine lv_aload_n hx hb d_Mo_change_174 rfl (lv_at hl 1 rfl) ?_
          refine va_get (D := D) (ci := 3) (v := .ref o0) (C := R_Mo) (T := F_Mo) (N := 19) hx hb hts i_Mo hown hK hP 0 rfl rfl 1 (by decide) (hts _ k_225) (fun _ h9 => h9) rfl d_Mo_change_175 ?_
          refine lv_iload_n hx hb d_Mo_change_178 rfl (lv_at hl 3 rfl) ?_
          refine lv_iload_n hx hb d_Mo_change_179 rfl (lv_at hl 2 rfl) ?_
          obtain ⟨g12, hf⟩ := x_if hf
          refine va_iast hx hb hK hP hD hS 1 0 rfl rfl (xi_in g12) d_Mo_change_180 (fun H locs hP hD hS => ?_)
          have hP : va_P D vwCl (w_Mo cI cJ cZ oh o0 o1 o2 o3 o4 o5 o6 o7 o8 o9 o10 o11 o12 (((upd z1.2.1.1 p1.toNatClampNeg p0), (z1.2.1.2.1, ((upd z1.2.1.2.2.1 p1.toNatClampNeg (-1 : Int32)), z1.2.1.2.2.2))), z1.2.2)) H := hP
          have hD : va_D A (w_Mo cI cJ cZ oh o0 o1 o2 o3 o4 o5 o6 o7 o8 o9 o10 o11 o12 (((upd z1.2.1.1 p1.toNatClampNeg p0), (z1.2.1.2.1, ((upd z1.2.1.2.2.1 p1.toNatClampNeg (-1 : Int32)), z1.2.1.2.2.2))), z1.2.2)) := hD
          refine lv_aload_n hx hb d_Mo_change_181 rfl (lv_at hl 1 rfl) ?_
          refine va_get (D := D) (ci := 3) (v := .ref o1) (C := R_Mo) (T := F_Mo) (N := 19) hx hb hts i_Mo hown hK hP 0 rfl rfl 2 (by decide) (hts _ k_226) (fun _ h9 => h9) rfl d_Mo_change_182 ?_
          refine lv_iload_n hx hb d_Mo_change_185 rfl (lv_at hl 3 rfl) ?_
          refine lv_iload_n hx hb d_Mo_change_186 rfl (lv_at hl 4 rfl) ?_
          obtain ⟨g13, hf⟩ := x_if hf
          refine va_iast hx hb hK hP hD hS 2 0 rfl rfl (xi_in g13) d_Mo_change_187 (fun H locs hP hD hS => ?_)
          have hP : va_P D vwCl (w_Mo cI cJ cZ oh o0 o1 o2 o3 o4 o5 o6 o7 o8 o9 o10 o11 o12 (((upd z1.2.1.1 p1.toNatClampNeg p0), ((upd z1.2.1.2.1 p1.toNatClampNeg p2), ((upd z1.2.1.2.2.1 p1.toNatClampNeg (-1 : Int32)), z1.2.1.2.2.2))), z1.2.2)) H := hP
          have hD : va_D A (w_Mo cI cJ cZ oh o0 o1 o2 o3 o4 o5 o6 o7 o8 o9 o10 o11 o12 (((upd z1.2.1.1 p1.toNatClampNeg p0), ((upd z1.2.1.2.1 p1.toNatClampNeg p2), ((upd z1.2.1.2.2.1 p1.toNatClampNeg (-1 : Int32)), z1.2.1.2.2.2))), z1.2.2)) := hD
          refine lv_aload_n hx hb d_Mo_change_188 rfl (lv_at hl 1 rfl) ?_
          refine va_get (D := D) (ci := 3) (v := .ref o8) (C := R_Mo) (T := F_Mo) (N := 19) hx hb hts i_Mo hown hK hP 0 rfl rfl 9 (by decide) (hts _ k_234) (fun _ h9 => h9) rfl d_Mo_change_189 ?_
          refine lv_iload hx hb d_Mo_change_192 (lv_at hl 0 rfl) ?_
          refine lv_iconst (v := (1 : Int32)) hx hb d_Mo_change_194 (by decide) ?_
          obtain ⟨g14, hf⟩ := x_if hf
          refine va_zast hx hb hK hP hD hS 9 2 rfl rfl (xi_in g14) d_Mo_change_195 (fun H locs hP hD hS => ?_)
          have hP : va_P D vwCl (w_Mo cI cJ cZ oh o0 o1 o2 o3 o4 o5 o6 o7 o8 o9 o10 o11 o12 (((upd z1.2.1.1 p1.toNatClampNeg p0), ((upd z1.2.1.2.1 p1.toNatClampNeg p2), ((upd z1.2.1.2.2.1 p1.toNatClampNeg (-1 : Int32)), z1.2.1.2.2.2))), (z1.2.2.1, ((upd z1.2.2.2.1 z3.toNatClampNeg (vp_nar .boolean (1 : Int32))), z1.2.2.2.2)))) H := hP
          have hD : va_D A (w_Mo cI cJ cZ oh o0 o1 o2 o3 o4 o5 o6 o7 o8 o9 o10 o11 o12 (((upd z1.2.1.1 p1.toNatClampNeg p0), ((upd z1.2.1.2.1 p1.toNatClampNeg p2), ((upd z1.2.1.2.2.1 p1.toNatClampNeg (-1 : Int32)), z1.2.1.2.2.2))), (z1.2.2.1, ((upd z1.2.2.2.1 z3.toNatClampNeg (vp_nar .boolean (1 : Int32))), z1.2.2.2.2)))) := hD
          refine lv_aload_n hx hb d_Mo_change_196 rfl (lv_at hl 1 rfl) ?_
          refine va_get (D := D) (ci := 3) (v := .ref o10) (C := R_Mo) (T := F_Mo) (N := 19) hx hb hts i_Mo hown hK hP 0 rfl rfl 11 (by decide) (hts _ k_236) (fun _ h9 => h9) rfl d_Mo_change_197 ?_
          refine lv_iload_n hx hb d_Mo_change_200 rfl (lv_at hl 2 rfl) ?_
          refine lv_dup2_11 hx hb d_Mo_change_201 rfl rfl ?_
          obtain ⟨g15, hf⟩ := x_if hf
          refine va_iald hx hb hK hP 11 0 rfl rfl (xi_in g15) d_Mo_change_202 ?_
          refine lv_iconst (v := (1 : Int32)) hx hb d_Mo_change_203 (by decide) ?_
          refine lv_iload hx hb d_Mo_change_204 (lv_at hl 0 rfl) ?_
          refine lv_ishl hx hb d_Mo_change_206 ?_
          refine lv_ior hx hb d_Mo_change_207 ?_
          obtain ⟨g16, hf⟩ := x_if hf
          refine va_iast hx hb hK hP hD hS 11 0 rfl rfl (xi_in g16) d_Mo_change_208 (fun H locs hP hD hS => ?_)
          have hP : va_P D vwCl (w_Mo cI cJ cZ oh o0 o1 o2 o3 o4 o5 o6 o7 o8 o9 o10 o11 o12 (((upd z1.2.1.1 p1.toNatClampNeg p0), ((upd z1.2.1.2.1 p1.toNatClampNeg p2), ((upd z1.2.1.2.2.1 p1.toNatClampNeg (-1 : Int32)), z1.2.1.2.2.2))), (z1.2.2.1, ((upd z1.2.2.2.1 z3.toNatClampNeg (vp_nar .boolean (1 : Int32))), (z1.2.2.2.2.1, ((upd z1.2.2.2.2.2.1 p0.toNatClampNeg ((z1.2.2.2.2.2.1 p0.toNatClampNeg) ||| ((1 : Int32) <<< (z3 &&& 31)))), z1.2.2.2.2.2.2)))))) H := hP
          have hD : va_D A (w_Mo cI cJ cZ oh o0 o1 o2 o3 o4 o5 o6 o7 o8 o9 o10 o11 o12 (((upd z1.2.1.1 p1.toNatClampNeg p0), ((upd z1.2.1.2.1 p1.toNatClampNeg p2), ((upd z1.2.1.2.2.1 p1.toNatClampNeg (-1 : Int32)), z1.2.1.2.2.2))), (z1.2.2.1, ((upd z1.2.2.2.1 z3.toNatClampNeg (vp_nar .boolean (1 : Int32))), (z1.2.2.2.2.1, ((upd z1.2.2.2.2.2.1 p0.toNatClampNeg ((z1.2.2.2.2.2.1 p0.toNatClampNeg) ||| ((1 : Int32) <<< (z3 &&& 31)))), z1.2.2.2.2.2.2)))))) := hD
          obtain rfl := Option.some.inj hf
          exact x_vret hx hb hr hlocks hK hP hD hS (Nat.le_of_ble_eq_true rfl) (Nat.le_of_ble_eq_true rfl) d_Mo_change_209
      · have hf := x_ifn c64 hf
        refine lv_aload_n hx hb d_Mo_change_53 rfl (lv_at hl 1 rfl) ?_
        refine va_get (D := D) (ci := 3) (v := .ref o0) (C := R_Mo) (T := F_Mo) (N := 19) hx hb hts i_Mo hown hK hP 0 rfl rfl 1 (by decide) (hts _ k_225) (fun _ h9 => h9) rfl d_Mo_change_54 ?_
        refine lv_iload_n hx hb d_Mo_change_57 rfl (lv_at hl 3 rfl) ?_
        obtain ⟨g18, hf⟩ := x_if hf
        refine va_iald hx hb hK hP 1 0 rfl rfl (xi_in g18) d_Mo_change_58 ?_
        refine lv_if_eq (tgt := 158) hx hb d_Mo_change_59 (by decide) (fun c63 => ?_) (fun c63 => ?_)
        · have hf := x_ifp c63 hf
          refine lv_aload_n hx hb d_Mo_change_158 rfl (lv_at hl 1 rfl) ?_
          refine va_get (D := D) (ci := 3) (v := .ref o0) (C := R_Mo) (T := F_Mo) (N := 19) hx hb hts i_Mo hown hK hP 0 rfl rfl 1 (by decide) (hts _ k_225) (fun _ h9 => h9) rfl d_Mo_change_159 ?_
          refine lv_iload_n hx hb d_Mo_change_162 rfl (lv_at hl 3 rfl) ?_
          obtain ⟨g19, hf⟩ := x_if hf
          refine va_iald hx hb hK hP 1 0 rfl rfl (xi_in g19) d_Mo_change_163 ?_
          refine lv_if_ne (tgt := 174) hx hb d_Mo_change_164 (by decide) (fun c31 => ?_) (fun c31 => ?_)
          · have hf := x_ifn c31 hf
            refine lv_aload_n hx hb d_Mo_change_174 rfl (lv_at hl 1 rfl) ?_
            refine va_get (D := D) (ci := 3) (v := .ref o0) (C := R_Mo) (T := F_Mo) (N := 19) hx hb hts i_Mo hown hK hP 0 rfl rfl 1 (by decide) (hts _ k_225) (fun _ h9 => h9) rfl d_Mo_change_175 ?_
            refine lv_iload_n hx hb d_Mo_change_178 rfl (lv_at hl 3 rfl) ?_
            refine lv_iload_n hx hb d_Mo_change_179 rfl (lv_at hl 2 rfl) ?_
            obtain ⟨g20, hf⟩ := x_if hf
            refine va_iast hx hb hK hP hD hS 1 0 rfl rfl (xi_in g20) d_Mo_change_180 (fun H locs hP hD hS => ?_)
            have hP : va_P D vwCl (w_Mo cI cJ cZ oh o0 o1 o2 o3 o4 o5 o6 o7 o8 o9 o10 o11 o12 (((upd z1.2.1.1 p1.toNatClampNeg p0), z1.2.1.2), z1.2.2)) H := hP
            have hD : va_D A (w_Mo cI cJ cZ oh o0 o1 o2 o3 o4 o5 o6 o7 o8 o9 o10 o11 o12 (((upd z1.2.1.1 p1.toNatClampNeg p0), z1.2.1.2), z1.2.2)) := hD
            refine lv_aload_n hx hb d_Mo_change_181 rfl (lv_at hl 1 rfl) ?_
            refine va_get (D := D) (ci := 3) (v := .ref o1) (C := R_Mo) (T := F_Mo) (N := 19) hx hb hts i_Mo hown hK hP 0 rfl rfl 2 (by decide) (hts _ k_226) (fun _ h9 => h9) rfl d_Mo_change_182 ?_
            refine lv_iload_n hx hb d_Mo_change_185 rfl (lv_at hl 3 rfl) ?_
            refine lv_iload_n hx hb d_Mo_change_186 rfl (lv_at hl 4 rfl) ?_
            obtain ⟨g21, hf⟩ := x_if hf
            refine va_iast hx hb hK hP hD hS 2 0 rfl rfl (xi_in g21) d_Mo_change_187 (fun H locs hP hD hS => ?_)
            have hP : va_P D vwCl (w_Mo cI cJ cZ oh o0 o1 o2 o3 o4 o5 o6 o7 o8 o9 o10 o11 o12 (((upd z1.2.1.1 p1.toNatClampNeg p0), ((upd z1.2.1.2.1 p1.toNatClampNeg p2), z1.2.1.2.2)), z1.2.2)) H := hP
            have hD : va_D A (w_Mo cI cJ cZ oh o0 o1 o2 o3 o4 o5 o6 o7 o8 o9 o10 o11 o12 (((upd z1.2.1.1 p1.toNatClampNeg p0), ((upd z1.2.1.2.1 p1.toNatClampNeg p2), z1.2.1.2.2)), z1.2.2)) := hD
            refine lv_aload_n hx hb d_Mo_change_188 rfl (lv_at hl 1 rfl) ?_
            refine va_get (D := D) (ci := 3) (v := .ref o8) (C := R_Mo) (T := F_Mo) (N := 19) hx hb hts i_Mo hown hK hP 0 rfl rfl 9 (by decide) (hts _ k_234) (fun _ h9 => h9) rfl d_Mo_change_189 ?_
            refine lv_iload hx hb d_Mo_change_192 (lv_at hl 0 rfl) ?_
            refine lv_iconst (v := (1 : Int32)) hx hb d_Mo_change_194 (by decide) ?_
            obtain ⟨g22, hf⟩ := x_if hf
            refine va_zast hx hb hK hP hD hS 9 2 rfl rfl (xi_in g22) d_Mo_change_195 (fun H locs hP hD hS => ?_)
            have hP : va_P D vwCl (w_Mo cI cJ cZ oh o0 o1 o2 o3 o4 o5 o6 o7 o8 o9 o10 o11 o12 (((upd z1.2.1.1 p1.toNatClampNeg p0), ((upd z1.2.1.2.1 p1.toNatClampNeg p2), z1.2.1.2.2)), (z1.2.2.1, ((upd z1.2.2.2.1 z3.toNatClampNeg (vp_nar .boolean (1 : Int32))), z1.2.2.2.2)))) H := hP
            have hD : va_D A (w_Mo cI cJ cZ oh o0 o1 o2 o3 o4 o5 o6 o7 o8 o9 o10 o11 o12 (((upd z1.2.1.1 p1.toNatClampNeg p0), ((upd z1.2.1.2.1 p1.toNatClampNeg p2), z1.2.1.2.2)), (z1.2.2.1, ((upd z1.2.2.2.1 z3.toNatClampNeg (vp_nar .boolean (1 : Int32))), z1.2.2.2.2)))) := hD
            refine lv_aload_n hx hb d_Mo_change_196 rfl (lv_at hl 1 rfl) ?_
            refine va_get (D := D) (ci := 3) (v := .ref o10) (C := R_Mo) (T := F_Mo) (N := 19) hx hb hts i_Mo hown hK hP 0 rfl rfl 11 (by decide) (hts _ k_236) (fun _ h9 => h9) rfl d_Mo_change_197 ?_
            refine lv_iload_n hx hb d_Mo_change_200 rfl (lv_at hl 2 rfl) ?_
            refine lv_dup2_11 hx hb d_Mo_change_201 rfl rfl ?_
            obtain ⟨g23, hf⟩ := x_if hf
            refine va_iald hx hb hK hP 11 0 rfl rfl (xi_in g23) d_Mo_change_202 ?_
            refine lv_iconst (v := (1 : Int32)) hx hb d_Mo_change_203 (by decide) ?_
            refine lv_iload hx hb d_Mo_change_204 (lv_at hl 0 rfl) ?_
            refine lv_ishl hx hb d_Mo_change_206 ?_
            refine lv_ior hx hb d_Mo_change_207 ?_
            obtain ⟨g24, hf⟩ := x_if hf
            refine va_iast hx hb hK hP hD hS 11 0 rfl rfl (xi_in g24) d_Mo_change_208 (fun H locs hP hD hS => ?_)
            have hP : va_P D vwCl (w_Mo cI cJ cZ oh o0 o1 o2 o3 o4 o5 o6 o7 o8 o9 o10 o11 o12 (((upd z1.2.1.1 p1.toNatClampNeg p0), ((upd z1.2.1.2.1 p1.toNatClampNeg p2), z1.2.1.2.2)), (z1.2.2.1, ((upd z1.2.2.2.1 z3.toNatClampNeg (vp_nar .boolean (1 : Int32))), (z1.2.2.2.2.1, ((upd z1.2.2.2.2.2.1 p0.toNatClampNeg ((z1.2.2.2.2.2.1 p0.toNatClampNeg) ||| ((1 : Int32) <<< (z3 &&& 31)))), z1.2.2.2.2.2.2)))))) H := hP
            have hD : va_D A (w_Mo cI cJ cZ oh o0 o1 o2 o3 o4 o5 o6 o7 o8 o9 o10 o11 o12 (((upd z1.2.1.1 p1.toNatClampNeg p0), ((upd z1.2.1.2.1 p1.toNatClampNeg p2), z1.2.1.2.2)), (z1.2.2.1, ((upd z1.2.2.2.1 z3.toNatClampNeg (vp_nar .boolean (1 : Int32))), (z1.2.2.2.2.1, ((upd z1.2.2.2.2.2.1 p0.toNatClampNeg ((z1.2.2.2.2.2.1 p0.toNatClampNeg) ||| ((1 : Int32) <<< (z3 &&& 31)))), z1.2.2.2.2.2.2)))))) := hD
            obtain rfl := Option.some.inj hf
            exact x_vret hx hb hr hlocks hK hP hD hS (Nat.le_of_ble_eq_true rfl) (Nat.le_of_ble_eq_true rfl) d_Mo_change_209
          · have hf := x_ifp c31 hf
            refine lv_aload_n hx hb d_Mo_change_167 rfl (lv_at hl 1 rfl) ?_
            refine va_get (D := D) (ci := 3) (v := .ref o2) (C := R_Mo) (T := F_Mo) (N := 19) hx hb hts i_Mo hown hK hP 0 rfl rfl 3 (by decide) (hts _ k_227) (fun _ h9 => h9) rfl d_Mo_change_168 ?_
            refine lv_iload_n hx hb d_Mo_change_171 rfl (lv_at hl 3 rfl) ?_
            refine lv_iconst (v := (-1 : Int32)) hx hb d_Mo_change_172 (by decide) ?_
            obtain ⟨g25, hf⟩ := x_if hf
            refine va_iast hx hb hK hP hD hS 3 0 rfl rfl (xi_in g25) d_Mo_change_173 (fun H locs hP hD hS => ?_)
            have hP : va_P D vwCl (w_Mo cI cJ cZ oh o0 o1 o2 o3 o4 o5 o6 o7 o8 o9 o10 o11 o12 ((z1.2.1.1, (z1.2.1.2.1, ((upd z1.2.1.2.2.1 p1.toNatClampNeg (-1 : Int32)), z1.2.1.2.2.2))), z1.2.2)) H := hP
            have hD : va_D A (w_Mo cI cJ cZ oh o0 o1 o2 o3 o4 o5 o6 o7 o8 o9 o10 o11 o12 ((z1.2.1.1, (z1.2.1.2.1, ((upd z1.2.1.2.2.1 p1.toNatClampNeg (-1 : Int32)), z1.2.1.2.2.2))), z1.2.2)) := hD
            refine lv_aload_n hx hb d_Mo_change_174 rfl (lv_at hl 1 rfl) ?_
            refine va_get (D := D) (ci := 3) (v := .ref o0) (C := R_Mo) (T := F_Mo) (N := 19) hx hb hts i_Mo hown hK hP 0 rfl rfl 1 (by decide) (hts _ k_225) (fun _ h9 => h9) rfl d_Mo_change_175 ?_
            refine lv_iload_n hx hb d_Mo_change_178 rfl (lv_at hl 3 rfl) ?_
            refine lv_iload_n hx hb d_Mo_change_179 rfl (lv_at hl 2 rfl) ?_
            obtain ⟨g26, hf⟩ := x_if hf
            refine va_iast hx hb hK hP hD hS 1 0 rfl rfl (xi_in g26) d_Mo_change_180 (fun H locs hP hD hS => ?_)
            have hP : va_P D vwCl (w_Mo cI cJ cZ oh o0 o1 o2 o3 o4 o5 o6 o7 o8 o9 o10 o11 o12 (((upd z1.2.1.1 p1.toNatClampNeg p0), (z1.2.1.2.1, ((upd z1.2.1.2.2.1 p1.toNatClampNeg (-1 : Int32)), z1.2.1.2.2.2))), z1.2.2)) H := hP
            have hD : va_D A (w_Mo cI cJ cZ oh o0 o1 o2 o3 o4 o5 o6 o7 o8 o9 o10 o11 o12 (((upd z1.2.1.1 p1.toNatClampNeg p0), (z1.2.1.2.1, ((upd z1.2.1.2.2.1 p1.toNatClampNeg (-1 : Int32)), z1.2.1.2.2.2))), z1.2.2)) := hD
            refine lv_aload_n hx hb d_Mo_change_181 rfl (lv_at hl 1 rfl) ?_
            refine va_get (D := D) (ci := 3) (v := .ref o1) (C := R_Mo) (T := F_Mo) (N := 19) hx hb hts i_Mo hown hK hP 0 rfl rfl 2 (by decide) (hts _ k_226) (fun _ h9 => h9) rfl d_Mo_change_182 ?_
            refine lv_iload_n hx hb d_Mo_change_185 rfl (lv_at hl 3 rfl) ?_
            refine lv_iload_n hx hb d_Mo_change_186 rfl (lv_at hl 4 rfl) ?_
            obtain ⟨g27, hf⟩ := x_if hf
            refine va_iast hx hb hK hP hD hS 2 0 rfl rfl (xi_in g27) d_Mo_change_187 (fun H locs hP hD hS => ?_)
            have hP : va_P D vwCl (w_Mo cI cJ cZ oh o0 o1 o2 o3 o4 o5 o6 o7 o8 o9 o10 o11 o12 (((upd z1.2.1.1 p1.toNatClampNeg p0), ((upd z1.2.1.2.1 p1.toNatClampNeg p2), ((upd z1.2.1.2.2.1 p1.toNatClampNeg (-1 : Int32)), z1.2.1.2.2.2))), z1.2.2)) H := hP
            have hD : va_D A (w_Mo cI cJ cZ oh o0 o1 o2 o3 o4 o5 o6 o7 o8 o9 o10 o11 o12 (((upd z1.2.1.1 p1.toNatClampNeg p0), ((upd z1.2.1.2.1 p1.toNatClampNeg p2), ((upd z1.2.1.2.2.1 p1.toNatClampNeg (-1 : Int32)), z1.2.1.2.2.2))), z1.2.2)) := hD
            refine lv_aload_n hx hb d_Mo_change_188 rfl (lv_at hl 1 rfl) ?_
            refine va_get (D := D) (ci := 3) (v := .ref o8) (C := R_Mo) (T := F_Mo) (N := 19) hx hb hts i_Mo hown hK hP 0 rfl rfl 9 (by decide) (hts _ k_234) (fun _ h9 => h9) rfl d_Mo_change_189 ?_
            refine lv_iload hx hb d_Mo_change_192 (lv_at hl 0 rfl) ?_
            refine lv_iconst (v := (1 : Int32)) hx hb d_Mo_change_194 (by decide) ?_
            obtain ⟨g28, hf⟩ := x_if hf
            refine va_zast hx hb hK hP hD hS 9 2 rfl rfl (xi_in g28) d_Mo_change_195 (fun H locs hP hD hS => ?_)
            have hP : va_P D vwCl (w_Mo cI cJ cZ oh o0 o1 o2 o3 o4 o5 o6 o7 o8 o9 o10 o11 o12 (((upd z1.2.1.1 p1.toNatClampNeg p0), ((upd z1.2.1.2.1 p1.toNatClampNeg p2), ((upd z1.2.1.2.2.1 p1.toNatClampNeg (-1 : Int32)), z1.2.1.2.2.2))), (z1.2.2.1, ((upd z1.2.2.2.1 z3.toNatClampNeg (vp_nar .boolean (1 : Int32))), z1.2.2.2.2)))) H := hP
            have hD : va_D A (w_Mo cI cJ cZ oh o0 o1 o2 o3 o4 o5 o6 o7 o8 o9 o10 o11 o12 (((upd z1.2.1.1 p1.toNatClampNeg p0), ((upd z1.2.1.2.1 p1.toNatClampNeg p2), ((upd z1.2.1.2.2.1 p1.toNatClampNeg (-1 : Int32)), z1.2.1.2.2.2))), (z1.2.2.1, ((upd z1.2.2.2.1 z3.toNatClampNeg (vp_nar .boolean (1 : Int32))), z1.2.2.2.2)))) := hD
            refine lv_aload_n hx hb d_Mo_change_196 rfl (lv_at hl 1 rfl) ?_
            refine va_get (D := D) (ci := 3) (v := .ref o10) (C := R_Mo) (T := F_Mo) (N := 19) hx hb hts i_Mo hown hK hP 0 rfl rfl 11 (by decide) (hts _ k_236) (fun _ h9 => h9) rfl d_Mo_change_197 ?_
            refine lv_iload_n hx hb d_Mo_change_200 rfl (lv_at hl 2 rfl) ?_
            refine lv_dup2_11 hx hb d_Mo_change_201 rfl rfl ?_
            obtain ⟨g29, hf⟩ := x_if hf
            refine va_iald hx hb hK hP 11 0 rfl rfl (xi_in g29) d_Mo_change_202 ?_
            refine lv_iconst (v := (1 : Int32)) hx hb d_Mo_change_203 (by decide) ?_
            refine lv_iload hx hb d_Mo_change_204 (lv_at hl 0 rfl) ?_
            refine lv_ishl hx hb d_Mo_change_206 ?_
            refine lv_ior hx hb d_Mo_change_207 ?_
            obtain ⟨g30, hf⟩ := x_if hf
            refine va_iast hx hb hK hP hD hS 11 0 rfl rfl (xi_in g30) d_Mo_change_208 (fun H locs hP hD hS => ?_)
            have hP : va_P D vwCl (w_Mo cI cJ cZ oh o0 o1 o2 o3 o4 o5 o6 o7 o8 o9 o10 o11 o12 (((upd z1.2.1.1 p1.toNatClampNeg p0), ((upd z1.2.1.2.1 p1.toNatClampNeg p2), ((upd z1.2.1.2.2.1 p1.toNatClampNeg (-1 : Int32)), z1.2.1.2.2.2))), (z1.2.2.1, ((upd z1.2.2.2.1 z3.toNatClampNeg (vp_nar .boolean (1 : Int32))), (z1.2.2.2.2.1, ((upd z1.2.2.2.2.2.1 p0.toNatClampNeg ((z1.2.2.2.2.2.1 p0.toNatClampNeg) ||| ((1 : Int32) <<< (z3 &&& 31)))), z1.2.2.2.2.2.2)))))) H := hP
            have hD : va_D A (w_Mo cI cJ cZ oh o0 o1 o2 o3 o4 o5 o6 o7 o8 o9 o10 o11 o12 (((upd z1.2.1.1 p1.toNatClampNeg p0), ((upd z1.2.1.2.1 p1.toNatClampNeg p2), ((upd z1.2.1.2.2.1 p1.toNatClampNeg (-1 : Int32)), z1.2.1.2.2.2))), (z1.2.2.1, ((upd z1.2.2.2.1 z3.toNatClampNeg (vp_nar .boolean (1 : Int32))), (z1.2.2.2.2.1, ((upd z1.2.2.2.2.2.1 p0.toNatClampNeg ((z1.2.2.2.2.2.1 p0.toNatClampNeg) ||| ((1 : Int32) <<< (z3 &&& 31)))), z1.2.2.2.2.2.2)))))) := hD
            obtain rfl := Option.some.inj hf
            exact x_vret hx hb hr hlocks hK hP hD hS (Nat.le_of_ble_eq_true rfl) (Nat.le_of_ble_eq_true rfl) d_Mo_change_209
        · have hf := x_ifn c63 hf
          refine lv_bipush (v := (6 : Int32)) hx hb d_Mo_change_62 (by decide) ?_
          refine lv_istore (lv' := [(5, .int (6 : Int32)), (4, .int z3), (0, .ref oh), (1, .int p0), (2, .int p1), (3, .int p2)]) hx hb d_Mo_change_64 hl (by decide) rfl (fun ls hl => ?_)
          exact L_66 _ _ _ _ _ _ _ hf _ _ _ hP hD hS (lv_sub hl [2, 3, 4, 5, 1, 0] rfl)
    · have hf := x_ifn c98 hf
      refine lv_aload_n hx hb d_Mo_change_22 rfl (lv_at hl 0 rfl) ?_
      refine lv_iload_n hx hb d_Mo_change_23 rfl (lv_at hl 1 rfl) ?_
      refine lv_iload_n hx hb d_Mo_change_24 rfl (lv_at hl 2 rfl) ?_
      obtain ⟨z65, hz65, hf⟩ := x_bind hf
      refine x_callV (w2 := (w_Mo cI cJ cZ oh o0 o1 o2 o3 o4 o5 o6 o7 o8 o9 o10 o11 o12 z65.2)) ⟨hx, hb, hml, hown, hts⟩ (c_Mo_seen l D cI cJ cZ oh o0 o1 o2 o3 o4 o5 o6 o7 o8 o9 o10 o11 o12 N p0 p1 z1.2 z65 hz65) (x_cwV 2 hts rfl k_292 k_293 k_294 k_246 k_295 (by decide +kernel) ⟨(Nat.le_of_ble_eq_true rfl), (Nat.le_of_ble_eq_true rfl)⟩) hK hP hD hS hA hZ [0, 1, 2, 3, 4, 5, 6, 7, 8, 9, 10, 11, 12, 13] [] [0, 1, 2, 3, 4, 5, 6, 7, 8, 9, 10, 11, 12, 13] (by decide) rfl rfl (by decide) (by decide) (by decide) rfl (ci := 3) rfl rfl rfl hl.1 rfl (Nat.le_of_ble_eq_true rfl) d_Mo_change_25 ⟨(Nat.le_of_ble_eq_true rfl), (Nat.le_of_ble_eq_true rfl)⟩ (fun H locs hP hD hS => ?_)
      refine W.eq (g2 := F0 m 28 ls [.int z65.1]) rfl ?_
      refine lv_if_ne (tgt := 37) hx hb d_Mo_change_28 (by decide) (fun c97 => ?_) (fun c97 => ?_)
      · have hf := x_ifn c97 hf
        refine lv_iload_n hx hb d_Mo_change_37 rfl (lv_at hl 2 rfl) ?_
        obtain ⟨z66, hz66, hf⟩ := x_bind hf
        refine x_callS (w2 := (w_Mo cI cJ cZ oh o0 o1 o2 o3 o4 o5 o6 o7 o8 o9 o10 o11 o12 z65.2)) ⟨hx, hb, hml, hown, hts⟩ (c_Mo_pageOf l D cI cJ cZ  N p1  z66 hz66) (x_cwS 1 hts rfl k_244 k_245 k_246 k_247 (by decide +kernel) ⟨(Nat.le_of_ble_eq_true rfl), (Nat.le_of_ble_eq_true rfl)⟩) hK hP hD hS hA hZ [] [0, 1, 2, 3, 4, 5, 6, 7, 8, 9, 10, 11, 12, 13] [0, 1, 2, 3, 4, 5, 6, 7, 8, 9, 10, 11, 12, 13] (by decide) rfl rfl (by decide) (by decide) (by decide) rfl rfl hl.1 rfl (Nat.le_of_ble_eq_true rfl) d_Mo_change_38 ⟨(Nat.le_of_ble_eq_true rfl), (Nat.le_of_ble_eq_true rfl)⟩ (fun H locs hP hD hS => ?_)
        refine W.eq (g2 := F0 m 41 ls [.int z66]) rfl ?_
        refine lv_istore (lv' := [(4, .int z66), (0, .ref oh), (1, .int p0), (2, .int p1), (3, .int p2)]) hx hb d_Mo_change_41 hl (by decide) rfl (fun ls hl => ?_)
        refine lv_aload_n hx hb d_Mo_change_43 rfl (lv_at hl 1 rfl) ?_
        refine va_get (D := D) (ci := 3) (v := .ref o0) (C := R_Mo) (T := F_Mo) (N := 19) hx hb hts i_Mo hown hK hP 0 rfl rfl 1 (by decide) (hts _ k_225) (fun _ h9 => h9) rfl d_Mo_change_44 ?_
        refine lv_iload_n hx hb d_Mo_change_47 rfl (lv_at hl 3 rfl) ?_
        obtain ⟨g67, hf⟩ := x_if hf
        refine va_iald hx hb hK hP 1 0 rfl rfl (xi_in g67) d_Mo_change_48 ?_
        refine lv_iload_n hx hb d_Mo_change_49 rfl (lv_at hl 2 rfl) ?_
        refine lv_icmp_eq (tgt := 158) hx hb d_Mo_change_50 (by decide) (fun c96 => ?_) (fun c96 => ?_)
        · have hf := x_ifp c96 hf
          refine lv_aload_n hx hb d_Mo_change_158 rfl (lv_at hl 1 rfl) ?_
          refine va_get (D := D) (ci := 3) (v := .ref o0) (C := R_Mo) (T := F_Mo) (N := 19) hx hb hts i_Mo hown hK hP 0 rfl rfl 1 (by decide) (hts _ k_225) (fun _ h9 => h9) rfl d_Mo_change_159 ?_
          refine lv_iload_n hx hb d_Mo_change_162 rfl (lv_at hl 3 rfl) ?_
          obtain ⟨g68, hf⟩ := x_if hf
          refine va_iald hx hb hK hP 1 0 rfl rfl (xi_in g68) d_Mo_change_163 ?_
          refine lv_if_ne (tgt := 174) hx hb d_Mo_change_164 (by decide) (fun c80 => ?_) (fun c80 => ?_)
          · have hf := x_ifn c80 hf
            refine lv_aload_n hx hb d_Mo_change_174 rfl (lv_at hl 1 rfl) ?_
            refine va_get (D := D) (ci := 3) (v := .ref o0) (C := R_Mo) (T := F_Mo) (N := 19) hx hb hts i_Mo hown hK hP 0 rfl rfl 1 (by decide) (hts _ k_225) (fun _ h9 => h9) rfl d_Mo_change_175 ?_
            refine lv_iload_n hx hb d_Mo_change_178 rfl (lv_at hl 3 rfl) ?_
            refine lv_iload_n hx hb d_Mo_change_179 rfl (lv_at hl 2 rfl) ?_
            obtain ⟨g69, hf⟩ := x_if hf
            refine va_iast hx hb hK hP hD hS 1 0 rfl rfl (xi_in g69) d_Mo_change_180 (fun H locs hP hD hS => ?_)
            have hP : va_P D vwCl (w_Mo cI cJ cZ oh o0 o1 o2 o3 o4 o5 o6 o7 o8 o9 o10 o11 o12 (((upd z65.2.1.1 p1.toNatClampNeg p0), z65.2.1.2), z65.2.2)) H := hP
            have hD : va_D A (w_Mo cI cJ cZ oh o0 o1 o2 o3 o4 o5 o6 o7 o8 o9 o10 o11 o12 (((upd z65.2.1.1 p1.toNatClampNeg p0), z65.2.1.2), z65.2.2)) := hD
            refine lv_aload_n hx hb d_Mo_change_181 rfl (lv_at hl 1 rfl) ?_
            refine va_get (D := D) (ci := 3) (v := .ref o1) (C := R_Mo) (T := F_Mo) (N := 19) hx hb hts i_Mo hown hK hP 0 rfl rfl 2 (by decide) (hts _ k_226) (fun _ h9 => h9) rfl d_Mo_change_182 ?_
            refine lv_iload_n hx hb d_Mo_change_185 rfl (lv_at hl 3 rfl) ?_
            refine lv_iload_n hx hb d_Mo_change_186 rfl (lv_at hl 4 rfl) ?_
            obtain ⟨g70, hf⟩ := x_if hf
            refine va_iast hx hb hK hP hD hS 2 0 rfl rfl (xi_in g70) d_Mo_change_187 (fun H locs hP hD hS => ?_)
            have hP : va_P D vwCl (w_Mo cI cJ cZ oh o0 o1 o2 o3 o4 o5 o6 o7 o8 o9 o10 o11 o12 (((upd z65.2.1.1 p1.toNatClampNeg p0), ((upd z65.2.1.2.1 p1.toNatClampNeg p2), z65.2.1.2.2)), z65.2.2)) H := hP
            have hD : va_D A (w_Mo cI cJ cZ oh o0 o1 o2 o3 o4 o5 o6 o7 o8 o9 o10 o11 o12 (((upd z65.2.1.1 p1.toNatClampNeg p0), ((upd z65.2.1.2.1 p1.toNatClampNeg p2), z65.2.1.2.2)), z65.2.2)) := hD
            refine lv_aload_n hx hb d_Mo_change_188 rfl (lv_at hl 1 rfl) ?_
            refine va_get (D := D) (ci := 3) (v := .ref o8) (C := R_Mo) (T := F_Mo) (N := 19) hx hb hts i_Mo hown hK hP 0 rfl rfl 9 (by decide) (hts _ k_234) (fun _ h9 => h9) rfl d_Mo_change_189 ?_
            refine lv_iload hx hb d_Mo_change_192 (lv_at hl 0 rfl) ?_
            refine lv_iconst (v := (1 : Int32)) hx hb d_Mo_change_194 (by decide) ?_
            obtain ⟨g71, hf⟩ := x_if hf
            refine va_zast hx hb hK hP hD hS 9 2 rfl rfl (xi_in g71) d_Mo_change_195 (fun H locs hP hD hS => ?_)
            have hP : va_P D vwCl (w_Mo cI cJ cZ oh o0 o1 o2 o3 o4 o5 o6 o7 o8 o9 o10 o11 o12 (((upd z65.2.1.1 p1.toNatClampNeg p0), ((upd z65.2.1.2.1 p1.toNatClampNeg p2), z65.2.1.2.2)), (z65.2.2.1, ((upd z65.2.2.2.1 z66.toNatClampNeg (vp_nar .boolean (1 : Int32))), z65.2.2.2.2)))) H := hP
            have hD : va_D A (w_Mo cI cJ cZ oh o0 o1 o2 o3 o4 o5 o6 o7 o8 o9 o10 o11 o12 (((upd z65.2.1.1 p1.toNatClampNeg p0), ((upd z65.2.1.2.1 p1.toNatClampNeg p2), z65.2.1.2.2)), (z65.2.2.1, ((upd z65.2.2.2.1 z66.toNatClampNeg (vp_nar .boolean (1 : Int32))), z65.2.2.2.2)))) := hD
            refine lv_aload_n hx hb d_Mo_change_196 rfl (lv_at hl 1 rfl) ?_
            refine va_get (D := D) (ci := 3) (v := .ref o10) (C := R_Mo) (T := F_Mo) (N := 19) hx hb hts i_Mo hown hK hP 0 rfl rfl 11 (by decide) (hts _ k_236) (fun _ h9 => h9) rfl d_Mo_change_197 ?_
            refine lv_iload_n hx hb d_Mo_change_200 rfl (lv_at hl 2 rfl) ?_
            refine lv_dup2_11 hx hb d_Mo_change_201 rfl rfl ?_
            obtain ⟨g72, hf⟩ := x_if hf
            refine va_iald hx hb hK hP 11 0 rfl rfl (xi_in g72) d_Mo_change_202 ?_
            refine lv_iconst (v := (1 : Int32)) hx hb d_Mo_change_203 (by decide) ?_
            refine lv_iload hx hb d_Mo_change_204 (lv_at hl 0 rfl) ?_
            refine lv_ishl hx hb d_Mo_change_206 ?_
            refine lv_ior hx hb d_Mo_change_207 ?_
            obtain ⟨g73, hf⟩ := x_if hf
            refine va_iast hx hb hK hP hD hS 11 0 rfl rfl (xi_in g73) d_Mo_change_208 (fun H locs hP hD hS => ?_)
            have hP : va_P D vwCl (w_Mo cI cJ cZ oh o0 o1 o2 o3 o4 o5 o6 o7 o8 o9 o10 o11 o12 (((upd z65.2.1.1 p1.toNatClampNeg p0), ((upd z65.2.1.2.1 p1.toNatClampNeg p2), z65.2.1.2.2)), (z65.2.2.1, ((upd z65.2.2.2.1 z66.toNatClampNeg (vp_nar .boolean (1 : Int32))), (z65.2.2.2.2.1, ((upd z65.2.2.2.2.2.1 p0.toNatClampNeg ((z65.2.2.2.2.2.1 p0.toNatClampNeg) ||| ((1 : Int32) <<< (z66 &&& 31)))), z65.2.2.2.2.2.2)))))) H := hP
            have hD : va_D A (w_Mo cI cJ cZ oh o0 o1 o2 o3 o4 o5 o6 o7 o8 o9 o10 o11 o12 (((upd z65.2.1.1 p1.toNatClampNeg p0), ((upd z65.2.1.2.1 p1.toNatClampNeg p2), z65.2.1.2.2)), (z65.2.2.1, ((upd z65.2.2.2.1 z66.toNatClampNeg (vp_nar .boolean (1 : Int32))), (z65.2.2.2.2.1, ((upd z65.2.2.2.2.2.1 p0.toNatClampNeg ((z65.2.2.2.2.2.1 p0.toNatClampNeg) ||| ((1 : Int32) <<< (z66 &&& 31)))), z65.2.2.2.2.2.2)))))) := hD
            obtain rfl := Option.some.inj hf
            exact x_vret hx hb hr hlocks hK hP hD hS (Nat.le_of_ble_eq_true rfl) (Nat.le_of_ble_eq_true rfl) d_Mo_change_209
          · have hf := x_ifp c80 hf
            refine lv_aload_n hx hb d_Mo_change_167 rfl (lv_at hl 1 rfl) ?_
            refine va_get (D := D) (ci := 3) (v := .ref o2) (C := R_Mo) (T := F_Mo) (N := 19) hx hb hts i_Mo hown hK hP 0 rfl rfl 3 (by decide) (hts _ k_227) (fun _ h9 => h9) rfl d_Mo_change_168 ?_
            refine lv_iload_n hx hb d_Mo_change_171 rfl (lv_at hl 3 rfl) ?_
            refine lv_iconst (v := (-1 : Int32)) hx hb d_Mo_change_172 (by decide) ?_
            obtain ⟨g74, hf⟩ := x_if hf
            refine va_iast hx hb hK hP hD hS 3 0 rfl rfl (xi_in g74) d_Mo_change_173 (fun H locs hP hD hS => ?_)
            have hP : va_P D vwCl (w_Mo cI cJ cZ oh o0 o1 o2 o3 o4 o5 o6 o7 o8 o9 o10 o11 o12 ((z65.2.1.1, (z65.2.1.2.1, ((upd z65.2.1.2.2.1 p1.toNatClampNeg (-1 : Int32)), z65.2.1.2.2.2))), z65.2.2)) H := hP
            have hD : va_D A (w_Mo cI cJ cZ oh o0 o1 o2 o3 o4 o5 o6 o7 o8 o9 o10 o11 o12 ((z65.2.1.1, (z65.2.1.2.1, ((upd z65.2.1.2.2.1 p1.toNatClampNeg (-1 : Int32)), z65.2.1.2.2.2))), z65.2.2)) := hD
            refine lv_aload_n hx hb d_Mo_change_174 rfl (lv_at hl 1 rfl) ?_
            refine va_get (D := D) (ci := 3) (v := .ref o0) (C := R_Mo) (T := F_Mo) (N := 19) hx hb hts i_Mo hown hK hP 0 rfl rfl 1 (by decide) (hts _ k_225) (fun _ h9 => h9) rfl d_Mo_change_175 ?_
            refine lv_iload_n hx hb d_Mo_change_178 rfl (lv_at hl 3 rfl) ?_
            refine lv_iload_n hx hb d_Mo_change_179 rfl (lv_at hl 2 rfl) ?_
            obtain ⟨g75, hf⟩ := x_if hf
            refine va_iast hx hb hK hP hD hS 1 0 rfl rfl (xi_in g75) d_Mo_change_180 (fun H locs hP hD hS => ?_)
            have hP : va_P D vwCl (w_Mo cI cJ cZ oh o0 o1 o2 o3 o4 o5 o6 o7 o8 o9 o10 o11 o12 (((upd z65.2.1.1 p1.toNatClampNeg p0), (z65.2.1.2.1, ((upd z65.2.1.2.2.1 p1.toNatClampNeg (-1 : Int32)), z65.2.1.2.2.2))), z65.2.2)) H := hP
            have hD : va_D A (w_Mo cI cJ cZ oh o0 o1 o2 o3 o4 o5 o6 o7 o8 o9 o10 o11 o12 (((upd z65.2.1.1 p1.toNatClampNeg p0), (z65.2.1.2.1, ((upd z65.2.1.2.2.1 p1.toNatClampNeg (-1 : Int32)), z65.2.1.2.2.2))), z65.2.2)) := hD
            refine lv_aload_n hx hb d_Mo_change_181 rfl (lv_at hl 1 rfl) ?_
            refine va_get (D := D) (ci := 3) (v := .ref o1) (C := R_Mo) (T := F_Mo) (N := 19) hx hb hts i_Mo hown hK hP 0 rfl rfl 2 (by decide) (hts _ k_226) (fun _ h9 => h9) rfl d_Mo_change_182 ?_
            refine lv_iload_n hx hb d_Mo_change_185 rfl (lv_at hl 3 rfl) ?_
            refine lv_iload_n hx hb d_Mo_change_186 rfl (lv_at hl 4 rfl) ?_
            obtain ⟨g76, hf⟩ := x_if hf
            refine va_iast hx hb hK hP hD hS 2 0 rfl rfl (xi_in g76) d_Mo_change_187 (fun H locs hP hD hS => ?_)
            have hP : va_P D vwCl (w_Mo cI cJ cZ oh o0 o1 o2 o3 o4 o5 o6 o7 o8 o9 o10 o11 o12 (((upd z65.2.1.1 p1.toNatClampNeg p0), ((upd z65.2.1.2.1 p1.toNatClampNeg p2), ((upd z65.2.1.2.2.1 p1.toNatClampNeg (-1 : Int32)), z65.2.1.2.2.2))), z65.2.2)) H := hP
            have hD : va_D A (w_Mo cI cJ cZ oh o0 o1 o2 o3 o4 o5 o6 o7 o8 o9 o10 o11 o12 (((upd z65.2.1.1 p1.toNatClampNeg p0), ((upd z65.2.1.2.1 p1.toNatClampNeg p2), ((upd z65.2.1.2.2.1 p1.toNatClampNeg (-1 : Int32)), z65.2.1.2.2.2))), z65.2.2)) := hD
            refine lv_aload_n hx hb d_Mo_change_188 rfl (lv_at hl 1 rfl) ?_
            refine va_get (D := D) (ci := 3) (v := .ref o8) (C := R_Mo) (T := F_Mo) (N := 19) hx hb hts i_Mo hown hK hP 0 rfl rfl 9 (by decide) (hts _ k_234) (fun _ h9 => h9) rfl d_Mo_change_189 ?_
            refine lv_iload hx hb d_Mo_change_192 (lv_at hl 0 rfl) ?_
            refine lv_iconst (v := (1 : Int32)) hx hb d_Mo_change_194 (by decide) ?_
            obtain ⟨g77, hf⟩ := x_if hf
            refine va_zast hx hb hK hP hD hS 9 2 rfl rfl (xi_in g77) d_Mo_change_195 (fun H locs hP hD hS => ?_)
            have hP : va_P D vwCl (w_Mo cI cJ cZ oh o0 o1 o2 o3 o4 o5 o6 o7 o8 o9 o10 o11 o12 (((upd z65.2.1.1 p1.toNatClampNeg p0), ((upd z65.2.1.2.1 p1.toNatClampNeg p2), ((upd z65.2.1.2.2.1 p1.toNatClampNeg (-1 : Int32)), z65.2.1.2.2.2))), (z65.2.2.1, ((upd z65.2.2.2.1 z66.toNatClampNeg (vp_nar .boolean (1 : Int32))), z65.2.2.2.2)))) H := hP
            have hD : va_D A (w_Mo cI cJ cZ oh o0 o1 o2 o3 o4 o5 o6 o7 o8 o9 o10 o11 o12 (((upd z65.2.1.1 p1.toNatClampNeg p0), ((upd z65.2.1.2.1 p1.toNatClampNeg p2), ((upd z65.2.1.2.2.1 p1.toNatClampNeg (-1 : Int32)), z65.2.1.2.2.2))), (z65.2.2.1, ((upd z65.2.2.2.1 z66.toNatClampNeg (vp_nar .boolean (1 : Int32))), z65.2.2.2.2)))) := hD
            refine lv_aload_n hx hb d_Mo_change_196 rfl (lv_at hl 1 rfl) ?_
            refine va_get (D := D) (ci := 3) (v := .ref o10) (C := R_Mo) (T := F_Mo) (N := 19) hx hb hts i_Mo hown hK hP 0 rfl rfl 11 (by decide) (hts _ k_236) (fun _ h9 => h9) rfl d_Mo_change_197 ?_
            refine lv_iload_n hx hb d_Mo_change_200 rfl (lv_at hl 2 rfl) ?_
            refine lv_dup2_11 hx hb d_Mo_change_201 rfl rfl ?_
            obtain ⟨g78, hf⟩ := x_if hf
            refine va_iald hx hb hK hP 11 0 rfl rfl (xi_in g78) d_Mo_change_202 ?_
            refine lv_iconst (v := (1 : Int32)) hx hb d_Mo_change_203 (by decide) ?_
            refine lv_iload hx hb d_Mo_change_204 (lv_at hl 0 rfl) ?_
            refine lv_ishl hx hb d_Mo_change_206 ?_
            refine lv_ior hx hb d_Mo_change_207 ?_
            obtain ⟨g79, hf⟩ := x_if hf
            refine va_iast hx hb hK hP hD hS 11 0 rfl rfl (xi_in g79) d_Mo_change_208 (fun H locs hP hD hS => ?_)
            have hP : va_P D vwCl (w_Mo cI cJ cZ oh o0 o1 o2 o3 o4 o5 o6 o7 o8 o9 o10 o11 o12 (((upd z65.2.1.1 p1.toNatClampNeg p0), ((upd z65.2.1.2.1 p1.toNatClampNeg p2), ((upd z65.2.1.2.2.1 p1.toNatClampNeg (-1 : Int32)), z65.2.1.2.2.2))), (z65.2.2.1, ((upd z65.2.2.2.1 z66.toNatClampNeg (vp_nar .boolean (1 : Int32))), (z65.2.2.2.2.1, ((upd z65.2.2.2.2.2.1 p0.toNatClampNeg ((z65.2.2.2.2.2.1 p0.toNatClampNeg) ||| ((1 : Int32) <<< (z66 &&& 31)))), z65.2.2.2.2.2.2)))))) H := hP
            have hD : va_D A (w_Mo cI cJ cZ oh o0 o1 o2 o3 o4 o5 o6 o7 o8 o9 o10 o11 o12 (((upd z65.2.1.1 p1.toNatClampNeg p0), ((upd z65.2.1.2.1 p1.toNatClampNeg p2), ((upd z65.2.1.2.2.1 p1.toNatClampNeg (-1 : Int32)), z65.2.1.2.2.2))), (z65.2.2.1, ((upd z65.2.2.2.1 z66.toNatClampNeg (vp_nar .boolean (1 : Int32))), (z65.2.2.2.2.1, ((upd z65.2.2.2.2.2.1 p0.toNatClampNeg ((z65.2.2.2.2.2.1 p0.toNatClampNeg) ||| ((1 : Int32) <<< (z66 &&& 31)))), z65.2.2.2.2.2.2)))))) := hD
            obtain rfl := Option.some.inj hf
            exact x_vret hx hb hr hlocks hK hP hD hS (Nat.le_of_ble_eq_true rfl) (Nat.le_of_ble_eq_true rfl) d_Mo_change_209
        · have hf := x_ifn c96 hf
          refine lv_aload_n hx hb d_Mo_change_53 rfl (lv_at hl 1 rfl) ?_
          refine va_get (D := D) (ci := 3) (v := .ref o0) (C := R_Mo) (T := F_Mo) (N := 19) hx hb hts i_Mo hown hK hP 0 rfl rfl 1 (by decide) (hts _ k_225) (fun _ h9 => h9) rfl d_Mo_change_54 ?_
          refine lv_iload_n hx hb d_Mo_change_57 rfl (lv_at hl 3 rfl) ?_
          obtain ⟨g81, hf⟩ := x_if hf
          refine va_iald hx hb hK hP 1 0 rfl rfl (xi_in g81) d_Mo_change_58 ?_
          refine lv_if_eq (tgt := 158) hx hb d_Mo_change_59 (by decide) (fun c95 => ?_) (fun c95 => ?_)
          · have hf := x_ifp c95 hf
            refine lv_aload_n hx hb d_Mo_change_158 rfl (lv_at hl 1 rfl) ?_
            refine va_get (D := D) (ci := 3) (v := .ref o0) (C := R_Mo) (T := F_Mo) (N := 19) hx hb hts i_Mo hown hK hP 0 rfl rfl 1 (by decide) (hts _ k_225) (fun _ h9 => h9) rfl d_Mo_change_159 ?_
            refine lv_iload_n hx hb d_Mo_change_162 rfl (lv_at hl 3 rfl) ?_
            obtain ⟨g82, hf⟩ := x_if hf
            refine va_iald hx hb hK hP 1 0 rfl rfl (xi_in g82) d_Mo_change_163 ?_
            refine lv_if_ne (tgt := 174) hx hb d_Mo_change_164 (by decide) (fun c94 => ?_) (fun c94 => ?_)
            · have hf := x_ifn c94 hf
              refine lv_aload_n hx hb d_Mo_change_174 rfl (lv_at hl 1 rfl) ?_
              refine va_get (D := D) (ci := 3) (v := .ref o0) (C := R_Mo) (T := F_Mo) (N := 19) hx hb hts i_Mo hown hK hP 0 rfl rfl 1 (by decide) (hts _ k_225) (fun _ h9 => h9) rfl d_Mo_change_175 ?_
              refine lv_iload_n hx hb d_Mo_change_178 rfl (lv_at hl 3 rfl) ?_
              refine lv_iload_n hx hb d_Mo_change_179 rfl (lv_at hl 2 rfl) ?_
              obtain ⟨g83, hf⟩ := x_if hf
              refine va_iast hx hb hK hP hD hS 1 0 rfl rfl (xi_in g83) d_Mo_change_180 (fun H locs hP hD hS => ?_)
              have hP : va_P D vwCl (w_Mo cI cJ cZ oh o0 o1 o2 o3 o4 o5 o6 o7 o8 o9 o10 o11 o12 (((upd z65.2.1.1 p1.toNatClampNeg p0), z65.2.1.2), z65.2.2)) H := hP
              have hD : va_D A (w_Mo cI cJ cZ oh o0 o1 o2 o3 o4 o5 o6 o7 o8 o9 o10 o11 o12 (((upd z65.2.1.1 p1.toNatClampNeg p0), z65.2.1.2), z65.2.2)) := hD
              refine lv_aload_n hx hb d_Mo_change_181 rfl (lv_at hl 1 rfl) ?_
              refine va_get (D := D) (ci := 3) (v := .ref o1) (C := R_Mo) (T := F_Mo) (N := 19) hx hb hts i_Mo hown hK hP 0 rfl rfl 2 (by decide) (hts _ k_226) (fun _ h9 => h9) rfl d_Mo_change_182 ?_
              refine lv_iload_n hx hb d_Mo_change_185 rfl (lv_at hl 3 rfl) ?_
              refine lv_iload_n hx hb d_Mo_change_186 rfl (lv_at hl 4 rfl) ?_
              obtain ⟨g84, hf⟩ := x_if hf
              refine va_iast hx hb hK hP hD hS 2 0 rfl rfl (xi_in g84) d_Mo_change_187 (fun H locs hP hD hS => ?_)
              have hP : va_P D vwCl (w_Mo cI cJ cZ oh o0 o1 o2 o3 o4 o5 o6 o7 o8 o9 o10 o11 o12 (((upd z65.2.1.1 p1.toNatClampNeg p0), ((upd z65.2.1.2.1 p1.toNatClampNeg p2), z65.2.1.2.2)), z65.2.2)) H := hP
              have hD : va_D A (w_Mo cI cJ cZ oh o0 o1 o2 o3 o4 o5 o6 o7 o8 o9 o10 o11 o12 (((upd z65.2.1.1 p1.toNatClampNeg p0), ((upd z65.2.1.2.1 p1.toNatClampNeg p2), z65.2.1.2.2)), z65.2.2)) := hD
              refine lv_aload_n hx hb d_Mo_change_188 rfl (lv_at hl 1 rfl) ?_
              refine va_get (D := D) (ci := 3) (v := .ref o8) (C := R_Mo) (T := F_Mo) (N := 19) hx hb hts i_Mo hown hK hP 0 rfl rfl 9 (by decide) (hts _ k_234) (fun _ h9 => h9) rfl d_Mo_change_189 ?_
              refine lv_iload hx hb d_Mo_change_192 (lv_at hl 0 rfl) ?_
              refine lv_iconst (v := (1 : Int32)) hx hb d_Mo_change_194 (by decide) ?_
              obtain ⟨g85, hf⟩ := x_if hf
              refine va_zast hx hb hK hP hD hS 9 2 rfl rfl (xi_in g85) d_Mo_change_195 (fun H locs hP hD hS => ?_)
              have hP : va_P D vwCl (w_Mo cI cJ cZ oh o0 o1 o2 o3 o4 o5 o6 o7 o8 o9 o10 o11 o12 (((upd z65.2.1.1 p1.toNatClampNeg p0), ((upd z65.2.1.2.1 p1.toNatClampNeg p2), z65.2.1.2.2)), (z65.2.2.1, ((upd z65.2.2.2.1 z66.toNatClampNeg (vp_nar .boolean (1 : Int32))), z65.2.2.2.2)))) H := hP
              have hD : va_D A (w_Mo cI cJ cZ oh o0 o1 o2 o3 o4 o5 o6 o7 o8 o9 o10 o11 o12 (((upd z65.2.1.1 p1.toNatClampNeg p0), ((upd z65.2.1.2.1 p1.toNatClampNeg p2), z65.2.1.2.2)), (z65.2.2.1, ((upd z65.2.2.2.1 z66.toNatClampNeg (vp_nar .boolean (1 : Int32))), z65.2.2.2.2)))) := hD
              refine lv_aload_n hx hb d_Mo_change_196 rfl (lv_at hl 1 rfl) ?_
              refine va_get (D := D) (ci := 3) (v := .ref o10) (C := R_Mo) (T := F_Mo) (N := 19) hx hb hts i_Mo hown hK hP 0 rfl rfl 11 (by decide) (hts _ k_236) (fun _ h9 => h9) rfl d_Mo_change_197 ?_
              refine lv_iload_n hx hb d_Mo_change_200 rfl (lv_at hl 2 rfl) ?_
              refine lv_dup2_11 hx hb d_Mo_change_201 rfl rfl ?_
              obtain ⟨g86, hf⟩ := x_if hf
              refine va_iald hx hb hK hP 11 0 rfl rfl (xi_in g86) d_Mo_change_202 ?_
              refine lv_iconst (v := (1 : Int32)) hx hb d_Mo_change_203 (by decide) ?_
              refine lv_iload hx hb d_Mo_change_204 (lv_at hl 0 rfl) ?_
              refine lv_ishl hx hb d_Mo_change_206 ?_
              refine lv_ior hx hb d_Mo_change_207 ?_
              obtain ⟨g87, hf⟩ := x_if hf
              refine va_iast hx hb hK hP hD hS 11 0 rfl rfl (xi_in g87) d_Mo_change_208 (fun H locs hP hD hS => ?_)
              have hP : va_P D vwCl (w_Mo cI cJ cZ oh o0 o1 o2 o3 o4 o5 o6 o7 o8 o9 o10 o11 o12 (((upd z65.2.1.1 p1.toNatClampNeg p0), ((upd z65.2.1.2.1 p1.toNatClampNeg p2), z65.2.1.2.2)), (z65.2.2.1, ((upd z65.2.2.2.1 z66.toNatClampNeg (vp_nar .boolean (1 : Int32))), (z65.2.2.2.2.1, ((upd z65.2.2.2.2.2.1 p0.toNatClampNeg ((z65.2.2.2.2.2.1 p0.toNatClampNeg) ||| ((1 : Int32) <<< (z66 &&& 31)))), z65.2.2.2.2.2.2)))))) H := hP
              have hD : va_D A (w_Mo cI cJ cZ oh o0 o1 o2 o3 o4 o5 o6 o7 o8 o9 o10 o11 o12 (((upd z65.2.1.1 p1.toNatClampNeg p0), ((upd z65.2.1.2.1 p1.toNatClampNeg p2), z65.2.1.2.2)), (z65.2.2.1, ((upd z65.2.2.2.1 z66.toNatClampNeg (vp_nar .boolean (1 : Int32))), (z65.2.2.2.2.1, ((upd z65.2.2.2.2.2.1 p0.toNatClampNeg ((z65.2.2.2.2.2.1 p0.toNatClampNeg) ||| ((1 : Int32) <<< (z66 &&& 31)))), z65.2.2.2.2.2.2)))))) := hD
              obtain rfl := Option.some.inj hf
              exact x_vret hx hb hr hlocks hK hP hD hS (Nat.le_of_ble_eq_true rfl) (Nat.le_of_ble_eq_true rfl) d_Mo_change_209
            · have hf := x_ifp c94 hf
              refine lv_aload_n hx hb d_Mo_change_167 rfl (lv_at hl 1 rfl) ?_
              refine va_get (D := D) (ci := 3) (v := .ref o2) (C := R_Mo) (T := F_Mo) (N := 19) hx hb hts i_Mo hown hK hP 0 rfl rfl 3 (by decide) (hts _ k_227) (fun _ h9 => h9) rfl d_Mo_change_168 ?_
              refine lv_iload_n hx hb d_Mo_change_171 rfl (lv_at hl 3 rfl) ?_
              refine lv_iconst (v := (-1 : Int32)) hx hb d_Mo_change_172 (by decide) ?_
              obtain ⟨g88, hf⟩ := x_if hf
              refine va_iast hx hb hK hP hD hS 3 0 rfl rfl (xi_in g88) d_Mo_change_173 (fun H locs hP hD hS => ?_)
              have hP : va_P D vwCl (w_Mo cI cJ cZ oh o0 o1 o2 o3 o4 o5 o6 o7 o8 o9 o10 o11 o12 ((z65.2.1.1, (z65.2.1.2.1, ((upd z65.2.1.2.2.1 p1.toNatClampNeg (-1 : Int32)), z65.2.1.2.2.2))), z65.2.2)) H := hP
              have hD : va_D A (w_Mo cI cJ cZ oh o0 o1 o2 o3 o4 o5 o6 o7 o8 o9 o10 o11 o12 ((z65.2.1.1, (z65.2.1.2.1, ((upd z65.2.1.2.2.1 p1.toNatClampNeg (-1 : Int32)), z65.2.1.2.2.2))), z65.2.2)) := hD
              refine lv_aload_n hx hb d_Mo_change_174 rfl (lv_at hl 1 rfl) ?_
              refine va_get (D := D) (ci := 3) (v := .ref o0) (C := R_Mo) (T := F_Mo) (N := 19) hx hb hts i_Mo hown hK hP 0 rfl rfl 1 (by decide) (hts _ k_225) (fun _ h9 => h9) rfl d_Mo_change_175 ?_
              refine lv_iload_n hx hb d_Mo_change_178 rfl (lv_at hl 3 rfl) ?_
              refine lv_iload_n hx hb d_Mo_change_179 rfl (lv_at hl 2 rfl) ?_
              obtain ⟨g89, hf⟩ := x_if hf
              refine va_iast hx hb hK hP hD hS 1 0 rfl rfl (xi_in g89) d_Mo_change_180 (fun H locs hP hD hS => ?_)
              have hP : va_P D vwCl (w_Mo cI cJ cZ oh o0 o1 o2 o3 o4 o5 o6 o7 o8 o9 o10 o11 o12 (((upd z65.2.1.1 p1.toNatClampNeg p0), (z65.2.1.2.1, ((upd z65.2.1.2.2.1 p1.toNatClampNeg (-1 : Int32)), z65.2.1.2.2.2))), z65.2.2)) H := hP
              have hD : va_D A (w_Mo cI cJ cZ oh o0 o1 o2 o3 o4 o5 o6 o7 o8 o9 o10 o11 o12 (((upd z65.2.1.1 p1.toNatClampNeg p0), (z65.2.1.2.1, ((upd z65.2.1.2.2.1 p1.toNatClampNeg (-1 : Int32)), z65.2.1.2.2.2))), z65.2.2)) := hD
              refine lv_aload_n hx hb d_Mo_change_181 rfl (lv_at hl 1 rfl) ?_
              refine va_get (D := D) (ci := 3) (v := .ref o1) (C := R_Mo) (T := F_Mo) (N := 19) hx hb hts i_Mo hown hK hP 0 rfl rfl 2 (by decide) (hts _ k_226) (fun _ h9 => h9) rfl d_Mo_change_182 ?_
              refine lv_iload_n hx hb d_Mo_change_185 rfl (lv_at hl 3 rfl) ?_
              refine lv_iload_n hx hb d_Mo_change_186 rfl (lv_at hl 4 rfl) ?_
              obtain ⟨g90, hf⟩ := x_if hf
              refine va_iast hx hb hK hP hD hS 2 0 rfl rfl (xi_in g90) d_Mo_change_187 (fun H locs hP hD hS => ?_)
              have hP : va_P D vwCl (w_Mo cI cJ cZ oh o0 o1 o2 o3 o4 o5 o6 o7 o8 o9 o10 o11 o12 (((upd z65.2.1.1 p1.toNatClampNeg p0), ((upd z65.2.1.2.1 p1.toNatClampNeg p2), ((upd z65.2.1.2.2.1 p1.toNatClampNeg (-1 : Int32)), z65.2.1.2.2.2))), z65.2.2)) H := hP
              have hD : va_D A (w_Mo cI cJ cZ oh o0 o1 o2 o3 o4 o5 o6 o7 o8 o9 o10 o11 o12 (((upd z65.2.1.1 p1.toNatClampNeg p0), ((upd z65.2.1.2.1 p1.toNatClampNeg p2), ((upd z65.2.1.2.2.1 p1.toNatClampNeg (-1 : Int32)), z65.2.1.2.2.2))), z65.2.2)) := hD
              refine lv_aload_n hx hb d_Mo_change_188 rfl (lv_at hl 1 rfl) ?_
              refine va_get (D := D) (ci := 3) (v := .ref o8) (C := R_Mo) (T := F_Mo) (N := 19) hx hb hts i_Mo hown hK hP 0 rfl rfl 9 (by decide) (hts _ k_234) (fun _ h9 => h9) rfl d_Mo_change_189 ?_
              refine lv_iload hx hb d_Mo_change_192 (lv_at hl 0 rfl) ?_
              refine lv_iconst (v := (1 : Int32)) hx hb d_Mo_change_194 (by decide) ?_
              obtain ⟨g91, hf⟩ := x_if hf
              refine va_zast hx hb hK hP hD hS 9 2 rfl rfl (xi_in g91) d_Mo_change_195 (fun H locs hP hD hS => ?_)
              have hP : va_P D vwCl (w_Mo cI cJ cZ oh o0 o1 o2 o3 o4 o5 o6 o7 o8 o9 o10 o11 o12 (((upd z65.2.1.1 p1.toNatClampNeg p0), ((upd z65.2.1.2.1 p1.toNatClampNeg p2), ((upd z65.2.1.2.2.1 p1.toNatClampNeg (-1 : Int32)), z65.2.1.2.2.2))), (z65.2.2.1, ((upd z65.2.2.2.1 z66.toNatClampNeg (vp_nar .boolean (1 : Int32))), z65.2.2.2.2)))) H := hP
              have hD : va_D A (w_Mo cI cJ cZ oh o0 o1 o2 o3 o4 o5 o6 o7 o8 o9 o10 o11 o12 (((upd z65.2.1.1 p1.toNatClampNeg p0), ((upd z65.2.1.2.1 p1.toNatClampNeg p2), ((upd z65.2.1.2.2.1 p1.toNatClampNeg (-1 : Int32)), z65.2.1.2.2.2))), (z65.2.2.1, ((upd z65.2.2.2.1 z66.toNatClampNeg (vp_nar .boolean (1 : Int32))), z65.2.2.2.2)))) := hD
              refine lv_aload_n hx hb d_Mo_change_196 rfl (lv_at hl 1 rfl) ?_
              refine va_get (D := D) (ci := 3) (v := .ref o10) (C := R_Mo) (T := F_Mo) (N := 19) hx hb hts i_Mo hown hK hP 0 rfl rfl 11 (by decide) (hts _ k_236) (fun _ h9 => h9) rfl d_Mo_change_197 ?_
              refine lv_iload_n hx hb d_Mo_change_200 rfl (lv_at hl 2 rfl) ?_
              refine lv_dup2_11 hx hb d_Mo_change_201 rfl rfl ?_
              obtain ⟨g92, hf⟩ := x_if hf
              refine va_iald hx hb hK hP 11 0 rfl rfl (xi_in g92) d_Mo_change_202 ?_
              refine lv_iconst (v := (1 : Int32)) hx hb d_Mo_change_203 (by decide) ?_
              refine lv_iload hx hb d_Mo_change_204 (lv_at hl 0 rfl) ?_
              refine lv_ishl hx hb d_Mo_change_206 ?_
              refine lv_ior hx hb d_Mo_change_207 ?_
              obtain ⟨g93, hf⟩ := x_if hf
              refine va_iast hx hb hK hP hD hS 11 0 rfl rfl (xi_in g93) d_Mo_change_208 (fun H locs hP hD hS => ?_)
              have hP : va_P D vwCl (w_Mo cI cJ cZ oh o0 o1 o2 o3 o4 o5 o6 o7 o8 o9 o10 o11 o12 (((upd z65.2.1.1 p1.toNatClampNeg p0), ((upd z65.2.1.2.1 p1.toNatClampNeg p2), ((upd z65.2.1.2.2.1 p1.toNatClampNeg (-1 : Int32)), z65.2.1.2.2.2))), (z65.2.2.1, ((upd z65.2.2.2.1 z66.toNatClampNeg (vp_nar .boolean (1 : Int32))), (z65.2.2.2.2.1, ((upd z65.2.2.2.2.2.1 p0.toNatClampNeg ((z65.2.2.2.2.2.1 p0.toNatClampNeg) ||| ((1 : Int32) <<< (z66 &&& 31)))), z65.2.2.2.2.2.2)))))) H := hP
              have hD : va_D A (w_Mo cI cJ cZ oh o0 o1 o2 o3 o4 o5 o6 o7 o8 o9 o10 o11 o12 (((upd z65.2.1.1 p1.toNatClampNeg p0), ((upd z65.2.1.2.1 p1.toNatClampNeg p2), ((upd z65.2.1.2.2.1 p1.toNatClampNeg (-1 : Int32)), z65.2.1.2.2.2))), (z65.2.2.1, ((upd z65.2.2.2.1 z66.toNatClampNeg (vp_nar .boolean (1 : Int32))), (z65.2.2.2.2.1, ((upd z65.2.2.2.2.2.1 p0.toNatClampNeg ((z65.2.2.2.2.2.1 p0.toNatClampNeg) ||| ((1 : Int32) <<< (z66 &&& 31)))), z65.2.2.2.2.2.2)))))) := hD
              obtain rfl := Option.some.inj hf
              exact x_vret hx hb hr hlocks hK hP hD hS (Nat.le_of_ble_eq_true rfl) (Nat.le_of_ble_eq_true rfl) d_Mo_change_209
          · have hf := x_ifn c95 hf
            refine lv_bipush (v := (6 : Int32)) hx hb d_Mo_change_62 (by decide) ?_
            refine lv_istore (lv' := [(5, .int (6 : Int32)), (4, .int z66), (0, .ref oh), (1, .int p0), (2, .int p1), (3, .int p2)]) hx hb d_Mo_change_64 hl (by decide) rfl (fun ls hl => ?_)
            exact L_66 _ _ _ _ _ _ _ hf _ _ _ hP hD hS (lv_sub hl [2, 3, 4, 5, 1, 0] rfl)
      · have hf := x_ifp c97 hf
        refine lv_aload_n hx hb d_Mo_change_31 rfl (lv_at hl 0 rfl) ?_
        refine lv_iconst (v := (1 : Int32)) hx hb d_Mo_change_32 (by decide) ?_
        refine va_put (D := D) (ci := 3) (v := .int (1 : Int32)) (ty := .int) (C := R_Mo) (T := F_Mo) (N := 19) hx hb hts i_Mo t_Mo t_Mo_ok n_Mo hown hK hP hD hS 0 rfl rfl 18 (by decide) (hts _ k_268) (fun _ h9 => h9) rfl (by decide +kernel) rfl rfl (Nat.le_of_ble_eq_true rfl) d_Mo_change_33 (fun H locs hP hD hS => ?_)
        have hP : va_P D vwCl (w_Mo cI cJ cZ oh o0 o1 o2 o3 o4 o5 o6 o7 o8 o9 o10 o11 o12 (z65.2.1, (z65.2.2.1, (z65.2.2.2.1, (z65.2.2.2.2.1, (z65.2.2.2.2.2.1, (z65.2.2.2.2.2.2.1, (z65.2.2.2.2.2.2.2.1, (z65.2.2.2.2.2.2.2.2.1, (z65.2.2.2.2.2.2.2.2.2.1, (z65.2.2.2.2.2.2.2.2.2.2.1, (z65.2.2.2.2.2.2.2.2.2.2.2.1, (z65.2.2.2.2.2.2.2.2.2.2.2.2.1, (1 : Int32)))))))))))))) H := hP
        have hD : va_D A (w_Mo cI cJ cZ oh o0 o1 o2 o3 o4 o5 o6 o7 o8 o9 o10 o11 o12 (z65.2.1, (z65.2.2.1, (z65.2.2.2.1, (z65.2.2.2.2.1, (z65.2.2.2.2.2.1, (z65.2.2.2.2.2.2.1, (z65.2.2.2.2.2.2.2.1, (z65.2.2.2.2.2.2.2.2.1, (z65.2.2.2.2.2.2.2.2.2.1, (z65.2.2.2.2.2.2.2.2.2.2.1, (z65.2.2.2.2.2.2.2.2.2.2.2.1, (z65.2.2.2.2.2.2.2.2.2.2.2.2.1, (1 : Int32)))))))))))))) := hD
        obtain rfl := Option.some.inj hf
        exact x_vret hx hb hr hlocks hK hP hD hS (Nat.le_of_ble_eq_true rfl) (Nat.le_of_ble_eq_true rfl) d_Mo_change_36
  · have hf := x_ifn c99 hf
    obtain rfl := Option.some.inj hf
    exact x_vret hx hb hr hlocks hK hP hD hS (Nat.le_of_ble_eq_true rfl) (Nat.le_of_ble_eq_true rfl) d_Mo_change_12
