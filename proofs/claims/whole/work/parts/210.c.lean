set_option maxHeartbeats 4000000 in
set_option maxRecDepth 100000 in
theorem c_Mo_before (l : Launch) (D : va_G) (cI cJ cZ : ClassId) (oh o0 o1 o2 o3 o4 o5 o6 o7 o8 o9 o10 o11 o12 : Nat) (N : Nat) (p0 : Int32) (U : K_Mo) (r : (Int32 × K_Mo)) (hf : f_Mo_before N p0 U = some r) : Cx l y_Mo_before ws_Mo_before rm_Mo_before D vwCl (tyL cI cJ cZ) [.ref oh, .int p0] (w_Mo cI cJ cZ oh o0 o1 o2 o3 o4 o5 o6 o7 o8 o9 o10 o11 o12 U) (oI r.1) (w_Mo cI cJ cZ oh o0 o1 o2 o3 o4 o5 o6 o7 o8 o9 o10 o11 o12 r.2) := by
  unfold f_Mo_before at hf
  refine Cx.ofW (cc := b_Mo_before) (maxL := 5) (ret := (some .int)) (by decide) rfl ?_
  intro p e s m below meth c A C0 hP hK hD hA hns hZ
  obtain ⟨hx, hb, hml, hown, hts0, hr, hlocks, hnm, hno⟩ := C0
  have hown : s.vm.findClass R_Mo = some m.cls := hown
  have hts : ∀ w ∈ tb, w.before [.ref oh, .int p0].toArray s = true := fun w h => hts0 w (List.mem_cons_of_mem _ h)
  have hS : va_S A s.heap s.heap [] := va_S.rf
  have hl := lv_entry ([.ref oh, .int p0]) (n := 5) (Nat.le_of_ble_eq_true rfl)
  rw [lg_entry_eq]
  generalize (lg_sl ([.ref oh, .int p0]) ++ List.replicate (5 - (lg_sl ([.ref oh, .int p0])).length) Slot.unset).toArray = ls at hl ⊢
  have hl : lv_has ls 5 [(0, .ref oh), (1, .int p0)] := hl
  have L_18 : ∀ (k9 : Int32 → Int32 → K_Mo → Option (Int32 × K_Mo)), (∀ (x2 : Int32) (x3 : Int32) (U : K_Mo), k9 x2 x3 U = some r → ∀ (H : Heap) (locs : List Loc) (ls : Array Slot), va_P D vwCl (w_Mo cI cJ cZ oh o0 o1 o2 o3 o4 o5 o6 o7 o8 o9 o10 o11 o12 U) H → va_D A (w_Mo cI cJ cZ oh o0 o1 o2 o3 o4 o5 o6 o7 o8 o9 o10 o11 o12 U) → va_S A s.heap H locs → lv_has ls 5 [(0, .ref oh), (2, .int x2), (3, .int x3)] → W p l e (rm_Mo_before) s m [.ref oh, .int p0].toArray below meth c H locs 0 0 (xQ D vwCl (tyL cI cJ cZ) below s A (oI r.1) (w_Mo cI cJ cZ oh o0 o1 o2 o3 o4 o5 o6 o7 o8 o9 o10 o11 o12 r.2) (rm_Mo_before).cells (rm_Mo_before).slots) (F0 m 9 ls [])) → ∀ n : Nat, ∀ (x2 : Int32) (x3 : Int32) (x4 : Int32) (U : K_Mo), f_Mo_before_18 N k9 n x2 x3 x4 U = some r → ∀ (H : Heap) (locs : List Loc) (ls : Array Slot), va_P D vwCl (w_Mo cI cJ cZ oh o0 o1 o2 o3 o4 o5 o6 o7 o8 o9 o10 o11 o12 U) H → va_D A (w_Mo cI cJ cZ oh o0 o1 o2 o3 o4 o5 o6 o7 o8 o9 o10 o11 o12 U) → va_S A s.heap H locs → lv_has ls 5 [(0, .ref oh), (2, .int x2), (3, .int x3), (4, .int x4)] → W p l e (rm_Mo_before) s m [.ref oh, .int p0].toArray below meth c H locs 0 0 (xQ D vwCl (tyL cI cJ cZ) below s A (oI r.1) (w_Mo cI cJ cZ oh o0 o1 o2 o3 o4 o5 o6 o7 o8 o9 o10 o11 o12 r.2) (rm_Mo_before).cells (rm_Mo_before).slots) (F0 m 18 ls []) := by
    intro k9 hk9 n
    induction n with
    | zero =>
      intro x2 x3 x4 U hf
      have hf : (none : Option (Int32 × K_Mo)) = some r := hf
      cases hf
    | succ n ih =>
      intro x2 x3 x4 U hf H locs ls hP hD hS hl
      rw [f_Mo_before_18] at hf
      refine lv_iload hx hb d_Mo_before_18 (lv_at hl 3 rfl) ?_
      refine lv_bipush (v := (7 : Int32)) hx hb d_Mo_before_20 (by decide) ?_
      refine lv_icmp_ge (tgt := 50) hx hb d_Mo_before_22 (by decide) (fun c4 => ?_) (fun c4 => ?_)
      · have hf := x_ifp c4 hf
        refine lv_iinc (v := (x3 + (1 : Int32))) (lv' := [(3, .int (x3 + (1 : Int32))), (0, .ref oh), (2, .int x2), (4, .int x4)]) hx hb d_Mo_before_50 hl (k := 2) rfl rfl (by decide) rfl (fun ls hl => ?_)
        refine lv_goto (tgt := 9) hx hb d_Mo_before_53 (by decide) ?_
        exact hk9 _ _ _ hf _ _ _ hP hD hS (lv_sub hl [1, 2, 0] rfl)
      · have hf := x_ifn c4 hf
        refine lv_iload_n hx hb d_Mo_before_25 rfl (lv_at hl 1 rfl) ?_
        refine lv_iload hx hb d_Mo_before_26 (lv_at hl 3 rfl) ?_
        refine lv_ishr hx hb d_Mo_before_28 ?_
        refine lv_iconst (v := (1 : Int32)) hx hb d_Mo_before_29 (by decide) ?_
        refine lv_iand hx hb d_Mo_before_30 ?_
        refine lv_if_eq (tgt := 44) hx hb d_Mo_before_31 (by decide) (fun c3 => ?_) (fun c3 => ?_)
        · have hf := x_ifp c3 hf
          refine lv_iinc (v := (x4 + (1 : Int32))) (lv' := [(4, .int (x4 + (1 : Int32))), (0, .ref oh), (2, .int x2), (3, .int x3)]) hx hb d_Mo_before_44 hl (k := 3) rfl rfl (by decide) rfl (fun ls hl => ?_)
          refine lv_goto (tgt := 18) hx hb d_Mo_before_47 (by decide) ?_
          exact ih _ _ _ _ hf _ _ _ hP hD hS (lv_sub hl [1, 2, 3, 0] rfl)
        · have hf := x_ifn c3 hf
          refine lv_iload_n hx hb d_Mo_before_34 rfl (lv_at hl 1 rfl) ?_
          refine lv_aload_n hx hb d_Mo_before_35 rfl (lv_at hl 0 rfl) ?_
          refine va_get (D := D) (ci := 3) (v := .ref o9) (C := R_Mo) (T := F_Mo) (N := 19) hx hb hts i_Mo hown hK hP 0 rfl rfl 10 (by decide) (hts _ k_235) (fun _ h9 => h9) rfl d_Mo_before_36 ?_
          refine lv_iload hx hb d_Mo_before_39 (lv_at hl 3 rfl) ?_
          obtain ⟨g2, hf⟩ := x_if hf
          refine va_iald hx hb hK hP 10 0 rfl rfl (xi_in g2) d_Mo_before_41 ?_
          refine lv_ior hx hb d_Mo_before_42 ?_
          refine lv_istore_n (lv' := [(2, .int (x2 ||| (U.2.2.2.1 x4.toNatClampNeg))), (0, .ref oh), (3, .int x3), (4, .int x4)]) hx hb d_Mo_before_43 rfl hl (by decide) rfl (fun ls hl => ?_)
          refine lv_iinc (v := (x4 + (1 : Int32))) (lv' := [(4, .int (x4 + (1 : Int32))), (2, .int (x2 ||| (U.2.2.2.1 x4.toNatClampNeg))), (0, .ref oh), (3, .int x3)]) hx hb d_Mo_before_44 hl (k := 3) rfl rfl (by decide) rfl (fun ls hl => ?_)
          refine lv_goto (tgt := 18) hx hb d_Mo_before_47 (by decide) ?_
          exact ih _ _ _ _ hf _ _ _ hP hD hS (lv_sub hl [2, 1, 3, 0] rfl)
  have L_9 : ∀ n : Nat, ∀ (x2 : Int32) (x3 : Int32) (U : K_Mo), f_Mo_before_9 N n x2 x3 U = some r → ∀ (H : Heap) (locs : List Loc) (ls : Array Slot), va_P D vwCl (w_Mo cI cJ cZ oh o0 o1 o2 o3 o4 o5 o6 o7 o8 o9 o10 o11 o12 U) H → va_D A (w_Mo cI cJ cZ oh o0 o1 o2 o3 o4 o5 o6 o7 o8 o9 o10 o11 o12 U) → va_S A s.heap H locs → lv_has ls 5 [(0, .ref oh), (2, .int x2), (3, .int x3)] → W p l e (rm_Mo_before) s m [.ref oh, .int p0].toArray below meth c H locs 0 0 (xQ D vwCl (tyL cI cJ cZ) below s A (oI r.1) (w_Mo cI cJ cZ oh o0 o1 o2 o3 o4 o5 o6 o7 o8 o9 o10 o11 o12 r.2) (rm_Mo_before).cells (rm_Mo_before).slots) (F0 m 9 ls []) := by
    intro n
    induction n with
    | zero =>
      intro x2 x3 U hf
      have hf : (none : Option (Int32 × K_Mo)) = some r := hf
      cases hf
    | succ n ih =>
      intro x2 x3 U hf H locs ls hP hD hS hl
      rw [f_Mo_before_9] at hf
      refine lv_iload_n hx hb d_Mo_before_9 rfl (lv_at hl 2 rfl) ?_
      refine lv_bipush (v := (7 : Int32)) hx hb d_Mo_before_10 (by decide) ?_
      refine lv_icmp_ge (tgt := 56) hx hb d_Mo_before_12 (by decide) (fun c5 => ?_) (fun c5 => ?_)
      · have hf := x_ifp c5 hf
        refine lv_iload_n hx hb d_Mo_before_56 rfl (lv_at hl 1 rfl) ?_
        obtain rfl := Option.some.inj hf
        exact x_iret hx hb hr hlocks hK hP hD hS (Nat.le_of_ble_eq_true rfl) (Nat.le_of_ble_eq_true rfl) d_Mo_before_57
      · have hf := x_ifn c5 hf
        refine lv_iconst (v := (0 : Int32)) hx hb d_Mo_before_15 (by decide) ?_
        refine lv_istore (lv' := [(4, .int (0 : Int32)), (0, .ref oh), (2, .int x2), (3, .int x3)]) hx hb d_Mo_before_16 hl (by decide) rfl (fun ls hl => ?_)
        exact L_18 (f_Mo_before_9 N n) ih _ _ _ _ _ hf _ _ _ hP hD hS (lv_sub hl [1, 2, 3, 0] rfl)
  refine lv_aload_n hx hb d_Mo_before_0 rfl (lv_at hl 0 rfl) ?_
  refine va_get (D := D) (ci := 3) (v := .ref o9) (C := R_Mo) (T := F_Mo) (N := 19) hx hb hts i_Mo hown hK hP 0 rfl rfl 10 (by decide) (hts _ k_235) (fun _ h9 => h9) rfl d_Mo_before_1 ?_
  refine lv_iload_n hx hb d_Mo_before_4 rfl (lv_at hl 1 rfl) ?_
  obtain ⟨g1, hf⟩ := x_if hf
  refine va_iald hx hb hK hP 10 0 rfl rfl (xi_in g1) d_Mo_before_5 ?_
  refine lv_istore_n (lv' := [(2, .int (U.2.2.2.1 p0.toNatClampNeg)), (0, .ref oh), (1, .int p0)]) hx hb d_Mo_before_6 rfl hl (by decide) rfl (fun ls hl => ?_)
  refine lv_iconst (v := (0 : Int32)) hx hb d_Mo_before_7 (by decide) ?_
  refine lv_istore_n (lv' := [(3, .int (0 : Int32)), (2, .int (U.2.2.2.1 p0.toNatClampNeg)), (0, .ref oh), (1, .int p0)]) hx hb d_Mo_before_8 rfl hl (by decide) rfl (fun ls hl => ?_)
  exact L_9 _ _ _ _ hf _ _ _ hP hD hS (lv_sub hl [2, 1, 0] rfl)
set_option maxHeartbeats 4000000 in
set_option maxRecDepth 100000 in
theorem c_Mo_note (l : Launch) (D : va_G) (cI cJ cZ : ClassId) (oh o0 o1 o2 o3 o4 o5 o6 o7 o8 o9 o10 o11 o12 : Nat) (N : Nat) (p0 : Int32) (p1 : Int32) (U : K_Mo) (r : (Unit × K_Mo)) (hf : f_Mo_note N p0 p1 U = some r) : Cx l y_Mo_note ws_Mo_note rm_Mo_note D vwCl (tyL cI cJ cZ) [.ref oh, .int p0, .int p1] (w_Mo cI cJ cZ oh o0 o1 o2 o3 o4 o5 o6 o7 o8 o9 o10 o11 o12 U) (oV r.1) (w_Mo cI cJ cZ oh o0 o1 o2 o3 o4 o5 o6 o7 o8 o9 o10 o11 o12 r.2) := by
  unfold f_Mo_note at hf
  refine Cx.ofW (cc := b_Mo_note) (maxL := 3) (ret := none) (by decide) rfl ?_
  intro p e s m below meth c A C0 hP hK hD hA hns hZ
  obtain ⟨hx, hb, hml, hown, hts0, hr, hlocks, hnm, hno⟩ := C0
  have hown : s.vm.findClass R_Mo = some m.cls := hown
  have hts : ∀ w ∈ tb, w.before [.ref oh, .int p0, .int p1].toArray s = true := fun w h => hts0 w (List.mem_cons_of_mem _ h)
  have hS : va_S A s.heap s.heap [] := va_S.rf
  have hl := lv_entry ([.ref oh, .int p0, .int p1]) (n := 3) (Nat.le_of_ble_eq_true rfl)
  rw [lg_entry_eq]
  generalize (lg_sl ([.ref oh, .int p0, .int p1]) ++ List.replicate (3 - (lg_sl ([.ref oh, .int p0, .int p1])).length) Slot.unset).toArray = ls at hl ⊢
  have hl : lv_has ls 3 [(0, .ref oh), (1, .int p0), (2, .int p1)] := hl
  refine lv_aload_n hx hb d_Mo_note_0 rfl (lv_at hl 0 rfl) ?_
  refine va_get (D := D) (ci := 3) (v := .int U.2.2.2.2.2.2.2.2.2.2.2.1) (C := R_Mo) (T := F_Mo) (N := 19) hx hb hts i_Mo hown hK hP 0 rfl rfl 17 (by decide) (hts _ k_241) (fun _ h9 => h9) rfl d_Mo_note_1 ?_
  refine lv_if_eq (tgt := 8) hx hb d_Mo_note_4 (by decide) (fun c12 => ?_) (fun c12 => ?_)
  · have hf := x_ifp c12 hf
    refine lv_aload_n hx hb d_Mo_note_8 rfl (lv_at hl 0 rfl) ?_
    refine lv_iload_n hx hb d_Mo_note_9 rfl (lv_at hl 1 rfl) ?_
    obtain ⟨z1, hz1, hf⟩ := x_bind hf
    refine x_callV (w2 := (w_Mo cI cJ cZ oh o0 o1 o2 o3 o4 o5 o6 o7 o8 o9 o10 o11 o12 z1.2)) ⟨hx, hb, hml, hown, hts⟩ (c_Mo_before l D cI cJ cZ oh o0 o1 o2 o3 o4 o5 o6 o7 o8 o9 o10 o11 o12 N p0 U z1 hz1) (x_cwV 1 hts rfl k_264 k_265 k_266 k_246 k_267 (by decide +kernel) ⟨(Nat.le_of_ble_eq_true rfl), (Nat.le_of_ble_eq_true rfl)⟩) hK hP hD hS hA hZ [0, 1, 2, 3, 4, 5, 6, 7, 8, 9, 10, 11, 12, 13] [] [0, 1, 2, 3, 4, 5, 6, 7, 8, 9, 10, 11, 12, 13] (by decide) rfl rfl (by decide) (by decide) (by decide) rfl (ci := 3) rfl rfl rfl hl.1 rfl (Nat.le_of_ble_eq_true rfl) d_Mo_note_10 ⟨(Nat.le_of_ble_eq_true rfl), (Nat.le_of_ble_eq_true rfl)⟩ (fun H locs hP hD hS => ?_)
    refine W.eq (g2 := F0 m 13 ls [.int z1.1]) rfl ?_
    refine lv_iload_n hx hb d_Mo_note_13 rfl (lv_at hl 2 rfl) ?_
    refine lv_ishr hx hb d_Mo_note_14 ?_
    refine lv_iconst (v := (1 : Int32)) hx hb d_Mo_note_15 (by decide) ?_
    refine lv_iand hx hb d_Mo_note_16 ?_
    refine lv_if_eq (tgt := 25) hx hb d_Mo_note_17 (by decide) (fun c11 => ?_) (fun c11 => ?_)
    · have hf := x_ifp c11 hf
      refine lv_aload_n hx hb d_Mo_note_25 rfl (lv_at hl 0 rfl) ?_
      refine va_get (D := D) (ci := 3) (v := .int z1.2.2.2.2.2.2.2.2.2.2.2.2.1) (C := R_Mo) (T := F_Mo) (N := 19) hx hb hts i_Mo hown hK hP 0 rfl rfl 17 (by decide) (hts _ k_241) (fun _ h9 => h9) rfl d_Mo_note_26 ?_
      refine lv_if_ne (tgt := 49) hx hb d_Mo_note_29 (by decide) (fun c5 => ?_) (fun c5 => ?_)
      · have hf := x_ifn c5 hf
        obtain rfl := Option.some.inj hf
        exact x_vret hx hb hr hlocks hK hP hD hS (Nat.le_of_ble_eq_true rfl) (Nat.le_of_ble_eq_true rfl) d_Mo_note_49
      · have hf := x_ifp c5 hf
        refine lv_iload_n hx hb d_Mo_note_32 rfl (lv_at hl 1 rfl) ?_
        refine lv_iload_n hx hb d_Mo_note_33 rfl (lv_at hl 2 rfl) ?_
        refine lv_icmp_eq (tgt := 49) hx hb d_Mo_note_34 (by decide) (fun c4 => ?_) (fun c4 => ?_)
        · have hf := x_ifp c4 hf
          obtain rfl := Option.some.inj hf
          exact x_vret hx hb hr hlocks hK hP hD hS (Nat.le_of_ble_eq_true rfl) (Nat.le_of_ble_eq_true rfl) d_Mo_note_49
        · have hf := x_ifn c4 hf
          refine lv_aload_n hx hb d_Mo_note_37 rfl (lv_at hl 0 rfl) ?_
          refine va_get (D := D) (ci := 3) (v := .ref o9) (C := R_Mo) (T := F_Mo) (N := 19) hx hb hts i_Mo hown hK hP 0 rfl rfl 10 (by decide) (hts _ k_235) (fun _ h9 => h9) rfl d_Mo_note_38 ?_
          refine lv_iload_n hx hb d_Mo_note_41 rfl (lv_at hl 2 rfl) ?_
          refine lv_dup2_11 hx hb d_Mo_note_42 rfl rfl ?_
          obtain ⟨g2, hf⟩ := x_if hf
          refine va_iald hx hb hK hP 10 0 rfl rfl (xi_in g2) d_Mo_note_43 ?_
          refine lv_iconst (v := (1 : Int32)) hx hb d_Mo_note_44 (by decide) ?_
          refine lv_iload_n hx hb d_Mo_note_45 rfl (lv_at hl 1 rfl) ?_
          refine lv_ishl hx hb d_Mo_note_46 ?_
          refine lv_ior hx hb d_Mo_note_47 ?_
          obtain ⟨g3, hf⟩ := x_if hf
          refine va_iast hx hb hK hP hD hS 10 0 rfl rfl (xi_in g3) d_Mo_note_48 (fun H locs hP hD hS => ?_)
          have hP : va_P D vwCl (w_Mo cI cJ cZ oh o0 o1 o2 o3 o4 o5 o6 o7 o8 o9 o10 o11 o12 (z1.2.1, (z1.2.2.1, (z1.2.2.2.1, ((upd z1.2.2.2.2.1 p1.toNatClampNeg ((z1.2.2.2.2.1 p1.toNatClampNeg) ||| ((1 : Int32) <<< (p0 &&& 31)))), z1.2.2.2.2.2))))) H := hP
          have hD : va_D A (w_Mo cI cJ cZ oh o0 o1 o2 o3 o4 o5 o6 o7 o8 o9 o10 o11 o12 (z1.2.1, (z1.2.2.1, (z1.2.2.2.1, ((upd z1.2.2.2.2.1 p1.toNatClampNeg ((z1.2.2.2.2.1 p1.toNatClampNeg) ||| ((1 : Int32) <<< (p0 &&& 31)))), z1.2.2.2.2.2))))) := hD
          obtain rfl := Option.some.inj hf
          exact x_vret hx hb hr hlocks hK hP hD hS (Nat.le_of_ble_eq_true rfl) (Nat.le_of_ble_eq_true rfl) d_Mo_note_49
    · have hf := x_ifn c11 hf
      refine lv_aload_n hx hb d_Mo_note_20 rfl (lv_at hl 0 rfl) ?_
      refine lv_iload_n hx hb d_Mo_note_21 rfl (lv_at hl 2 rfl) ?_
      obtain ⟨z6, hz6, hf⟩ := x_bind hf
      refine x_callV (w2 := (w_Mo cI cJ cZ oh o0 o1 o2 o3 o4 o5 o6 o7 o8 o9 o10 o11 o12 z6.2)) ⟨hx, hb, hml, hown, hts⟩ (c_Mo_store l D cI cJ cZ oh o0 o1 o2 o3 o4 o5 o6 o7 o8 o9 o10 o11 o12 N p1 z1.2 z6 hz6) (x_cwV 1 hts rfl k_260 k_261 k_262 k_246 k_263 (by decide +kernel) ⟨(Nat.le_of_ble_eq_true rfl), (Nat.le_of_ble_eq_true rfl)⟩) hK hP hD hS hA hZ [0, 1, 2, 3, 4, 5, 6, 7, 8, 9, 10, 11, 12, 13] [] [0, 1, 2, 3, 4, 5, 6, 7, 8, 9, 10, 11, 12, 13] (by decide) rfl rfl (by decide) (by decide) (by decide) rfl (ci := 3) rfl rfl rfl hl.1 rfl (Nat.le_of_ble_eq_true rfl) d_Mo_note_22 ⟨(Nat.le_of_ble_eq_true rfl), (Nat.le_of_ble_eq_true rfl)⟩ (fun H locs hP hD hS => ?_)
      refine W.eq (g2 := F0 m 25 ls []) rfl ?_
      refine lv_aload_n hx hb d_Mo_note_25 rfl (lv_at hl 0 rfl) ?_
      refine va_get (D := D) (ci := 3) (v := .int z6.2.2.2.2.2.2.2.2.2.2.2.2.1) (C := R_Mo) (T := F_Mo) (N := 19) hx hb hts i_Mo hown hK hP 0 rfl rfl 17 (by decide) (hts _ k_241) (fun _ h9 => h9) rfl d_Mo_note_26 ?_
      refine lv_if_ne (tgt := 49) hx hb d_Mo_note_29 (by decide) (fun c10 => ?_) (fun c10 => ?_)
      · have hf := x_ifn c10 hf
        obtain rfl := Option.some.inj hf
        exact x_vret hx hb hr hlocks hK hP hD hS (Nat.le_of_ble_eq_true rfl) (Nat.le_of_ble_eq_true rfl) d_Mo_note_49
      · have hf := x_ifp c10 hf
        refine lv_iload_n hx hb d_Mo_note_32 rfl (lv_at hl 1 rfl) ?_
        refine lv_iload_n hx hb d_Mo_note_33 rfl (lv_at hl 2 rfl) ?_
        refine lv_icmp_eq (tgt := 49) hx hb d_Mo_note_34 (by decide) (fun c9 => ?_) (fun c9 => ?_)
        · have hf := x_ifp c9 hf
          obtain rfl := Option.some.inj hf
          exact x_vret hx hb hr hlocks hK hP hD hS (Nat.le_of_ble_eq_true rfl) (Nat.le_of_ble_eq_true rfl) d_Mo_note_49
        · have hf := x_ifn c9 hf
          refine lv_aload_n hx hb d_Mo_note_37 rfl (lv_at hl 0 rfl) ?_
          refine va_get (D := D) (ci := 3) (v := .ref o9) (C := R_Mo) (T := F_Mo) (N := 19) hx hb hts i_Mo hown hK hP 0 rfl rfl 10 (by decide) (hts _ k_235) (fun _ h9 => h9) rfl d_Mo_note_38 ?_
          refine lv_iload_n hx hb d_Mo_note_41 rfl (lv_at hl 2 rfl) ?_
          refine lv_dup2_11 hx hb d_Mo_note_42 rfl rfl ?_
          obtain ⟨g7, hf⟩ := x_if hf
          refine va_iald hx hb hK hP 10 0 rfl rfl (xi_in g7) d_Mo_note_43 ?_
          refine lv_iconst (v := (1 : Int32)) hx hb d_Mo_note_44 (by decide) ?_
          refine lv_iload_n hx hb d_Mo_note_45 rfl (lv_at hl 1 rfl) ?_
          refine lv_ishl hx hb d_Mo_note_46 ?_
          refine lv_ior hx hb d_Mo_note_47 ?_
          obtain ⟨g8, hf⟩ := x_if hf
          refine va_iast hx hb hK hP hD hS 10 0 rfl rfl (xi_in g8) d_Mo_note_48 (fun H locs hP hD hS => ?_)
          have hP : va_P D vwCl (w_Mo cI cJ cZ oh o0 o1 o2 o3 o4 o5 o6 o7 o8 o9 o10 o11 o12 (z6.2.1, (z6.2.2.1, (z6.2.2.2.1, ((upd z6.2.2.2.2.1 p1.toNatClampNeg ((z6.2.2.2.2.1 p1.toNatClampNeg) ||| ((1 : Int32) <<< (p0 &&& 31)))), z6.2.2.2.2.2))))) H := hP
          have hD : va_D A (w_Mo cI cJ cZ oh o0 o1 o2 o3 o4 o5 o6 o7 o8 o9 o10 o11 o12 (z6.2.1, (z6.2.2.1, (z6.2.2.2.1, ((upd z6.2.2.2.2.1 p1.toNatClampNeg ((z6.2.2.2.2.1 p1.toNatClampNeg) ||| ((1 : Int32) <<< (p0 &&& 31)))), z6.2.2.2.2.2))))) := hD
          obtain rfl := Option.some.inj hf
          exact x_vret hx hb hr hlocks hK hP hD hS (Nat.le_of_ble_eq_true rfl) (Nat.le_of_ble_eq_true rfl) d_Mo_note_49
  · have hf := x_ifn c12 hf
    obtain rfl := Option.some.inj hf
    exact x_vret hx hb hr hlocks hK hP hD hS (Nat.le_of_ble_eq_true rfl) (Nat.le_of_ble_eq_true rfl) d_Mo_note_7
set_option maxHeartbeats 4000000 in
set_option maxRecDepth 100000 in
theorem c_Mo_done (l : Launch) (D : va_G) (cI cJ cZ : ClassId) (oh o0 o1 o2 o3 o4 o5 o6 o7 o8 o9 o10 o11 o12 : Nat) (N : Nat) (p0 : Int32) (U : K_Mo) (r : (Int32 × K_Mo)) (hf : f_Mo_done N p0 U = some r) : Cx l y_Mo_done ws_Mo_done rm_Mo_done D vwCl (tyL cI cJ cZ) [.ref oh, .int p0] (w_Mo cI cJ cZ oh o0 o1 o2 o3 o4 o5 o6 o7 o8 o9 o10 o11 o12 U) (oI r.1) (w_Mo cI cJ cZ oh o0 o1 o2 o3 o4 o5 o6 o7 o8 o9 o10 o11 o12 r.2) := by
  unfold f_Mo_done at hf
  refine Cx.ofW (cc := b_Mo_done) (maxL := 2) (ret := (some .int)) (by decide) rfl ?_
  intro p e s m below meth c A C0 hP hK hD hA hns hZ
  obtain ⟨hx, hb, hml, hown, hts0, hr, hlocks, hnm, hno⟩ := C0
  have hown : s.vm.findClass R_Mo = some m.cls := hown
  have hts : ∀ w ∈ tb, w.before [.ref oh, .int p0].toArray s = true := fun w h => hts0 w (List.mem_cons_of_mem _ h)
  have hS : va_S A s.heap s.heap [] := va_S.rf
  have hl := lv_entry ([.ref oh, .int p0]) (n := 2) (Nat.le_of_ble_eq_true rfl)
  rw [lg_entry_eq]
  generalize (lg_sl ([.ref oh, .int p0]) ++ List.replicate (2 - (lg_sl ([.ref oh, .int p0])).length) Slot.unset).toArray = ls at hl ⊢
  have hl : lv_has ls 2 [(0, .ref oh), (1, .int p0)] := hl
  refine lv_aload_n hx hb d_Mo_done_0 rfl (lv_at hl 0 rfl) ?_
  refine va_get (D := D) (ci := 3) (v := .int U.2.2.2.2.2.2.2.2.2.2.2.1) (C := R_Mo) (T := F_Mo) (N := 19) hx hb hts i_Mo hown hK hP 0 rfl rfl 17 (by decide) (hts _ k_241) (fun _ h9 => h9) rfl d_Mo_done_1 ?_
  refine lv_if_eq (tgt := 12) hx hb d_Mo_done_4 (by decide) (fun c1 => ?_) (fun c1 => ?_)
  · have hf := x_ifp c1 hf
    refine lv_iload_n hx hb d_Mo_done_12 rfl (lv_at hl 1 rfl) ?_
    obtain rfl := Option.some.inj hf
    exact x_iret hx hb hr hlocks hK hP hD hS (Nat.le_of_ble_eq_true rfl) (Nat.le_of_ble_eq_true rfl) d_Mo_done_13
  · have hf := x_ifn c1 hf
    refine lv_bipush (v := (-9 : Int32)) hx hb d_Mo_done_7 (by decide) ?_
    refine lv_goto (tgt := 13) hx hb d_Mo_done_9 (by decide) ?_
    obtain rfl := Option.some.inj hf
    exact x_iret hx hb hr hlocks hK hP hD hS (Nat.le_of_ble_eq_true rfl) (Nat.le_of_ble_eq_true rfl) d_Mo_done_13
set_option maxHeartbeats 4000000 in
set_option maxRecDepth 100000 in
theorem c_Mo_begun (l : Launch) (D : va_G) (cI cJ cZ : ClassId) (oh o0 o1 o2 o3 o4 o5 o6 o7 o8 o9 o10 o11 o12 : Nat) (N : Nat) (U : K_Mo) (r : (Unit × K_Mo)) (hf : f_Mo_begun N U = some r) : Cx l y_Mo_begun ws_Mo_begun rm_Mo_begun D vwCl (tyL cI cJ cZ) [.ref oh] (w_Mo cI cJ cZ oh o0 o1 o2 o3 o4 o5 o6 o7 o8 o9 o10 o11 o12 U) (oV r.1) (w_Mo cI cJ cZ oh o0 o1 o2 o3 o4 o5 o6 o7 o8 o9 o10 o11 o12 r.2) := by
  unfold f_Mo_begun at hf
  refine Cx.ofW (cc := b_Mo_begun) (maxL := 1) (ret := none) (by decide) rfl ?_
  intro p e s m below meth c A C0 hP hK hD hA hns hZ
  obtain ⟨hx, hb, hml, hown, hts0, hr, hlocks, hnm, hno⟩ := C0
  have hown : s.vm.findClass R_Mo = some m.cls := hown
  have hts : ∀ w ∈ tb, w.before [.ref oh].toArray s = true := fun w h => hts0 w (List.mem_cons_of_mem _ h)
  have hS : va_S A s.heap s.heap [] := va_S.rf
  have hl := lv_entry ([.ref oh]) (n := 1) (Nat.le_of_ble_eq_true rfl)
  rw [lg_entry_eq]
  generalize (lg_sl ([.ref oh]) ++ List.replicate (1 - (lg_sl ([.ref oh])).length) Slot.unset).toArray = ls at hl ⊢
  have hl : lv_has ls 1 [(0, .ref oh)] := hl
  refine lv_aload_n hx hb d_Mo_begun_0 rfl (lv_at hl 0 rfl) ?_
  refine lv_iconst (v := (0 : Int32)) hx hb d_Mo_begun_1 (by decide) ?_
  refine va_put (D := D) (ci := 3) (v := .int (0 : Int32)) (ty := .int) (C := R_Mo) (T := F_Mo) (N := 19) hx hb hts i_Mo t_Mo t_Mo_ok n_Mo hown hK hP hD hS 0 rfl rfl 0 (by decide) (hts _ k_239) (fun _ h9 => h9) rfl (by decide +kernel) rfl rfl (Nat.le_of_ble_eq_true rfl) d_Mo_begun_2 (fun H locs hP hD hS => ?_)
  have hP : va_P D vwCl (w_Mo cI cJ cZ oh o0 o1 o2 o3 o4 o5 o6 o7 o8 o9 o10 o11 o12 (U.1, (U.2.1, (U.2.2.1, (U.2.2.2.1, (U.2.2.2.2.1, (U.2.2.2.2.2.1, (U.2.2.2.2.2.2.1, ((0 : Int32), U.2.2.2.2.2.2.2.2))))))))) H := hP
  have hD : va_D A (w_Mo cI cJ cZ oh o0 o1 o2 o3 o4 o5 o6 o7 o8 o9 o10 o11 o12 (U.1, (U.2.1, (U.2.2.1, (U.2.2.2.1, (U.2.2.2.2.1, (U.2.2.2.2.2.1, (U.2.2.2.2.2.2.1, ((0 : Int32), U.2.2.2.2.2.2.2.2))))))))) := hD
  refine lv_aload_n hx hb d_Mo_begun_5 rfl (lv_at hl 0 rfl) ?_
  refine lv_iconst (v := (0 : Int32)) hx hb d_Mo_begun_6 (by decide) ?_
  refine va_put (D := D) (ci := 3) (v := .int (0 : Int32)) (ty := .boolean) (C := R_Mo) (T := F_Mo) (N := 19) hx hb hts i_Mo t_Mo t_Mo_ok n_Mo hown hK hP hD hS 0 rfl rfl 17 (by decide) (hts _ k_241) (fun _ h9 => h9) rfl (by decide +kernel) rfl rfl (Nat.le_of_ble_eq_true rfl) d_Mo_begun_7 (fun H locs hP hD hS => ?_)
  have hP : va_P D vwCl (w_Mo cI cJ cZ oh o0 o1 o2 o3 o4 o5 o6 o7 o8 o9 o10 o11 o12 (U.1, (U.2.1, (U.2.2.1, (U.2.2.2.1, (U.2.2.2.2.1, (U.2.2.2.2.2.1, (U.2.2.2.2.2.2.1, ((0 : Int32), (U.2.2.2.2.2.2.2.2.1, (U.2.2.2.2.2.2.2.2.2.1, (U.2.2.2.2.2.2.2.2.2.2.1, ((0 : Int32), U.2.2.2.2.2.2.2.2.2.2.2.2))))))))))))) H := hP
  have hD : va_D A (w_Mo cI cJ cZ oh o0 o1 o2 o3 o4 o5 o6 o7 o8 o9 o10 o11 o12 (U.1, (U.2.1, (U.2.2.1, (U.2.2.2.1, (U.2.2.2.2.1, (U.2.2.2.2.2.1, (U.2.2.2.2.2.2.1, ((0 : Int32), (U.2.2.2.2.2.2.2.2.1, (U.2.2.2.2.2.2.2.2.2.1, (U.2.2.2.2.2.2.2.2.2.2.1, ((0 : Int32), U.2.2.2.2.2.2.2.2.2.2.2.2))))))))))))) := hD
  refine lv_aload_n hx hb d_Mo_begun_10 rfl (lv_at hl 0 rfl) ?_
  refine lv_iconst (v := (0 : Int32)) hx hb d_Mo_begun_11 (by decide) ?_
  refine va_put (D := D) (ci := 3) (v := .int (0 : Int32)) (ty := .int) (C := R_Mo) (T := F_Mo) (N := 19) hx hb hts i_Mo t_Mo t_Mo_ok n_Mo hown hK hP hD hS 0 rfl rfl 18 (by decide) (hts _ k_268) (fun _ h9 => h9) rfl (by decide +kernel) rfl rfl (Nat.le_of_ble_eq_true rfl) d_Mo_begun_12 (fun H locs hP hD hS => ?_)
  have hP : va_P D vwCl (w_Mo cI cJ cZ oh o0 o1 o2 o3 o4 o5 o6 o7 o8 o9 o10 o11 o12 (U.1, (U.2.1, (U.2.2.1, (U.2.2.2.1, (U.2.2.2.2.1, (U.2.2.2.2.2.1, (U.2.2.2.2.2.2.1, ((0 : Int32), (U.2.2.2.2.2.2.2.2.1, (U.2.2.2.2.2.2.2.2.2.1, (U.2.2.2.2.2.2.2.2.2.2.1, ((0 : Int32), (0 : Int32)))))))))))))) H := hP
  have hD : va_D A (w_Mo cI cJ cZ oh o0 o1 o2 o3 o4 o5 o6 o7 o8 o9 o10 o11 o12 (U.1, (U.2.1, (U.2.2.1, (U.2.2.2.1, (U.2.2.2.2.1, (U.2.2.2.2.2.1, (U.2.2.2.2.2.2.1, ((0 : Int32), (U.2.2.2.2.2.2.2.2.1, (U.2.2.2.2.2.2.2.2.2.1, (U.2.2.2.2.2.2.2.2.2.2.1, ((0 : Int32), (0 : Int32)))))))))))))) := hD
  obtain rfl := Option.some.inj hf
  exact x_vret hx hb hr hlocks hK hP hD hS (Nat.le_of_ble_eq_true rfl) (Nat.le_of_ble_eq_true rfl) d_Mo_begun_15
set_option maxHeartbeats 4000000 in
set_option maxRecDepth 100000 in
theorem c_Mo_actives (l : Launch) (D : va_G) (cI cJ cZ : ClassId) (oh o0 o1 o2 o3 o4 o5 o6 o7 o8 o9 o10 o11 o12 : Nat) (N : Nat) (U : K_Mo) (r : (Int32 × K_Mo)) (hf : f_Mo_actives N U = some r) : Cx l y_Mo_actives ws_Mo_actives rm_Mo_actives D vwCl (tyL cI cJ cZ) [.ref oh] (w_Mo cI cJ cZ oh o0 o1 o2 o3 o4 o5 o6 o7 o8 o9 o10 o11 o12 U) (oI r.1) (w_Mo cI cJ cZ oh o0 o1 o2 o3 o4 o5 o6 o7 o8 o9 o10 o11 o12 r.2) := by
  unfold f_Mo_actives at hf
  refine Cx.ofW (cc := b_Mo_actives) (maxL := 3) (ret := (some .int)) (by decide) rfl ?_
  intro p e s m below meth c A C0 hP hK hD hA hns hZ
  obtain ⟨hx, hb, hml, hown, hts0, hr, hlocks, hnm, hno⟩ := C0
  have hown : s.vm.findClass R_Mo = some m.cls := hown
  have hts : ∀ w ∈ tb, w.before [.ref oh].toArray s = true := fun w h => hts0 w (List.mem_cons_of_mem _ h)
  have hS : va_S A s.heap s.heap [] := va_S.rf
  have hl := lv_entry ([.ref oh]) (n := 3) (Nat.le_of_ble_eq_true rfl)
  rw [lg_entry_eq]
  generalize (lg_sl ([.ref oh]) ++ List.replicate (3 - (lg_sl ([.ref oh])).length) Slot.unset).toArray = ls at hl ⊢
  have hl : lv_has ls 3 [(0, .ref oh)] := hl
  have L_4 : ∀ n : Nat, ∀ (x1 : Int32) (x2 : Int32) (U : K_Mo), f_Mo_actives_4 N n x1 x2 U = some r → ∀ (H : Heap) (locs : List Loc) (ls : Array Slot), va_P D vwCl (w_Mo cI cJ cZ oh o0 o1 o2 o3 o4 o5 o6 o7 o8 o9 o10 o11 o12 U) H → va_D A (w_Mo cI cJ cZ oh o0 o1 o2 o3 o4 o5 o6 o7 o8 o9 o10 o11 o12 U) → va_S A s.heap H locs → lv_has ls 3 [(0, .ref oh), (1, .int x1), (2, .int x2)] → W p l e (rm_Mo_actives) s m [.ref oh].toArray below meth c H locs 0 0 (xQ D vwCl (tyL cI cJ cZ) below s A (oI r.1) (w_Mo cI cJ cZ oh o0 o1 o2 o3 o4 o5 o6 o7 o8 o9 o10 o11 o12 r.2) (rm_Mo_actives).cells (rm_Mo_actives).slots) (F0 m 4 ls []) := by
    intro n
    induction n with
    | zero =>
      intro x1 x2 U hf
      have hf : (none : Option (Int32 × K_Mo)) = some r := hf
      cases hf
    | succ n ih =>
      intro x1 x2 U hf H locs ls hP hD hS hl
      rw [f_Mo_actives_4] at hf
      refine lv_iload_n hx hb d_Mo_actives_4 rfl (lv_at hl 2 rfl) ?_
      refine lv_bipush (v := (40 : Int32)) hx hb d_Mo_actives_5 (by decide) ?_
      refine lv_icmp_gt (tgt := 29) hx hb d_Mo_actives_7 (by decide) (fun c3 => ?_) (fun c3 => ?_)
      · have hf := x_ifp c3 hf
        refine lv_iload_n hx hb d_Mo_actives_29 rfl (lv_at hl 1 rfl) ?_
        obtain rfl := Option.some.inj hf
        exact x_iret hx hb hr hlocks hK hP hD hS (Nat.le_of_ble_eq_true rfl) (Nat.le_of_ble_eq_true rfl) d_Mo_actives_30
      · have hf := x_ifn c3 hf
        refine lv_aload_n hx hb d_Mo_actives_10 rfl (lv_at hl 0 rfl) ?_
        refine va_get (D := D) (ci := 3) (v := .ref o6) (C := R_Mo) (T := F_Mo) (N := 19) hx hb hts i_Mo hown hK hP 0 rfl rfl 7 (by decide) (hts _ k_231) (fun _ h9 => h9) rfl d_Mo_actives_11 ?_
        refine lv_iload_n hx hb d_Mo_actives_14 rfl (lv_at hl 2 rfl) ?_
        obtain ⟨g1, hf⟩ := x_if hf
        refine va_iald hx hb hK hP 7 0 rfl rfl (xi_in g1) d_Mo_actives_15 ?_
        refine lv_iconst (v := (1 : Int32)) hx hb d_Mo_actives_16 (by decide) ?_
        refine lv_icmp_ne (tgt := 23) hx hb d_Mo_actives_17 (by decide) (fun c2 => ?_) (fun c2 => ?_)
        · have hf := x_ifn c2 hf
          refine lv_iinc (v := (x2 + (1 : Int32))) (lv' := [(2, .int (x2 + (1 : Int32))), (0, .ref oh), (1, .int x1)]) hx hb d_Mo_actives_23 hl (k := 2) rfl rfl (by decide) rfl (fun ls hl => ?_)
          refine lv_goto (tgt := 4) hx hb d_Mo_actives_26 (by decide) ?_
          exact ih _ _ _ hf _ _ _ hP hD hS (lv_sub hl [1, 2, 0] rfl)
        · have hf := x_ifp c2 hf
          refine lv_iinc (v := (x1 + (1 : Int32))) (lv' := [(1, .int (x1 + (1 : Int32))), (0, .ref oh), (2, .int x2)]) hx hb d_Mo_actives_20 hl (k := 1) rfl rfl (by decide) rfl (fun ls hl => ?_)
          refine lv_iinc (v := (x2 + (1 : Int32))) (lv' := [(2, .int (x2 + (1 : Int32))), (1, .int (x1 + (1 : Int32))), (0, .ref oh)]) hx hb d_Mo_actives_23 hl (k := 2) rfl rfl (by decide) rfl (fun ls hl => ?_)
          refine lv_goto (tgt := 4) hx hb d_Mo_actives_26 (by decide) ?_
          exact ih _ _ _ hf _ _ _ hP hD hS (lv_sub hl [2, 1, 0] rfl)
  refine lv_iconst (v := (0 : Int32)) hx hb d_Mo_actives_0 (by decide) ?_
  refine lv_istore_n (lv' := [(1, .int (0 : Int32)), (0, .ref oh)]) hx hb d_Mo_actives_1 rfl hl (by decide) rfl (fun ls hl => ?_)
  refine lv_iconst (v := (1 : Int32)) hx hb d_Mo_actives_2 (by decide) ?_
  refine lv_istore_n (lv' := [(2, .int (1 : Int32)), (1, .int (0 : Int32)), (0, .ref oh)]) hx hb d_Mo_actives_3 rfl hl (by decide) rfl (fun ls hl => ?_)
  exact L_4 _ _ _ _ hf _ _ _ hP hD hS (lv_sub hl [2, 1, 0] rfl)
set_option maxHeartbeats 4000000 in
set_option maxRecDepth 100000 in
theorem c_Mo_idle (l : Launch) (D : va_G) (cI cJ cZ : ClassId) (oh o0 o1 o2 o3 o4 o5 o6 o7 o8 o9 o10 o11 o12 : Nat) (N : Nat) (p0 : Int32) (U : K_Mo) (r : (Int32 × K_Mo)) (hf : f_Mo_idle N p0 U = some r) : Cx l y_Mo_idle ws_Mo_idle rm_Mo_idle D vwCl (tyL cI cJ cZ) [.ref oh, .int p0] (w_Mo cI cJ cZ oh o0 o1 o2 o3 o4 o5 o6 o7 o8 o9 o10 o11 o12 U) (oI r.1) (w_Mo cI cJ cZ oh o0 o1 o2 o3 o4 o5 o6 o7 o8 o9 o10 o11 o12 r.2) := by
  unfold f_Mo_idle at hf
  refine Cx.ofW (cc := b_Mo_idle) (maxL := 2) (ret := (some .boolean)) (by decide) rfl ?_
  intro p e s m below meth c A C0 hP hK hD hA hns hZ
  obtain ⟨hx, hb, hml, hown, hts0, hr, hlocks, hnm, hno⟩ := C0
  have hown : s.vm.findClass R_Mo = some m.cls := hown
  have hts : ∀ w ∈ tb, w.before [.ref oh, .int p0].toArray s = true := fun w h => hts0 w (List.mem_cons_of_mem _ h)
  have hS : va_S A s.heap s.heap [] := va_S.rf
  have hl := lv_entry ([.ref oh, .int p0]) (n := 2) (Nat.le_of_ble_eq_true rfl)
  rw [lg_entry_eq]
  generalize (lg_sl ([.ref oh, .int p0]) ++ List.replicate (2 - (lg_sl ([.ref oh, .int p0])).length) Slot.unset).toArray = ls at hl ⊢
  have hl : lv_has ls 2 [(0, .ref oh), (1, .int p0)] := hl
  refine lv_iload_n hx hb d_Mo_idle_0 rfl (lv_at hl 1 rfl) ?_
  refine lv_iconst (v := (1 : Int32)) hx hb d_Mo_idle_1 (by decide) ?_
  refine lv_bipush (v := (40 : Int32)) hx hb d_Mo_idle_2 (by decide) ?_
  obtain ⟨z1, hz1, hf⟩ := x_bind hf
  refine x_callS (w2 := (w_Mo cI cJ cZ oh o0 o1 o2 o3 o4 o5 o6 o7 o8 o9 o10 o11 o12 U)) ⟨hx, hb, hml, hown, hts⟩ (c_Mo_in l D cI cJ cZ  N p0 (1 : Int32) (40 : Int32)  z1 hz1) (x_cwS 3 hts rfl k_269 k_270 k_246 k_271 (by decide +kernel) ⟨(Nat.le_of_ble_eq_true rfl), (Nat.le_of_ble_eq_true rfl)⟩) hK hP hD hS hA hZ [] [0, 1, 2, 3, 4, 5, 6, 7, 8, 9, 10, 11, 12, 13] [0, 1, 2, 3, 4, 5, 6, 7, 8, 9, 10, 11, 12, 13] (by decide) rfl rfl (by decide) (by decide) (by decide) rfl rfl hl.1 rfl (Nat.le_of_ble_eq_true rfl) d_Mo_idle_4 ⟨(Nat.le_of_ble_eq_true rfl), (Nat.le_of_ble_eq_true rfl)⟩ (fun H locs hP hD hS => ?_)
  refine W.eq (g2 := F0 m 7 ls [.int z1]) rfl ?_
  refine lv_if_eq (tgt := 20) hx hb d_Mo_idle_7 (by decide) (fun c4 => ?_) (fun c4 => ?_)
  · have hf := x_ifp c4 hf
    refine lv_iconst (v := (1 : Int32)) hx hb d_Mo_idle_20 (by decide) ?_
    refine lv_goto (tgt := 25) hx hb d_Mo_idle_21 (by decide) ?_
    obtain rfl := Option.some.inj hf
    exact x_zret hx hb hr hlocks (x_nb (Or.inr rfl)) hK hP hD hS (Nat.le_of_ble_eq_true rfl) (Nat.le_of_ble_eq_true rfl) d_Mo_idle_25
  · have hf := x_ifn c4 hf
    refine lv_aload_n hx hb d_Mo_idle_10 rfl (lv_at hl 0 rfl) ?_
    refine va_get (D := D) (ci := 3) (v := .ref o6) (C := R_Mo) (T := F_Mo) (N := 19) hx hb hts i_Mo hown hK hP 0 rfl rfl 7 (by decide) (hts _ k_231) (fun _ h9 => h9) rfl d_Mo_idle_11 ?_
    refine lv_iload_n hx hb d_Mo_idle_14 rfl (lv_at hl 1 rfl) ?_
    obtain ⟨g2, hf⟩ := x_if hf
    refine va_iald hx hb hK hP 7 0 rfl rfl (xi_in g2) d_Mo_idle_15 ?_
    refine lv_iconst (v := (1 : Int32)) hx hb d_Mo_idle_16 (by decide) ?_
    refine lv_icmp_eq (tgt := 24) hx hb d_Mo_idle_17 (by decide) (fun c3 => ?_) (fun c3 => ?_)
    · have hf := x_ifp c3 hf
      refine lv_iconst (v := (0 : Int32)) hx hb d_Mo_idle_24 (by decide) ?_
      obtain rfl := Option.some.inj hf
      exact x_zret hx hb hr hlocks (x_nb (Or.inl rfl)) hK hP hD hS (Nat.le_of_ble_eq_true rfl) (Nat.le_of_ble_eq_true rfl) d_Mo_idle_25
    · have hf := x_ifn c3 hf
      refine lv_iconst (v := (1 : Int32)) hx hb d_Mo_idle_20 (by decide) ?_
      refine lv_goto (tgt := 25) hx hb d_Mo_idle_21 (by decide) ?_
      obtain rfl := Option.some.inj hf
      exact x_zret hx hb hr hlocks (x_nb (Or.inr rfl)) hK hP hD hS (Nat.le_of_ble_eq_true rfl) (Nat.le_of_ble_eq_true rfl) d_Mo_idle_25
set_option maxHeartbeats 4000000 in
set_option maxRecDepth 100000 in
theorem c_Mo_begin (l : Launch) (D : va_G) (cI cJ cZ : ClassId) (oh o0 o1 o2 o3 o4 o5 o6 o7 o8 o9 o10 o11 o12 : Nat) (N : Nat) (U : K_Mo) (r : (Int32 × K_Mo)) (hf : f_Mo_begin N U = some r) : Cx l y_Mo_begin ws_Mo_begin rm_Mo_begin D vwCl (tyL cI cJ cZ) [.ref oh] (w_Mo cI cJ cZ oh o0 o1 o2 o3 o4 o5 o6 o7 o8 o9 o10 o11 o12 U) (oI r.1) (w_Mo cI cJ cZ oh o0 o1 o2 o3 o4 o5 o6 o7 o8 o9 o10 o11 o12 r.2) := by
  unfold f_Mo_begin at hf
  refine Cx.ofW (cc := b_Mo_begin) (maxL := 3) (ret := (some .int)) (by decide) rfl ?_
  intro p e s m below meth c A C0 hP hK hD hA hns hZ
  obtain ⟨hx, hb, hml, hown, hts0, hr, hlocks, hnm, hno⟩ := C0
  have hown : s.vm.findClass R_Mo = some m.cls := hown
  have hts : ∀ w ∈ tb, w.before [.ref oh].toArray s = true := fun w h => hts0 w (List.mem_cons_of_mem _ h)
  have hS : va_S A s.heap s.heap [] := va_S.rf
  have hl := lv_entry ([.ref oh]) (n := 3) (Nat.le_of_ble_eq_true rfl)
  rw [lg_entry_eq]
  generalize (lg_sl ([.ref oh]) ++ List.replicate (3 - (lg_sl ([.ref oh])).length) Slot.unset).toArray = ls at hl ⊢
  have hl : lv_has ls 3 [(0, .ref oh)] := hl
  have L_70 : ∀ n : Nat, ∀ (x1 : Int32) (x2 : Int32) (U : K_Mo), f_Mo_begin_70 N n x1 x2 U = some r → ∀ (H : Heap) (locs : List Loc) (ls : Array Slot), va_P D vwCl (w_Mo cI cJ cZ oh o0 o1 o2 o3 o4 o5 o6 o7 o8 o9 o10 o11 o12 U) H → va_D A (w_Mo cI cJ cZ oh o0 o1 o2 o3 o4 o5 o6 o7 o8 o9 o10 o11 o12 U) → va_S A s.heap H locs → lv_has ls 3 [(0, .ref oh), (1, .int x1), (2, .int x2)] → W p l e (rm_Mo_begin) s m [.ref oh].toArray below meth c H locs 0 0 (xQ D vwCl (tyL cI cJ cZ) below s A (oI r.1) (w_Mo cI cJ cZ oh o0 o1 o2 o3 o4 o5 o6 o7 o8 o9 o10 o11 o12 r.2) (rm_Mo_begin).cells (rm_Mo_begin).slots) (F0 m 70 ls []) := by
    intro n
    induction n with
    | zero =>
      intro x1 x2 U hf
      have hf : (none : Option (Int32 × K_Mo)) = some r := hf
      cases hf
    | succ n ih =>
      intro x1 x2 U hf H locs ls hP hD hS hl
      rw [f_Mo_begin_70] at hf
      refine lv_iload_n hx hb d_Mo_begin_70 rfl (lv_at hl 2 rfl) ?_
      refine lv_bipush (v := (40 : Int32)) hx hb d_Mo_begin_71 (by decide) ?_
      refine lv_icmp_gt (tgt := 104) hx hb d_Mo_begin_73 (by decide) (fun c13 => ?_) (fun c13 => ?_)
      · have hf := x_ifp c13 hf
        refine lv_aload_n hx hb d_Mo_begin_104 rfl (lv_at hl 0 rfl) ?_
        refine va_get (D := D) (ci := 3) (v := .ref o8) (C := R_Mo) (T := F_Mo) (N := 19) hx hb hts i_Mo hown hK hP 0 rfl rfl 9 (by decide) (hts _ k_234) (fun _ h9 => h9) rfl d_Mo_begin_105 ?_
        refine lv_bipush (v := (6 : Int32)) hx hb d_Mo_begin_108 (by decide) ?_
        refine lv_iconst (v := (1 : Int32)) hx hb d_Mo_begin_110 (by decide) ?_
        refine va_zast hx hb hK hP hD hS 9 2 rfl rfl (xi_in rfl) d_Mo_begin_111 (fun H locs hP hD hS => ?_)
        have hP : va_P D vwCl (w_Mo cI cJ cZ oh o0 o1 o2 o3 o4 o5 o6 o7 o8 o9 o10 o11 o12 (U.1, (U.2.1, ((upd U.2.2.1 (6 : Int32).toNatClampNeg (vp_nar .boolean (1 : Int32))), U.2.2.2)))) H := hP
        have hD : va_D A (w_Mo cI cJ cZ oh o0 o1 o2 o3 o4 o5 o6 o7 o8 o9 o10 o11 o12 (U.1, (U.2.1, ((upd U.2.2.1 (6 : Int32).toNatClampNeg (vp_nar .boolean (1 : Int32))), U.2.2.2)))) := hD
        refine lv_aload_n hx hb d_Mo_begin_112 rfl (lv_at hl 0 rfl) ?_
        refine lv_bipush (v := (6 : Int32)) hx hb d_Mo_begin_113 (by decide) ?_
        obtain ⟨z7, hz7, hf⟩ := x_bind hf
        refine x_callV (w2 := (w_Mo cI cJ cZ oh o0 o1 o2 o3 o4 o5 o6 o7 o8 o9 o10 o11 o12 z7.2)) ⟨hx, hb, hml, hown, hts⟩ (c_Mo_store l D cI cJ cZ oh o0 o1 o2 o3 o4 o5 o6 o7 o8 o9 o10 o11 o12 N (6 : Int32) (U.1, (U.2.1, ((upd U.2.2.1 (6 : Int32).toNatClampNeg (vp_nar .boolean (1 : Int32))), U.2.2.2))) z7 hz7) (x_cwV 1 hts rfl k_260 k_261 k_262 k_246 k_263 (by decide +kernel) ⟨(Nat.le_of_ble_eq_true rfl), (Nat.le_of_ble_eq_true rfl)⟩) hK hP hD hS hA hZ [0, 1, 2, 3, 4, 5, 6, 7, 8, 9, 10, 11, 12, 13] [] [0, 1, 2, 3, 4, 5, 6, 7, 8, 9, 10, 11, 12, 13] (by decide) rfl rfl (by decide) (by decide) (by decide) rfl (ci := 3) rfl rfl rfl hl.1 rfl (Nat.le_of_ble_eq_true rfl) d_Mo_begin_115 ⟨(Nat.le_of_ble_eq_true rfl), (Nat.le_of_ble_eq_true rfl)⟩ (fun H locs hP hD hS => ?_)
        refine W.eq (g2 := F0 m 118 ls []) rfl ?_
        refine lv_aload_n hx hb d_Mo_begin_118 rfl (lv_at hl 0 rfl) ?_
        refine lv_iload_n hx hb d_Mo_begin_119 rfl (lv_at hl 1 rfl) ?_
        obtain ⟨z8, hz8, hf⟩ := x_bind hf
        refine x_callV (w2 := (w_Mo cI cJ cZ oh o0 o1 o2 o3 o4 o5 o6 o7 o8 o9 o10 o11 o12 z8.2)) ⟨hx, hb, hml, hown, hts⟩ (c_Mo_done l D cI cJ cZ oh o0 o1 o2 o3 o4 o5 o6 o7 o8 o9 o10 o11 o12 N x1 z7.2 z8 hz8) (x_cwV 1 hts rfl k_276 k_277 k_278 k_246 k_279 (by decide +kernel) ⟨(Nat.le_of_ble_eq_true rfl), (Nat.le_of_ble_eq_true rfl)⟩) hK hP hD hS hA hZ [0, 1, 2, 3, 4, 5, 6, 7, 8, 9, 10, 11, 12, 13] [] [0, 1, 2, 3, 4, 5, 6, 7, 8, 9, 10, 11, 12, 13] (by decide) rfl rfl (by decide) (by decide) (by decide) rfl (ci := 3) rfl rfl rfl hl.1 rfl (Nat.le_of_ble_eq_true rfl) d_Mo_begin_120 ⟨(Nat.le_of_ble_eq_true rfl), (Nat.le_of_ble_eq_true rfl)⟩ (fun H locs hP hD hS => ?_)
        refine W.eq (g2 := F0 m 123 ls [.int z8.1]) rfl ?_
        obtain rfl := Option.some.inj hf
        exact x_iret hx hb hr hlocks hK hP hD hS (Nat.le_of_ble_eq_true rfl) (Nat.le_of_ble_eq_true rfl) d_Mo_begin_123
      · have hf := x_ifn c13 hf
        refine lv_aload_n hx hb d_Mo_begin_76 rfl (lv_at hl 0 rfl) ?_
        refine va_get (D := D) (ci := 3) (v := .ref o6) (C := R_Mo) (T := F_Mo) (N := 19) hx hb hts i_Mo hown hK hP 0 rfl rfl 7 (by decide) (hts _ k_231) (fun _ h9 => h9) rfl d_Mo_begin_77 ?_
        refine lv_iload_n hx hb d_Mo_begin_80 rfl (lv_at hl 2 rfl) ?_
        obtain ⟨g9, hf⟩ := x_if hf
        refine va_iald hx hb hK hP 7 0 rfl rfl (xi_in g9) d_Mo_begin_81 ?_
        refine lv_iconst (v := (2 : Int32)) hx hb d_Mo_begin_82 (by decide) ?_
        refine lv_icmp_ne (tgt := 98) hx hb d_Mo_begin_83 (by decide) (fun c12 => ?_) (fun c12 => ?_)
        · have hf := x_ifn c12 hf
          refine lv_iinc (v := (x2 + (1 : Int32))) (lv' := [(2, .int (x2 + (1 : Int32))), (0, .ref oh), (1, .int x1)]) hx hb d_Mo_begin_98 hl (k := 2) rfl rfl (by decide) rfl (fun ls hl => ?_)
          refine lv_goto (tgt := 70) hx hb d_Mo_begin_101 (by decide) ?_
          exact ih _ _ _ hf _ _ _ hP hD hS (lv_sub hl [1, 2, 0] rfl)
        · have hf := x_ifp c12 hf
          refine lv_aload_n hx hb d_Mo_begin_86 rfl (lv_at hl 0 rfl) ?_
          refine va_get (D := D) (ci := 3) (v := .ref o11) (C := R_Mo) (T := F_Mo) (N := 19) hx hb hts i_Mo hown hK hP 0 rfl rfl 12 (by decide) (hts _ k_237) (fun _ h9 => h9) rfl d_Mo_begin_87 ?_
          refine lv_iload_n hx hb d_Mo_begin_90 rfl (lv_at hl 1 rfl) ?_
          refine lv_dup2_11 hx hb d_Mo_begin_91 rfl rfl ?_
          obtain ⟨g10, hf⟩ := x_if hf
          refine va_lald hx hb hK hP 12 1 rfl rfl (xi_in g10) d_Mo_begin_92 ?_
          refine lv_lconst (v := (1 : Int64)) hx hb d_Mo_begin_93 (by decide) ?_
          refine lv_iload_n hx hb d_Mo_begin_94 rfl (lv_at hl 2 rfl) ?_
          refine lv_lshl (v := ((1 : Int64) <<< (x2.toInt64 &&& 63))) hx hb d_Mo_begin_95 rfl ?_
          refine lv_lor hx hb d_Mo_begin_96 ?_
          obtain ⟨g11, hf⟩ := x_if hf
          refine va_last hx hb hK hP hD hS 12 1 rfl rfl (xi_in g11) d_Mo_begin_97 (fun H locs hP hD hS => ?_)
          have hP : va_P D vwCl (w_Mo cI cJ cZ oh o0 o1 o2 o3 o4 o5 o6 o7 o8 o9 o10 o11 o12 (U.1, (U.2.1, (U.2.2.1, (U.2.2.2.1, (U.2.2.2.2.1, ((vp_updL U.2.2.2.2.2.1 x1.toNatClampNeg ((U.2.2.2.2.2.1 x1.toNatClampNeg) ||| ((1 : Int64) <<< (x2.toInt64 &&& 63)))), U.2.2.2.2.2.2))))))) H := hP
          have hD : va_D A (w_Mo cI cJ cZ oh o0 o1 o2 o3 o4 o5 o6 o7 o8 o9 o10 o11 o12 (U.1, (U.2.1, (U.2.2.1, (U.2.2.2.1, (U.2.2.2.2.1, ((vp_updL U.2.2.2.2.2.1 x1.toNatClampNeg ((U.2.2.2.2.2.1 x1.toNatClampNeg) ||| ((1 : Int64) <<< (x2.toInt64 &&& 63)))), U.2.2.2.2.2.2))))))) := hD
          refine lv_iinc (v := (x2 + (1 : Int32))) (lv' := [(2, .int (x2 + (1 : Int32))), (0, .ref oh), (1, .int x1)]) hx hb d_Mo_begin_98 hl (k := 2) rfl rfl (by decide) rfl (fun ls hl => ?_)
          refine lv_goto (tgt := 70) hx hb d_Mo_begin_101 (by decide) ?_
          exact ih _ _ _ hf _ _ _ hP hD hS (lv_sub hl [1, 2, 0] rfl)
  have L_6 : ∀ n : Nat, ∀ (x1 : Int32) (U : K_Mo), f_Mo_begin_6 N n x1 U = some r → ∀ (H : Heap) (locs : List Loc) (ls : Array Slot), va_P D vwCl (w_Mo cI cJ cZ oh o0 o1 o2 o3 o4 o5 o6 o7 o8 o9 o10 o11 o12 U) H → va_D A (w_Mo cI cJ cZ oh o0 o1 o2 o3 o4 o5 o6 o7 o8 o9 o10 o11 o12 U) → va_S A s.heap H locs → lv_has ls 3 [(0, .ref oh), (1, .int x1)] → W p l e (rm_Mo_begin) s m [.ref oh].toArray below meth c H locs 0 0 (xQ D vwCl (tyL cI cJ cZ) below s A (oI r.1) (w_Mo cI cJ cZ oh o0 o1 o2 o3 o4 o5 o6 o7 o8 o9 o10 o11 o12 r.2) (rm_Mo_begin).cells (rm_Mo_begin).slots) (F0 m 6 ls []) := by
    intro n
    induction n with
    | zero =>
      intro x1 U hf
      have hf : (none : Option (Int32 × K_Mo)) = some r := hf
      cases hf
    | succ n ih =>
      intro x1 U hf H locs ls hP hD hS hl
      rw [f_Mo_begin_6] at hf
      refine lv_iload_n hx hb d_Mo_begin_6 rfl (lv_at hl 1 rfl) ?_
      refine lv_bipush (v := (40 : Int32)) hx hb d_Mo_begin_7 (by decide) ?_
      refine lv_icmp_gt (tgt := 27) hx hb d_Mo_begin_9 (by decide) (fun c27 => ?_) (fun c27 => ?_)
      · have hf := x_ifp c27 hf
        refine lv_iload_n hx hb d_Mo_begin_27 rfl (lv_at hl 1 rfl) ?_
        refine lv_bipush (v := (40 : Int32)) hx hb d_Mo_begin_28 (by decide) ?_
        refine lv_icmp_gt (tgt := 41) hx hb d_Mo_begin_30 (by decide) (fun c16 => ?_) (fun c16 => ?_)
        · have hf := x_ifp c16 hf
          refine lv_aload_n hx hb d_Mo_begin_41 rfl (lv_at hl 0 rfl) ?_
          refine lv_iconst (v := (1 : Int32)) hx hb d_Mo_begin_42 (by decide) ?_
          obtain ⟨z2, hz2, hf⟩ := x_bind hf
          refine x_callV (w2 := (w_Mo cI cJ cZ oh o0 o1 o2 o3 o4 o5 o6 o7 o8 o9 o10 o11 o12 z2.2)) ⟨hx, hb, hml, hown, hts⟩ (c_Mo_raise l D cI cJ cZ oh o0 o1 o2 o3 o4 o5 o6 o7 o8 o9 o10 o11 o12 N (1 : Int32) U z2 hz2) (x_cwV 1 hts rfl k_272 k_273 k_274 k_246 k_275 (by decide +kernel) ⟨(Nat.le_of_ble_eq_true rfl), (Nat.le_of_ble_eq_true rfl)⟩) hK hP hD hS hA hZ [0, 1, 2, 3, 4, 5, 6, 7, 8, 9, 10, 11, 12, 13] [] [0, 1, 2, 3, 4, 5, 6, 7, 8, 9, 10, 11, 12, 13] (by decide) rfl rfl (by decide) (by decide) (by decide) rfl (ci := 3) rfl rfl rfl hl.1 rfl (Nat.le_of_ble_eq_true rfl) d_Mo_begin_43 ⟨(Nat.le_of_ble_eq_true rfl), (Nat.le_of_ble_eq_true rfl)⟩ (fun H locs hP hD hS => ?_)
          refine W.eq (g2 := F0 m 46 ls [.int z2.1]) rfl ?_
          obtain rfl := Option.some.inj hf
          exact x_iret hx hb hr hlocks hK hP hD hS (Nat.le_of_ble_eq_true rfl) (Nat.le_of_ble_eq_true rfl) d_Mo_begin_46
        · have hf := x_ifn c16 hf
          refine lv_aload_n hx hb d_Mo_begin_33 rfl (lv_at hl 0 rfl) ?_
          obtain ⟨z3, hz3, hf⟩ := x_bind hf
          refine x_callV (w2 := (w_Mo cI cJ cZ oh o0 o1 o2 o3 o4 o5 o6 o7 o8 o9 o10 o11 o12 z3.2)) ⟨hx, hb, hml, hown, hts⟩ (c_Mo_actives l D cI cJ cZ oh o0 o1 o2 o3 o4 o5 o6 o7 o8 o9 o10 o11 o12 N  U z3 hz3) (x_cwV 0 hts rfl k_280 k_281 k_282 k_246 k_283 (by decide +kernel) ⟨(Nat.le_of_ble_eq_true rfl), (Nat.le_of_ble_eq_true rfl)⟩) hK hP hD hS hA hZ [0, 1, 2, 3, 4, 5, 6, 7, 8, 9, 10, 11, 12, 13] [] [0, 1, 2, 3, 4, 5, 6, 7, 8, 9, 10, 11, 12, 13] (by decide) rfl rfl (by decide) (by decide) (by decide) rfl (ci := 3) rfl rfl rfl hl.1 rfl (Nat.le_of_ble_eq_true rfl) d_Mo_begin_34 ⟨(Nat.le_of_ble_eq_true rfl), (Nat.le_of_ble_eq_true rfl)⟩ (fun H locs hP hD hS => ?_)
          refine W.eq (g2 := F0 m 37 ls [.int z3.1]) rfl ?_
          refine lv_iconst (v := (4 : Int32)) hx hb d_Mo_begin_37 (by decide) ?_
          refine lv_icmp_ne (tgt := 47) hx hb d_Mo_begin_38 (by decide) (fun c15 => ?_) (fun c15 => ?_)
          · have hf := x_ifn c15 hf
            refine lv_aload_n hx hb d_Mo_begin_47 rfl (lv_at hl 0 rfl) ?_
            refine va_get (D := D) (ci := 3) (v := .ref o6) (C := R_Mo) (T := F_Mo) (N := 19) hx hb hts i_Mo hown hK hP 0 rfl rfl 7 (by decide) (hts _ k_231) (fun _ h9 => h9) rfl d_Mo_begin_48 ?_
            refine lv_iload_n hx hb d_Mo_begin_51 rfl (lv_at hl 1 rfl) ?_
            refine lv_iconst (v := (1 : Int32)) hx hb d_Mo_begin_52 (by decide) ?_
            obtain ⟨g4, hf⟩ := x_if hf
            refine va_iast hx hb hK hP hD hS 7 0 rfl rfl (xi_in g4) d_Mo_begin_53 (fun H locs hP hD hS => ?_)
            have hP : va_P D vwCl (w_Mo cI cJ cZ oh o0 o1 o2 o3 o4 o5 o6 o7 o8 o9 o10 o11 o12 ((z3.2.1.1, (z3.2.1.2.1, (z3.2.1.2.2.1, (upd z3.2.1.2.2.2 x1.toNatClampNeg (1 : Int32))))), z3.2.2)) H := hP
            have hD : va_D A (w_Mo cI cJ cZ oh o0 o1 o2 o3 o4 o5 o6 o7 o8 o9 o10 o11 o12 ((z3.2.1.1, (z3.2.1.2.1, (z3.2.1.2.2.1, (upd z3.2.1.2.2.2 x1.toNatClampNeg (1 : Int32))))), z3.2.2)) := hD
            refine lv_aload_n hx hb d_Mo_begin_54 rfl (lv_at hl 0 rfl) ?_
            refine va_get (D := D) (ci := 3) (v := .ref o10) (C := R_Mo) (T := F_Mo) (N := 19) hx hb hts i_Mo hown hK hP 0 rfl rfl 11 (by decide) (hts _ k_236) (fun _ h9 => h9) rfl d_Mo_begin_55 ?_
            refine lv_iload_n hx hb d_Mo_begin_58 rfl (lv_at hl 1 rfl) ?_
            refine lv_iconst (v := (0 : Int32)) hx hb d_Mo_begin_59 (by decide) ?_
            obtain ⟨g5, hf⟩ := x_if hf
            refine va_iast hx hb hK hP hD hS 11 0 rfl rfl (xi_in g5) d_Mo_begin_60 (fun H locs hP hD hS => ?_)
            have hP : va_P D vwCl (w_Mo cI cJ cZ oh o0 o1 o2 o3 o4 o5 o6 o7 o8 o9 o10 o11 o12 ((z3.2.1.1, (z3.2.1.2.1, (z3.2.1.2.2.1, (upd z3.2.1.2.2.2 x1.toNatClampNeg (1 : Int32))))), (z3.2.2.1, (z3.2.2.2.1, (z3.2.2.2.2.1, ((upd z3.2.2.2.2.2.1 x1.toNatClampNeg (0 : Int32)), z3.2.2.2.2.2.2)))))) H := hP
            have hD : va_D A (w_Mo cI cJ cZ oh o0 o1 o2 o3 o4 o5 o6 o7 o8 o9 o10 o11 o12 ((z3.2.1.1, (z3.2.1.2.1, (z3.2.1.2.2.1, (upd z3.2.1.2.2.2 x1.toNatClampNeg (1 : Int32))))), (z3.2.2.1, (z3.2.2.2.1, (z3.2.2.2.2.1, ((upd z3.2.2.2.2.2.1 x1.toNatClampNeg (0 : Int32)), z3.2.2.2.2.2.2)))))) := hD
            refine lv_aload_n hx hb d_Mo_begin_61 rfl (lv_at hl 0 rfl) ?_
            refine va_get (D := D) (ci := 3) (v := .ref o11) (C := R_Mo) (T := F_Mo) (N := 19) hx hb hts i_Mo hown hK hP 0 rfl rfl 12 (by decide) (hts _ k_237) (fun _ h9 => h9) rfl d_Mo_begin_62 ?_
            refine lv_iload_n hx hb d_Mo_begin_65 rfl (lv_at hl 1 rfl) ?_
            refine lv_lconst (v := (0 : Int64)) hx hb d_Mo_begin_66 (by decide) ?_
            obtain ⟨g6, hf⟩ := x_if hf
            refine va_last hx hb hK hP hD hS 12 1 rfl rfl (xi_in g6) d_Mo_begin_67 (fun H locs hP hD hS => ?_)
            have hP : va_P D vwCl (w_Mo cI cJ cZ oh o0 o1 o2 o3 o4 o5 o6 o7 o8 o9 o10 o11 o12 ((z3.2.1.1, (z3.2.1.2.1, (z3.2.1.2.2.1, (upd z3.2.1.2.2.2 x1.toNatClampNeg (1 : Int32))))), (z3.2.2.1, (z3.2.2.2.1, (z3.2.2.2.2.1, ((upd z3.2.2.2.2.2.1 x1.toNatClampNeg (0 : Int32)), ((vp_updL z3.2.2.2.2.2.2.1 x1.toNatClampNeg (0 : Int64)), z3.2.2.2.2.2.2.2))))))) H := hP
            have hD : va_D A (w_Mo cI cJ cZ oh o0 o1 o2 o3 o4 o5 o6 o7 o8 o9 o10 o11 o12 ((z3.2.1.1, (z3.2.1.2.1, (z3.2.1.2.2.1, (upd z3.2.1.2.2.2 x1.toNatClampNeg (1 : Int32))))), (z3.2.2.1, (z3.2.2.2.1, (z3.2.2.2.2.1, ((upd z3.2.2.2.2.2.1 x1.toNatClampNeg (0 : Int32)), ((vp_updL z3.2.2.2.2.2.2.1 x1.toNatClampNeg (0 : Int64)), z3.2.2.2.2.2.2.2))))))) := hD
            refine lv_iconst (v := (1 : Int32)) hx hb d_Mo_begin_68 (by decide) ?_
            refine lv_istore_n (lv' := [(2, .int (1 : Int32)), (0, .ref oh), (1, .int x1)]) hx hb d_Mo_begin_69 rfl hl (by decide) rfl (fun ls hl => ?_)
            exact L_70 _ _ _ _ hf _ _ _ hP hD hS (lv_sub hl [1, 2, 0] rfl)
          · have hf := x_ifp c15 hf
            refine lv_aload_n hx hb d_Mo_begin_41 rfl (lv_at hl 0 rfl) ?_
            refine lv_iconst (v := (1 : Int32)) hx hb d_Mo_begin_42 (by decide) ?_
            obtain ⟨z14, hz14, hf⟩ := x_bind hf
            refine x_callV (w2 := (w_Mo cI cJ cZ oh o0 o1 o2 o3 o4 o5 o6 o7 o8 o9 o10 o11 o12 z14.2)) ⟨hx, hb, hml, hown, hts⟩ (c_Mo_raise l D cI cJ cZ oh o0 o1 o2 o3 o4 o5 o6 o7 o8 o9 o10 o11 o12 N (1 : Int32) z3.2 z14 hz14) (x_cwV 1 hts rfl k_272 k_273 k_274 k_246 k_275 (by decide +kernel) ⟨(Nat.le_of_ble_eq_true rfl), (Nat.le_of_ble_eq_true rfl)⟩) hK hP hD hS hA hZ [0, 1, 2, 3, 4, 5, 6, 7, 8, 9, 10, 11, 12, 13] [] [0, 1, 2, 3, 4, 5, 6, 7, 8, 9, 10, 11, 12, 13] (by decide) rfl rfl (by decide) (by decide) (by decide) rfl (ci := 3) rfl rfl rfl hl.1 rfl (Nat.le_of_ble_eq_true rfl) d_Mo_begin_43 ⟨(Nat.le_of_ble_eq_true rfl), (Nat.le_of_ble_eq_true rfl)⟩ (fun H locs hP hD hS => ?_)
            refine W.eq (g2 := F0 m 46 ls [.int z14.1]) rfl ?_
            obtain rfl := Option.some.inj hf
            exact x_iret hx hb hr hlocks hK hP hD hS (Nat.le_of_ble_eq_true rfl) (Nat.le_of_ble_eq_true rfl) d_Mo_begin_46
      · have hf := x_ifn c27 hf
        refine lv_aload_n hx hb d_Mo_begin_12 rfl (lv_at hl 0 rfl) ?_
        refine va_get (D := D) (ci := 3) (v := .ref o6) (C := R_Mo) (T := F_Mo) (N := 19) hx hb hts i_Mo hown hK hP 0 rfl rfl 7 (by decide) (hts _ k_231) (fun _ h9 => h9) rfl d_Mo_begin_13 ?_
        refine lv_iload_n hx hb d_Mo_begin_16 rfl (lv_at hl 1 rfl) ?_
        obtain ⟨g17, hf⟩ := x_if hf
        refine va_iald hx hb hK hP 7 0 rfl rfl (xi_in g17) d_Mo_begin_17 ?_
        refine lv_if_eq (tgt := 27) hx hb d_Mo_begin_18 (by decide) (fun c26 => ?_) (fun c26 => ?_)
        · have hf := x_ifp c26 hf
          refine lv_iload_n hx hb d_Mo_begin_27 rfl (lv_at hl 1 rfl) ?_
          refine lv_bipush (v := (40 : Int32)) hx hb d_Mo_begin_28 (by decide) ?_
          refine lv_icmp_gt (tgt := 41) hx hb d_Mo_begin_30 (by decide) (fun c25 => ?_) (fun c25 => ?_)
          · have hf := x_ifp c25 hf
            refine lv_aload_n hx hb d_Mo_begin_41 rfl (lv_at hl 0 rfl) ?_
            refine lv_iconst (v := (1 : Int32)) hx hb d_Mo_begin_42 (by decide) ?_
            obtain ⟨z18, hz18, hf⟩ := x_bind hf
            refine x_callV (w2 := (w_Mo cI cJ cZ oh o0 o1 o2 o3 o4 o5 o6 o7 o8 o9 o10 o11 o12 z18.2)) ⟨hx, hb, hml, hown, hts⟩ (c_Mo_raise l D cI cJ cZ oh o0 o1 o2 o3 o4 o5 o6 o7 o8 o9 o10 o11 o12 N (1 : Int32) U z18 hz18) (x_cwV 1 hts rfl k_272 k_273 k_274 k_246 k_275 (by decide +kernel) ⟨(Nat.le_of_ble_eq_true rfl), (Nat.le_of_ble_eq_true rfl)⟩) hK hP hD hS hA hZ [0, 1, 2, 3, 4, 5, 6, 7, 8, 9, 10, 11, 12, 13] [] [0, 1, 2, 3, 4, 5, 6, 7, 8, 9, 10, 11, 12, 13] (by decide) rfl rfl (by decide) (by decide) (by decide) rfl (ci := 3) rfl rfl rfl hl.1 rfl (Nat.le_of_ble_eq_true rfl) d_Mo_begin_43 ⟨(Nat.le_of_ble_eq_true rfl), (Nat.le_of_ble_eq_true rfl)⟩ (fun H locs hP hD hS => ?_)
            refine W.eq (g2 := F0 m 46 ls [.int z18.1]) rfl ?_
            obtain rfl := Option.some.inj hf
            exact x_iret hx hb hr hlocks hK hP hD hS (Nat.le_of_ble_eq_true rfl) (Nat.le_of_ble_eq_true rfl) d_Mo_begin_46
          · have hf := x_ifn c25 hf
            refine lv_aload_n hx hb d_Mo_begin_33 rfl (lv_at hl 0 rfl) ?_
            obtain ⟨z19, hz19, hf⟩ := x_bind hf
            refine x_callV (w2 := (w_Mo cI cJ cZ oh o0 o1 o2 o3 o4 o5 o6 o7 o8 o9 o10 o11 o12 z19.2)) ⟨hx, hb, hml, hown, hts⟩ (c_Mo_actives l D cI cJ cZ oh o0 o1 o2 o3 o4 o5 o6 o7 o8 o9 o10 o11 o12 N  U z19 hz19) (x_cwV 0 hts rfl k_280 k_281 k_282 k_246 k_283 (by decide +kernel) ⟨(Nat.le_of_ble_eq_true rfl), (Nat.le_of_ble_eq_true rfl)⟩) hK hP hD hS hA hZ [0, 1, 2, 3, 4, 5, 6, 7, 8, 9, 10, 11, 12, 13] [] [0, 1, 2, 3, 4, 5, 6, 7, 8, 9, 10, 11, 12, 13] (by decide) rfl rfl (by decide) (by decide) (by decide) rfl (ci := 3) rfl rfl rfl hl.1 rfl (Nat.le_of_ble_eq_true rfl) d_Mo_begin_34 ⟨(Nat.le_of_ble_eq_true rfl), (Nat.le_of_ble_eq_true rfl)⟩ (fun H locs hP hD hS => ?_)
            refine W.eq (g2 := F0 m 37 ls [.int z19.1]) rfl ?_
            refine lv_iconst (v := (4 : Int32)) hx hb d_Mo_begin_37 (by decide) ?_
            refine lv_icmp_ne (tgt := 47) hx hb d_Mo_begin_38 (by decide) (fun c24 => ?_) (fun c24 => ?_)
            · have hf := x_ifn c24 hf
              refine lv_aload_n hx hb d_Mo_begin_47 rfl (lv_at hl 0 rfl) ?_
              refine va_get (D := D) (ci := 3) (v := .ref o6) (C := R_Mo) (T := F_Mo) (N := 19) hx hb hts i_Mo hown hK hP 0 rfl rfl 7 (by decide) (hts _ k_231) (fun _ h9 => h9) rfl d_Mo_begin_48 ?_
              refine lv_iload_n hx hb d_Mo_begin_51 rfl (lv_at hl 1 rfl) ?_
              refine lv_iconst (v := (1 : Int32)) hx hb d_Mo_begin_52 (by decide) ?_
              obtain ⟨g20, hf⟩ := x_if hf
              refine va_iast hx hb hK hP hD hS 7 0 rfl rfl (xi_in g20) d_Mo_begin_53 (fun H locs hP hD hS => ?_)
              have hP : va_P D vwCl (w_Mo cI cJ cZ oh o0 o1 o2 o3 o4 o5 o6 o7 o8 o9 o10 o11 o12 ((z19.2.1.1, (z19.2.1.2.1, (z19.2.1.2.2.1, (upd z19.2.1.2.2.2 x1.toNatClampNeg (1 : Int32))))), z19.2.2)) H := hP
              have hD : va_D A (w_Mo cI cJ cZ oh o0 o1 o2 o3 o4 o5 o6 o7 o8 o9 o10 o11 o12 ((z19.2.1.1, (z19.2.1.2.1, (z19.2.1.2.2.1, (upd z19.2.1.2.2.2 x1.toNatClampNeg (1 : Int32))))), z19.2.2)) := hD
              refine lv_aload_n hx hb d_Mo_begin_54 rfl (lv_at hl 0 rfl) ?_
              refine va_get (D := D) (ci := 3) (v := .ref o10) (C := R_Mo) (T := F_Mo) (N := 19) hx hb hts i_Mo hown hK hP 0 rfl rfl 11 (by decide) (hts _ k_236) (fun _ h9 => h9) rfl d_Mo_begin_55 ?_
              refine lv_iload_n hx hb d_Mo_begin_58 rfl (lv_at hl 1 rfl) ?_
              refine lv_iconst (v := (0 : Int32)) hx hb d_Mo_begin_59 (by decide) ?_
              obtain ⟨g21, hf⟩ := x_if hf
              refine va_iast hx hb hK hP hD hS 11 0 rfl rfl (xi_in g21) d_Mo_begin_60 (fun H locs hP hD hS => ?_)
              have hP : va_P D vwCl (w_Mo cI cJ cZ oh o0 o1 o2 o3 o4 o5 o6 o7 o8 o9 o10 o11 o12 ((z19.2.1.1, (z19.2.1.2.1, (z19.2.1.2.2.1, (upd z19.2.1.2.2.2 x1.toNatClampNeg (1 : Int32))))), (z19.2.2.1, (z19.2.2.2.1, (z19.2.2.2.2.1, ((upd z19.2.2.2.2.2.1 x1.toNatClampNeg (0 : Int32)), z19.2.2.2.2.2.2)))))) H := hP
              have hD : va_D A (w_Mo cI cJ cZ oh o0 o1 o2 o3 o4 o5 o6 o7 o8 o9 o10 o11 o12 ((z19.2.1.1, (z19.2.1.2.1, (z19.2.1.2.2.1, (upd z19.2.1.2.2.2 x1.toNatClampNeg (1 : Int32))))), (z19.2.2.1, (z19.2.2.2.1, (z19.2.2.2.2.1, ((upd z19.2.2.2.2.2.1 x1.toNatClampNeg (0 : Int32)), z19.2.2.2.2.2.2)))))) := hD
              refine lv_aload_n hx hb d_Mo_begin_61 rfl (lv_at hl 0 rfl) ?_
              refine va_get (D := D) (ci := 3) (v := .ref o11) (C := R_Mo) (T := F_Mo) (N := 19) hx hb hts i_Mo hown hK hP 0 rfl rfl 12 (by decide) (hts _ k_237) (fun _ h9 => h9) rfl d_Mo_begin_62 ?_
              refine lv_iload_n hx hb d_Mo_begin_65 rfl (lv_at hl 1 rfl) ?_
              refine lv_lconst (v := (0 : Int64)) hx hb d_Mo_begin_66 (by decide) ?_
              obtain ⟨g22, hf⟩ := x_if hf
              refine va_last hx hb hK hP hD hS 12 1 rfl rfl (xi_in g22) d_Mo_begin_67 (fun H locs hP hD hS => ?_)
              have hP : va_P D vwCl (w_Mo cI cJ cZ oh o0 o1 o2 o3 o4 o5 o6 o7 o8 o9 o10 o11 o12 ((z19.2.1.1, (z19.2.1.2.1, (z19.2.1.2.2.1, (upd z19.2.1.2.2.2 x1.toNatClampNeg (1 : Int32))))), (z19.2.2.1, (z19.2.2.2.1, (z19.2.2.2.2.1, ((upd z19.2.2.2.2.2.1 x1.toNatClampNeg (0 : Int32)), ((vp_updL z19.2.2.2.2.2.2.1 x1.toNatClampNeg (0 : Int64)), z19.2.2.2.2.2.2.2))))))) H := hP
              have hD : va_D A (w_Mo cI cJ cZ oh o0 o1 o2 o3 o4 o5 o6 o7 o8 o9 o10 o11 o12 ((z19.2.1.1, (z19.2.1.2.1, (z19.2.1.2.2.1, (upd z19.2.1.2.2.2 x1.toNatClampNeg (1 : Int32))))), (z19.2.2.1, (z19.2.2.2.1, (z19.2.2.2.2.1, ((upd z19.2.2.2.2.2.1 x1.toNatClampNeg (0 : Int32)), ((vp_updL z19.2.2.2.2.2.2.1 x1.toNatClampNeg (0 : Int64)), z19.2.2.2.2.2.2.2))))))) := hD
              refine lv_iconst (v := (1 : Int32)) hx hb d_Mo_begin_68 (by decide) ?_
              refine lv_istore_n (lv' := [(2, .int (1 : Int32)), (0, .ref oh), (1, .int x1)]) hx hb d_Mo_begin_69 rfl hl (by decide) rfl (fun ls hl => ?_)
              exact L_70 _ _ _ _ hf _ _ _ hP hD hS (lv_sub hl [1, 2, 0] rfl)
            · have hf := x_ifp c24 hf
              refine lv_aload_n hx hb d_Mo_begin_41 rfl (lv_at hl 0 rfl) ?_
              refine lv_iconst (v := (1 : Int32)) hx hb d_Mo_begin_42 (by decide) ?_
              obtain ⟨z23, hz23, hf⟩ := x_bind hf
              refine x_callV (w2 := (w_Mo cI cJ cZ oh o0 o1 o2 o3 o4 o5 o6 o7 o8 o9 o10 o11 o12 z23.2)) ⟨hx, hb, hml, hown, hts⟩ (c_Mo_raise l D cI cJ cZ oh o0 o1 o2 o3 o4 o5 o6 o7 o8 o9 o10 o11 o12 N (1 : Int32) z19.2 z23 hz23) (x_cwV 1 hts rfl k_272 k_273 k_274 k_246 k_275 (by decide +kernel) ⟨(Nat.le_of_ble_eq_true rfl), (Nat.le_of_ble_eq_true rfl)⟩) hK hP hD hS hA hZ [0, 1, 2, 3, 4, 5, 6, 7, 8, 9, 10, 11, 12, 13] [] [0, 1, 2, 3, 4, 5, 6, 7, 8, 9, 10, 11, 12, 13] (by decide) rfl rfl (by decide) (by decide) (by decide) rfl (ci := 3) rfl rfl rfl hl.1 rfl (Nat.le_of_ble_eq_true rfl) d_Mo_begin_43 ⟨(Nat.le_of_ble_eq_true rfl), (Nat.le_of_ble_eq_true rfl)⟩ (fun H locs hP hD hS => ?_)
              refine W.eq (g2 := F0 m 46 ls [.int z23.1]) rfl ?_
              obtain rfl := Option.some.inj hf
              exact x_iret hx hb hr hlocks hK hP hD hS (Nat.le_of_ble_eq_true rfl) (Nat.le_of_ble_eq_true rfl) d_Mo_begin_46
        · have hf := x_ifn c26 hf
          refine lv_iinc (v := (x1 + (1 : Int32))) (lv' := [(1, .int (x1 + (1 : Int32))), (0, .ref oh)]) hx hb d_Mo_begin_21 hl (k := 1) rfl rfl (by decide) rfl (fun ls hl => ?_)
          refine lv_goto (tgt := 6) hx hb d_Mo_begin_24 (by decide) ?_
          exact ih _ _ hf _ _ _ hP hD hS (lv_sub hl [1, 0] rfl)
  refine lv_aload_n hx hb d_Mo_begin_0 rfl (lv_at hl 0 rfl) ?_
  obtain ⟨z1, hz1, hf⟩ := x_bind hf
  refine x_callV (w2 := (w_Mo cI cJ cZ oh o0 o1 o2 o3 o4 o5 o6 o7 o8 o9 o10 o11 o12 z1.2)) ⟨hx, hb, hml, hown, hts⟩ (c_Mo_begun l D cI cJ cZ oh o0 o1 o2 o3 o4 o5 o6 o7 o8 o9 o10 o11 o12 N  U z1 hz1) (x_cwV 0 hts rfl k_284 k_285 k_286 k_246 k_287 (by decide +kernel) ⟨(Nat.le_of_ble_eq_true rfl), (Nat.le_of_ble_eq_true rfl)⟩) hK hP hD hS hA hZ [0, 1, 2, 3, 4, 5, 6, 7, 8, 9, 10, 11, 12, 13] [] [0, 1, 2, 3, 4, 5, 6, 7, 8, 9, 10, 11, 12, 13] (by decide) rfl rfl (by decide) (by decide) (by decide) rfl (ci := 3) rfl rfl rfl hl.1 rfl (Nat.le_of_ble_eq_true rfl) d_Mo_begin_1 ⟨(Nat.le_of_ble_eq_true rfl), (Nat.le_of_ble_eq_true rfl)⟩ (fun H locs hP hD hS => ?_)
  refine W.eq (g2 := F0 m 4 ls []) rfl ?_
  refine lv_iconst (v := (1 : Int32)) hx hb d_Mo_begin_4 (by decide) ?_
  refine lv_istore_n (lv' := [(1, .int (1 : Int32)), (0, .ref oh)]) hx hb d_Mo_begin_5 rfl hl (by decide) rfl (fun ls hl => ?_)
  exact L_6 _ _ _ hf _ _ _ hP hD hS (lv_sub hl [1, 0] rfl)
