/-! THE PURE PART, 15: change, write, erase -/
section PO4
def cB (T i : Nat) (ch : Nat → Int32) : Nat → Int32 := upd ch T (ch T ||| pm (pgN i))
theorem chBy_eq (N : Nat) {T i : Nat} (hT : T ≤ 40) (hi : i < 15) (S : K_St) (cb : Nat → Int64) (ch be : Nat → Int32) : f_Rv_changedBy N (nI T) (nI i) (S, (cb, (ch, be))) = some ((), ((S.1, (S.2.1, (S.2.2.1, (S.2.2.2.1 ||| pm (pgN i), S.2.2.2.2)))), (cb, (cB T i ch, be)))) := by
  have hx := nI_xi (i := T) (n := 41) (by omega) (by omega)
  unfold f_Rv_changedBy
  rw [pgI hi]
  simp only [Option.bind_some]
  rw [chg_eq]
  simp only [Option.bind_some]
  rw [if_pos hx, if_pos hx, nI_clamp (by omega)]
  rfl
theorem cB_ok {T i : Nat} (hi : i < 15) {ch : Nat → Int32} (h : ∀ T, T ≤ 40 → ∀ p, bz (ch T) p = true → p < 6) : ∀ T', T' ≤ 40 → ∀ p, bz (cB T i ch T') p = true → p < 6 := by
  intro T' hT' p hp
  have hg := pgN_lt hi
  unfold cB at hp
  by_cases e : T' = T
  · subst e
    rw [upd_s, bz_pm _ (by omega)] at hp
    simp only [Bool.or_eq_true, decide_eq_true_eq] at hp
    rcases hp with hp | hp
    · exact h T' hT' p hp
    · omega
  · rw [upd_o _ _ e] at hp; exact h T' hT' p hp
theorem lf_skip (N : Nat) (C : K_Co) : ∀ (t k n : Nat), k + t ≤ 15 → (∀ q, k ≤ q → q < k + t → C.1 q ≠ 0) → f_Co_leastFree_3 N (n + t) (nI k) C = f_Co_leastFree_3 N n (nI (k + t)) C := by
  intro t
  induction t with
  | zero => intro k n _ _; rfl
  | succ t ih =>
    intro k n hk h
    rw [show n + (t + 1) = (n + t) + 1 from rfl, f_Co_leastFree_3, if_neg (nle15 (k := k) (by omega)), if_pos (nI_xi (by omega) (by omega)), nI_clamp (by omega), if_neg (h k (by omega) (by omega)), nI_1, ih (k + 1) n (by omega) (fun q h1 h2 => h q (by omega) (by omega)), show k + 1 + t = k + (t + 1) from by omega]
theorem mc_skip (N : Nat) (x1 x2 x3 x4 : Int32) (V : K_Mo) : ∀ (t k n : Nat), k + t ≤ 15 → (∀ q, k ≤ q → q < k + t → V.1.1 q ≠ 0) → f_Mo_change_66 N (n + t) x1 x2 x3 x4 (nI k) V = f_Mo_change_66 N n x1 x2 x3 x4 (nI (k + t)) V := by
  intro t
  induction t with
  | zero => intro k n _ _; rfl
  | succ t ih =>
    intro k n hk h
    rw [show n + (t + 1) = (n + t) + 1 from rfl, f_Mo_change_66, if_neg (nle15 (k := k) (by omega)), if_pos (nI_xi (by omega) (by omega)), nI_clamp (by omega), if_neg (h k (by omega) (by omega)), nI_1, ih (k + 1) n (by omega) (fun q h1 h2 => h q (by omega) (by omega)), show k + 1 + t = k + (t + 1) from by omega]
theorem free_cases (f : Nat → Int32) : ∀ (t k : Nat), k + t = 15 → (∃ s, k ≤ s ∧ s < 15 ∧ f s = 0 ∧ ∀ q, k ≤ q → q < s → f q ≠ 0) ∨ (∀ q, k ≤ q → q < 15 → f q ≠ 0) := by
  intro t
  induction t with
  | zero => intro k hk; exact Or.inr (fun q h1 h2 => by omega)
  | succ t ih =>
    intro k hk
    by_cases h0 : f k = 0
    · exact Or.inl ⟨k, Nat.le_refl k, by omega, h0, fun q h1 h2 => by omega⟩
    · rcases ih (k + 1) (by omega) with ⟨s, g1, g2, g3, g4⟩ | g
      · refine Or.inl ⟨s, by omega, g2, g3, fun q h1 h2 => ?_⟩
        by_cases e : q = k
        · subst e; exact h0
        · exact g4 q (by omega) h2
      · refine Or.inr (fun q h1 h2 => ?_)
        by_cases e : q = k
        · subst e; exact h0
        · exact g q (by omega) h2
def CH (N : Nat) (T r : Nat) (v : Int32) (U : K_Rv) : Prop := ∃ o U', IR U' ∧ f_Rv_change N (nI T) (nI r) v U = some (o, U') ∧ ∃ cr' rf', (∀ pl, ∃ pl', f_Mo_change N (nI T) (nI r) v (mkV U.1 U.2.1 U.2.2.1 pl 0 0 0) = some ((), mkV U'.1 U'.2.1 U'.2.2.1 pl' 0 cr' rf')) ∧ ((o = .inl 1 ∧ cr' = 0 ∧ rf' = 0) ∨ (o = .inl (-9) ∧ cr' = 1 ∧ rf' = 0) ∨ (o = .inr "java/lang/UnsupportedOperationException" ∧ cr' = 0 ∧ rf' = 1) ∨ (o = .inr "java/lang/IndexOutOfBoundsException" ∧ cr' = 0 ∧ rf' = 2))
theorem IS.fl {S : K_St} (h : IS S) {r T : Nat} (hr : r < 6) (h1 : 1 ≤ T) (hT : T ≤ 40) (h0 : bF S.1 r = 0) {v : Int32} (hv : v = -1 ∨ 0 ≤ v) : IS ((upd S.1.1 r (nI T), (upd S.1.2.1 r v, (upd S.1.2.2.1 r (-1), S.1.2.2.2))), (S.2.1, (S.2.2.1, (S.2.2.2.1 ||| pm (pgN r), S.2.2.2.2)))) := by
  obtain ⟨⟨o, v0, l, st⟩, D, e, d, R⟩ := S
  have hp := pg7 (i := r) (by omega)
  have hG : Gd (bF (o, (v0, (l, st)))) (lF (o, (v0, (l, st)))) (bF D) (lF D) _ _ := h.2.2.2.2.2.2.2
  refine IS.rows h (o := upd o r (nI T)) (v := upd v0 r v) (l := upd l r (-1)) (d := d ||| pm (pgN r)) (fun i hi => ?_) (fun i hi => ?_) (fun i hi => ?_) (Mk.or h.2.2.1 (Mk.one hp)) ?_
  · by_cases e : i = r
    · subst e; rw [upd_s]; exact ⟨T, hT, rfl⟩
    · rw [upd_o _ _ e]; exact h.1.1 i hi
  · by_cases e : i = r
    · subst e; rw [upd_s]; exact hv
    · rw [upd_o _ _ e]; exact h.1.2.1 i hi
  · by_cases e : i = r
    · subst e; rw [upd_s]; exact Or.inl rfl
    · rw [upd_o _ _ e]; exact h.1.2.2.1 i hi
  · rw [bF_upd o v0 l st, lF_upd o v0 l st, lx_m1, nI_clamp (by omega)]
    exact hG.fill hr h0 (by omega) (fun p hp' => by rw [bz_pm _ hp]; simp [show bz d p = true from hp']) (by rw [bz_pm _ hp]; simp)
theorem IS.ow {S : K_St} (h : IS S) {r : Nat} (hr : r < 6) {v : Int32} (hv : v = -1 ∨ 0 ≤ v) : IS ((S.1.1, (upd S.1.2.1 r v, (S.1.2.2.1, S.1.2.2.2))), (S.2.1, (S.2.2.1, (S.2.2.2.1 ||| pm (pgN r), S.2.2.2.2)))) := by
  obtain ⟨⟨o, v0, l, st⟩, D, e, d, R⟩ := S
  have hp := pg7 (i := r) (by omega)
  refine IS.rows h (o := o) (v := upd v0 r v) (l := l) (d := d ||| pm (pgN r)) h.1.1 (fun i hi => ?_) h.1.2.2.1 (Mk.or h.2.2.1 (Mk.one hp)) ?_
  · by_cases e : i = r
    · subst e; rw [upd_s]; exact hv
    · rw [upd_o _ _ e]; exact h.1.2.1 i hi
  · exact Gd.dirty h.2.2.2.2.2.2.2 (fun p hp' => by rw [bz_pm _ hp]; simp [show bz d p = true from hp'])
theorem IS.nw {S : K_St} (h : IS S) {r s T : Nat} (hr : r < 6) (hs : 6 ≤ s) (hs2 : s < 15) (h1 : 1 ≤ T) (hT : T ≤ 40) (h0 : bF S.1 s = 0) (hn : bF S.1 r ≠ 0) (hlt : bF S.1 r < T) (hE : eF S (pgN s) (pgN r) = true) {v : Int32} (hv : v = -1 ∨ 0 ≤ v) : IS ((upd (upd S.1.1 s (S.1.1 r)) r (nI T), (upd (upd S.1.2.1 s (S.1.2.1 r)) r v, (upd (upd S.1.2.2.1 s (S.1.2.2.1 r)) r (nI s), S.1.2.2.2))), (S.2.1, (S.2.2.1, (S.2.2.2.1 ||| pm (pgN s) ||| pm (pgN r), S.2.2.2.2)))) := by
  obtain ⟨⟨o, v0, l, st⟩, D, e, d, R⟩ := S
  have hp := pg7 (i := r) (by omega)
  have hq := pg7 hs2
  have hG : Gd (bF (o, (v0, (l, st)))) (lF (o, (v0, (l, st)))) (bF D) (lF D) _ _ := h.2.2.2.2.2.2.2
  refine IS.rows h (o := upd (upd o s (o r)) r (nI T)) (v := upd (upd v0 s (v0 r)) r v) (l := upd (upd l s (l r)) r (nI s)) (d := d ||| pm (pgN s) ||| pm (pgN r)) (fun i hi => ?_) (fun i hi => ?_) (fun i hi => ?_) (Mk.or (Mk.or h.2.2.1 (Mk.one hq)) (Mk.one hp)) ?_
  · by_cases e : i = r
    · subst e; rw [upd_s]; exact ⟨T, hT, rfl⟩
    · rw [upd_o _ _ e]
      by_cases e : i = s
      · subst e; rw [upd_s]; exact h.1.1 r (by omega)
      · rw [upd_o _ _ e]; exact h.1.1 i hi
  · by_cases e : i = r
    · subst e; rw [upd_s]; exact hv
    · rw [upd_o _ _ e]
      by_cases e : i = s
      · subst e; rw [upd_s]; exact h.1.2.1 r (by omega)
      · rw [upd_o _ _ e]; exact h.1.2.1 i hi
  · by_cases e : i = r
    · subst e; rw [upd_s]; exact Or.inr ⟨s, hs, hs2, rfl⟩
    · rw [upd_o _ _ e]
      by_cases e : i = s
      · subst e; rw [upd_s]; exact h.1.2.2.1 r (by omega)
      · rw [upd_o _ _ e]; exact h.1.2.2.1 i hi
  · rw [bF_upd (upd o s (o r)) v0 l st, bF_upd o v0 l st, lF_upd o v0 (upd l s (l r)) st, lF_upd o v0 l st, nI_clamp (by omega), lx_n (by omega)]
    exact hG.new hr hs hs2 h0 hn hlt hE (fun p hp' => by rw [bz_pm _ hp, bz_pm _ hq]; simp [show bz d p = true from hp']) (by rw [bz_pm _ hp]; simp) (by rw [bz_pm _ hp, bz_pm _ hq]; simp)
set_option maxHeartbeats 4000000 in
theorem change_both (N : Nat) (hN : 100000000 ≤ N) {U : K_Rv} (hU : IR U) {T r : Nat} (h1 : 1 ≤ T) (hT : T ≤ 40) (hr : r < 6) {v : Int32} (hv : v = -1 ∨ 0 ≤ v) : CH N T r v U := by
  obtain ⟨S0, cb, ch, be⟩ := U
  obtain ⟨hS0, hcb, hch⟩ := hU
  obtain ⟨res, S, g1, hS, g3⟩ := clean_root N hN hr (U := (S0, (cb, (ch, be)))) hS0
  dsimp only at hS0 hcb hch g3 g1
  have hx := nI_xi (i := r) (n := 15) (by omega) (by omega)
  have hxT := nI_xi (i := T) (n := 41) (by omega) (by omega)
  have hp := pg7 (i := r) (by omega)
  have hxp := nI_xi (i := pgN r) (n := 7) hp (by omega)
  have hcr : (nI r).toNatClampNeg = r := nI_clamp (by omega)
  have hcT : (nI T).toNatClampNeg = T := nI_clamp (by omega)
  have hcp : (nI (pgN r)).toNatClampNeg = pgN r := nI_clamp (by omega)
  rcases g3 with ⟨rfl, g3⟩ | ⟨rfl, g3⟩
  · have hb := hS.1.b (i := r) (by omega)
    obtain ⟨R, hR0⟩ := hS.2.2.2.2.2.2.2.mem
    have hR : CR S.1 R := ⟨hS.1, hR0⟩
    by_cases h0 : bF S.1 r = 0
    · have hO : S.1.1 r = 0 := by rw [hb.1, h0]; rfl
      refine ⟨.inl 1, (((upd S.1.1 r (nI T), (upd S.1.2.1 r v, (upd S.1.2.2.1 r (-1), S.1.2.2.2))), (S.2.1, (S.2.2.1, (S.2.2.2.1 ||| pm (pgN r), S.2.2.2.2)))), (cb, (cB T r ch, be))), ⟨hS.fl hr h1 hT h0 hv, hcb, cB_ok (by omega) hch⟩, ?_, 0, 0, fun pl => ?_, Or.inl ⟨rfl, rfl, rfl⟩⟩
      · unfold f_Rv_change
        rw [g1]
        simp only [Option.bind_some]
        rw [if_neg (by decide), if_pos hx, hcr, if_pos hO, if_pos hO, fill_eq N (by omega)]
        simp only [Option.bind_some]
        rw [chBy_eq N hT (by omega)]
        rfl
      · obtain ⟨pl1, g3⟩ := g3 cb ch pl 0 0
        refine ⟨pl1, ?_⟩
        have hO' : (mkV S cb ch pl1 0 0 0).1.1 r = 0 := hO
        have hnT : ¬ (0 : Int32) = nI T := by rw [zl0, nI_eq (by omega) (by omega)]; omega
        unfold f_Mo_change
        rw [g3]
        simp only [Option.bind_some]
        rw [if_pos (show (mkV S cb ch pl1 0 0 0).2.2.2.2.2.2.2.2.2.2.2.1 = 0 from rfl), if_pos hx, hcr, if_pos hO', pgM (by omega)]
        simp only [Option.bind_some]
        rw [if_pos hx, if_neg (by rw [hO']; exact hnT), if_pos hx, if_pos hO', if_pos hx, if_pos hO', if_pos hx, if_pos hx, if_pos hx, if_pos hxp, if_pos hxT, if_pos hxT, hcp, hcT, nar1]
        unfold mkV vC cB
        dsimp only
        rw [dA_or _ hp, cv_upd, cv_m1]
        rfl
    · have hRr := hR0.1 r hr h0
      have hO : ¬ S.1.1 r = 0 := by rw [hb.1, zn0 (by omega)]; exact h0
      have hse := fun pl => seen_eq N hR hRr hT cb ch pl 0 0 0
      have hmo : ∀ pl1, f_Mo_clean N (nI r) (mkV S0 cb ch pl1 0 0 0) = some ((), mkV S cb ch pl1 0 0 0) → True := fun _ _ => trivial
      by_cases hsn : by64 (cb T ||| ((1 : Int64) <<< ((nI T).toInt64 &&& 63))) (bF S.1 r) = true
      · have hcl : f_Rv_change N (nI T) (nI r) v (S0, (cb, (ch, be))) = (if (S.1.1 r) = nI T then (if xi (nI r) 15 = true then ((f_Rv_changedBy N (nI T) (nI r) (((S.1.1, ((upd S.1.2.1 r v), S.1.2.2)), S.2), (cb, (ch, be)))).bind fun z32 => some ((Sum.inl (1 : Int32)), z32.2)) else none) else ((f_Co_leastFree N  S.1).bind fun z21 => (if z21.1 = (-1 : Int32) then some ((Sum.inr "java/lang/IndexOutOfBoundsException"), ((z21.2, S.2), (cb, (ch, be)))) else ((f_Rv_pageOf N z21.1 ).bind fun z22 => ((f_Rv_pageOf N (nI r) ).bind fun z23 => ((f_St_note N z22 z23 (z21.2, S.2)).bind fun z24 => (if z24.1 = 0 then some ((Sum.inl (-9 : Int32)), (z24.2, (cb, (ch, be)))) else ((f_Co_move N (nI r) z21.1 z24.2.1).bind fun z25 => ((f_Co_fill N (nI r) (nI T) v z21.1 z25.2).bind fun z26 => ((f_Rv_changedBy N (nI T) z21.1 ((z26.2, z24.2.2), (cb, (ch, be)))).bind fun z27 => ((f_Rv_changedBy N (nI T) (nI r) z27.2).bind fun z28 => some ((Sum.inl (1 : Int32)), z28.2)))))))))))) := by
          unfold f_Rv_change
          rw [g1]
          simp only [Option.bind_some]
          rw [if_neg (by decide), if_pos hx, hcr, if_neg hO]
          unfold f_Rv_seenBy
          dsimp only
          rw [if_pos hxT, hcT]
          simp only [Option.bind_some]
          rw [hb.1, f_has N (by omega), if_pos hsn]
          simp only [Option.bind_some]
          rw [if_neg (by decide), ← hb.1, if_neg hO]
        have hmc : ∀ pl pl1, f_Mo_clean N (nI r) (mkV S0 cb ch pl 0 0 0) = some ((), mkV S cb ch pl1 0 0 0) → f_Mo_change N (nI T) (nI r) v (mkV S0 cb ch pl 0 0 0) = (if S.1.1 r = nI T then some ((), mkV ((upd S.1.1 r (nI T), (upd S.1.2.1 r v, S.1.2.2)), (S.2.1, (S.2.2.1, (S.2.2.2.1 ||| pm (pgN r), S.2.2.2.2)))) cb (cB T r ch) pl1 0 0 0) else f_Mo_change_66 N N (nI T) (nI r) v (nI (pgN r)) 6 (mkV S cb ch pl1 0 0 0)) := by
          intro pl pl1 g3
          have hO' : ¬ (mkV S cb ch pl1 0 0 0).1.1 r = 0 := hO
          unfold f_Mo_change
          rw [g3]
          simp only [Option.bind_some]
          rw [if_pos (show (mkV S cb ch pl1 0 0 0).2.2.2.2.2.2.2.2.2.2.2.1 = 0 from rfl), if_pos hx, hcr, if_neg hO', hse, if_pos hsn]
          simp only [Option.bind_some]
          rw [if_neg (by decide), pgM (by omega)]
          simp only [Option.bind_some]
          rw [if_pos hx]
          by_cases hoT : S.1.1 r = nI T
          · rw [if_pos (show (mkV S cb ch pl1 0 0 0).1.1 r = nI T from hoT), if_pos hx, if_neg hO', if_pos hx, if_pos hx, if_pos hxp, if_pos hxT, if_pos hxT, hcp, hcT, nar1, if_pos hoT]
            unfold mkV vC cB
            dsimp only
            rw [dA_or _ hp]
            rfl
          · rw [if_neg (show ¬ (mkV S cb ch pl1 0 0 0).1.1 r = nI T from hoT), if_pos hx, if_neg hO', if_neg hoT]
        by_cases hoT : S.1.1 r = nI T
        · refine ⟨.inl 1, (((S.1.1, (upd S.1.2.1 r v, S.1.2.2)), (S.2.1, (S.2.2.1, (S.2.2.2.1 ||| pm (pgN r), S.2.2.2.2)))), (cb, (cB T r ch, be))), ⟨hS.ow hr hv, hcb, cB_ok (by omega) hch⟩, ?_, 0, 0, fun pl => ?_, Or.inl ⟨rfl, rfl, rfl⟩⟩
          · rw [hcl, if_pos hoT, if_pos hx, chBy_eq N hT (by omega)]
            rfl
          · obtain ⟨pl1, g3⟩ := g3 cb ch pl 0 0
            refine ⟨pl1, ?_⟩
            rw [hmc pl pl1 g3, if_pos hoT]
            have : upd S.1.1 r (nI T) = S.1.1 := by
              funext i
              by_cases e : i = r
              · subst e; rw [upd_s, hoT]
              · rw [upd_o _ _ e]
            rw [this]
        · have hlt : bF S.1 r < T := by
            rw [by_or, by_one (by omega)] at hsn
            simp only [Bool.or_eq_true, decide_eq_true_eq] at hsn
            rcases hsn with hsn | hsn
            · exact hcb T hT _ hsn
            · exact absurd (by rw [hb.1, hsn]) hoT
          rcases free_cases S.1.1 9 6 rfl with ⟨s, s6, s15, s0, sq⟩ | hnone
          · have hxs := nI_xi (i := s) (n := 15) s15 (by omega)
            have hcs : (nI s).toNatClampNeg = s := nI_clamp (by omega)
            have hps := pg7 s15
            have hne := Ne.symm (pg_ne hr s6 s15)
            have hlf : f_Co_leastFree N S.1 = some (nI s, S.1) := by
              unfold f_Co_leastFree
              have := lf_skip N S.1 (s - 6) 6 (N - (s - 6)) (by omega) (fun q h1 h2 => sq q h1 (by omega))
              rw [show N - (s - 6) + (s - 6) = N from by omega, show 6 + (s - 6) = s from by omega] at this
              rw [zl6, this, show N - (s - 6) = (N - (s - 6) - 1) + 1 from by omega, f_Co_leastFree_3, if_neg (nle15 s15), if_pos hxs, hcs, if_pos s0]
            have hb0 : bF S.1 s = 0 := by unfold bF; rw [s0]; rfl
            obtain ⟨r1, S1, q1, q2, q3⟩ := note_both N hN hS hps hp
            have hm66 : ∀ pl1, f_Mo_change_66 N N (nI T) (nI r) v (nI (pgN r)) 6 (mkV S cb ch pl1 0 0 0) = ((f_Mo_note N (nI (pgN s)) (nI (pgN r)) (mkV S cb ch pl1 0 0 0)).bind fun z48 => (if z48.2.2.2.2.2.2.2.2.2.2.2.2.1 = 0 then ((f_Mo_move N (nI r) (nI s) z48.2).bind fun z49 => some ((), (((upd z49.2.1.1 r (nI T)), ((upd z49.2.1.2.1 r v), ((upd z49.2.1.2.2.1 r (nI s - (6 : Int32))), z49.2.1.2.2.2))), (z49.2.2.1, ((upd z49.2.2.2.1 (pgN r) 1), (z49.2.2.2.2.1, ((upd (upd z49.2.2.2.2.2.1 T ((z49.2.2.2.2.2.1 T) ||| ((1 : Int32) <<< (nI (pgN s) &&& 31)))) T (((upd z49.2.2.2.2.2.1 T ((z49.2.2.2.2.2.1 T) ||| ((1 : Int32) <<< (nI (pgN s) &&& 31)))) T) ||| ((1 : Int32) <<< (nI (pgN r) &&& 31)))), z49.2.2.2.2.2.2))))))) else some ((), z48.2))) := by
              intro pl1
              have := mc_skip N (nI T) (nI r) v (nI (pgN r)) (mkV S cb ch pl1 0 0 0) (s - 6) 6 (N - (s - 6)) (by omega) (fun q h1 h2 => sq q h1 (by omega))
              rw [show N - (s - 6) + (s - 6) = N from by omega, show 6 + (s - 6) = s from by omega] at this
              rw [zl6, this, show N - (s - 6) = (N - (s - 6) - 1) + 1 from by omega, f_Mo_change_66, if_neg (nle15 s15), if_pos hxs, hcs, if_pos (show (mkV S cb ch pl1 0 0 0).1.1 s = 0 from s0), if_neg (by rw [zl15, nI_eq (by omega) (by omega)]; omega), pgM s15]
              simp only [Option.bind_some, if_pos hx, if_pos hxT, if_pos hxp, hcr, hcT, hcp, nar1, ← zl6]
            rcases q3 with ⟨rfl, qN, qs⟩ | ⟨rfl, qs⟩
            · have qm := qN.mem
              have hIS := q2.nw hr s6 s15 h1 hT (by rw [qm]; exact hb0) (by rw [qm]; exact h0) (by rw [qm]; exact hlt) (qN.edge hps hne) hv
              refine ⟨.inl 1, (((upd (upd S1.1.1 s (S1.1.1 r)) r (nI T), (upd (upd S1.1.2.1 s (S1.1.2.1 r)) r v, (upd (upd S1.1.2.2.1 s (S1.1.2.2.1 r)) r (nI s), S1.1.2.2.2))), (S1.2.1, (S1.2.2.1, (S1.2.2.2.1 ||| pm (pgN s) ||| pm (pgN r), S1.2.2.2.2)))), (cb, (cB T r (cB T s ch), be))), ⟨hIS, hcb, cB_ok (T := T) (i := r) (by omega) (cB_ok (T := T) s15 hch)⟩, ?_, 0, 0, fun pl => ?_, Or.inl ⟨rfl, rfl, rfl⟩⟩
              · rw [hcl, if_neg hoT, hlf]
                simp only [Option.bind_some]
                rw [if_neg (by rw [zm1 (by omega)]; simp), pgI s15, pgI (by omega)]
                simp only [Option.bind_some]
                rw [show ((S.1, S.2) : K_St) = S from rfl, q1]
                simp only [Option.bind_some]
                rw [if_neg (by decide), move_eq N (by omega) s15]
                simp only [Option.bind_some]
                rw [fill_eq N (by omega)]
                simp only [Option.bind_some]
                rw [chBy_eq N hT s15]
                simp only [Option.bind_some]
                rw [chBy_eq N hT (by omega)]
                rfl
              · obtain ⟨pl1, g3⟩ := g3 cb ch pl 0 0
                obtain ⟨pl2, qs⟩ := qs cb ch pl1 0 0
                refine ⟨pl2, ?_⟩
                rw [hmc pl pl1 g3, if_neg hoT, hm66, qs]
                simp only [Option.bind_some]
                rw [if_pos (show (mkV S1 cb ch pl2 0 0 0).2.2.2.2.2.2.2.2.2.2.2.1 = 0 from rfl), mmove_eq N (by omega) s15]
                simp only [Option.bind_some]
                unfold mkV vC moS cB pm
                dsimp only
                rw [dA_or _ hp, cv_upd, cv_upd, cv_upd, cv_n s6 s15, zl6, pk_sub s6]
            · refine ⟨.inl (-9), (S1, (cb, (ch, be))), ⟨q2, hcb, hch⟩, ?_, 1, 0, fun pl => ?_, Or.inr (Or.inl ⟨rfl, rfl, rfl⟩)⟩
              · rw [hcl, if_neg hoT, hlf]
                simp only [Option.bind_some]
                rw [if_neg (by rw [zm1 (by omega)]; simp), pgI s15, pgI (by omega)]
                simp only [Option.bind_some]
                rw [show ((S.1, S.2) : K_St) = S from rfl, q1]
                rfl
              · obtain ⟨pl1, g3⟩ := g3 cb ch pl 0 0
                obtain ⟨pl2, qs⟩ := qs cb ch pl1 0 0
                refine ⟨pl2, ?_⟩
                rw [hmc pl pl1 g3, if_neg hoT, hm66, qs]
                simp only [Option.bind_some]
                rw [if_neg (show ¬ (mkV S1 cb ch pl2 0 1 0).2.2.2.2.2.2.2.2.2.2.2.1 = 0 from by show ¬ (1 : Int32) = 0; decide)]
          · refine ⟨.inr "java/lang/IndexOutOfBoundsException", (S, (cb, (ch, be))), ⟨hS, hcb, hch⟩, ?_, 0, 2, fun pl => ?_, Or.inr (Or.inr (Or.inr ⟨rfl, rfl, rfl⟩))⟩
            · have hlf : f_Co_leastFree N S.1 = some (-1, S.1) := by
                unfold f_Co_leastFree
                have := lf_skip N S.1 9 6 (N - 9) (by omega) (fun q h1 h2 => hnone q h1 (by omega))
                rw [show N - 9 + 9 = N from by omega] at this
                rw [zl6, this, show N - 9 = (N - 10) + 1 from by omega, f_Co_leastFree_3, if_pos (by decide)]
              rw [hcl, if_neg hoT, hlf]
              rfl
            · obtain ⟨pl1, g3⟩ := g3 cb ch pl 0 0
              refine ⟨pl1, ?_⟩
              have := mc_skip N (nI T) (nI r) v (nI (pgN r)) (mkV S cb ch pl1 0 0 0) 9 6 (N - 9) (by omega) (fun q h1 h2 => hnone q h1 (by omega))
              rw [show N - 9 + 9 = N from by omega] at this
              rw [hmc pl pl1 g3, if_neg hoT, zl6, this, show N - 9 = (N - 10) + 1 from by omega, f_Mo_change_66, if_pos (by decide), if_pos (by decide)]
              rfl
      · refine ⟨.inr "java/lang/UnsupportedOperationException", (S, (cb, (ch, be))), ⟨hS, hcb, hch⟩, ?_, 0, 1, fun pl => ?_, Or.inr (Or.inr (Or.inl ⟨rfl, rfl, rfl⟩))⟩
        · unfold f_Rv_change
          rw [g1]
          simp only [Option.bind_some]
          rw [if_neg (by decide), if_pos hx, hcr, if_neg hO]
          unfold f_Rv_seenBy
          dsimp only
          rw [if_pos hxT, hcT]
          simp only [Option.bind_some]
          rw [hb.1, f_has N (by omega), if_neg hsn]
          rfl
        · obtain ⟨pl1, g3⟩ := g3 cb ch pl 0 0
          refine ⟨pl1, ?_⟩
          unfold f_Mo_change
          rw [g3]
          simp only [Option.bind_some]
          rw [if_pos (show (mkV S cb ch pl1 0 0 0).2.2.2.2.2.2.2.2.2.2.2.1 = 0 from rfl), if_pos hx, hcr, if_neg (show ¬ (mkV S cb ch pl1 0 0 0).1.1 r = 0 from hO), hse, if_neg hsn]
          rfl
  · refine ⟨.inl (-9), (S, (cb, (ch, be))), ⟨hS, hcb, hch⟩, ?_, 1, 0, fun pl => ?_, Or.inr (Or.inl ⟨rfl, rfl, rfl⟩)⟩
    · unfold f_Rv_change
      rw [g1]
      rfl
    · obtain ⟨pl1, g3⟩ := g3 cb ch pl 0 0
      refine ⟨pl1, ?_⟩
      unfold f_Mo_change
      rw [g3]
      simp only [Option.bind_some]
      rw [if_neg (show ¬ (mkV S cb ch pl1 0 1 0).2.2.2.2.2.2.2.2.2.2.2.1 = 0 from by show ¬ (1 : Int32) = 0; decide)]
theorem op_write (N : Nat) (hN : 100000000 ≤ N) (p1 p2 p3 : Int32) {U : K_Rv} (hU : IR U) : LO (f_La_write N p1 p2 p3) (f_Mo_write N p1 p2 p3) U := by
  rcases rec_cases N p2 with ⟨r, hr, rfl, g1, g2⟩ | ⟨g1, g2⟩
  · have e := in_eq N p3 (a := 0) (b := 1000000) (by omega) (by omega)
    have e0 : ((0 : Int32)).toInt = 0 := rfl
    have e6 : ((1000000 : Int32)).toInt = 1000000 := rfl
    rcases i_cases p3 (a := 0) (b := 1000000) (by omega) with ⟨x, hx1, hx2, hx3, hx4⟩ | hbad
    · rw [if_pos (by omega)] at e
      have ha : ¬ p3 < 0 := by rw [Int32.lt_iff_toInt_lt]; omega
      have hb : p3 ≤ 1000000 := by rw [Int32.le_iff_toInt_le]; omega
      rcases act_cases N p1 U with ⟨T, h1, h2, rfl, h3, h4, h5⟩ | ⟨h4, h5⟩
      · obtain ⟨o, U', k1, k2, cr', rf', k3, k4⟩ := change_both N hN hU h1 h2 hr (v := p3) (Or.inr (by rw [Int32.le_iff_toInt_le]; omega))
        have hm : ∀ pl th cr rf pl', f_Mo_change N (nI T) (nI r) p3 (mkV U.1 U.2.1 U.2.2.1 pl 0 0 0) = some ((), mkV U'.1 U'.2.1 U'.2.2.1 pl' 0 cr' rf') → f_Mo_write N (nI T) (nI r) p3 (mkV U.1 U.2.1 U.2.2.1 pl th cr rf) = (if rf' ≤ 0 then ((f_Mo_done N 1 (mkV U'.1 U'.2.1 U'.2.2.1 pl' 0 cr' rf')).bind fun z7 => some (z7.1, z7.2)) else ((f_Mo_raise N (2 + rf') (mkV U'.1 U'.2.1 U'.2.2.1 pl' 0 cr' rf')).bind fun z8 => some (z8.1, z8.2))) := by
          intro pl th cr rf pl' hc
          unfold f_Mo_write
          rw [begun_eq]
          simp only [Option.bind_some]
          rw [g2]
          simp only [Option.bind_some]
          rw [if_neg (by decide), show f_Mo_in N p3 0 1000000 = some 1 from e]
          simp only [Option.bind_some]
          rw [if_neg (by decide), h5]
          simp only [Option.bind_some, if_true]
          rw [hc]
          rfl
        have hl : f_Rv_write N (nI T) (nI r) p3 U = some (o, U') := by
          unfold f_Rv_write
          rw [g1]
          simp only [Option.bind_some]
          rw [if_neg ha, if_pos hb, h4]
          simp only [Option.bind_some]
          rw [k2]
          cases o <;> rfl
        rcases k4 with ⟨rfl, rfl, rfl⟩ | ⟨rfl, rfl, rfl⟩ | ⟨rfl, rfl, rfl⟩ | ⟨rfl, rfl, rfl⟩
        · refine ⟨0, 1, U', k1, fun out => ⟨vp_updL out 0 ((1 : Int32)).toInt64, ?_, fun _ => by unfold vp_updL; rw [if_pos rfl]⟩, fun pl th cr rf => ?_⟩
          · unfold f_La_write
            rw [hl]; rfl
          · obtain ⟨pl', k3⟩ := k3 pl
            exact ⟨pl', 0, 0, by rw [hm _ _ _ _ _ k3, if_pos (by decide)]; rfl⟩
        · refine ⟨0, -9, U', k1, fun out => ⟨vp_updL out 0 ((-9 : Int32)).toInt64, ?_, fun _ => by unfold vp_updL; rw [if_pos rfl]⟩, fun pl th cr rf => ?_⟩
          · unfold f_La_write
            rw [hl]; rfl
          · obtain ⟨pl', k3⟩ := k3 pl
            refine ⟨pl', 1, 0, ?_⟩
            rw [hm _ _ _ _ _ k3, if_pos (by decide), done_1]; rfl
        · refine ⟨3, 0, U', k1, fun out => ⟨out, ?_, fun h => absurd h (by decide)⟩, fun pl th cr rf => ?_⟩
          · simp [f_La_write, hl]
          · obtain ⟨pl', k3⟩ := k3 pl
            exact ⟨pl', 0, 1, by rw [hm _ _ _ _ _ k3, if_neg (by decide)]; rfl⟩
        · refine ⟨4, 0, U', k1, fun out => ⟨out, ?_, fun h => absurd h (by decide)⟩, fun pl th cr rf => ?_⟩
          · simp [f_La_write, hl]
          · obtain ⟨pl', k3⟩ := k3 pl
            exact ⟨pl', 0, 2, by rw [hm _ _ _ _ _ k3, if_neg (by decide)]; rfl⟩
      · refine ⟨2, 0, U, hU, fun out => ⟨out, ?_, fun h => absurd h (by decide)⟩, fun pl th cr rf => ⟨pl, 0, 0, ?_⟩⟩
        · simp [f_La_write, f_Rv_write, g1, h4, ha, hb]
        · unfold f_Mo_write
          rw [begun_eq]
          simp only [Option.bind_some]
          rw [g2]
          simp only [Option.bind_some]
          rw [if_neg (by decide), show f_Mo_in N p3 0 1000000 = some 1 from e]
          simp only [Option.bind_some]
          rw [if_neg (by decide), h5]
          simp only [Option.bind_some]
          rw [if_neg (by decide), raise_eq]; rfl
    · rw [if_neg (by omega)] at e
      refine ⟨1, 0, U, hU, fun out => ⟨out, ?_, fun h => absurd h (by decide)⟩, fun pl th cr rf => ⟨pl, 0, 0, ?_⟩⟩
      · by_cases ha : p3 < 0
        · simp [f_La_write, f_Rv_write, g1, ha]
        · have hb : ¬ p3 ≤ 1000000 := by rw [Int32.lt_iff_toInt_lt] at ha; rw [Int32.le_iff_toInt_le]; omega
          simp only [f_La_write, f_Rv_write, g1, if_neg ha, if_neg hb, Option.bind_some]
          simp
      · unfold f_Mo_write
        rw [begun_eq]
        simp only [Option.bind_some]
        rw [g2]
        simp only [Option.bind_some]
        rw [if_neg (by decide), show f_Mo_in N p3 0 1000000 = some 0 from e]
        simp only [Option.bind_some, if_true]
        rw [raise_eq]; rfl
  · refine ⟨1, 0, U, hU, fun out => ⟨out, ?_, fun h => absurd h (by decide)⟩, fun pl th cr rf => ⟨pl, 0, 0, ?_⟩⟩
    · simp [f_La_write, f_Rv_write, g1]
    · unfold f_Mo_write
      rw [begun_eq]
      simp only [Option.bind_some]
      rw [g2]
      simp only [Option.bind_some, if_true]
      rw [raise_eq]; rfl
theorem op_erase (N : Nat) (hN : 100000000 ≤ N) (p1 p2 : Int32) {U : K_Rv} (hU : IR U) : LO (f_La_erase N p1 p2) (f_Mo_erase N p1 p2) U := by
  rcases rec_cases N p2 with ⟨r, hr, rfl, g1, g2⟩ | ⟨g1, g2⟩
  · rcases act_cases N p1 U with ⟨T, h1, h2, rfl, h3, h4, h5⟩ | ⟨h4, h5⟩
    · obtain ⟨R, hR⟩ := hU.cr
      have hx := nI_xi (i := T) (n := 41) (by omega) (by omega)
      have e1 := first_eq N hN hR (U.2.1 T ||| ((1 : Int64) <<< ((nI T).toInt64 &&& 63))) hr
      have e2 := fun ch pl th cr rf => reads_eq N hN (S := U.1) hR h2 hr U.2.1 ch pl th cr rf
      have hps : f_Rv_placeSeen N (nI T) (nI r) U = some (eI (fr U.1.1 (fun i => by64 (U.2.1 T ||| ((1 : Int64) <<< ((nI T).toInt64 &&& 63))) (bF U.1.1 i)) r), U) := by
        unfold f_Rv_placeSeen f_Rv_seenBy
        rw [if_pos hx, nI_clamp (by omega)]
        simp only [Option.bind_some]
        rw [e1]; rfl
      have hm : ∀ pl th cr rf, f_Mo_erase N (nI T) (nI r) (mkV U.1 U.2.1 U.2.2.1 pl th cr rf) = (if (0 : Int32) ≤ gV U.1.1 (fr U.1.1 (fun i => by64 (U.2.1 T ||| ((1 : Int64) <<< ((nI T).toInt64 &&& 63))) (bF U.1.1 i)) r) then ((f_Mo_change N (nI T) (nI r) (-1 : Int32) (mkV U.1 U.2.1 U.2.2.1 pl 0 0 0)).bind fun z5 => (if z5.2.2.2.2.2.2.2.2.2.2.2.2.2 ≤ 0 then ((f_Mo_done N (1 : Int32) z5.2).bind fun z6 => some (z6.1, z6.2)) else ((f_Mo_raise N ((3 : Int32) + z5.2.2.2.2.2.2.2.2.2.2.2.2.2) z5.2).bind fun z7 => some (z7.1, z7.2)))) else some (0, mkV U.1 U.2.1 U.2.2.1 pl 3 0 0)) := by
        intro pl th cr rf
        unfold f_Mo_erase
        rw [begun_eq]
        simp only [Option.bind_some]
        rw [g2]
        simp only [Option.bind_some]
        rw [if_neg (by decide), h5]
        simp only [Option.bind_some, if_true]
        rw [e2]
        simp only [Option.bind_some]
        rfl
      rcases val_cases N hU.1.1 (fr U.1.1 (fun i => by64 (U.2.1 T ||| ((1 : Int64) <<< ((nI T).toInt64 &&& 63))) (bF U.1.1 i)) r) (fun j hj => hR.lt (fr_in hR _ hr hj).1) with ⟨x, k1, k2, k3⟩ | ⟨k1, k2⟩
      · obtain ⟨o, U', c1, c2, cr', rf', c3, c4⟩ := change_both N hN hU h1 h2 hr (v := -1) (Or.inl rfl)
        have hl : f_Rv_erase N (nI T) (nI r) U = some (o, U') := by
          unfold f_Rv_erase
          rw [g1]
          simp only [Option.bind_some]
          rw [h4]
          simp only [Option.bind_some]
          rw [hps]
          simp only [Option.bind_some]
          rw [k1]
          simp only [Option.bind_some]
          rw [show f_Rv_change N (nI T) (nI r) (-1) _ = _ from c2]
          cases o <;> rfl
        rcases c4 with ⟨rfl, rfl, rfl⟩ | ⟨rfl, rfl, rfl⟩ | ⟨rfl, rfl, rfl⟩ | ⟨rfl, rfl, rfl⟩
        · refine ⟨0, 1, U', c1, fun out => ⟨vp_updL out 0 ((1 : Int32)).toInt64, ?_, fun _ => by unfold vp_updL; rw [if_pos rfl]⟩, fun pl th cr rf => ?_⟩
          · unfold f_La_erase
            rw [hl]; rfl
          · obtain ⟨pl', c3⟩ := c3 pl
            exact ⟨pl', 0, 0, by rw [hm, k2, if_pos k3, c3]; rfl⟩
        · refine ⟨0, -9, U', c1, fun out => ⟨vp_updL out 0 ((-9 : Int32)).toInt64, ?_, fun _ => by unfold vp_updL; rw [if_pos rfl]⟩, fun pl th cr rf => ?_⟩
          · unfold f_La_erase
            rw [hl]; rfl
          · obtain ⟨pl', c3⟩ := c3 pl
            refine ⟨pl', 1, 0, ?_⟩
            rw [hm, k2, if_pos k3, c3]
            simp only [Option.bind_some]
            rw [if_pos (show (mkV U'.1 U'.2.1 U'.2.2.1 pl' 0 1 0).2.2.2.2.2.2.2.2.2.2.2.2 ≤ 0 from (by decide : (0 : Int32) ≤ 0)), done_1]; rfl
        · refine ⟨4, 0, U', c1, fun out => ⟨out, ?_, fun h => absurd h (by decide)⟩, fun pl th cr rf => ?_⟩
          · simp [f_La_erase, hl]
          · obtain ⟨pl', c3⟩ := c3 pl
            refine ⟨pl', 0, 1, ?_⟩
            rw [hm, k2, if_pos k3, c3]
            simp only [Option.bind_some]
            rw [if_neg (show ¬ (mkV U'.1 U'.2.1 U'.2.2.1 pl' 0 0 1).2.2.2.2.2.2.2.2.2.2.2.2 ≤ 0 from (by decide : ¬ (1 : Int32) ≤ 0))]; rfl
        · refine ⟨5, 0, U', c1, fun out => ⟨out, ?_, fun h => absurd h (by decide)⟩, fun pl th cr rf => ?_⟩
          · simp [f_La_erase, hl]
          · obtain ⟨pl', c3⟩ := c3 pl
            refine ⟨pl', 0, 2, ?_⟩
            rw [hm, k2, if_pos k3, c3]
            simp only [Option.bind_some]
            rw [if_neg (show ¬ (mkV U'.1 U'.2.1 U'.2.2.1 pl' 0 0 2).2.2.2.2.2.2.2.2.2.2.2.2 ≤ 0 from (by decide : ¬ (2 : Int32) ≤ 0))]; rfl
      · refine ⟨3, 0, U, hU, fun out => ⟨out, ?_, fun h => absurd h (by decide)⟩, fun pl th cr rf => ⟨pl, 0, 0, ?_⟩⟩
        · simp [f_La_erase, f_Rv_erase, g1, h4, hps, k1]
        · rw [hm, k2, if_neg (by decide)]
    · refine ⟨2, 0, U, hU, fun out => ⟨out, ?_, fun h => absurd h (by decide)⟩, fun pl th cr rf => ⟨pl, 0, 0, ?_⟩⟩
      · simp [f_La_erase, f_Rv_erase, g1, h4]
      · unfold f_Mo_erase
        rw [begun_eq]
        simp only [Option.bind_some]
        rw [g2]
        simp only [Option.bind_some]
        rw [if_neg (by decide), h5]
        simp only [Option.bind_some]
        rw [if_neg (by decide), raise_eq]; rfl
  · refine ⟨1, 0, U, hU, fun out => ⟨out, ?_, fun h => absurd h (by decide)⟩, fun pl th cr rf => ⟨pl, 0, 0, ?_⟩⟩
    · simp [f_La_erase, f_Rv_erase, g1]
    · unfold f_Mo_erase
      rw [begun_eq]
      simp only [Option.bind_some]
      rw [g2]
      simp only [Option.bind_some, if_true]
      rw [raise_eq]; rfl
end PO4
