/-! THE PURE PART, 18: the calls, 3 -/
section PO7
theorem sweep_loop (N : Nat) (hN : 100000000 ≤ N) : ∀ (j k n : Nat) (x : Int32) (U : K_Rv), k + j = 6 → j < n → IR U → ∃ v U', IR U' ∧ f_Rv_sweep_4 N n x (nI k) U = some (v, U') ∧ ∀ pl, ∃ pl' cr', f_Mo_sweep_8 N n x (nI k) (mkV U.1 U.2.1 U.2.2.1 pl 0 0 0) = some (v, mkV U'.1 U'.2.1 U'.2.2.1 pl' 0 cr' 0) := by
  intro j
  induction j with
  | zero =>
    intro k n x U hk hn hU
    obtain ⟨n, rfl⟩ : ∃ m, n = m + 1 := ⟨n - 1, by omega⟩
    have : k = 6 := by omega
    subst this
    refine ⟨x, U, hU, ?_, fun pl => ⟨pl, 0, ?_⟩⟩
    · rw [f_Rv_sweep_4, if_pos (by decide)]
    · rw [f_Mo_sweep_8, if_pos (by decide), done_0]; rfl
  | succ j ih =>
    intro k n x U hk hn hU
    obtain ⟨n, rfl⟩ : ∃ m, n = m + 1 := ⟨n - 1, by omega⟩
    obtain ⟨res, S', be', g1, g2, g3⟩ := sweep_rec N hN hU (r := k) (by omega)
    have hU' : IR (S', (U.2.1, (U.2.2.1, be'))) := ⟨g2, hU.2⟩
    rcases g3 with ⟨hne, g3⟩ | ⟨rfl, g3⟩
    · obtain ⟨v, U', k1, k2, k3⟩ := ih (k + 1) n (x + res) _ (by omega) (by omega) hU'
      refine ⟨v, U', k1, ?_, fun pl => ?_⟩
      · rw [f_Rv_sweep_4, if_neg (nle6 (k := k) (by omega)), g1]
        simp only [Option.bind_some]
        rw [if_neg hne, nI_1]; exact k2
      · obtain ⟨pl1, g3⟩ := g3 pl
        obtain ⟨pl2, cr2, k3⟩ := k3 pl1
        refine ⟨pl2, cr2, ?_⟩
        rw [f_Mo_sweep_8, if_neg (nle6 (k := k) (by omega)), if_pos (show (mkV U.1 U.2.1 U.2.2.1 pl 0 0 0).2.2.2.2.2.2.2.2.2.2.2.1 = 0 from rfl), g3]
        simp only [Option.bind_some]
        rw [nI_1]; exact k3
    · refine ⟨-9, _, hU', ?_, fun pl => ?_⟩
      · rw [f_Rv_sweep_4, if_neg (nle6 (k := k) (by omega)), g1]
        simp only [Option.bind_some]
        rw [if_pos trivial]
      · obtain ⟨pl1, g3⟩ := g3 pl
        refine ⟨pl1, 1, ?_⟩
        rw [f_Mo_sweep_8, if_neg (nle6 (k := k) (by omega)), if_pos (show (mkV U.1 U.2.1 U.2.2.1 pl 0 0 0).2.2.2.2.2.2.2.2.2.2.2.1 = 0 from rfl), g3]
        simp only [Option.bind_some]
        obtain ⟨n, rfl⟩ : ∃ m, n = m + 1 := ⟨n - 1, by omega⟩
        rw [f_Mo_sweep_8]
        split
        · rw [done_1]; rfl
        · rw [if_neg (show ¬ (mkV S' U.2.1 U.2.2.1 pl1 0 1 0).2.2.2.2.2.2.2.2.2.2.2.1 = 0 from by show ¬ (1 : Int32) = 0; decide), done_1]; rfl
theorem op_sweep (N : Nat) (hN : 100000000 ≤ N) {U : K_Rv} (hU : IR U) : ∃ v U', IR U' ∧ f_Rv_sweep N U = some (v, U') ∧ ∀ pl th cr rf, ∃ pl' th' cr' rf', f_Mo_sweep N (mkV U.1 U.2.1 U.2.2.1 pl th cr rf) = some (v, mkV U'.1 U'.2.1 U'.2.2.1 pl' th' cr' rf') := by
  obtain ⟨v, U', k1, k2, k3⟩ := sweep_loop N hN 6 0 N 0 U rfl (by omega) hU
  refine ⟨v, U', k1, k2, fun pl th cr rf => ?_⟩
  obtain ⟨pl1, cr1, k3⟩ := k3 pl
  exact ⟨pl1, 0, cr1, 0, k3⟩
theorem unused_cases (f : Nat → Int32) : ∀ (t k : Nat), k + t = 41 → (∃ s, k ≤ s ∧ s ≤ 40 ∧ f s = 0 ∧ ∀ q, k ≤ q → q < s → f q ≠ 0) ∨ (∀ q, k ≤ q → q ≤ 40 → f q ≠ 0) := by
  intro t
  induction t with
  | zero => intro k hk; exact Or.inr (fun q h1 h2 => by omega)
  | succ t ih =>
    intro k hk
    by_cases h0 : f k = 0
    · exact Or.inl ⟨k, Nat.le_refl k, by omega, h0, fun q h1 h2 => by omega⟩
    · rcases ih (k + 1) (by omega) with ⟨s, g1, g2, g3, g4⟩ | g
      · refine Or.inl ⟨s, by omega, g2, g3, fun q h1 h2 => ?_⟩
        by_cases e : q = k
        · subst e; exact h0
        · exact g4 q (by omega) h2
      · refine Or.inr (fun q h1 h2 => ?_)
        by_cases e : q = k
        · subst e; exact h0
        · exact g q (by omega) h2
theorem lu_skip (N : Nat) (C : K_Co) : ∀ (t k n : Nat), k + t ≤ 41 → (∀ q, k ≤ q → q < k + t → C.2.2.2 q ≠ 0) → f_Co_leastUnused_2 N (n + t) (nI k) C = f_Co_leastUnused_2 N n (nI (k + t)) C := by
  intro t
  induction t with
  | zero => intro k n _ _; rfl
  | succ t ih =>
    intro k n hk h
    rw [show n + (t + 1) = (n + t) + 1 from rfl, f_Co_leastUnused_2, if_neg (nlt40 (k := k) (by omega)), if_pos (nI_xi (by omega) (by omega)), nI_clamp (by omega), if_neg (h k (by omega) (by omega)), nI_1, ih (k + 1) n (by omega) (fun q h1 h2 => h q (by omega) (by omega)), show k + 1 + t = k + (t + 1) from by omega]
theorem mb_skip (N : Nat) (V : K_Mo) : ∀ (t k n : Nat), k + t ≤ 41 → (∀ q, k ≤ q → q < k + t → V.1.2.2.2 q ≠ 0) → f_Mo_begin_6 N (n + t) (nI k) V = f_Mo_begin_6 N n (nI (k + t)) V := by
  intro t
  induction t with
  | zero => intro k n _ _; rfl
  | succ t ih =>
    intro k n hk h
    rw [show n + (t + 1) = (n + t) + 1 from rfl, f_Mo_begin_6, if_neg (nlt40 (k := k) (by omega)), if_pos (nI_xi (by omega) (by omega)), nI_clamp (by omega), if_neg (h k (by omega) (by omega)), nI_1, ih (k + 1) n (by omega) (fun q h1 h2 => h q (by omega) (by omega)), show k + 1 + t = k + (t + 1) from by omega]
theorem updL_2 (f : Nat → Int64) (k : Nat) (x y : Int64) : vp_updL (vp_updL f k x) k y = vp_updL f k y := by
  funext i; unfold vp_updL; split <;> rfl
theorem updL_s (f : Nat → Int64) (k : Nat) (x : Int64) : vp_updL f k x k = x := by unfold vp_updL; rw [if_pos rfl]
theorem mb70 (N : Nat) {T : Nat} (hT : T ≤ 40) (S : K_St) (cb : Nat → Int64) (ch pl : Nat → Int32) (th cr rf : Int32) : ∀ (j k n : Nat) (a : Int64), k + j = 41 → j < n → f_Mo_begin_70 N n (nI T) (nI k) (mkV S (vp_updL cb T a) ch pl th cr rf) = ((f_Mo_store N 6 (mkV (S.1, (S.2.1, (S.2.2.1, (S.2.2.2.1 ||| ((1 : Int32) <<< ((6 : Int32) &&& 31)), S.2.2.2.2)))) (vp_updL cb T (sF S.1.2.2.2 2 j k a)) ch pl th cr rf)).bind fun z7 => ((f_Mo_done N (nI T) z7.2).bind fun z8 => some (z8.1, z8.2))) := by
  intro j
  induction j with
  | zero =>
    intro k n a hk hn
    obtain ⟨n, rfl⟩ : ∃ m, n = m + 1 := ⟨n - 1, by omega⟩
    rw [f_Mo_begin_70, if_pos (lt40 (k := k) (by omega) (by omega)), sF]
    unfold mkV
    dsimp only
    rw [dA_6]
  | succ j ih =>
    intro k n a hk hn
    obtain ⟨n, rfl⟩ : ∃ m, n = m + 1 := ⟨n - 1, by omega⟩
    have hx := nI_xi (i := T) (n := 41) (by omega) (by omega)
    rw [f_Mo_begin_70, if_neg (nlt40 (k := k) (by omega)), if_pos (nI_xi (by omega) (by omega)), if_pos hx, if_pos hx, nI_clamp (by omega), nI_clamp (by omega), nI_1, sF]
    rw [show (mkV S (vp_updL cb T a) ch pl th cr rf).1.2.2.2 k = S.1.2.2.2 k from rfl]
    by_cases h : S.1.2.2.2 k = 2
    · rw [if_pos h, if_pos h, ← ih (k + 1) n _ (by omega) (by omega)]
      unfold mkV
      dsimp only
      rw [updL_s, updL_2]
    · rw [if_neg h, if_neg h]; exact ih (k + 1) n _ (by omega) (by omega)
theorem sF_congr (st st' : Nat → Int32) (v : Int32) (h : ∀ i, st i = v ↔ st' i = v) : ∀ (j k : Nat) (a : Int64), sF st v j k a = sF st' v j k a := by
  intro j
  induction j with
  | zero => intro k a; rfl
  | succ j ih =>
    intro k a
    rw [sF, sF, ih]
    by_cases hk : st k = v
    · rw [if_pos hk, if_pos ((h k).mp hk)]
    · rw [if_neg hk, if_neg (fun e => hk ((h k).mpr e))]
set_option maxHeartbeats 4000000 in
theorem op_begin (N : Nat) (hN : 100000000 ≤ N) {U : K_Rv} (hU : IR U) : LO (f_La_begin N) (f_Mo_begin N) U := by
  obtain ⟨S, cb, ch, be⟩ := U
  obtain ⟨hS, hcb, hch⟩ := hU
  dsimp only at hS hcb hch
  have hc4 : cA S.1.2.2.2 40 ≤ 4 := hS.2.2.2.2.2.2.1
  have hmb : ∀ pl th cr rf, f_Mo_begin N (mkV S cb ch pl th cr rf) = f_Mo_begin_6 N N (nI 1) (mkV S cb ch pl 0 0 0) := fun pl th cr rf => rfl
  have hfail : f_Rv_begin N (S, (cb, (ch, be))) = some (.inr "java/lang/IllegalStateException", (S, (cb, (ch, be)))) → (∀ pl, f_Mo_begin_6 N N (nI 1) (mkV S cb ch pl 0 0 0) = some (0, mkV S cb ch pl 1 0 0)) → LO (f_La_begin N) (f_Mo_begin N) (S, (cb, (ch, be))) := by
    intro k1 k2
    refine ⟨1, 0, (S, (cb, (ch, be))), ⟨hS, hcb, hch⟩, fun out => ⟨out, ?_, fun h => absurd h (by decide)⟩, fun pl th cr rf => ⟨pl, 0, 0, ?_⟩⟩
    · simp [f_La_begin, k1]
    · rw [hmb]; exact k2 pl
  rcases unused_cases S.1.2.2.2 40 1 rfl with ⟨T, h1, h2, h3, h4⟩ | hnone
  · have hx := nI_xi (i := T) (n := 41) (by omega) (by omega)
    have hlu : f_Co_leastUnused N S.1 = some (nI T, S.1) := by
      unfold f_Co_leastUnused
      have := lu_skip N S.1 (T - 1) 1 (N - (T - 1)) (by omega) (fun q q1 q2 => h4 q q1 (by omega))
      rw [show N - (T - 1) + (T - 1) = N from by omega, show 1 + (T - 1) = T from by omega] at this
      rw [zl1, this, show N - (T - 1) = (N - (T - 1) - 1) + 1 from by omega, f_Co_leastUnused_2, if_neg (nlt40 h2), if_pos hx, nI_clamp (by omega), if_pos h3]
    have hm6 : ∀ pl, f_Mo_begin_6 N N (nI 1) (mkV S cb ch pl 0 0 0) = (if nI (cA S.1.2.2.2 40) = (4 : Int32) then some (0, mkV S cb ch pl 1 0 0) else f_Mo_begin_70 N N (nI T) (nI 1) (mkV ((S.1.1, (S.1.2.1, (S.1.2.2.1, upd S.1.2.2.2 T 1))), S.2) (vp_updL cb T 0) (upd ch T 0) pl 0 0 0)) := by
      intro pl
      have := mb_skip N (mkV S cb ch pl 0 0 0) (T - 1) 1 (N - (T - 1)) (by omega) (fun q q1 q2 => h4 q q1 (by omega))
      rw [show N - (T - 1) + (T - 1) = N from by omega, show 1 + (T - 1) = T from by omega] at this
      rw [this, show N - (T - 1) = (N - (T - 1) - 1) + 1 from by omega, f_Mo_begin_6, if_neg (nlt40 h2), if_pos hx, nI_clamp (by omega), if_pos (show (mkV S cb ch pl 0 0 0).1.2.2.2 T = 0 from h3), if_neg (nlt40 h2), actv_eq N hN]
      simp only [Option.bind_some, if_pos hx]
      rfl
    by_cases hc : cA S.1.2.2.2 40 = 4
    · refine hfail ?_ (fun pl => ?_)
      · unfold f_Rv_begin
        rw [hlu]
        simp only [Option.bind_some]
        rw [act_eq N hN]
        simp only [Option.bind_some]
        rw [hc, if_pos (by decide)]
      · rw [hm6, hc, if_pos (by rfl)]
    · have hsF : sF (upd S.1.2.2.2 T 1) 2 40 1 0 = sF S.1.2.2.2 2 40 1 0 := by
        refine sF_congr _ _ _ (fun i => ?_) _ _ _
        by_cases e : i = T
        · subst e; rw [upd_s, h3]; constructor <;> intro h <;> exact absurd h (by decide)
        · rw [upd_o _ _ e]
      have hIS := hS.state h1 h2 1 (by decide) (by have := (cA_upd S.1.2.2.2 T 1 40).1; omega) (fun i q1 q2 => h4 i q1 q2)
      obtain ⟨r2, S2, q1, q2⟩ := put_root N hN hIS (p := 6) (by omega)
      have hbits : ∀ j, by64 (sF S.1.2.2.2 2 40 1 0) j = true → j < T := by
        intro j hj
        rw [sF_bit _ _ _ _ _ _ (by omega), by_0] at hj
        simp only [Bool.false_or, Bool.and_eq_true, decide_eq_true_eq] at hj
        by_cases hlt : j < T
        · exact hlt
        · have := hS.1.2.2.2.2 T j h1 (by omega) (by omega) h3
          rw [this] at hj; exact absurd hj.2 (by decide)
      have hcb' : ∀ T', T' ≤ 40 → ∀ j, by64 (vp_updL cb T (sF S.1.2.2.2 2 40 1 0) T') j = true → j < T' := by
        intro T' hT' j hj
        unfold vp_updL at hj
        by_cases e : T' = T
        · rw [if_pos e] at hj; rw [e]; exact hbits j hj
        · rw [if_neg e] at hj; exact hcb T' hT' j hj
      have hch' : ∀ T', T' ≤ 40 → ∀ p, bz (upd ch T 0 T') p = true → p < 6 := by
        intro T' hT' p hp
        by_cases e : T' = T
        · rw [e, upd_s, bz_0] at hp; cases hp
        · rw [upd_o _ _ e] at hp; exact hch T' hT' p hp
      have hrv : f_Rv_begin N (S, (cb, (ch, be))) = (f_St_put N 9 6 0 ((S.1.1, (S.1.2.1, (S.1.2.2.1, (upd S.1.2.2.2 T 1)))), (S.2.1, (S.2.2.1, ((S.2.2.2.1 ||| ((1 : Int32) <<< ((6 : Int32) &&& 31))), S.2.2.2.2))))).bind fun z8 => (if z8.1 = 0 then some ((Sum.inl (-9 : Int32)), (z8.2, ((vp_updL cb T (sF S.1.2.2.2 2 40 1 0)), ((upd ch T (0 : Int32)), be)))) else some ((Sum.inl (nI T)), (z8.2, ((vp_updL cb T (sF S.1.2.2.2 2 40 1 0)), ((upd ch T (0 : Int32)), be))))) := by
        unfold f_Rv_begin
        rw [hlu]
        simp only [Option.bind_some]
        rw [act_eq N hN]
        simp only [Option.bind_some]
        rw [if_neg (by rw [zl4, nI_leI (by omega) (by omega)]; omega), if_neg (by rw [zn0 (by omega)]; omega)]
        unfold f_Co_committed
        rw [setIn_eq N hN]
        simp only [Option.bind_some]
        rw [if_pos hx, if_pos hx, if_pos hx, nI_clamp (by omega)]
        rfl
      have hmo : ∀ pl th cr rf, f_Mo_begin N (mkV S cb ch pl th cr rf) = ((f_Mo_store N 6 (mkV ((S.1.1, (S.1.2.1, (S.1.2.2.1, (upd S.1.2.2.2 T 1)))), (S.2.1, (S.2.2.1, ((S.2.2.2.1 ||| ((1 : Int32) <<< ((6 : Int32) &&& 31))), S.2.2.2.2)))) (vp_updL cb T (sF S.1.2.2.2 2 40 1 0)) (upd ch T 0) pl 0 0 0)).bind fun z7 => ((f_Mo_done N (nI T) z7.2).bind fun z8 => some (z8.1, z8.2))) := by
        intro pl th cr rf
        rw [hmb, hm6, if_neg (by rw [zl4, nI_eq (by omega) (by omega)]; exact hc), mb70 N h2 _ cb (upd ch T 0) pl 0 0 0 40 1 N 0 rfl (by omega)]
        dsimp only
        rw [hsF]
      rcases q2 with ⟨rfl, qW, -, -, qs⟩ | ⟨rfl, qI, qs⟩
      · refine ⟨0, nI T, (S2, (vp_updL cb T (sF S.1.2.2.2 2 40 1 0), (upd ch T 0, be))), ⟨qW.is hIS, hcb', hch'⟩, fun out => ⟨vp_updL out 0 (nI T).toInt64, ?_, fun _ => by unfold vp_updL; rw [if_pos rfl]⟩, fun pl th cr rf => ?_⟩
        · unfold f_La_begin
          rw [hrv, show f_St_put N 9 6 0 _ = _ from q1]
          rfl
        · obtain ⟨pl2, e2⟩ := qs (vp_updL cb T (sF S.1.2.2.2 2 40 1 0)) (upd ch T 0) pl 0 0
          refine ⟨pl2, 0, 0, ?_⟩
          dsimp only
          rw [hmo, show f_Mo_store N 6 _ = _ from e2]
          rfl
      · refine ⟨0, -9, (S2, (vp_updL cb T (sF S.1.2.2.2 2 40 1 0), (upd ch T 0, be))), ⟨qI, hcb', hch'⟩, fun out => ⟨vp_updL out 0 ((-9 : Int32)).toInt64, ?_, fun _ => by unfold vp_updL; rw [if_pos rfl]⟩, fun pl th cr rf => ?_⟩
        · unfold f_La_begin
          rw [hrv, show f_St_put N 9 6 0 _ = _ from q1]
          rfl
        · obtain ⟨pl2, e2⟩ := qs (vp_updL cb T (sF S.1.2.2.2 2 40 1 0)) (upd ch T 0) pl 0 0
          refine ⟨pl2, 1, 0, ?_⟩
          dsimp only
          rw [hmo, show f_Mo_store N 6 _ = _ from e2]
          simp only [Option.bind_some]
          rw [done_1]; rfl
  · refine hfail ?_ (fun pl => ?_)
    · have hlu : f_Co_leastUnused N S.1 = some (0, S.1) := by
        unfold f_Co_leastUnused
        have := lu_skip N S.1 40 1 (N - 40) (by omega) (fun q q1 q2 => hnone q q1 (by omega))
        rw [show N - 40 + 40 = N from by omega] at this
        rw [zl1, this, show N - 40 = (N - 41) + 1 from by omega, f_Co_leastUnused_2, if_pos (by decide)]
      unfold f_Rv_begin
      rw [hlu]
      simp only [Option.bind_some]
      rw [act_eq N hN]
      simp only [Option.bind_some]
      split
      · rfl
      · rw [if_pos trivial]
    · have := mb_skip N (mkV S cb ch pl 0 0 0) 40 1 (N - 40) (by omega) (fun q q1 q2 => hnone q q1 (by omega))
      rw [show N - 40 + 40 = N from by omega] at this
      rw [this, show N - 40 = (N - 41) + 1 from by omega, f_Mo_begin_6, if_pos (by decide), if_pos (by decide)]
      rfl
end PO7
