/-! THE PURE PART, 13: the calls, 2 -/
section PO2
theorem actv4 (N : Nat) (V : K_Mo) : ∀ (j m n : Nat), m + j = 40 → j < n → f_Mo_actives_4 N n (nI (cA V.1.2.2.2 m)) (nI (m + 1)) V = some (nI (cA V.1.2.2.2 40), V) := by
  intro j
  induction j with
  | zero =>
    intro m n hm hn
    obtain ⟨n, rfl⟩ : ∃ m, n = m + 1 := ⟨n - 1, by omega⟩
    have : m = 40 := by omega
    subst this
    rw [f_Mo_actives_4, if_pos (lt40 (by omega) (by omega))]
  | succ j ih =>
    intro m n hm hn
    obtain ⟨n, rfl⟩ : ∃ m, n = m + 1 := ⟨n - 1, by omega⟩
    have := ih (m + 1) n (by omega) (by omega)
    rw [f_Mo_actives_4, if_neg (nlt40 (by omega)), if_pos (nI_xi (by omega) (by omega)), nI_clamp (by omega), nI_1, nI_1]
    rw [cA] at this
    by_cases h : V.1.2.2.2 (m + 1) = 1
    · rw [if_pos h] at this ⊢; exact this
    · rw [if_neg h] at this ⊢; exact this
theorem actv_eq (N : Nat) (hN : 100000000 ≤ N) (V : K_Mo) : f_Mo_actives N V = some (nI (cA V.1.2.2.2 40), V) := actv4 N V 40 0 N rfl (by omega)
theorem op_crash (N : Nat) (hN : 100000000 ≤ N) {U : K_Rv} (hU : IR U) : ∃ v U', IR U' ∧ f_Rv_crash N U = some (v, U') ∧ ∀ pl th cr rf, ∃ pl' th' cr' rf', f_Mo_crash N (mkV U.1 U.2.1 U.2.2.1 pl th cr rf) = some (v, mkV U'.1 U'.2.1 U'.2.2.1 pl' th' cr' rf') := by
  obtain ⟨S', g1, g2, g3⟩ := fall_both N (by omega) hU.1
  refine ⟨nI (cA U.1.1.2.2.2 40), (S', U.2), ⟨g2, hU.2⟩, ?_, fun pl th cr rf => ⟨pl, 0, 1, 0, ?_⟩⟩
  · unfold f_Rv_crash
    rw [act_eq N hN]
    simp only [Option.bind_some]
    rw [show ((U.1.1, U.1.2) : K_St) = U.1 from rfl, g1]; rfl
  · unfold f_Mo_crash
    rw [begun_eq]
    simp only [Option.bind_some]
    rw [actv_eq N hN]
    simp only [Option.bind_some]
    rw [g3]; rfl
theorem done_0 (N : Nat) (x : Int32) (S : K_St) (cb : Nat → Int64) (ch pl : Nat → Int32) (th rf : Int32) : f_Mo_done N x (mkV S cb ch pl th 0 rf) = some (x, mkV S cb ch pl th 0 rf) := rfl
theorem done_1 (N : Nat) (x : Int32) (S : K_St) (cb : Nat → Int64) (ch pl : Nat → Int32) (th rf : Int32) : f_Mo_done N x (mkV S cb ch pl th 1 rf) = some (-9, mkV S cb ch pl th 1 rf) := by
  unfold f_Mo_done
  rw [if_neg (show ¬ (mkV S cb ch pl th 1 rf).2.2.2.2.2.2.2.2.2.2.2.1 = 0 from by show ¬ (1 : Int32) = 0; decide)]
theorem pd_step (N : Nat) (x1 : Int32) (S : K_St) {k n : Nat} (hk : k < 7) : f_St_putDirty_2 N (n + 1) x1 (nI k) S = if (bz x1 k && bz S.2.2.2.1 k) = true then ((f_St_put N 9 (nI k) 0 S).bind fun z2 => (if z2.1 = 0 then some ((0 : Int32), z2.2) else f_St_putDirty_2 N n x1 (nI (k + 1)) z2.2)) else f_St_putDirty_2 N n x1 (nI (k + 1)) S := by
  rw [f_St_putDirty_2, if_neg (nle7 hk), f_has7 N hk, bz_and, nI_1]
  simp only [Option.bind_some]
  cases bz x1 k && bz S.2.2.2.1 k
  · rfl
  · rfl
theorem pd_end (N : Nat) (x1 : Int32) (S : K_St) (n : Nat) : f_St_putDirty_2 N (n + 1) x1 (nI 7) S = some (1, S) := by
  rw [f_St_putDirty_2, if_pos (by decide)]
theorem fl_end (N : Nat) (x : Int32) {k n : Nat} (S : K_St) (cb : Nat → Int64) (ch pl : Nat → Int32) (th rf : Int32) : f_Mo_flush_11 N (n + 1) x (nI k) (mkV S cb ch pl th 1 rf) = some (-9, mkV S cb ch pl th 1 rf) := by
  rw [f_Mo_flush_11]
  split
  · rw [done_1]; rfl
  · rw [if_neg (show ¬ (mkV S cb ch pl th 1 rf).2.2.2.2.2.2.2.2.2.2.2.1 = 0 from by show ¬ (1 : Int32) = 0; decide), done_1]; rfl
theorem flush_both (N : Nat) (hN : 100000000 ≤ N) (x1 x : Int32) : ∀ (j k n : Nat) (S : K_St), k + j = 7 → j < n → IS S → (∀ q, bz S.2.2.2.1 q = true → bz x1 q = true) → ∃ res S', f_St_putDirty_2 N n x1 (nI k) S = some (res, S') ∧ IS S' ∧ ((res = 1 ∧ ∀ cb ch pl th rf, ∃ pl', f_Mo_flush_11 N n x (nI k) (mkV S cb ch pl th 0 rf) = some (S'.2.2.2.2.1 - x, mkV S' cb ch pl' th 0 rf)) ∨ (res = 0 ∧ ∀ cb ch pl th rf, ∃ pl', f_Mo_flush_11 N n x (nI k) (mkV S cb ch pl th 0 rf) = some (-9, mkV S' cb ch pl' th 1 rf))) := by
  intro j
  induction j with
  | zero =>
    intro k n S hk hn hS hd
    obtain ⟨n, rfl⟩ : ∃ m, n = m + 1 := ⟨n - 1, by omega⟩
    have : k = 7 := by omega
    subst this
    refine ⟨1, S, pd_end N x1 S n, hS, Or.inl ⟨rfl, fun cb ch pl th rf => ⟨pl, ?_⟩⟩⟩
    rw [f_Mo_flush_11, if_pos (by decide), done_0]; rfl
  | succ j ih =>
    intro k n S hk hn hS hd
    obtain ⟨n, rfl⟩ : ∃ m, n = m + 1 := ⟨n - 1, by omega⟩
    have hm : ∀ cb ch pl th rf, f_Mo_flush_11 N (n + 1) x (nI k) (mkV S cb ch pl th 0 rf) = if bz S.2.2.2.1 k = false then f_Mo_flush_11 N n x (nI (k + 1)) (mkV S cb ch pl th 0 rf) else ((f_Mo_store N (nI k) (mkV S cb ch pl th 0 rf)).bind fun z5 => f_Mo_flush_11 N n x (nI (k + 1)) z5.2) := by
      intro cb ch pl th rf
      rw [f_Mo_flush_11, if_neg (nle7 (k := k) (by omega)), if_pos (show (mkV S cb ch pl th 0 rf).2.2.2.2.2.2.2.2.2.2.2.1 = 0 from rfl), if_pos (nI_xi (by omega) (by omega)), nI_clamp (by omega), nI_1]
      show (if dA S.2.2.2.1 k = 0 then _ else _) = _
      by_cases hb : bz S.2.2.2.1 k = false
      · rw [if_pos hb, if_pos ((dA_0 _ (by omega)).mpr hb)]
      · rw [if_neg hb, if_neg (fun h => hb ((dA_0 _ (by omega)).mp h))]
    rw [pd_step N x1 S (by omega)]
    by_cases hb : bz S.2.2.2.1 k = false
    · rw [if_neg (by rw [hb]; simp)]
      obtain ⟨res, S', g1, g2, g3⟩ := ih (k + 1) n S (by omega) (by omega) hS hd
      refine ⟨res, S', g1, g2, ?_⟩
      rcases g3 with ⟨e, g3⟩ | ⟨e, g3⟩
      · exact Or.inl ⟨e, fun cb ch pl th rf => by rw [hm, if_pos hb]; exact g3 cb ch pl th rf⟩
      · exact Or.inr ⟨e, fun cb ch pl th rf => by rw [hm, if_pos hb]; exact g3 cb ch pl th rf⟩
    · have hb' : bz S.2.2.2.1 k = true := by simpa using hb
      rw [if_pos (by rw [hb', hd k hb']; rfl)]
      obtain ⟨r1, S1, q1, q2⟩ := put_root N hN hS (p := k) (by omega)
      rw [q1]
      simp only [Option.bind_some]
      rcases q2 with ⟨rfl, qW, -, -, qs⟩ | ⟨rfl, qI, qs⟩
      · rw [if_neg (by decide)]
        obtain ⟨res, S', g1, g2, g3⟩ := ih (k + 1) n S1 (by omega) (by omega) (qW.is hS) (fun q hq => hd q (qW.d q hq))
        refine ⟨res, S', g1, g2, ?_⟩
        rcases g3 with ⟨e, g3⟩ | ⟨e, g3⟩
        · refine Or.inl ⟨e, fun cb ch pl th rf => ?_⟩
          obtain ⟨pl1, qs⟩ := qs cb ch pl th rf
          rw [hm, if_neg hb, qs]; exact g3 cb ch pl1 th rf
        · refine Or.inr ⟨e, fun cb ch pl th rf => ?_⟩
          obtain ⟨pl1, qs⟩ := qs cb ch pl th rf
          rw [hm, if_neg hb, qs]; exact g3 cb ch pl1 th rf
      · rw [if_pos rfl]
        refine ⟨0, S1, rfl, qI, Or.inr ⟨rfl, fun cb ch pl th rf => ?_⟩⟩
        obtain ⟨pl1, qs⟩ := qs cb ch pl th rf
        refine ⟨pl1, ?_⟩
        rw [hm, if_neg hb, qs]
        obtain ⟨n, rfl⟩ : ∃ m, n = m + 1 := ⟨n - 1, by omega⟩
        exact fl_end N x S1 cb ch pl1 th rf
theorem op_flush (N : Nat) (hN : 100000000 ≤ N) {U : K_Rv} (hU : IR U) : ∃ v U', IR U' ∧ f_Rv_flush N U = some (v, U') ∧ ∀ pl th cr rf, ∃ pl' th' cr' rf', f_Mo_flush N (mkV U.1 U.2.1 U.2.2.1 pl th cr rf) = some (v, mkV U'.1 U'.2.1 U'.2.2.1 pl' th' cr' rf') := by
  obtain ⟨res, S', g1, g2, g3⟩ := flush_both N hN U.1.2.2.2.1 U.1.2.2.2.2.1 7 0 N U.1 rfl (by omega) hU.1 (fun _ h => h)
  have hm : ∀ pl th cr rf, f_Mo_flush N (mkV U.1 U.2.1 U.2.2.1 pl th cr rf) = f_Mo_flush_11 N N U.1.2.2.2.2.1 (nI 0) (mkV U.1 U.2.1 U.2.2.1 pl 0 0 0) := fun pl th cr rf => rfl
  rcases g3 with ⟨rfl, g3⟩ | ⟨rfl, g3⟩
  · refine ⟨S'.2.2.2.2.1 - U.1.2.2.2.2.1, (S', U.2), ⟨g2, hU.2⟩, ?_, fun pl th cr rf => ?_⟩
    · unfold f_Rv_flush f_St_putDirty
      rw [← nI_0, g1]; rfl
    · obtain ⟨pl', e⟩ := g3 U.2.1 U.2.2.1 pl 0 0
      exact ⟨pl', 0, 0, 0, by rw [hm]; exact e⟩
  · refine ⟨-9, (S', U.2), ⟨g2, hU.2⟩, ?_, fun pl th cr rf => ?_⟩
    · unfold f_Rv_flush f_St_putDirty
      rw [← nI_0, g1]; rfl
    · obtain ⟨pl', e⟩ := g3 U.2.1 U.2.2.1 pl 0 0
      exact ⟨pl', 0, 1, 0, by rw [hm]; exact e⟩
theorem cm_end (N : Nat) {T : Nat} (x : Int32) {k n : Nat} (S : K_St) (cb : Nat → Int64) (ch pl : Nat → Int32) (th rf : Int32) : f_Mo_commit_25 N (n + 1) (nI T) x (nI k) (mkV S cb ch pl th 1 rf) = some (-9, mkV S cb ch pl th 1 rf) := by
  have h1 : ¬ (mkV S cb ch pl th 1 rf).2.2.2.2.2.2.2.2.2.2.2.1 = 0 := by show ¬ (1 : Int32) = 0; decide
  rw [f_Mo_commit_25]
  by_cases h6 : (6 : Int32) ≤ nI k
  · rw [if_pos h6, if_neg h1]
  · rw [if_neg h6, if_neg h1, if_neg h1]
theorem commit_both (N : Nat) (hN : 100000000 ≤ N) (x1 x : Int32) {T : Nat} (hT : T ≤ 40) (h6 : bz x1 6 = false) : ∀ (j k n : Nat) (S : K_St), k + j = 6 → j + 1 < n → IS S → ∃ res S', f_St_putDirty_2 N n x1 (nI k) S = some (res, S') ∧ IS S' ∧ ((res = 1 ∧ S'.1 = S.1 ∧ ∀ cb (ch : Nat → Int32) pl th rf, ch T = x1 → ∃ pl', f_Mo_commit_25 N n (nI T) x (nI k) (mkV S cb ch pl th 0 rf) = f_Mo_commit_25 N (n - j) (nI T) x (nI 6) (mkV S' cb ch pl' th 0 rf)) ∨ (res = 0 ∧ ∀ cb (ch : Nat → Int32) pl th rf, ch T = x1 → ∃ pl', f_Mo_commit_25 N n (nI T) x (nI k) (mkV S cb ch pl th 0 rf) = some (-9, mkV S' cb ch pl' th 1 rf))) := by
  intro j
  induction j with
  | zero =>
    intro k n S hk hn hS
    obtain ⟨n, rfl⟩ : ∃ m, n = m + 1 := ⟨n - 1, by omega⟩
    have : k = 6 := by omega
    subst this
    refine ⟨1, S, ?_, hS, Or.inl ⟨rfl, rfl, fun cb ch pl th rf _ => ⟨pl, rfl⟩⟩⟩
    obtain ⟨n, rfl⟩ : ∃ m, n = m + 1 := ⟨n - 1, by omega⟩
    rw [pd_step N x1 S (by omega), if_neg (by rw [h6]; simp), pd_end]
  | succ j ih =>
    intro k n S hk hn hS
    obtain ⟨n, rfl⟩ : ∃ m, n = m + 1 := ⟨n - 1, by omega⟩
    have hm : ∀ cb (ch : Nat → Int32) pl th rf, ch T = x1 → f_Mo_commit_25 N (n + 1) (nI T) x (nI k) (mkV S cb ch pl th 0 rf) = if (bz x1 k && bz S.2.2.2.1 k) = true then ((f_Mo_store N (nI k) (mkV S cb ch pl th 0 rf)).bind fun z5 => f_Mo_commit_25 N n (nI T) x (nI (k + 1)) z5.2) else f_Mo_commit_25 N n (nI T) x (nI (k + 1)) (mkV S cb ch pl th 0 rf) := by
      intro cb ch pl th rf hch
      rw [f_Mo_commit_25, if_neg (nle6 (k := k) (by omega)), if_pos (show (mkV S cb ch pl th 0 rf).2.2.2.2.2.2.2.2.2.2.2.1 = 0 from rfl), if_pos (nI_xi (i := T) (n := 41) (by omega) (by omega)), nI_clamp (by omega), nI_1]
      rw [show (mkV S cb ch pl th 0 rf).2.2.2.2.1 T = x1 from hch, if_pos (nI_xi (i := k) (n := 7) (by omega) (by omega)), nI_clamp (by omega)]
      rw [show (mkV S cb ch pl th 0 rf).2.2.1 k = dA S.2.2.2.1 k from rfl]
      by_cases h1 : bz x1 k = false
      · rw [if_pos ((mo_bit (by omega) _).mpr h1), if_neg (by rw [h1]; simp)]
      · rw [if_neg (fun h => h1 ((mo_bit (by omega) _).mp h))]
        have h1' : bz x1 k = true := by simpa using h1
        by_cases hb : bz S.2.2.2.1 k = false
        · rw [if_pos ((dA_0 _ (by omega)).mpr hb), if_neg (by rw [hb]; simp)]
        · rw [if_neg (fun h => hb ((dA_0 _ (by omega)).mp h)), if_pos (by rw [h1']; simpa using hb)]
    rw [pd_step N x1 S (by omega)]
    by_cases hb : (bz x1 k && bz S.2.2.2.1 k) = true
    · rw [if_pos hb]
      obtain ⟨r1, S1, q1, q2⟩ := put_root N hN hS (p := k) (by omega)
      rw [q1]
      simp only [Option.bind_some]
      rcases q2 with ⟨rfl, qW, -, -, qs⟩ | ⟨rfl, qI, qs⟩
      · rw [if_neg (by decide)]
        obtain ⟨res, S', g1, g2, g3⟩ := ih (k + 1) n S1 (by omega) (by omega) (qW.is hS)
        refine ⟨res, S', g1, g2, ?_⟩
        rcases g3 with ⟨e, e2, g3⟩ | ⟨e, g3⟩
        · refine Or.inl ⟨e, e2.trans qW.mem, fun cb ch pl th rf hch => ?_⟩
          obtain ⟨pl1, qs⟩ := qs cb ch pl th rf
          rw [hm _ _ _ _ _ hch, if_pos hb, qs, show n + 1 - (j + 1) = n - j from by omega]; exact g3 cb ch pl1 th rf hch
        · refine Or.inr ⟨e, fun cb ch pl th rf hch => ?_⟩
          obtain ⟨pl1, qs⟩ := qs cb ch pl th rf
          rw [hm _ _ _ _ _ hch, if_pos hb, qs]; exact g3 cb ch pl1 th rf hch
      · rw [if_pos rfl]
        refine ⟨0, S1, rfl, qI, Or.inr ⟨rfl, fun cb ch pl th rf hch => ?_⟩⟩
        obtain ⟨pl1, qs⟩ := qs cb ch pl th rf
        refine ⟨pl1, ?_⟩
        rw [hm _ _ _ _ _ hch, if_pos hb, qs]
        obtain ⟨n, rfl⟩ : ∃ m, n = m + 1 := ⟨n - 1, by omega⟩
        exact cm_end N x S1 cb ch pl1 th rf
    · rw [if_neg hb]
      obtain ⟨res, S', g1, g2, g3⟩ := ih (k + 1) n S (by omega) (by omega) hS
      refine ⟨res, S', g1, g2, ?_⟩
      rcases g3 with ⟨e, e2, g3⟩ | ⟨e, g3⟩
      · exact Or.inl ⟨e, e2, fun cb ch pl th rf hch => by rw [hm _ _ _ _ _ hch, if_neg hb, show n + 1 - (j + 1) = n - j from by omega]; exact g3 cb ch pl th rf hch⟩
      · exact Or.inr ⟨e, fun cb ch pl th rf hch => by rw [hm _ _ _ _ _ hch, if_neg hb]; exact g3 cb ch pl th rf hch⟩
theorem op_commit (N : Nat) (hN : 100000000 ≤ N) (p : Int32) {U : K_Rv} (hU : IR U) : LO (f_La_commit N p) (f_Mo_commit N p) U := by
  rcases act_cases N p U with ⟨T, h1, h2, rfl, h3, h4, h5⟩ | ⟨h4, h5⟩
  · have hx := nI_xi (i := T) (n := 41) (by omega) (by omega)
    have h6 : bz (U.2.2.1 T) 6 = false := by
      cases hb : bz (U.2.2.1 T) 6 with
      | false => rfl
      | true => have := hU.2.2 T h2 6 hb; omega
    have hm : ∀ pl th cr rf, f_Mo_commit N (nI T) (mkV U.1 U.2.1 U.2.2.1 pl th cr rf) = f_Mo_commit_25 N N (nI T) U.1.2.2.2.2.1 (nI 0) (mkV U.1 U.2.1 U.2.2.1 pl 0 0 0) := by
      intro pl th cr rf
      unfold f_Mo_commit
      rw [begun_eq]
      simp only [Option.bind_some]
      rw [h5]
      simp only [Option.bind_some, if_true]
      rfl
    obtain ⟨res, S1, g1, g2, g3⟩ := commit_both N hN (U.2.2.1 T) U.1.2.2.2.2.1 h2 h6 6 0 N U.1 rfl (by omega) hU.1
    rcases g3 with ⟨rfl, gM, g3⟩ | ⟨rfl, g3⟩
    · have hIS := g2.state h1 h2 2 (by decide) (by have := (cA_upd S1.1.2.2.2 T 2 40).2.2 (by decide); have h7 := g2.2.2.2.2.2.2.1; omega) (used_below g2.1 h2 (by rw [gM, h3]; decide))
      obtain ⟨r2, S2, q1, q2⟩ := put_root N hN hIS (p := 6) (by omega)
      have hrv : f_Rv_commit N (nI T) U = (f_St_put N 9 6 0 ((S1.1.1, (S1.1.2.1, (S1.1.2.2.1, (upd S1.1.2.2.2 T 2)))), (S1.2.1, (S1.2.2.1, ((S1.2.2.2.1 ||| ((1 : Int32) <<< ((6 : Int32) &&& 31))), S1.2.2.2.2))))).bind fun z9 => (if z9.1 = 0 then some ((Sum.inl (-9 : Int32)), (z9.2, U.2)) else some ((Sum.inl (z9.2.2.2.2.2.1 - U.1.2.2.2.2.1)), (z9.2, U.2))) := by
        unfold f_Rv_commit
        rw [h4]
        simp only [Option.bind_some]
        unfold f_St_putDirty
        rw [if_pos hx, nI_clamp (by omega), ← nI_0, g1]
        simp only [Option.bind_some]
        rw [if_neg (by decide), if_pos hx]
        rfl
      have hmo : ∀ cb ch pl th rf, f_Mo_commit_25 N (N - 6) (nI T) U.1.2.2.2.2.1 (nI 6) (mkV S1 cb ch pl th 0 rf) = (f_Mo_store N 6 (mkV ((S1.1.1, (S1.1.2.1, (S1.1.2.2.1, (upd S1.1.2.2.2 T 2)))), (S1.2.1, (S1.2.2.1, ((S1.2.2.2.1 ||| ((1 : Int32) <<< ((6 : Int32) &&& 31))), S1.2.2.2.2)))) cb ch pl th 0 rf)).bind fun z4 => ((f_Mo_done N (z4.2.2.2.2.2.2.2.2.2.1 - U.1.2.2.2.2.1) z4.2).bind fun z5 => some (z5.1, z5.2)) := by
        intro cb ch pl th rf
        rw [show N - 6 = (N - 7) + 1 from by omega, f_Mo_commit_25, if_pos (by decide), if_pos (show (mkV S1 cb ch pl th 0 rf).2.2.2.2.2.2.2.2.2.2.2.1 = 0 from rfl), if_pos hx, nI_clamp (by omega)]
        unfold mkV
        dsimp only
        rw [dA_6]
        rfl
      rcases q2 with ⟨rfl, qW, -, -, qs⟩ | ⟨rfl, qI, qs⟩
      · refine ⟨0, S2.2.2.2.2.1 - U.1.2.2.2.2.1, (S2, U.2), ⟨qW.is hIS, hU.2⟩, fun out => ⟨vp_updL out 0 (S2.2.2.2.2.1 - U.1.2.2.2.2.1).toInt64, ?_, fun _ => by unfold vp_updL; rw [if_pos rfl]⟩, fun pl th cr rf => ?_⟩
        · unfold f_La_commit
          rw [hrv]
          rw [show f_St_put N 9 6 0 _ = _ from q1]
          rfl
        · obtain ⟨pl1, e1⟩ := g3 U.2.1 U.2.2.1 pl 0 0 rfl
          obtain ⟨pl2, e2⟩ := qs U.2.1 U.2.2.1 pl1 0 0
          refine ⟨pl2, 0, 0, ?_⟩
          rw [hm, e1, hmo, show f_Mo_store N 6 _ = _ from e2]
          rfl
      · refine ⟨0, -9, (S2, U.2), ⟨qI, hU.2⟩, fun out => ⟨vp_updL out 0 ((-9 : Int32)).toInt64, ?_, fun _ => by unfold vp_updL; rw [if_pos rfl]⟩, fun pl th cr rf => ?_⟩
        · unfold f_La_commit
          rw [hrv]
          rw [show f_St_put N 9 6 0 _ = _ from q1]
          rfl
        · obtain ⟨pl1, e1⟩ := g3 U.2.1 U.2.2.1 pl 0 0 rfl
          obtain ⟨pl2, e2⟩ := qs U.2.1 U.2.2.1 pl1 0 0
          refine ⟨pl2, 1, 0, ?_⟩
          rw [hm, e1, hmo, show f_Mo_store N 6 _ = _ from e2]
          simp only [Option.bind_some]
          rw [done_1]; rfl
    · refine ⟨0, -9, (S1, U.2), ⟨g2, hU.2⟩, fun out => ⟨vp_updL out 0 ((-9 : Int32)).toInt64, ?_, fun _ => by unfold vp_updL; rw [if_pos rfl]⟩, fun pl th cr rf => ?_⟩
      · have : f_Rv_commit N (nI T) U = some (.inl (-9), (S1, U.2)) := by
          unfold f_Rv_commit
          rw [h4]
          simp only [Option.bind_some]
          unfold f_St_putDirty
          rw [if_pos hx, nI_clamp (by omega), ← nI_0, g1]
          rfl
        unfold f_La_commit
        rw [this]; rfl
      · obtain ⟨pl1, e1⟩ := g3 U.2.1 U.2.2.1 pl 0 0 rfl
        exact ⟨pl1, 1, 0, by rw [hm, e1]⟩
  · refine ⟨1, 0, U, hU, fun out => ⟨out, ?_, fun h => absurd h (by decide)⟩, fun pl th cr rf => ⟨pl, 0, 0, ?_⟩⟩
    · simp [f_La_commit, f_Rv_commit, h4]
    · unfold f_Mo_commit
      rw [begun_eq]
      simp only [Option.bind_some]
      rw [h5]
      simp only [Option.bind_some]
      rw [if_neg (by decide), raise_eq]; rfl
end PO2
