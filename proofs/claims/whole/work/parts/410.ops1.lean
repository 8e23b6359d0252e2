/-! THE PURE PART, 11: the calls, 1 -/
section PO
def IR (U : K_Rv) : Prop := IS U.1 ∧ (∀ T, T ≤ 40 → ∀ j, by64 (U.2.1 T) j = true → j < T) ∧ ∀ T, T ≤ 40 → ∀ p, bz (U.2.2.1 T) p = true → p < 6
/-- a call of the law's: what the class's side answers, and the reference's -/
def LO (fl : K_LH → Option (Int32 × K_LH)) (fm : K_Mo → Option (Int32 × K_Mo)) (U : K_Rv) : Prop := ∃ (c v : Int32) (U' : K_Rv), IR U' ∧ (∀ out, ∃ out' : Nat → Int64, fl (U, out) = some (c, (U', out')) ∧ (c = 0 → out' 0 = v.toInt64)) ∧ ∀ pl th cr rf, ∃ pl' cr' rf', fm (mkV U.1 U.2.1 U.2.2.1 pl th cr rf) = some (v, mkV U'.1 U'.2.1 U'.2.2.1 pl' c cr' rf')
theorem begun_eq (N : Nat) (S : K_St) (cb : Nat → Int64) (ch pl : Nat → Int32) (th cr rf : Int32) : f_Mo_begun N (mkV S cb ch pl th cr rf) = some ((), mkV S cb ch pl 0 0 0) := rfl
theorem raise_eq (N : Nat) (p : Int32) (S : K_St) (cb : Nat → Int64) (ch pl : Nat → Int32) (th cr rf : Int32) : f_Mo_raise N p (mkV S cb ch pl th cr rf) = some (0, mkV S cb ch pl p cr rf) := rfl
theorem i_cases (p : Int32) {a b : Nat} (hb : b < 2 ^ 31) : (∃ r, a ≤ r ∧ r ≤ b ∧ p = nI r ∧ p.toInt = r) ∨ (p.toInt < a ∨ (b : Int) < p.toInt) := by
  by_cases h : p.toInt < a
  · exact Or.inr (Or.inl h)
  · by_cases h2 : (b : Int) < p.toInt
    · exact Or.inr (Or.inr h2)
    · have hp : ¬ p < 0 := by rw [Int32.lt_iff_toInt_lt]; have : ((0 : Int32)).toInt = 0 := rfl; omega
      obtain ⟨j, hj, rfl⟩ := nI_of hp
      rw [nI_toInt hj] at h h2
      exact Or.inl ⟨j, by omega, by omega, rfl, nI_toInt hj⟩
theorem in_eq (N : Nat) (p : Int32) {a b : Nat} (ha : a < 2 ^ 31) (hb : b < 2 ^ 31) : f_Mo_in N p (nI a) (nI b) = some (if (a : Int) ≤ p.toInt ∧ p.toInt ≤ b then 1 else 0) := by
  unfold f_Mo_in
  simp only [Int32.lt_iff_toInt_lt, nI_toInt ha, nI_toInt hb]
  by_cases h1 : p.toInt < a
  · rw [if_pos h1, if_neg (by omega)]
  · rw [if_neg h1]
    by_cases h2 : (b : Int) < p.toInt
    · rw [if_pos h2, if_neg (by omega)]
    · rw [if_neg h2, if_pos (by omega)]
theorem rec_cases (N : Nat) (p : Int32) : (∃ r, r < 6 ∧ p = nI r ∧ f_Rv_demandRecord N p = some (.inl ()) ∧ f_Mo_in N p 0 5 = some 1) ∨ (f_Rv_demandRecord N p = some (.inr "java/lang/IllegalArgumentException") ∧ f_Mo_in N p 0 5 = some 0) := by
  have e := in_eq N p (a := 0) (b := 5) (by omega) (by omega)
  have e0 : ((0 : Int32)).toInt = 0 := rfl
  have e6 : ((6 : Int32)).toInt = 6 := rfl
  unfold f_Rv_demandRecord
  rcases i_cases p (a := 0) (b := 5) (by omega) with ⟨r, h1, h2, h3, h4⟩ | h
  · refine Or.inl ⟨r, by omega, h3, ?_, ?_⟩
    · rw [if_neg (by rw [Int32.lt_iff_toInt_lt]; omega), if_pos (by rw [Int32.lt_iff_toInt_lt]; omega)]
    · rw [if_pos (by omega)] at e; exact e
  · refine Or.inr ⟨?_, ?_⟩
    · by_cases h0 : p < 0
      · rw [if_pos h0]
      · rw [if_neg h0, if_neg]
        rw [Int32.lt_iff_toInt_lt] at h0 ⊢; omega
    · rw [if_neg (by omega)] at e; exact e
theorem act_cases (N : Nat) (p : Int32) (U : K_Rv) : (∃ T, 1 ≤ T ∧ T ≤ 40 ∧ p = nI T ∧ U.1.1.2.2.2 T = 1 ∧ f_Rv_demandActive N p U = some (.inl (), U) ∧ ∀ cb ch pl th cr rf, f_Mo_idle N p (mkV U.1 cb ch pl th cr rf) = some (0, mkV U.1 cb ch pl th cr rf)) ∨ (f_Rv_demandActive N p U = some (.inr "java/lang/IllegalStateException", U) ∧ ∀ cb ch pl th cr rf, f_Mo_idle N p (mkV U.1 cb ch pl th cr rf) = some (1, mkV U.1 cb ch pl th cr rf)) := by
  have e := in_eq N p (a := 1) (b := 40) (by omega) (by omega)
  have e1 : ((1 : Int32)).toInt = 1 := rfl
  have e40 : ((40 : Int32)).toInt = 40 := rfl
  have i1 : ∀ V : K_Mo, f_Mo_idle N p V = ((f_Mo_in N p (nI 1) (nI 40)).bind fun z1 => (if z1 = 0 then some ((1 : Int32), V) else (if xi p 41 = true then (if (V.1.2.2.2 p.toNatClampNeg) = (1 : Int32) then some ((0 : Int32), V) else some ((1 : Int32), V)) else none))) := fun V => rfl
  rcases i_cases p (a := 1) (b := 40) (by omega) with ⟨T, h1, h2, rfl, h4⟩ | h
  · have hx := nI_xi (i := T) (n := 41) (by omega) (by omega)
    rw [if_pos (by omega)] at e
    by_cases hs : U.1.1.2.2.2 T = 1
    · refine Or.inl ⟨T, h1, h2, rfl, hs, ?_, fun cb ch pl th cr rf => ?_⟩
      · unfold f_Rv_demandActive
        rw [if_neg (by rw [Int32.lt_iff_toInt_lt]; omega), if_neg (by rw [Int32.lt_iff_toInt_lt]; omega), if_pos hx, nI_clamp (by omega), if_pos hs]
      · rw [i1, e]
        simp only [Option.bind_some]
        rw [if_neg (by decide), if_pos hx, nI_clamp (by omega), if_pos (show (mkV U.1 cb ch pl th cr rf).1.2.2.2 T = 1 from hs)]
    · refine Or.inr ⟨?_, fun cb ch pl th cr rf => ?_⟩
      · unfold f_Rv_demandActive
        rw [if_neg (by rw [Int32.lt_iff_toInt_lt]; omega), if_neg (by rw [Int32.lt_iff_toInt_lt]; omega), if_pos hx, nI_clamp (by omega), if_neg hs]
      · rw [i1, e]
        simp only [Option.bind_some]
        rw [if_neg (by decide), if_pos hx, nI_clamp (by omega), if_neg (show ¬ (mkV U.1 cb ch pl th cr rf).1.2.2.2 T = 1 from hs)]
  · rw [if_neg (by omega)] at e
    refine Or.inr ⟨?_, fun cb ch pl th cr rf => ?_⟩
    · unfold f_Rv_demandActive
      by_cases h0 : p < 1
      · rw [if_pos h0]
      · rw [if_neg h0, if_pos (by rw [Int32.lt_iff_toInt_lt] at h0 ⊢; omega)]
    · rw [i1, e]
      simp only [Option.bind_some, if_true]
theorem op_state (N : Nat) (p : Int32) {U : K_Rv} (hU : IR U) : LO (f_La_state N p) (f_Mo_state N p) U := by
  have e := in_eq N p (a := 1) (b := 40) (by omega) (by omega)
  have e1 : ((1 : Int32)).toInt = 1 := rfl
  have e40 : ((40 : Int32)).toInt = 40 := rfl
  have i1 : ∀ V : K_Mo, f_Mo_state N p V = ((f_Mo_begun N V).bind fun z1 => ((f_Mo_in N p (nI 1) (nI 40)).bind fun z2 => (if z2 = 0 then ((f_Mo_raise N (1 : Int32) z1.2).bind fun z3 => some (z3.1, z3.2)) else (if xi p 41 = true then some ((z1.2.1.2.2.2 p.toNatClampNeg), z1.2) else none)))) := fun V => rfl
  rcases i_cases p (a := 1) (b := 40) (by omega) with ⟨T, h1, h2, rfl, h4⟩ | h
  · have hx := nI_xi (i := T) (n := 41) (by omega) (by omega)
    rw [if_pos (by omega)] at e
    refine ⟨0, U.1.1.2.2.2 T, U, hU, fun out => ⟨vp_updL out 0 (U.1.1.2.2.2 T).toInt64, ?_, fun _ => by unfold vp_updL; rw [if_pos rfl]⟩, fun pl th cr rf => ⟨pl, 0, 0, ?_⟩⟩
    · have : f_Rv_state N (nI T) U = some (.inl (U.1.1.2.2.2 T), U) := by
        unfold f_Rv_state
        rw [if_neg (by rw [Int32.lt_iff_toInt_lt]; omega), if_pos (by rw [Int32.le_iff_toInt_le]; omega), if_pos hx, nI_clamp (by omega)]
      unfold f_La_state
      rw [this]; rfl
    · rw [i1, begun_eq, e]
      simp only [Option.bind_some]
      rw [if_neg (by decide), if_pos hx, nI_clamp (by omega)]; rfl
  · rw [if_neg (by omega)] at e
    refine ⟨1, 0, U, hU, fun out => ⟨out, ?_, fun h => absurd h (by decide)⟩, fun pl th cr rf => ⟨pl, 0, 0, ?_⟩⟩
    · have : f_Rv_state N p U = some (.inr "java/lang/IllegalArgumentException", U) := by
        unfold f_Rv_state
        by_cases h0 : p < 1
        · rw [if_pos h0]
        · rw [if_neg h0, if_neg (by rw [Int32.lt_iff_toInt_lt] at h0; rw [Int32.le_iff_toInt_le]; omega)]
      simp [f_La_state, this]
    · rw [i1, begun_eq, e]
      simp only [Option.bind_some, if_true]
      rw [raise_eq]; rfl
theorem op_fail (N : Nat) (p : Int32) {U : K_Rv} (hU : IR U) : LO (f_La_fail N p) (f_Mo_fail N p) U := by
  have e := in_eq N p (a := 0) (b := 50) (by omega) (by omega)
  have e1 : ((0 : Int32)).toInt = 0 := rfl
  have e40 : ((50 : Int32)).toInt = 50 := rfl
  have i1 : ∀ V : K_Mo, f_Mo_fail N p V = ((f_Mo_begun N V).bind fun z1 => ((f_Mo_in N p (nI 0) (nI 50)).bind fun z2 => (if z2 = 0 then ((f_Mo_raise N (1 : Int32) z1.2).bind fun z3 => some (z3.1, z3.2)) else some (z1.2.2.2.2.2.2.2.2.2.2.2.1, (z1.2.1, (z1.2.2.1, (z1.2.2.2.1, (z1.2.2.2.2.1, (z1.2.2.2.2.2.1, (z1.2.2.2.2.2.2.1, (z1.2.2.2.2.2.2.2.1, (z1.2.2.2.2.2.2.2.2.1, (z1.2.2.2.2.2.2.2.2.2.1, (z1.2.2.2.2.2.2.2.2.2.2.1, (p, z1.2.2.2.2.2.2.2.2.2.2.2.2))))))))))))))) := fun V => rfl
  rcases i_cases p (a := 0) (b := 50) (by omega) with ⟨T, h1, h2, rfl, h4⟩ | h
  · rw [if_pos (by omega)] at e
    refine ⟨0, U.1.2.2.2.2.2.2, ((U.1.1, (U.1.2.1, (U.1.2.2.1, (U.1.2.2.2.1, (U.1.2.2.2.2.1, (U.1.2.2.2.2.2.1, nI T)))))), U.2), ⟨?_, hU.2⟩, fun out => ⟨vp_updL out 0 (U.1.2.2.2.2.2.2).toInt64, ?_, fun _ => by unfold vp_updL; rw [if_pos rfl]⟩, fun pl th cr rf => ⟨pl, 0, 0, ?_⟩⟩
    · obtain ⟨⟨g1, g2, g3, g4, g5, g6, g7, g8⟩, -⟩ := hU
      exact ⟨g1, g2, g3, g4, ⟨T, h2, rfl⟩, g6, g7, g8⟩
    · have : f_Rv_fail N (nI T) U = some (.inl (U.1.2.2.2.2.2.2), ((U.1.1, (U.1.2.1, (U.1.2.2.1, (U.1.2.2.2.1, (U.1.2.2.2.2.1, (U.1.2.2.2.2.2.1, nI T)))))), U.2)) := by
        unfold f_Rv_fail
        rw [if_neg (by rw [Int32.lt_iff_toInt_lt]; omega), if_pos (by rw [Int32.le_iff_toInt_le]; omega)]
      unfold f_La_fail
      rw [this]; rfl
    · rw [i1, begun_eq, e]
      simp only [Option.bind_some]
      rw [if_neg (by decide)]; rfl
  · rw [if_neg (by omega)] at e
    refine ⟨1, 0, U, hU, fun out => ⟨out, ?_, fun h => absurd h (by decide)⟩, fun pl th cr rf => ⟨pl, 0, 0, ?_⟩⟩
    · have : f_Rv_fail N p U = some (.inr "java/lang/IllegalArgumentException", U) := by
        unfold f_Rv_fail
        by_cases h0 : p < 0
        · rw [if_pos h0]
        · rw [if_neg h0, if_neg (by rw [Int32.lt_iff_toInt_lt] at h0; rw [Int32.le_iff_toInt_le]; omega)]
      simp [f_La_fail, this]
    · rw [i1, begun_eq, e]
      simp only [Option.bind_some, if_true]
      rw [raise_eq]; rfl
/-- the states page becomes dirty, a state other than 'active' is set -/
theorem IS.state {S : K_St} (h : IS S) {T : Nat} (h1 : 1 ≤ T) (hT : T ≤ 40) (v : Int32) (hv : v ≠ 0) (hc : cA (upd S.1.2.2.2 T v) 40 ≤ 4) (hz : ∀ i, 1 ≤ i → i < T → S.1.2.2.2 i ≠ 0) : IS ((S.1.1, (S.1.2.1, (S.1.2.2.1, (upd S.1.2.2.2 T v)))), (S.2.1, (S.2.2.1, ((S.2.2.2.1 ||| ((1 : Int32) <<< ((6 : Int32) &&& 31))), S.2.2.2.2)))) := by
  obtain ⟨⟨a1, a2, a3, a4, a5⟩, g2, g3, g4, g5, g6, g7, g8⟩ := h
  refine ⟨⟨a1, a2, a3, ?_, fun i j q1 q2 q3 q4 => ?_⟩, g2, g3.or (Mk.one (p := 6) (by omega)), g4, g5, g6, hc, Gd.dirty g8 (fun p hp => ?_)⟩
  · show upd S.1.2.2.2 T v 0 = 0
    rw [upd_o _ _ (by omega)]; exact a4
  · have q5 : upd S.1.2.2.2 T v i = 0 := q4
    clear q4
    show upd S.1.2.2.2 T v j = 0
    by_cases hi : i = T
    · subst hi; rw [upd_s] at q5; exact absurd q5 hv
    · rw [upd_o _ _ hi] at q5
      by_cases hj : j = T
      · exact absurd q5 (hz i q1 (by omega))
      · rw [upd_o _ _ hj]; exact a5 i j q1 q2 q3 q5
  · show bz (S.2.2.2.1 ||| _) p = true
    have hp : bz S.2.2.2.1 p = true := hp
    rw [bz_or, hp]; rfl
theorem used_below {C : K_Co} (h : Bd C) {T : Nat} (hT : T ≤ 40) (hs : C.2.2.2 T ≠ 0) : ∀ i, 1 ≤ i → i < T → C.2.2.2 i ≠ 0 := fun i h1 h2 h0 => hs (h.2.2.2.2 i T h1 (by omega) hT h0)
theorem dA_6 (d : Int32) : upd (dA d) ((6 : Int32)).toNatClampNeg (vp_nar .boolean (1 : Int32)) = dA (d ||| ((1 : Int32) <<< ((6 : Int32) &&& 31))) := dA_or d (p := 6) (by omega)
theorem op_rollback (N : Nat) (p : Int32) {U : K_Rv} (hU : IR U) : LO (f_La_rollback N p) (f_Mo_rollback N p) U := by
  rcases act_cases N p U with ⟨T, h1, h2, rfl, h3, h4, h5⟩ | ⟨h4, h5⟩
  · have hx := nI_xi (i := T) (n := 41) (by omega) (by omega)
    refine ⟨0, 1, (((U.1.1.1, (U.1.1.2.1, (U.1.1.2.2.1, (upd U.1.1.2.2.2 T 3)))), (U.1.2.1, (U.1.2.2.1, ((U.1.2.2.2.1 ||| ((1 : Int32) <<< ((6 : Int32) &&& 31))), U.1.2.2.2.2)))), U.2), ⟨?_, hU.2⟩, fun out => ⟨vp_updL out 0 ((1 : Int32)).toInt64, ?_, fun _ => by unfold vp_updL; rw [if_pos rfl]⟩, fun pl th cr rf => ⟨pl, 0, 0, ?_⟩⟩
    · have := (cA_upd U.1.1.2.2.2 T 3 40).2.2 (by decide)
      have h7 := hU.1.2.2.2.2.2.2.1
      exact hU.1.state h1 h2 3 (by decide) (by omega) (used_below hU.1.1 h2 (by rw [h3]; decide))
    · unfold f_La_rollback f_Rv_rollback
      rw [h4]
      simp only [Option.bind_some]
      rw [if_pos hx, nI_clamp (by omega)]
      rfl
    · unfold f_Mo_rollback
      rw [begun_eq]
      simp only [Option.bind_some]
      rw [h5]
      simp only [Option.bind_some, if_true]
      rw [if_pos hx, nI_clamp (by omega)]
      show some ((1 : Int32), _) = _
      unfold mkV
      dsimp only
      rw [dA_6]
      rfl
  · refine ⟨1, 0, U, hU, fun out => ⟨out, ?_, fun h => absurd h (by decide)⟩, fun pl th cr rf => ⟨pl, 0, 0, ?_⟩⟩
    · simp [f_La_rollback, f_Rv_rollback, h4]
    · unfold f_Mo_rollback
      rw [begun_eq]
      simp only [Option.bind_some]
      rw [h5]
      simp only [Option.bind_some]
      rw [if_neg (by decide), raise_eq]; rfl
theorem IR.cr {U : K_Rv} (h : IR U) : ∃ R, CR U.1.1 R := by
  obtain ⟨R, hR⟩ := h.1.2.2.2.2.2.2.2.mem
  exact ⟨R, h.1.1, hR⟩
theorem val_cases (N : Nat) {C : K_Co} (h : Bd C) (o : Option Nat) (ho : ∀ j, o = some j → j < 15) : (∃ x, f_Rv_demandValue N (eI o) C = some (.inl x, C) ∧ gV C o = x ∧ 0 ≤ x) ∨ (f_Rv_demandValue N (eI o) C = some (.inr "java/util/NoSuchElementException", C) ∧ gV C o = -1) := by
  cases o with
  | none => exact Or.inr ⟨by unfold f_Rv_demandValue eI; rw [if_pos rfl], rfl⟩
  | some j =>
    have hj := ho j rfl
    have hx := nI_xi (i := j) (n := 15) hj (by omega)
    unfold f_Rv_demandValue eI
    rw [if_neg (by rw [zm1 (by omega)]; simp), if_pos hx, if_pos hx, nI_clamp (by omega)]
    rcases h.2.1 j hj with e | e
    · exact Or.inr ⟨by rw [if_pos e], e⟩
    · left
      refine ⟨C.2.1 j, ?_, rfl, e⟩
      rw [if_neg]
      intro e2; rw [e2] at e; exact absurd e (by decide)
theorem op_read (N : Nat) (hN : 100000000 ≤ N) (p1 p2 : Int32) {U : K_Rv} (hU : IR U) : LO (f_La_read N p1 p2) (f_Mo_read N p1 p2) U := by
  rcases rec_cases N p2 with ⟨r, hr, rfl, g1, g2⟩ | ⟨g1, g2⟩
  · rcases act_cases N p1 U with ⟨T, h1, h2, rfl, h3, h4, h5⟩ | ⟨h4, h5⟩
    · obtain ⟨R, hR⟩ := hU.cr
      have hx := nI_xi (i := T) (n := 41) (by omega) (by omega)
      have e1 := first_eq N hN hR (U.2.1 T ||| ((1 : Int64) <<< ((nI T).toInt64 &&& 63))) hr
      have e2 := fun ch pl th cr rf => reads_eq N hN (S := U.1) hR h2 hr U.2.1 ch pl th cr rf
      have hps : f_Rv_placeSeen N (nI T) (nI r) U = some (eI (fr U.1.1 (fun i => by64 (U.2.1 T ||| ((1 : Int64) <<< ((nI T).toInt64 &&& 63))) (bF U.1.1 i)) r), U) := by
        unfold f_Rv_placeSeen f_Rv_seenBy
        rw [if_pos hx, nI_clamp (by omega)]
        simp only [Option.bind_some]
        rw [e1]; rfl
      have hm : ∀ pl th cr rf, f_Mo_read N (nI T) (nI r) (mkV U.1 U.2.1 U.2.2.1 pl th cr rf) = (if (0 : Int32) ≤ gV U.1.1 (fr U.1.1 (fun i => by64 (U.2.1 T ||| ((1 : Int64) <<< ((nI T).toInt64 &&& 63))) (bF U.1.1 i)) r) then some (gV U.1.1 (fr U.1.1 (fun i => by64 (U.2.1 T ||| ((1 : Int64) <<< ((nI T).toInt64 &&& 63))) (bF U.1.1 i)) r), mkV U.1 U.2.1 U.2.2.1 pl 0 0 0) else some (0, mkV U.1 U.2.1 U.2.2.1 pl 3 0 0)) := by
        intro pl th cr rf
        unfold f_Mo_read
        rw [begun_eq]
        simp only [Option.bind_some]
        rw [g2]
        simp only [Option.bind_some]
        rw [if_neg (by decide), h5]
        simp only [Option.bind_some, if_true]
        rw [e2]
        simp only [Option.bind_some]
        rfl
      rcases val_cases N hU.1.1 (fr U.1.1 (fun i => by64 (U.2.1 T ||| ((1 : Int64) <<< ((nI T).toInt64 &&& 63))) (bF U.1.1 i)) r) (fun j hj => hR.lt (fr_in hR _ hr hj).1) with ⟨x, k1, k2, k3⟩ | ⟨k1, k2⟩
      · refine ⟨0, x, U, hU, fun out => ⟨vp_updL out 0 x.toInt64, ?_, fun _ => by unfold vp_updL; rw [if_pos rfl]⟩, fun pl th cr rf => ⟨pl, 0, 0, ?_⟩⟩
        · simp only [f_La_read, f_Rv_read, g1, h4, hps, k1, Option.bind_some]
          rfl
        · rw [hm, k2, if_pos k3]
      · refine ⟨3, 0, U, hU, fun out => ⟨out, ?_, fun h => absurd h (by decide)⟩, fun pl th cr rf => ⟨pl, 0, 0, ?_⟩⟩
        · simp [f_La_read, f_Rv_read, g1, h4, hps, k1]
        · rw [hm, k2, if_neg (by decide)]
    · refine ⟨2, 0, U, hU, fun out => ⟨out, ?_, fun h => absurd h (by decide)⟩, fun pl th cr rf => ⟨pl, 0, 0, ?_⟩⟩
      · simp [f_La_read, f_Rv_read, g1, h4]
      · unfold f_Mo_read
        rw [begun_eq]
        simp only [Option.bind_some]
        rw [g2]
        simp only [Option.bind_some]
        rw [if_neg (by decide), h5]
        simp only [Option.bind_some]
        rw [if_neg (by decide), raise_eq]; rfl
  · refine ⟨1, 0, U, hU, fun out => ⟨out, ?_, fun h => absurd h (by decide)⟩, fun pl th cr rf => ⟨pl, 0, 0, ?_⟩⟩
    · simp [f_La_read, f_Rv_read, g1]
    · unfold f_Mo_read
      rw [begun_eq]
      simp only [Option.bind_some]
      rw [g2]
      simp only [Option.bind_some, if_true]
      rw [raise_eq]; rfl
end PO
