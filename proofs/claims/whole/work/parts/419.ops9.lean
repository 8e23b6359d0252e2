/-! THE PURE PART, 20: the calls, 5 -/
section PO9
theorem pg_a (N : Nat) {q : Nat} (h2 : q ≤ 6) (U : K_Rv) : f_Rv_page N (nI q) U = some (.inl (U.1.2.2.1 q), U) := by
  unfold f_Rv_page
  rw [if_neg (nI_pos (by omega)), if_neg (nle7 (by omega)), if_pos (nI_xi (by omega) (by omega)), nI_clamp (by omega)]
theorem pg_b (N : Nat) {q : Nat} (h1 : 10 ≤ q) (h2 : q ≤ 16) (U : K_Rv) : f_Rv_page N (nI q) U = some (.inl (if bz U.1.2.2.2.1 (q - 10) = true then 1 else 0), U) := by
  have hs : nI q - 10 = nI (q - 10) := by rw [zl10, pk_sub h1]
  have hs2 : ¬ nI q < 10 := nI_nlt (b := 10) h1 (by omega)
  have hs3 : ¬ (17 : Int32) ≤ nI q := nI_ge (b := 17) (by omega) (by omega)
  unfold f_Rv_page
  rw [if_neg (nI_pos (by omega)), if_pos (le7 (by omega) (by omega)), if_neg hs2, if_neg hs3, hs, f_has7 N (by omega)]
  simp only [Option.bind_some]
  cases bz U.1.2.2.2.1 (q - 10) <;> rfl
theorem pg_c (N : Nat) {p : Int32} (hA : p.toInt < 0 ∨ 6 < p.toInt) (hB : p.toInt < 10 ∨ 16 < p.toInt) (U : K_Rv) : f_Rv_page N p U = some (.inr "java/lang/IllegalArgumentException", U) := by
  have e0 : ((0 : Int32)).toInt = 0 := rfl
  have e7 : ((7 : Int32)).toInt = 7 := rfl
  have e10 : ((10 : Int32)).toInt = 10 := rfl
  have e17 : ((17 : Int32)).toInt = 17 := rfl
  unfold f_Rv_page
  by_cases g0 : p < 0
  · have g1 : p < 10 := by rw [Int32.lt_iff_toInt_lt] at g0 ⊢; omega
    rw [if_pos g0, if_pos g1]
  · have g7 : 7 ≤ p := by rw [Int32.lt_iff_toInt_lt] at g0; rw [Int32.le_iff_toInt_le]; omega
    rw [if_neg g0, if_pos g7]
    by_cases g1 : p < 10
    · rw [if_pos g1]
    · have g17 : 17 ≤ p := by rw [Int32.lt_iff_toInt_lt] at g0 g1; rw [Int32.le_iff_toInt_le]; omega
      rw [if_neg g1, if_pos g17]
theorem mpg (N : Nat) (p : Int32) (x y : Int32) (S : K_St) (cb : Nat → Int64) (ch pl : Nat → Int32) (th cr rf : Int32) (ha : f_Mo_in N p 0 6 = some x) (hb : f_Mo_in N p 10 16 = some y) : f_Mo_page N p (mkV S cb ch pl th cr rf) = (if x = 0 then (if y = 0 then some (0, mkV S cb ch pl 1 0 0) else (if xi (p - (10 : Int32)) 7 = true then (if dA S.2.2.2.1 (p - (10 : Int32)).toNatClampNeg = 0 then some ((0 : Int32), mkV S cb ch pl 0 0 0) else some ((1 : Int32), mkV S cb ch pl 0 0 0)) else none)) else (if xi p 7 = true then some (S.2.2.1 p.toNatClampNeg, mkV S cb ch pl 0 0 0) else none)) := by
  unfold f_Mo_page
  rw [begun_eq]
  simp only [Option.bind_some]
  rw [ha]
  simp only [Option.bind_some]
  rw [hb]
  rfl
theorem in_06 (N : Nat) (p : Int32) : f_Mo_in N p 0 6 = some (if 0 ≤ p.toInt ∧ p.toInt ≤ 6 then 1 else 0) := in_eq N p (a := 0) (b := 6) (by omega) (by omega)
theorem in_1016 (N : Nat) (p : Int32) : f_Mo_in N p 10 16 = some (if 10 ≤ p.toInt ∧ p.toInt ≤ 16 then 1 else 0) := in_eq N p (a := 10) (b := 16) (by omega) (by omega)
theorem op_page (N : Nat) (p : Int32) {U : K_Rv} (hU : IR U) : LO (f_La_page N p) (f_Mo_page N p) U := by
  by_cases hA : 0 ≤ p.toInt ∧ p.toInt ≤ 6
  · have hp0 : ¬ p < 0 := by rw [Int32.lt_iff_toInt_lt]; have : ((0 : Int32)).toInt = 0 := rfl; omega
    obtain ⟨q, hq, rfl⟩ := nI_of hp0
    rw [nI_toInt hq] at hA
    have hq6 : q ≤ 6 := by omega
    refine ⟨0, U.1.2.2.1 q, U, hU, fun out => ⟨vp_updL out 0 (U.1.2.2.1 q).toInt64, ?_, fun _ => by unfold vp_updL; rw [if_pos rfl]⟩, fun pl th cr rf => ⟨pl, 0, 0, ?_⟩⟩
    · unfold f_La_page
      rw [pg_a N hq6]; rfl
    · have a1 : f_Mo_in N (nI q) 0 6 = some 1 := by rw [in_06, if_pos (by rw [nI_toInt hq]; omega)]
      rw [mpg N (nI q) 1 _ U.1 U.2.1 U.2.2.1 pl th cr rf a1 (in_1016 N _), if_neg (show ¬ (1 : Int32) = 0 by decide), if_pos (nI_xi (by omega) (by omega)), nI_clamp hq]
  · by_cases hB : 10 ≤ p.toInt ∧ p.toInt ≤ 16
    · have hp0 : ¬ p < 0 := by rw [Int32.lt_iff_toInt_lt]; have : ((0 : Int32)).toInt = 0 := rfl; omega
      obtain ⟨q, hq, rfl⟩ := nI_of hp0
      rw [nI_toInt hq] at hA hB
      have h1 : 10 ≤ q := by omega
      have h2 : q ≤ 16 := by omega
      have hs : nI q - 10 = nI (q - 10) := by rw [zl10, pk_sub h1]
      refine ⟨0, (if bz U.1.2.2.2.1 (q - 10) = true then 1 else 0), U, hU, fun out => ⟨vp_updL out 0 (if bz U.1.2.2.2.1 (q - 10) = true then (1 : Int32) else 0).toInt64, ?_, fun _ => by unfold vp_updL; rw [if_pos rfl]⟩, fun pl th cr rf => ⟨pl, 0, 0, ?_⟩⟩
      · unfold f_La_page
        rw [pg_b N h1 h2]; rfl
      · have a1 : f_Mo_in N (nI q) 0 6 = some 0 := by rw [in_06, if_neg (by rw [nI_toInt hq]; omega)]
        have b1 : f_Mo_in N (nI q) 10 16 = some 1 := by rw [in_1016, if_pos (by rw [nI_toInt hq]; omega)]
        rw [mpg N (nI q) 0 1 U.1 U.2.1 U.2.2.1 pl th cr rf a1 b1, if_pos (show (0 : Int32) = 0 from rfl), if_neg (show ¬ (1 : Int32) = 0 by decide), hs, if_pos (nI_xi (by omega) (by omega)), nI_clamp (by omega)]
        by_cases hb : bz U.1.2.2.2.1 (q - 10) = false
        · rw [if_pos ((dA_0 _ (by omega)).mpr hb), hb]; rfl
        · rw [if_neg (fun h => hb ((dA_0 _ (by omega)).mp h)), if_pos (by simpa using hb)]
    · refine ⟨1, 0, U, hU, fun out => ⟨out, ?_, fun h => absurd h (by decide)⟩, fun pl th cr rf => ⟨pl, 0, 0, ?_⟩⟩
      · have := pg_c N (p := p) (by omega) (by omega) U
        simp [f_La_page, this]
      · have a1 : f_Mo_in N p 0 6 = some 0 := by rw [in_06, if_neg hA]
        have b1 : f_Mo_in N p 10 16 = some 0 := by rw [in_1016, if_neg hB]
        rw [mpg N p 0 0 U.1 U.2.1 U.2.2.1 pl th cr rf a1 b1, if_pos (show (0 : Int32) = 0 from rfl), if_pos (show (0 : Int32) = 0 from rfl)]
theorem free5 (N : Nat) (S : K_St) (cb : Nat → Int64) (ch pl : Nat → Int32) (th cr rf : Int32) : ∀ (j k n : Nat) (x : Int32), k + j = 15 → j < n → ∃ y, f_Co_freeSlots_5 N n x (nI k) S.1 = some (y, S.1) ∧ f_Mo_count_43 N n x (nI k) (mkV S cb ch pl th cr rf) = some (y, mkV S cb ch pl th cr rf) := by
  intro j
  induction j with
  | zero =>
    intro k n x hk hn
    obtain ⟨n, rfl⟩ : ∃ m, n = m + 1 := ⟨n - 1, by omega⟩
    refine ⟨x, ?_, ?_⟩
    · rw [f_Co_freeSlots_5, if_pos (le15 (k := k) (by omega) (by omega))]
    · rw [f_Mo_count_43, if_pos (le15 (k := k) (by omega) (by omega))]
  | succ j ih =>
    intro k n x hk hn
    obtain ⟨n, rfl⟩ : ∃ m, n = m + 1 := ⟨n - 1, by omega⟩
    have hx := nI_xi (i := k) (n := 15) (by omega) (by omega)
    rw [f_Co_freeSlots_5, f_Mo_count_43, if_neg (nle15 (k := k) (by omega)), if_neg (nle15 (k := k) (by omega)), if_pos hx, if_pos hx, nI_clamp (by omega), nI_1]
    rw [show (mkV S cb ch pl th cr rf).1.1 k = S.1.1 k from rfl]
    by_cases h : S.1.1 k = 0
    · simp only [if_pos h]; exact ih (k + 1) n _ (by omega) (by omega)
    · simp only [if_neg h]
      rw [Int32.add_zero]; exact ih (k + 1) n _ (by omega) (by omega)
theorem cnt86 (N : Nat) (S : K_St) (cb : Nat → Int64) (ch pl : Nat → Int32) (th cr rf : Int32) : ∀ (j k n : Nat), k + j = 7 → j < n → f_Mo_count_86 N n (nI (bcn S.2.2.2.1 k)) (nI k) (mkV S cb ch pl th cr rf) = some (nI (bcn S.2.2.2.1 7), mkV S cb ch pl th cr rf) := by
  intro j
  induction j with
  | zero =>
    intro k n hk hn
    obtain ⟨n, rfl⟩ : ∃ m, n = m + 1 := ⟨n - 1, by omega⟩
    have : k = 7 := by omega
    subst this
    rw [f_Mo_count_86, if_pos (by decide)]
  | succ j ih =>
    intro k n hk hn
    obtain ⟨n, rfl⟩ : ∃ m, n = m + 1 := ⟨n - 1, by omega⟩
    have := ih (k + 1) n (by omega) (by omega)
    rw [bcn] at this
    rw [f_Mo_count_86, if_neg (nle7 (k := k) (by omega)), if_pos (nI_xi (by omega) (by omega)), nI_clamp (by omega), nI_1, nI_1]
    rw [show (mkV S cb ch pl th cr rf).2.2.1 k = dA S.2.2.2.1 k from rfl]
    by_cases hb : bz S.2.2.2.1 k = false
    · rw [if_pos ((dA_0 _ (by omega)).mpr hb)]
      rw [if_neg (by rw [hb]; simp)] at this; exact this
    · rw [if_neg (fun h => hb ((dA_0 _ (by omega)).mp h))]
      rw [if_pos (by simpa using hb)] at this; exact this
theorem op_count (N : Nat) (hN : 100000000 ≤ N) (p : Int32) {U : K_Rv} (hU : IR U) : LO (f_La_count N p) (f_Mo_count N p) U := by
  have ret : ∀ x, f_Rv_count N p U = some (.inl x, U) → (∀ pl, ∃ pl' cr' rf', f_Mo_count N p (mkV U.1 U.2.1 U.2.2.1 pl 0 0 0) = some (x, mkV U.1 U.2.1 U.2.2.1 pl' 0 cr' rf')) → LO (f_La_count N p) (f_Mo_count N p) U := by
    intro x k1 k2
    refine ⟨0, x, U, hU, fun out => ⟨vp_updL out 0 x.toInt64, ?_, fun _ => by unfold vp_updL; rw [if_pos rfl]⟩, fun pl th cr rf => ?_⟩
    · unfold f_La_count
      rw [k1]; rfl
    · exact k2 pl
  have i1 : ∀ pl, f_Mo_count N p (mkV U.1 U.2.1 U.2.2.1 pl 0 0 0) = (if p = (0 : Int32) then f_Mo_count_43 N N (0 : Int32) (6 : Int32) (mkV U.1 U.2.1 U.2.2.1 pl 0 0 0) else (if p = (1 : Int32) then ((f_Mo_actives N (mkV U.1 U.2.1 U.2.2.1 pl 0 0 0)).bind fun z7 => some (z7.1, z7.2)) else (if p = (2 : Int32) then some (U.1.2.2.2.2.1, mkV U.1 U.2.1 U.2.2.1 pl 0 0 0) else (if p = (3 : Int32) then some (U.1.2.2.2.2.2.1, mkV U.1 U.2.1 U.2.2.1 pl 0 0 0) else (if p = (4 : Int32) then f_Mo_count_86 N N (0 : Int32) (0 : Int32) (mkV U.1 U.2.1 U.2.2.1 pl 0 0 0) else ((f_Mo_raise N (1 : Int32) (mkV U.1 U.2.1 U.2.2.1 pl 0 0 0)).bind fun z14 => some (z14.1, z14.2))))))) := fun pl => rfl
  by_cases h0 : p = 0
  · obtain ⟨y, k1, -⟩ := free5 N U.1 U.2.1 U.2.2.1 (fun _ => 0) 0 0 0 9 6 N 0 rfl (by omega)
    refine ret y ?_ (fun pl => ⟨pl, 0, 0, ?_⟩)
    · unfold f_Rv_count f_Co_freeSlots
      rw [if_pos h0, zl6, k1]; rfl
    · obtain ⟨y2, k2, k3⟩ := free5 N U.1 U.2.1 U.2.2.1 pl 0 0 0 9 6 N 0 rfl (by omega)
      rw [k1] at k2
      have : y = y2 := by simpa using k2
      rw [i1, if_pos h0, zl6, k3, this]
  · by_cases h1 : p = 1
    · refine ret (nI (cA U.1.1.2.2.2 40)) ?_ (fun pl => ⟨pl, 0, 0, ?_⟩)
      · unfold f_Rv_count
        rw [if_neg h0, if_pos h1, act_eq N hN]; rfl
      · rw [i1, if_neg h0, if_pos h1, actv_eq N hN]; rfl
    · by_cases h2 : p = 2
      · refine ret U.1.2.2.2.2.1 ?_ (fun pl => ⟨pl, 0, 0, ?_⟩)
        · unfold f_Rv_count
          rw [if_neg h0, if_neg h1, if_pos h2]
        · rw [i1, if_neg h0, if_neg h1, if_pos h2]
      · by_cases h3 : p = 3
        · refine ret U.1.2.2.2.2.2.1 ?_ (fun pl => ⟨pl, 0, 0, ?_⟩)
          · unfold f_Rv_count
            rw [if_neg h0, if_neg h1, if_neg h2, if_pos h3]
          · rw [i1, if_neg h0, if_neg h1, if_neg h2, if_pos h3]
        · by_cases h4 : p = 4
          · refine ret (nI (bcn U.1.2.2.2.1 7)) ?_ (fun pl => ⟨pl, 0, 0, ?_⟩)
            · unfold f_Rv_count
              rw [if_neg h0, if_neg h1, if_neg h2, if_neg h3, if_pos h4, ibc_eq N _ hU.1.2.2.1]; rfl
            · rw [i1, if_neg h0, if_neg h1, if_neg h2, if_neg h3, if_pos h4]
              exact cnt86 N U.1 U.2.1 U.2.2.1 pl 0 0 0 7 0 N rfl (by omega)
          · refine ⟨1, 0, U, hU, fun out => ⟨out, ?_, fun h => absurd h (by decide)⟩, fun pl th cr rf => ⟨pl, 0, 0, ?_⟩⟩
            · have : f_Rv_count N p U = some (.inr "java/lang/IllegalArgumentException", U) := by
                unfold f_Rv_count
                rw [if_neg h0, if_neg h1, if_neg h2, if_neg h3, if_neg h4]
              simp [f_La_count, this]
            · show f_Mo_count N p (mkV U.1 U.2.1 U.2.2.1 pl 0 0 0) = _
              rw [i1, if_neg h0, if_neg h1, if_neg h2, if_neg h3, if_neg h4, raise_eq]; rfl
end PO9
