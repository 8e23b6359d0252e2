/-! THE PURE PART, 19: the calls, 4 -/
section PO8
theorem IR.crD {U : K_Rv} (h : IR U) : ∃ R, CR U.1.2.1 R := by
  obtain ⟨R, hR⟩ := h.1.2.2.2.2.2.2.2.disk
  exact ⟨R, h.1.2.1, hR⟩
theorem img23 (N : Nat) {S : K_St} {R : Nat → Prop} (h : CR S.2.1 R) (cb : Nat → Int64) (ch pl : Nat → Int32) (g : Nat → Bool) (hg : ∀ i, R i → g i = decide (S.2.1.2.2.2 (bF S.2.1 i) = 2)) : ∀ (v i k n : Nat), R i → nn S.2.1 i < v → k + v ≤ 15 → v < n → f_Mo_image_23 N n (nI i) (nI k) (mkV S cb ch pl 0 0 0) = (if 0 ≤ gV S.2.1 (fs S.2.1 g v i) then some (gV S.2.1 (fs S.2.1 g v i), mkV S cb ch pl 0 0 0) else some (0, mkV S cb ch pl 2 0 0)) := by
  intro v
  induction v with
  | zero => intro i k n _ h; omega
  | succ v ih =>
    intro i k n hi hv hk hn
    obtain ⟨n, rfl⟩ : ∃ m, n = m + 1 := ⟨n - 1, by omega⟩
    have h15 := h.lt hi
    have hx := nI_xi (i := i) (n := 15) h15 (by omega)
    obtain ⟨o, ho, ho2, ho3, ho4⟩ := h.own hi
    rw [f_Mo_image_23, if_neg (nle16 (k := k) (by omega)), if_neg (nI_pos (by omega)), if_pos hx, if_pos hx, nI_clamp (by omega)]
    rw [show (mkV S cb ch pl 0 0 0).2.1.1 i = nI o from ho, if_neg (by rw [zn0 (by omega)]; omega), if_pos (nI_xi (by omega) (by omega)), nI_clamp (by omega), ho2]
    rw [show (mkV S cb ch pl 0 0 0).2.1.2.2.2 (bF S.2.1 i) = S.2.1.2.2.2 (bF S.2.1 i) from rfl, show (mkV S cb ch pl 0 0 0).2.1.2.1 i = S.2.1.2.1 i from rfl, show (mkV S cb ch pl 0 0 0).2.1.2.2.1 i = cv (S.2.1.2.2.1 i) from rfl]
    by_cases h2 : S.2.1.2.2.2 (bF S.2.1 i) = 2
    · have hfs : fs S.2.1 g (v + 1) i = some i := by rw [fs, if_pos (by rw [hg i hi]; simp [h2])]
      rw [if_pos h2, hfs, if_pos hx, if_pos hx]
      rfl
    · have hfs : fs S.2.1 g (v + 1) i = if lF S.2.1 i = 0 then none else fs S.2.1 g v (lF S.2.1 i) := by rw [fs, if_neg (by rw [hg i hi]; simp [h2])]
      rw [if_neg h2, hfs, if_pos hx]
      rcases cv_row h hi with ⟨e1, e2⟩ | ⟨e1, e0, e2, e3, e4, e5, e6⟩
      · rw [e1, if_neg (by decide), if_pos e2]
        obtain ⟨n, rfl⟩ : ∃ m, n = m + 1 := ⟨n - 1, by omega⟩
        rw [f_Mo_image_23]
        show _ = some (0, mkV S cb ch pl 2 0 0)
        by_cases h16 : (16 : Int32) ≤ nI k + 1
        · rw [if_pos h16, raise_eq]; rfl
        · rw [if_neg h16, if_pos (by decide), raise_eq]; rfl
      · rw [e1, if_pos (nI_pos' (by omega)), if_pos hx, e0, if_neg e2, nI_1]
        have := nn_lt h hi e2
        exact ih _ (k + 1) n e5 (by omega) (by omega) (by omega)
theorem op_image (N : Nat) (hN : 100000000 ≤ N) (p : Int32) {U : K_Rv} (hU : IR U) : LO (f_La_image N p) (f_Mo_image N p) U := by
  rcases rec_cases N p with ⟨r, hr, rfl, g1, g2⟩ | ⟨g1, g2⟩
  · obtain ⟨R, hR⟩ := hU.crD
    have e1 := first_eq N hN hR (sF U.1.2.1.2.2.2 2 40 1 0) hr
    have hb := hR.1.b (i := r) (by omega)
    have hm : ∀ pl th cr rf, f_Mo_image N (nI r) (mkV U.1 U.2.1 U.2.2.1 pl th cr rf) = (if (0 : Int32) ≤ gV U.1.2.1 (fr U.1.2.1 (fun i => by64 (sF U.1.2.1.2.2.2 2 40 1 0) (bF U.1.2.1 i)) r) then some (gV U.1.2.1 (fr U.1.2.1 (fun i => by64 (sF U.1.2.1.2.2.2 2 40 1 0) (bF U.1.2.1 i)) r), mkV U.1 U.2.1 U.2.2.1 pl 0 0 0) else some (0, mkV U.1 U.2.1 U.2.2.1 pl 2 0 0)) := by
      intro pl th cr rf
      unfold f_Mo_image
      rw [begun_eq]
      simp only [Option.bind_some]
      rw [g2]
      simp only [Option.bind_some]
      rw [if_neg (by decide)]
      unfold fr
      by_cases h0 : bF U.1.2.1 r = 0
      · rw [if_pos h0, show N = (N - 1) + 1 from by omega, f_Mo_image_23, if_neg (by decide), if_neg (nI_pos (by omega)), if_pos (nI_xi (by omega) (by omega)), nI_clamp (by omega), if_pos (show (mkV U.1 U.2.1 U.2.2.1 pl 0 0 0).2.1.1 r = 0 from by show U.1.2.1.1 r = 0; rw [hb.1, h0]; rfl), raise_eq]
        rfl
      · rw [if_neg h0]
        have := nn_le U.1.2.1 r
        exact img23 N hR U.2.1 U.2.2.1 pl _ (fun i hi => by
          obtain ⟨o, ho, ho2, ho3, ho4⟩ := hR.own hi
          rw [← ho2, sF_bit _ _ _ _ _ _ (by omega), by_0, show decide (1 ≤ o ∧ o < 1 + 40) = true from decide_eq_true (by omega)]
          simp) 10 r 0 N (hR.2.1 r hr h0) (by omega) (by omega) (by omega)
    have hset : f_Co_committed N U.1.2.1 = some (sF U.1.2.1.2.2.2 2 40 1 0, U.1.2.1) := by
      unfold f_Co_committed
      rw [setIn_eq N hN]; rfl
    rcases val_cases N hU.1.2.1 (fr U.1.2.1 (fun i => by64 (sF U.1.2.1.2.2.2 2 40 1 0) (bF U.1.2.1 i)) r) (fun j hj => hR.lt (fr_in hR _ hr hj).1) with ⟨x, k1, k2, k3⟩ | ⟨k1, k2⟩
    · refine ⟨0, x, U, hU, fun out => ⟨vp_updL out 0 x.toInt64, ?_, fun _ => by unfold vp_updL; rw [if_pos rfl]⟩, fun pl th cr rf => ⟨pl, 0, 0, ?_⟩⟩
      · simp only [f_La_image, f_Rv_image, g1, hset, e1, k1, Option.bind_some]
        rfl
      · rw [hm, k2, if_pos k3]
    · refine ⟨2, 0, U, hU, fun out => ⟨out, ?_, fun h => absurd h (by decide)⟩, fun pl th cr rf => ⟨pl, 0, 0, ?_⟩⟩
      · simp [f_La_image, f_Rv_image, g1, hset, e1, k1]
      · rw [hm, k2, if_neg (by decide)]
  · refine ⟨1, 0, U, hU, fun out => ⟨out, ?_, fun h => absurd h (by decide)⟩, fun pl th cr rf => ⟨pl, 0, 0, ?_⟩⟩
    · simp [f_La_image, f_Rv_image, g1]
    · unfold f_Mo_image
      rw [begun_eq]
      simp only [Option.bind_some]
      rw [g2]
      simp only [Option.bind_some, if_true]
      rw [raise_eq]; rfl
def vs (C : K_Co) : Nat → Nat → Option Nat
  | 0, i => some i
  | k + 1, i => if lF C i = 0 then none else vs C k (lF C i)
theorem vs_in {C : K_Co} {R : Nat → Prop} (h : CR C R) : ∀ (k i j : Nat), R i → vs C k i = some j → R j := by
  intro k
  induction k with
  | zero => intro i j hi hv; cases hv; exact hi
  | succ k ih =>
    intro i j hi hv
    unfold vs at hv
    by_cases hl : lF C i = 0
    · rw [if_pos hl] at hv; cases hv
    · rw [if_neg hl] at hv; exact ih _ j ((h.2.2.1 i hi).2.2 hl).2.1 hv
theorem pl26 (N : Nat) {C : K_Co} {R : Nat → Prop} (h : CR C R) {p : Nat} (hp : p < 15) : ∀ (d k n i : Nat), k + d = p → d < n → R i → f_Co_placeAt_26 N n (nI p) (nI i) (nI k) C = some (eI (vs C d i), C) := by
  intro d
  induction d with
  | zero =>
    intro k n i hk hn hi
    obtain ⟨n, rfl⟩ : ∃ m, n = m + 1 := ⟨n - 1, by omega⟩
    rw [f_Co_placeAt_26, if_pos (nI_le (by omega) (by omega))]; rfl
  | succ d ih =>
    intro k n i hk hn hi
    obtain ⟨n, rfl⟩ : ∃ m, n = m + 1 := ⟨n - 1, by omega⟩
    have h15 := h.lt hi
    rw [f_Co_placeAt_26, if_neg (nI_ge (by omega) (by omega)), if_neg (by rw [zm1 (by omega)]; simp), next_eq N h hi, vs]
    simp only [Option.bind_some]
    unfold nxI
    rw [nI_1]
    by_cases hl : lF C i = 0
    · rw [if_pos hl, if_pos hl]
      obtain ⟨n, rfl⟩ : ∃ m, n = m + 1 := ⟨n - 1, by omega⟩
      rw [f_Co_placeAt_26]
      split
      · rfl
      · rw [if_pos rfl]; rfl
    · rw [if_neg hl, if_neg hl]
      exact ih (k + 1) n _ (by omega) (by omega) ((h.2.2.1 i hi).2.2 hl).2.1
def vfin (x3 : Int32) (o : Option Nat) (S : K_St) (cb : Nat → Int64) (ch pl : Nat → Int32) : Option (Int32 × K_Mo) := match o with
  | none => some (0, mkV S cb ch pl 2 0 0)
  | some j => some ((if x3 = 0 then S.1.1 j else if x3 = 1 then S.1.2.1 j else if (6 : Int32) ≤ nI j then nI j - 6 else -1), mkV S cb ch pl 0 0 0)
theorem mv_m1 (N n : Nat) (p x3 x5 : Int32) (S : K_St) (cb : Nat → Int64) (ch pl : Nat → Int32) : f_Mo_version_51 N (n + 1) p x3 (-1) x5 (mkV S cb ch pl 0 0 0) = some (0, mkV S cb ch pl 2 0 0) := by
  rw [f_Mo_version_51]
  split
  · rw [if_neg (by decide), raise_eq]; rfl
  · rw [if_pos (by decide), if_neg (by decide), raise_eq]; rfl
theorem mv51 (N : Nat) {S : K_St} {R : Nat → Prop} (h : CR S.1 R) (x3 : Int32) {p : Nat} (hp : p < 2 ^ 31) (cb : Nat → Int64) (ch pl : Nat → Int32) : ∀ (v i k n : Nat), R i → nn S.1 i < v → k ≤ p → v < n → f_Mo_version_51 N n (nI p) x3 (nI i) (nI k) (mkV S cb ch pl 0 0 0) = vfin x3 (vs S.1 (p - k) i) S cb ch pl := by
  intro v
  induction v with
  | zero => intro i k n _ h; omega
  | succ v ih =>
    intro i k n hi hv hk hn
    obtain ⟨n, rfl⟩ : ∃ m, n = m + 1 := ⟨n - 1, by omega⟩
    have h15 := h.lt hi
    have hx := nI_xi (i := i) (n := 15) h15 (by omega)
    rw [f_Mo_version_51]
    by_cases hpk : p ≤ k
    · rw [if_pos (nI_le hpk (by omega)), if_pos (nI_pos' (by omega)), if_pos hx, if_pos hx, nI_clamp (by omega), show p - k = 0 from by omega, vs, vfin]
      by_cases h0 : x3 = 0
      · rw [if_pos h0, if_pos h0]; rfl
      · rw [if_neg h0, if_neg h0]
        by_cases h1 : x3 = 1
        · rw [if_pos h1, if_pos h1]; rfl
        · rw [if_neg h1, if_neg h1]
          split <;> rfl
    · rw [if_neg (nI_ge (by omega) (by omega)), if_neg (nI_pos (by omega)), behind_eq N h hi, show p - k = (p - (k + 1)) + 1 from by omega, vs]
      simp only [Option.bind_some]
      unfold nxI
      rw [nI_1]
      by_cases hl : lF S.1 i = 0
      · rw [if_pos hl, if_pos hl]
        obtain ⟨n, rfl⟩ : ∃ m, n = m + 1 := ⟨n - 1, by omega⟩
        rw [mv_m1]; rfl
      · rw [if_neg hl, if_neg hl]
        have := nn_lt h hi hl
        exact ih _ (k + 1) n ((h.2.2.1 i hi).2.2 hl).2.1 (by omega) (by omega) (by omega)
theorem vs_none {C : K_Co} {R : Nat → Prop} (h : CR C R) : ∀ (k i : Nat), R i → nn C i < k → vs C k i = none := by
  intro k
  induction k with
  | zero => intro i _ h; omega
  | succ k ih =>
    intro i hi hn
    unfold vs
    by_cases hl : lF C i = 0
    · rw [if_pos hl]
    · rw [if_neg hl]
      have := nn_lt h hi hl
      exact ih _ ((h.2.2.1 i hi).2.2 hl).2.1 (by omega)
theorem place_eq (N : Nat) (hN : 100000000 ≤ N) {U : K_Rv} {R : Nat → Prop} (h : CR U.1.1 R) {r : Nat} (hr : r < 6) (p x3 : Int32) : ∃ o : Option Nat, (∀ j, o = some j → j < 15) ∧ f_Co_placeAt N (nI r) p U.1.1 = some (eI o, U.1.1) ∧ ∀ pl, (if p < 0 then f_Mo_version_51 N N p x3 (-1 : Int32) (0 : Int32) (mkV U.1 U.2.1 U.2.2.1 pl 0 0 0) else (if xi (nI r) 15 = true then (if ((mkV U.1 U.2.1 U.2.2.1 pl 0 0 0).1.1 (nI r).toNatClampNeg) = 0 then f_Mo_version_51 N N p x3 (-1 : Int32) (0 : Int32) (mkV U.1 U.2.1 U.2.2.1 pl 0 0 0) else f_Mo_version_51 N N p x3 (nI r) (0 : Int32) (mkV U.1 U.2.1 U.2.2.1 pl 0 0 0)) else none)) = vfin x3 o U.1 U.2.1 U.2.2.1 pl := by
  have hx := nI_xi (i := r) (n := 15) (by omega) (by omega)
  have hb := h.1.b (i := r) (by omega)
  obtain ⟨N', hN'⟩ : ∃ m, N = m + 1 := ⟨N - 1, by omega⟩
  by_cases hp : p < 0
  · refine ⟨none, (fun j hj => by cases hj), ?_, fun pl => ?_⟩
    · unfold f_Co_placeAt; rw [if_pos hp]; rfl
    · rw [if_pos hp, hN', mv_m1]; rfl
  · obtain ⟨k, hk, rfl⟩ := nI_of hp
    by_cases h0 : bF U.1.1 r = 0
    · have hO : U.1.1.1 r = 0 := by rw [hb.1, h0]; rfl
      refine ⟨none, (fun j hj => by cases hj), ?_, fun pl => ?_⟩
      · unfold f_Co_placeAt
        rw [if_neg hp]
        by_cases h15 : (15 : Int32) ≤ nI k
        · rw [if_pos h15]; rfl
        · rw [if_neg h15, if_pos hx, nI_clamp (by omega), if_pos hO]; rfl
      · rw [if_neg hp, if_pos hx, nI_clamp (by omega), if_pos (show (mkV U.1 U.2.1 U.2.2.1 pl 0 0 0).1.1 r = 0 from hO), hN', mv_m1]; rfl
    · have hO : ¬ U.1.1.1 r = 0 := by rw [hb.1, zn0 (by omega)]; exact h0
      have hRr := h.2.1 r hr h0
      have hnn := nn_le U.1.1 r
      refine ⟨vs U.1.1 k r, fun j hj => h.lt (vs_in h k r j hRr hj), ?_, fun pl => ?_⟩
      · unfold f_Co_placeAt
        rw [if_neg hp]
        by_cases h15 : k < 15
        · rw [if_neg (nle15 h15), if_pos hx, nI_clamp (by omega), if_neg hO]
          exact pl26 N h h15 k 0 N r (by omega) (by omega) hRr
        · rw [if_pos (le15 (by omega) hk), vs_none h k r hRr (by omega)]; rfl
      · rw [if_neg hp, if_pos hx, nI_clamp (by omega), if_neg (show ¬ (mkV U.1 U.2.1 U.2.2.1 pl 0 0 0).1.1 r = 0 from hO)]
        exact mv51 N h x3 hk U.2.1 U.2.2.1 pl 10 r 0 N hRr (by omega) (by omega) (by omega)
theorem op_version (N : Nat) (hN : 100000000 ≤ N) (p1 p2 p3 : Int32) {U : K_Rv} (hU : IR U) : LO (f_La_version N p1 p2 p3) (f_Mo_version N p1 p2 p3) U := by
  rcases rec_cases N p1 with ⟨r, hr, rfl, g1, g2⟩ | ⟨g1, g2⟩
  · have e := in_eq N p3 (a := 0) (b := 2) (by omega) (by omega)
    have e0 : ((0 : Int32)).toInt = 0 := rfl
    have e6 : ((2 : Int32)).toInt = 2 := rfl
    rcases i_cases p3 (a := 0) (b := 2) (by omega) with ⟨x, hx1, hx2, hx3, hx4⟩ | hbad
    · rw [if_pos (by omega)] at e
      have ha : ¬ p3 < 0 := by rw [Int32.lt_iff_toInt_lt]; omega
      have hb : p3 ≤ 2 := by rw [Int32.le_iff_toInt_le]; omega
      obtain ⟨R, hR⟩ := hU.cr
      obtain ⟨o, o1, o2, o3⟩ := place_eq N hN hR hr p2 p3
      have hm : ∀ pl th cr rf, f_Mo_version N (nI r) p2 p3 (mkV U.1 U.2.1 U.2.2.1 pl th cr rf) = vfin p3 o U.1 U.2.1 U.2.2.1 pl := by
        intro pl th cr rf
        unfold f_Mo_version
        rw [begun_eq]
        simp only [Option.bind_some]
        rw [g2]
        simp only [Option.bind_some]
        rw [if_neg (by decide), show f_Mo_in N p3 0 2 = some 1 from e]
        simp only [Option.bind_some]
        rw [if_neg (by decide)]
        exact o3 pl
      cases o with
      | none =>
        refine ⟨2, 0, U, hU, fun out => ⟨out, ?_, fun h => absurd h (by decide)⟩, fun pl th cr rf => ⟨pl, 0, 0, ?_⟩⟩
        · have : f_Rv_version N (nI r) p2 p3 U = some (.inr "java/util/NoSuchElementException", U) := by
            unfold f_Rv_version
            rw [g1]
            simp only [Option.bind_some]
            rw [if_neg ha, if_pos hb, o2]
            simp only [Option.bind_some]
            rw [if_pos (show eI none = -1 from rfl)]
          simp [f_La_version, this]
        · rw [hm]; rfl
      | some j =>
        have hj := o1 j rfl
        have hxj := nI_xi (i := j) (n := 15) hj (by omega)
        refine ⟨0, (if p3 = 0 then U.1.1.1 j else if p3 = 1 then U.1.1.2.1 j else if (6 : Int32) ≤ nI j then nI j - 6 else -1), U, hU, fun out => ⟨vp_updL out 0 (if p3 = 0 then U.1.1.1 j else if p3 = 1 then U.1.1.2.1 j else if (6 : Int32) ≤ nI j then nI j - 6 else -1).toInt64, ?_, fun _ => by unfold vp_updL; rw [if_pos rfl]⟩, fun pl th cr rf => ⟨pl, 0, 0, ?_⟩⟩
        · have : f_Rv_version N (nI r) p2 p3 U = some (.inl (if p3 = 0 then U.1.1.1 j else if p3 = 1 then U.1.1.2.1 j else if (6 : Int32) ≤ nI j then nI j - 6 else -1), U) := by
            unfold f_Rv_version
            rw [g1]
            simp only [Option.bind_some]
            rw [if_neg ha, if_pos hb, o2]
            simp only [Option.bind_some]
            rw [if_neg (show ¬ eI (some j) = -1 from by show ¬ nI j = -1; rw [zm1 (by omega)]; simp)]
            rw [show eI (some j) = nI j from rfl, if_pos hxj, if_pos hxj, nI_clamp (by omega)]
            by_cases h0 : p3 = 0
            · rw [if_pos h0, if_pos h0]
            · rw [if_neg h0, if_neg h0]
              by_cases h1 : p3 = 1
              · rw [if_pos h1, if_pos h1]
              · rw [if_neg h1, if_neg h1]
                split <;> rfl
          unfold f_La_version
          rw [this]; rfl
        · rw [hm]; rfl
    · rw [if_neg (by omega)] at e
      refine ⟨1, 0, U, hU, fun out => ⟨out, ?_, fun h => absurd h (by decide)⟩, fun pl th cr rf => ⟨pl, 0, 0, ?_⟩⟩
      · by_cases ha : p3 < 0
        · simp [f_La_version, f_Rv_version, g1, ha]
        · have hb : ¬ p3 ≤ 2 := by rw [Int32.lt_iff_toInt_lt] at ha; rw [Int32.le_iff_toInt_le]; omega
          simp only [f_La_version, f_Rv_version, g1, if_neg ha, if_neg hb, Option.bind_some]
          simp
      · unfold f_Mo_version
        rw [begun_eq]
        simp only [Option.bind_some]
        rw [g2]
        simp only [Option.bind_some]
        rw [if_neg (by decide), show f_Mo_in N p3 0 2 = some 0 from e]
        simp only [Option.bind_some, if_true]
        rw [raise_eq]; rfl
  · refine ⟨1, 0, U, hU, fun out => ⟨out, ?_, fun h => absurd h (by decide)⟩, fun pl th cr rf => ⟨pl, 0, 0, ?_⟩⟩
    · simp [f_La_version, f_Rv_version, g1]
    · unfold f_Mo_version
      rw [begun_eq]
      simp only [Option.bind_some]
      rw [g2]
      simp only [Option.bind_some, if_true]
      rw [raise_eq]; rfl
end PO8
