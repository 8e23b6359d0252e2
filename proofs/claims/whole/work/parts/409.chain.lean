/-! THE PURE PART, 10: chains read: both sides -/
section PC
def nxI (C : K_Co) (i : Nat) : Int32 := if lF C i = 0 then -1 else nI (lF C i)
def CR (C : K_Co) (R : Nat → Prop) : Prop := Bd C ∧ Cert (bF C) (lF C) R
theorem CR.lt {C : K_Co} {R : Nat → Prop} (h : CR C R) {i : Nat} (hi : R i) : i < 15 := (h.2.2.1 i hi).1
theorem CR.row {C : K_Co} {R : Nat → Prop} (h : CR C R) {i : Nat} (hi : R i) : (C.2.2.1 i = -1 ∧ lF C i = 0) ∨ (C.2.2.1 i = nI (lF C i) ∧ lF C i ≠ 0 ∧ 6 ≤ lF C i ∧ lF C i < 15 ∧ R (lF C i) ∧ ¬ C.1 (lF C i) = 0) := by
  rcases h.1.l (h.lt hi) with e | ⟨e, h6, h15⟩
  · exact Or.inl e
  · right
    have hR := ((h.2.2.1 i hi).2.2 (by omega)).2.1
    refine ⟨e, by omega, h6, h15, hR, ?_⟩
    have := h.1.b h15
    rw [this.1, zn0 (by omega)]
    exact (h.2.2.1 _ hR).2.1
theorem CR.own {C : K_Co} {R : Nat → Prop} (h : CR C R) {i : Nat} (hi : R i) : ∃ k, C.1 i = nI k ∧ k = bF C i ∧ 1 ≤ k ∧ k ≤ 40 := by
  have := h.1.b (h.lt hi)
  have h2 := (h.2.2.1 i hi).2.1
  exact ⟨_, this.1, rfl, by omega, this.2⟩
theorem next_eq (N : Nat) {C : K_Co} {R : Nat → Prop} (h : CR C R) {i : Nat} (hi : R i) : f_Co_next N (nI i) C = some (nxI C i, C) := by
  have h15 := h.lt hi
  unfold f_Co_next nxI
  rw [if_pos (nI_xi h15 (by omega)), nI_clamp (by omega)]
  rcases h.row hi with ⟨e1, e2⟩ | ⟨e1, e2, e3, e4, e5, e6⟩
  · rw [if_pos e1, if_pos e2]
  · rw [e1, if_neg (by rw [zm1 (by omega)]; simp), if_pos (nI_xi (by omega) (by omega)), nI_clamp (by omega), if_neg e6, if_neg e2]
theorem cv_row {C : K_Co} {R : Nat → Prop} (h : CR C R) {i : Nat} (hi : R i) : (cv (C.2.2.1 i) = -1 ∧ lF C i = 0) ∨ (cv (C.2.2.1 i) = nI (lF C i - 6) ∧ (6 : Int32) + nI (lF C i - 6) = nI (lF C i) ∧ lF C i ≠ 0 ∧ 6 ≤ lF C i ∧ lF C i < 15 ∧ R (lF C i) ∧ ¬ C.1 (lF C i) = 0) := by
  rcases h.row hi with ⟨e1, e2⟩ | ⟨e1, e2, e3, e4, e5, e6⟩
  · exact Or.inl ⟨by rw [e1, cv_m1], e2⟩
  · exact Or.inr ⟨by rw [e1, cv_n e3 e4], by rw [zl6, nI_add, show 6 + (lF C i - 6) = lF C i from by omega], e2, e3, e4, e5, e6⟩
theorem behind_eq (N : Nat) {S : K_St} {R : Nat → Prop} (h : CR S.1 R) {i : Nat} (hi : R i) (cb : Nat → Int64) (ch pl : Nat → Int32) (th cr rf : Int32) : f_Mo_behind N (nI i) (mkV S cb ch pl th cr rf) = some (nxI S.1 i, mkV S cb ch pl th cr rf) := by
  have h15 := h.lt hi
  have hx := nI_xi h15 (show 15 < 2 ^ 31 by omega)
  unfold f_Mo_behind nxI
  rw [if_pos hx, if_pos hx, if_pos hx, nI_clamp (by omega)]
  show (if cv (S.1.2.2.1 i) < 0 then _ else (if xi (6 + cv (S.1.2.2.1 i)) 15 = true then (if S.1.1 (6 + cv (S.1.2.2.1 i)).toNatClampNeg = 0 then _ else some (6 + cv (S.1.2.2.1 i), _)) else none)) = _
  rcases cv_row h hi with ⟨e1, e2⟩ | ⟨e1, e0, e2, e3, e4, e5, e6⟩
  · rw [e1, if_pos (by decide), if_pos e2]
  · rw [e1, e0, if_neg (nI_pos (by omega)), if_pos (nI_xi (by omega) (by omega)), nI_clamp (by omega), if_neg e6, if_neg e2]
/-- how far a chain can go from here -/
def nn (C : K_Co) (i : Nat) : Nat := cn (fun k => bF C (6 + k)) (bF C i) 9
theorem nn_le (C : K_Co) (i : Nat) : nn C i ≤ 9 := cn_le _ _ _
theorem nn_lt {C : K_Co} {R : Nat → Prop} (h : CR C R) {i : Nat} (hi : R i) (hn : lF C i ≠ 0) : nn C (lF C i) < nn C i := by
  obtain ⟨g1, g2, g3⟩ := (h.2.2.1 i hi).2.2 hn
  have h15 := h.lt g2
  have e : 6 + (lF C i - 6) = lF C i := by omega
  exact cn_lt (fun k => bF C (6 + k)) (p := lF C i - 6) (by omega) (by show ¬ bF C (6 + (lF C i - 6)) < _; rw [e]; omega) (by show bF C (6 + (lF C i - 6)) < _; rw [e]; exact g3) 9 (by omega)
def fs (C : K_Co) (g : Nat → Bool) : Nat → Nat → Option Nat
  | 0, _ => none
  | v + 1, i => if g i = true then some i else if lF C i = 0 then none else fs C g v (lF C i)
def gV (C : K_Co) : Option Nat → Int32
  | none => -1
  | some j => C.2.1 j
def eI : Option Nat → Int32
  | none => -1
  | some j => nI j
theorem fs_in {C : K_Co} {R : Nat → Prop} (h : CR C R) (g : Nat → Bool) : ∀ (v i j : Nat), R i → fs C g v i = some j → R j ∧ g j = true ∧ Rc (lF C) i j := by
  intro v
  induction v with
  | zero => intro i j _ h; cases h
  | succ v ih =>
    intro i j hi hf
    unfold fs at hf
    by_cases hg : g i = true
    · rw [if_pos hg] at hf; cases hf; exact ⟨hi, hg, Rc.refl _ _⟩
    · rw [if_neg hg] at hf
      by_cases hl : lF C i = 0
      · rw [if_pos hl] at hf; cases hf
      · rw [if_neg hl] at hf
        obtain ⟨k1, k2, k3⟩ := ih _ j ((h.2.2.1 i hi).2.2 hl).2.1 hf
        exact ⟨k1, k2, fun A h0 hs => k3 A (hs i h0 hl) hs⟩
theorem first11 (N : Nat) {C : K_Co} {R : Nat → Prop} (h : CR C R) (set : Int64) : ∀ (v i k n : Nat), R i → nn C i < v → k + v ≤ 15 → v < n → f_Co_firstOf_11 N n set (nI i) (nI k) C = some (eI (fs C (fun i => by64 set (bF C i)) v i), C) := by
  intro v
  induction v with
  | zero => intro i k n _ h; omega
  | succ v ih =>
    intro i k n hi hv hk hn
    obtain ⟨n, rfl⟩ : ∃ m, n = m + 1 := ⟨n - 1, by omega⟩
    have h15 := h.lt hi
    obtain ⟨o, ho, ho2, ho3, ho4⟩ := h.own hi
    rw [f_Co_firstOf_11, if_neg (nle15 (k := k) (by omega)), if_neg (by rw [zm1 (by omega)]; simp), if_pos (nI_xi h15 (by omega)), nI_clamp (by omega), ho, f_has N (by omega)]
    simp only [Option.bind_some]
    rw [fs, ← ho2]
    by_cases hg : by64 set o = true
    · rw [if_pos hg, if_neg (by decide), if_pos hg]; rfl
    · rw [if_neg hg, if_pos rfl, if_neg hg, next_eq N h hi]
      simp only [Option.bind_some]
      unfold nxI
      rw [nI_1]
      by_cases hl : lF C i = 0
      · rw [if_pos hl, if_pos hl]
        obtain ⟨n, rfl⟩ : ∃ m, n = m + 1 := ⟨n - 1, by omega⟩
        rw [f_Co_firstOf_11]
        split
        · rfl
        · rw [if_pos rfl]; rfl
      · rw [if_neg hl, if_neg hl]
        have := nn_lt h hi hl
        exact ih _ (k + 1) n ((h.2.2.1 i hi).2.2 hl).2.1 (by omega) (by omega) (by omega)
/-- the first row of r's chain that g takes -/
def fr (C : K_Co) (g : Nat → Bool) (r : Nat) : Option Nat := if bF C r = 0 then none else fs C g 10 r
theorem first_eq (N : Nat) (hN : 100000000 ≤ N) {C : K_Co} {R : Nat → Prop} (h : CR C R) (set : Int64) {r : Nat} (hr : r < 6) : f_Co_firstOf N set (nI r) C = some (eI (fr C (fun i => by64 set (bF C i)) r), C) := by
  unfold f_Co_firstOf f_Co_placeAt fr
  have hb := h.1.b (i := r) (by omega)
  rw [if_neg (by decide), if_neg (by decide), if_pos (nI_xi (by omega) (by omega)), nI_clamp (by omega), hb.1]
  simp only [zn0 (show bF C r < 2 ^ 31 by omega)]
  by_cases h0 : bF C r = 0
  · rw [if_pos h0, if_pos h0]
    simp only [Option.bind_some]
    obtain ⟨n, rfl⟩ : ∃ m, N = m + 1 := ⟨N - 1, by omega⟩
    rw [f_Co_firstOf_11, if_neg (by decide), if_pos rfl]; rfl
  · rw [if_neg h0, if_neg h0]
    obtain ⟨n, e⟩ : ∃ m, N = m + 1 := ⟨N - 1, by omega⟩
    have e2 : f_Co_placeAt_26 N N 0 (nI r) 0 C = some (nI r, C) := by
      rw [e, f_Co_placeAt_26, if_pos (by decide)]
    rw [e2]
    simp only [Option.bind_some]
    have := nn_le C r
    exact first11 N h set 10 r 0 N (h.2.1 r hr h0) (by omega) (by omega) (by omega)
theorem fr_in {C : K_Co} {R : Nat → Prop} (h : CR C R) (g : Nat → Bool) {r j : Nat} (hr : r < 6) (hf : fr C g r = some j) : R j ∧ g j = true ∧ Rc (lF C) r j ∧ bF C r ≠ 0 := by
  unfold fr at hf
  by_cases h0 : bF C r = 0
  · rw [if_pos h0] at hf; cases hf
  · rw [if_neg h0] at hf
    obtain ⟨k1, k2, k3⟩ := fs_in h g 10 r j (h.2.1 r hr h0) hf
    exact ⟨k1, k2, k3, h0⟩
theorem seen_eq (N : Nat) {S : K_St} {R : Nat → Prop} (h : CR S.1 R) {i T : Nat} (hi : R i) (hT : T ≤ 40) (cb : Nat → Int64) (ch pl : Nat → Int32) (th cr rf : Int32) : f_Mo_seen N (nI T) (nI i) (mkV S cb ch pl th cr rf) = some (if by64 (cb T ||| ((1 : Int64) <<< ((nI T).toInt64 &&& 63))) (bF S.1 i) = true then 1 else 0, mkV S cb ch pl th cr rf) := by
  have h15 := h.lt hi
  have hx := nI_xi h15 (show 15 < 2 ^ 31 by omega)
  obtain ⟨o, ho, ho2, ho3, ho4⟩ := h.own hi
  unfold f_Mo_seen
  rw [if_pos hx, nI_clamp (by omega), ← ho2, by_or, by_one (by omega)]
  show (if S.1.1 i = nI T then _ else (if xi (nI T) 41 = true then (if xi (nI i) 15 = true then (if (lg_cmp (((cb (nI T).toNatClampNeg) >>> ((S.1.1 i).toInt64 &&& 63)) &&& (1 : Int64)) (0 : Int64)) = 0 then _ else _) else none) else none)) = _
  rw [ho, if_pos hx, if_pos (nI_xi (by omega) (by omega)), nI_clamp (by omega)]
  by_cases hoT : o = T
  · rw [if_pos (by rw [hoT]), if_pos (by simp [hoT])]
  · rw [if_neg (fun e => hoT ((nI_eq (by omega) (by omega)).mp e))]
    by_cases hb : by64 (cb T) o = false
    · rw [if_pos ((has_long (by omega) _).mpr hb), if_neg (by simp [hb, hoT])]
    · rw [if_neg (fun h => hb ((has_long (by omega) _).mp h)), if_pos (by simp at hb; simp [hb])]
theorem reads13 (N : Nat) {S : K_St} {R : Nat → Prop} (h : CR S.1 R) {T : Nat} (hT : T ≤ 40) (cb : Nat → Int64) (ch pl : Nat → Int32) (th cr rf : Int32) : ∀ (v i n : Nat), R i → nn S.1 i < v → v < n → f_Mo_reads_13 N n (nI T) (nI i) (mkV S cb ch pl th cr rf) = some (gV S.1 (fs S.1 (fun i => by64 (cb T ||| ((1 : Int64) <<< ((nI T).toInt64 &&& 63))) (bF S.1 i)) v i), mkV S cb ch pl th cr rf) := by
  intro v
  induction v with
  | zero => intro i n _ h; omega
  | succ v ih =>
    intro i n hi hv hn
    obtain ⟨n, rfl⟩ : ∃ m, n = m + 1 := ⟨n - 1, by omega⟩
    have h15 := h.lt hi
    rw [f_Mo_reads_13, if_neg (nI_pos (by omega)), seen_eq N h hi hT]
    simp only [Option.bind_some]
    rw [fs]
    by_cases hg : by64 (cb T ||| ((1 : Int64) <<< ((nI T).toInt64 &&& 63))) (bF S.1 i) = true
    · rw [if_pos hg, if_neg (by decide), if_pos (nI_xi h15 (by omega)), nI_clamp (by omega), if_pos hg]; rfl
    · rw [if_neg hg, if_pos rfl, if_neg hg, behind_eq N h hi]
      simp only [Option.bind_some]
      unfold nxI
      by_cases hl : lF S.1 i = 0
      · rw [if_pos hl, if_pos hl]
        obtain ⟨n, rfl⟩ : ∃ m, n = m + 1 := ⟨n - 1, by omega⟩
        rw [f_Mo_reads_13, if_pos (by decide)]; rfl
      · rw [if_neg hl, if_neg hl]
        have := nn_lt h hi hl
        exact ih _ n ((h.2.2.1 i hi).2.2 hl).2.1 (by omega) (by omega)
theorem reads_eq (N : Nat) (hN : 100000000 ≤ N) {S : K_St} {R : Nat → Prop} (h : CR S.1 R) {T r : Nat} (hT : T ≤ 40) (hr : r < 6) (cb : Nat → Int64) (ch pl : Nat → Int32) (th cr rf : Int32) : f_Mo_reads N (nI T) (nI r) (mkV S cb ch pl th cr rf) = some (gV S.1 (fr S.1 (fun i => by64 (cb T ||| ((1 : Int64) <<< ((nI T).toInt64 &&& 63))) (bF S.1 i)) r), mkV S cb ch pl th cr rf) := by
  unfold f_Mo_reads fr
  have hb := h.1.b (i := r) (by omega)
  rw [if_pos (nI_xi (by omega) (by omega)), nI_clamp (by omega)]
  show (if S.1.1 r = 0 then _ else _) = _
  rw [hb.1]
  simp only [zn0 (show bF S.1 r < 2 ^ 31 by omega)]
  by_cases h0 : bF S.1 r = 0
  · rw [if_pos h0, if_pos h0]; rfl
  · rw [if_neg h0, if_neg h0]
    have := nn_le S.1 r
    exact reads13 N h hT cb ch pl th cr rf 10 r N (h.2.1 r hr h0) (by omega) (by omega)
end PC
