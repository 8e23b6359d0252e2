/-! THE PURE PART, 2: numbers, bits, views -/
section PB
theorem zl0 : (0 : Int32) = nI 0 := rfl
theorem zl1 : (1 : Int32) = nI 1 := rfl
theorem zl2 : (2 : Int32) = nI 2 := rfl
theorem zl3 : (3 : Int32) = nI 3 := rfl
theorem zl4 : (4 : Int32) = nI 4 := rfl
theorem zl5 : (5 : Int32) = nI 5 := rfl
theorem zl6 : (6 : Int32) = nI 6 := rfl
theorem zl7 : (7 : Int32) = nI 7 := rfl
theorem zl8 : (8 : Int32) = nI 8 := rfl
theorem zl9 : (9 : Int32) = nI 9 := rfl
theorem zl10 : (10 : Int32) = nI 10 := rfl
theorem zl15 : (15 : Int32) = nI 15 := rfl
theorem zl16 : (16 : Int32) = nI 16 := rfl
theorem zl17 : (17 : Int32) = nI 17 := rfl
theorem zl40 : (40 : Int32) = nI 40 := rfl
theorem nI_xi {i n : Nat} (h : i < n) (hn : n < 2 ^ 31) : xi (nI i) n = true := by
  unfold xi
  rw [nI_clamp (by omega)]
  have := nI_pos (n := i) (by omega)
  simp [this]; omega
theorem zm1 {a : Nat} (h : a < 2 ^ 31) : (nI a = -1) = False := by
  apply eq_false
  intro e
  have := congrArg Int32.toInt e
  rw [nI_toInt h] at this
  have h1 : ((-1 : Int32)).toInt = -1 := by decide
  omega
theorem zm2 {a : Nat} (h : a < 2 ^ 31) : (nI a < nI 0) = False := eq_false (nI_nlt (Nat.zero_le a) h)
theorem zm3 : ((-1 : Int32) < nI 0) = True := eq_true (by decide)
theorem zm4 : (nI 0 ≤ (-1 : Int32)) = False := eq_false (by decide)
theorem zm5 {a : Nat} (h : a < 2 ^ 31) : ((-1 : Int32) = nI a) = False := eq_false (fun e => by have := zm1 h; rw [← e] at this; simp at this)
theorem zn0 {a : Nat} (h : a < 2 ^ 31) : (nI a = 0) = (a = 0) := propext (nI_eq (b := 0) h (by decide))
theorem le6 {k : Nat} (h : 6 ≤ k) (hk : k < 2 ^ 31) : (6 : Int32) ≤ nI k := nI_le (a := 6) h hk
theorem nle6 {k : Nat} (h : k < 6) : ¬ (6 : Int32) ≤ nI k := nI_ge (b := 6) h (by omega)
theorem le7 {k : Nat} (h : 7 ≤ k) (hk : k < 2 ^ 31) : (7 : Int32) ≤ nI k := nI_le (a := 7) h hk
theorem nle7 {k : Nat} (h : k < 7) : ¬ (7 : Int32) ≤ nI k := nI_ge (b := 7) h (by omega)
theorem le9 {k : Nat} (h : 9 ≤ k) (hk : k < 2 ^ 31) : (9 : Int32) ≤ nI k := nI_le (a := 9) h hk
theorem nle9 {k : Nat} (h : k < 9) : ¬ (9 : Int32) ≤ nI k := nI_ge (b := 9) h (by omega)
theorem le15 {k : Nat} (h : 15 ≤ k) (hk : k < 2 ^ 31) : (15 : Int32) ≤ nI k := nI_le (a := 15) h hk
theorem nle15 {k : Nat} (h : k < 15) : ¬ (15 : Int32) ≤ nI k := nI_ge (b := 15) h (by omega)
theorem le16 {k : Nat} (h : 16 ≤ k) (hk : k < 2 ^ 31) : (16 : Int32) ≤ nI k := nI_le (a := 16) h hk
theorem nle16 {k : Nat} (h : k < 16) : ¬ (16 : Int32) ≤ nI k := nI_ge (b := 16) h (by omega)
theorem lt40 {k : Nat} (h : 40 < k) (hk : k < 2 ^ 31) : (40 : Int32) < nI k := nI_lt (a := 40) h hk
theorem nlt40 {k : Nat} (h : k ≤ 40) : ¬ (40 : Int32) < nI k := nI_nlt (a := 40) h (by omega)
/-- a bit of a mask -/
def bz (x : Int32) (i : Nat) : Bool := x.toBitVec.getLsbD i
theorem bz_or (x y : Int32) (i : Nat) : bz (x ||| y) i = (bz x i || bz y i) := by unfold bz; rw [Int32.toBitVec_or, BitVec.getLsbD_or]
theorem bz_and (x y : Int32) (i : Nat) : bz (x &&& y) i = (bz x i && bz y i) := by unfold bz; rw [Int32.toBitVec_and, BitVec.getLsbD_and]
theorem bz_xor (x y : Int32) (i : Nat) : bz (x ^^^ y) i = (bz x i ^^ bz y i) := by unfold bz; rw [Int32.toBitVec_xor, BitVec.getLsbD_xor]
theorem bz_0 (i : Nat) : bz 0 i = false := BitVec.getLsbD_zero
theorem bz_ge {x : Int32} {i : Nat} (h : 32 ≤ i) : bz x i = false := BitVec.getLsbD_of_ge _ _ h
theorem bz_m1 : ∀ i, i < 32 → bz (-1) i = true := by decide +kernel
theorem bz_one7 : ∀ p, p < 7 → ∀ i, i < 32 → bz ((1 : Int32) <<< (nI p &&& 31)) i = decide (i = p) := by decide +kernel
theorem bz_one {p : Nat} (hp : p < 7) (i : Nat) : bz ((1 : Int32) <<< (nI p &&& 31)) i = decide (i = p) := by
  by_cases h : i < 32
  · exact bz_one7 p hp i h
  · rw [bz_ge (by omega)]; symm; simp; omega
theorem bz_not {p : Nat} (hp : p < 7) (x : Int32) (i : Nat) : bz (x &&& (((1 : Int32) <<< (nI p &&& 31)) ^^^ (-1 : Int32))) i = (bz x i && !decide (i = p)) := by
  rw [bz_and, bz_xor, bz_one hp]
  by_cases h : i < 32
  · rw [bz_m1 i h]; cases decide (i = p) <;> simp
  · rw [bz_ge (x := x) (by omega)]; simp
/-- a set of pages -/
def Mk (x : Int32) : Prop := ∀ i, 7 ≤ i → bz x i = false
theorem Mk.or {x y : Int32} (h : Mk x) (h2 : Mk y) : Mk (x ||| y) := fun i hi => by rw [bz_or, h i hi, h2 i hi]; rfl
theorem Mk.one {p : Nat} (hp : p < 7) : Mk ((1 : Int32) <<< (nI p &&& 31)) := fun i hi => by rw [bz_one hp]; simp; omega
theorem Mk.not {p : Nat} (hp : p < 7) {x : Int32} (h : Mk x) : Mk (x &&& (((1 : Int32) <<< (nI p &&& 31)) ^^^ (-1 : Int32))) := fun i hi => by rw [bz_not hp, h i hi]; rfl
theorem Mk.zero : Mk 0 := fun i _ => bz_0 i
theorem s_sl : ∀ p, p < 7 → ((nI p &&& 31).toBitVec.smod 32).toNat = p := by decide +kernel
theorem s_sl64 : ∀ p, p < 64 → (((nI p).toInt64 &&& 63).toBitVec.smod 64).toNat = p := by decide +kernel
theorem bz_and1 (y : Int32) : y &&& 1 = 0 ↔ bz y 0 = false := by
  constructor
  · intro h
    have := congrArg (fun z => bz z 0) h
    simp only [bz_and, bz_0] at this
    rw [show bz 1 0 = true from by decide] at this
    simpa using this
  · intro h
    apply Int32.toBitVec_inj.mp
    apply BitVec.eq_of_getLsbD_eq
    intro i hi
    show bz (y &&& 1) i = bz 0 i
    rw [bz_and, bz_0]
    by_cases h0 : i = 0
    · subst h0; rw [h]; rfl
    · have : bz 1 i = false := by
        have : ∀ i, i < 32 → i ≠ 0 → bz 1 i = false := by decide +kernel
        exact this i hi h0
      rw [this]; simp
theorem bz_shr {p : Nat} (hp : p < 7) (x : Int32) : bz (x >>> (nI p &&& 31)) 0 = bz x p := by
  unfold bz
  rw [Int32.toBitVec_shiftRight]
  show (x.toBitVec.sshiftRight ((nI p &&& 31).toBitVec.smod 32).toNat).getLsbD 0 = _
  rw [s_sl p hp, BitVec.getLsbD_sshiftRight]
  simp; omega
theorem mo_bit {p : Nat} (hp : p < 7) (x : Int32) : ((x >>> (nI p &&& 31)) &&& (1 : Int32)) = 0 ↔ bz x p = false := by rw [bz_and1, bz_shr hp]
/-- a bit of a long -/
def by64 (x : Int64) (i : Nat) : Bool := x.toBitVec.getLsbD i
theorem by_and1 (y : Int64) : y &&& 1 = 0 ↔ by64 y 0 = false := by
  unfold by64
  constructor
  · intro h
    have := congrArg (fun z : Int64 => z.toBitVec.getLsbD 0) h
    simp only [Int64.toBitVec_and, BitVec.getLsbD_and] at this
    rw [show ((1 : Int64)).toBitVec.getLsbD 0 = true from by decide, show ((0 : Int64)).toBitVec.getLsbD 0 = false from by decide] at this
    simpa using this
  · intro h
    apply Int64.toBitVec_inj.mp
    apply BitVec.eq_of_getLsbD_eq
    intro i hi
    rw [Int64.toBitVec_and, BitVec.getLsbD_and]
    have h64 : ∀ i, i < 64 → ((0 : Int64)).toBitVec.getLsbD i = false ∧ (i ≠ 0 → ((1 : Int64)).toBitVec.getLsbD i = false) := by decide +kernel
    rw [(h64 i hi).1]
    by_cases h0 : i = 0
    · subst h0; rw [h]; rfl
    · rw [(h64 i hi).2 h0]; simp
theorem by_shr {p : Nat} (hp : p < 64) (x : Int64) : by64 (x >>> ((nI p).toInt64 &&& 63)) 0 = by64 x p := by
  unfold by64
  rw [Int64.toBitVec_shiftRight]
  show (x.toBitVec.sshiftRight (((nI p).toInt64 &&& 63).toBitVec.smod 64).toNat).getLsbD 0 = _
  rw [s_sl64 p hp, BitVec.getLsbD_sshiftRight]
  simp; omega
theorem lgc0 (y : Int64) : lg_cmp y 0 = 0 ↔ y = 0 := by
  unfold lg_cmp
  by_cases h : y = 0
  · subst h; simp
  · rw [if_neg h]
    by_cases h2 : y > 0 <;> simp [h2, h]
theorem lgc_self (y : Int64) : lg_cmp y y = 0 := by unfold lg_cmp; simp
theorem has_long {p : Nat} (hp : p < 64) (x : Int64) : (lg_cmp ((x >>> ((nI p).toInt64 &&& 63)) &&& (1 : Int64)) (0 : Int64)) = 0 ↔ by64 x p = false := by rw [lgc0, by_and1, by_shr hp]
theorem by_int {p : Nat} (hp : p < 7) (x : Int32) : by64 x.toInt64 p = bz x p := by
  unfold by64 bz
  rw [Int32.toBitVec_toInt64, BitVec.getLsbD_signExtend, if_pos (by omega)]
  rw [show decide (p < 64) = true from decide_eq_true (by omega)]; rfl
theorem f_has (N : Nat) {p : Nat} (hp : p < 64) (x : Int64) : f_Rv_has N x (nI p) = some (if by64 x p = true then 1 else 0) := by
  unfold f_Rv_has
  by_cases h : by64 x p = true
  · rw [if_neg, if_pos h]
    rw [has_long hp, h]; simp
  · rw [if_pos, if_neg h]
    rw [has_long hp]; simpa using h
theorem f_has7 (N : Nat) {p : Nat} (hp : p < 7) (x : Int32) : f_Rv_has N x.toInt64 (nI p) = some (if bz x p = true then 1 else 0) := by
  rw [f_has N (by omega), by_int hp]
theorem by_or (x y : Int64) (i : Nat) : by64 (x ||| y) i = (by64 x i || by64 y i) := by unfold by64; rw [Int64.toBitVec_or, BitVec.getLsbD_or]
theorem by_and (x y : Int64) (i : Nat) : by64 (x &&& y) i = (by64 x i && by64 y i) := by unfold by64; rw [Int64.toBitVec_and, BitVec.getLsbD_and]
theorem by_0 (i : Nat) : by64 0 i = false := BitVec.getLsbD_zero
theorem by_one41 : ∀ p, p < 41 → ∀ i, i < 64 → by64 ((1 : Int64) <<< ((nI p).toInt64 &&& 63)) i = decide (i = p) := by decide +kernel
theorem by_one {p : Nat} (hp : p < 41) (i : Nat) : by64 ((1 : Int64) <<< ((nI p).toInt64 &&& 63)) i = decide (i = p) := by
  by_cases h : i < 64
  · exact by_one41 p hp i h
  · have : by64 ((1 : Int64) <<< ((nI p).toInt64 &&& 63)) i = false := BitVec.getLsbD_of_ge _ _ (by omega)
    rw [this]; symm; simp; omega
theorem pgI {i : Nat} (h : i < 15) (N : Nat) : f_Rv_pageOf N (nI i) = some (nI (pgN i)) := by
  have : ∀ i, i < 15 → f_Rv_pageOf 0 (nI i) = some (nI (pgN i)) := by decide +kernel
  exact this i h
theorem pgM {i : Nat} (h : i < 15) (N : Nat) : f_Mo_pageOf N (nI i) = some (nI (pgN i)) := by
  have : ∀ i, i < 15 → f_Mo_pageOf 0 (nI i) = some (nI (pgN i)) := by decide +kernel
  exact this i h
theorem nar0 : vp_nar .boolean (0 : Int32) = 0 := rfl
theorem nar1 : vp_nar .boolean (1 : Int32) = 1 := rfl
theorem upd_s (f : Nat → Int32) (k : Nat) (x : Int32) : upd f k x k = x := by unfold upd; rw [if_pos rfl]
theorem upd_o (f : Nat → Int32) {k j : Nat} (x : Int32) (h : j ≠ k) : upd f k x j = f j := by unfold upd; rw [if_neg h]
/-- the reference's link of the class's -/
def cv (l : Int32) : Int32 := if l = 0 then 0 else if l = -1 then -1 else l - 6
theorem cv_m1 : cv (-1) = -1 := by decide
theorem cv_n {k : Nat} (h : 6 ≤ k) (h2 : k < 15) : cv (nI k) = nI (k - 6) := by
  have : ∀ k, k < 15 → 6 ≤ k → cv (nI k) = nI (k - 6) := by decide +kernel
  exact this k h2 h
def dA (d : Int32) : Nat → Int32 := fun p => if p < 7 ∧ bz d p = true then 1 else 0
theorem dA_or (d : Int32) {p : Nat} (hp : p < 7) : upd (dA d) p 1 = dA (d ||| ((1 : Int32) <<< (nI p &&& 31))) := by
  funext i
  unfold upd dA
  rw [bz_or, bz_one hp]
  by_cases h : i = p
  · subst h; simp [hp]
  · simp [h]
theorem dA_not (d : Int32) {p : Nat} (hp : p < 7) : upd (dA d) p 0 = dA (d &&& (((1 : Int32) <<< (nI p &&& 31)) ^^^ (-1 : Int32))) := by
  funext i
  unfold upd dA
  rw [bz_not hp]
  by_cases h : i = p
  · subst h; simp
  · simp [h]
theorem dA_0 (d : Int32) {p : Nat} (hp : p < 7) : dA d p = 0 ↔ bz d p = false := by
  unfold dA
  cases h : bz d p <;> simp [hp]
def vC (C : K_Co) : K_Co := (C.1, (C.2.1, ((fun i => cv (C.2.2.1 i)), C.2.2.2)))
/-- the reference's memory, of the class's -/
def mkV (S : K_St) (cb : Nat → Int64) (ch : Nat → Int32) (pl : Nat → Int32) (th cr rf : Int32) : K_Mo :=
  (vC S.1, (vC S.2.1, (dA S.2.2.2.1, (S.2.2.1, (ch, (cb, (pl, (th, (S.2.2.2.2.1, (S.2.2.2.2.2.1, (S.2.2.2.2.2.2, (cr, rf))))))))))))
theorem cv_upd (l : Nat → Int32) (k : Nat) (x : Int32) : (fun i => cv (upd l k x i)) = upd (fun i => cv (l i)) k (cv x) := by
  funext i; unfold upd; split <;> rfl
/-- what a content's numbers are -/
def Bd (C : K_Co) : Prop := (∀ i, i < 15 → ∃ k, k ≤ 40 ∧ C.1 i = nI k) ∧ (∀ i, i < 15 → C.2.1 i = -1 ∨ 0 ≤ C.2.1 i) ∧ (∀ i, i < 15 → C.2.2.1 i = -1 ∨ ∃ k, 6 ≤ k ∧ k < 15 ∧ C.2.2.1 i = nI k) ∧ C.2.2.2 0 = 0 ∧ (∀ i j, 1 ≤ i → i ≤ j → j ≤ 40 → C.2.2.2 i = 0 → C.2.2.2 j = 0)
def bF (C : K_Co) : Nat → Nat := fun i => (C.1 i).toNatClampNeg
def lF (C : K_Co) : Nat → Nat := fun i => if C.2.2.1 i = -1 then 0 else (C.2.2.1 i).toNatClampNeg
theorem Bd.b {C : K_Co} (h : Bd C) {i : Nat} (hi : i < 15) : C.1 i = nI (bF C i) ∧ bF C i ≤ 40 := by
  obtain ⟨k, hk, e⟩ := h.1 i hi
  unfold bF
  rw [e, nI_clamp (by omega)]
  exact ⟨rfl, hk⟩
theorem Bd.l {C : K_Co} (h : Bd C) {i : Nat} (hi : i < 15) : (C.2.2.1 i = -1 ∧ lF C i = 0) ∨ (C.2.2.1 i = nI (lF C i) ∧ 6 ≤ lF C i ∧ lF C i < 15) := by
  unfold lF
  rcases h.2.2.1 i hi with e | ⟨k, h6, h15, e⟩
  · rw [e]; exact Or.inl ⟨rfl, if_pos rfl⟩
  · right
    rw [e, if_neg (by rw [zm1 (by omega)]; simp), nI_clamp (by omega)]
    exact ⟨rfl, h6, h15⟩
/-- how many of 1..k are active -/
def cA (st : Nat → Int32) : Nat → Nat
  | 0 => 0
  | k + 1 => cA st k + (if st (k + 1) = 1 then 1 else 0)
theorem cA_le (st : Nat → Int32) (k : Nat) : cA st k ≤ k := by
  induction k with
  | zero => exact Nat.le_refl _
  | succ k ih => unfold cA; split <;> omega
theorem cA_upd (st : Nat → Int32) (T : Nat) (v : Int32) (k : Nat) : cA (upd st T v) k ≤ cA st k + 1 ∧ (k < T → cA (upd st T v) k = cA st k) ∧ (v ≠ 1 → cA (upd st T v) k ≤ cA st k) := by
  induction k with
  | zero => unfold cA; simp
  | succ k ih =>
    obtain ⟨i1, i2, i3⟩ := ih
    unfold cA upd
    unfold upd at i1 i2 i3
    by_cases h : k + 1 = T
    · rw [if_pos h]
      have := i2 (by omega)
      refine ⟨by split <;> split <;> omega, fun h => by omega, fun hv => by rw [if_neg hv]; omega⟩
    · rw [if_neg h]
      refine ⟨by split <;> omega, fun h => by rw [i2 (by omega)], fun hv => by have := i3 hv; split <;> omega⟩
theorem cA_zero {st : Nat → Int32} (k : Nat) (h : ∀ i, 1 ≤ i → i ≤ k → st i ≠ 1) : cA st k = 0 := by
  induction k with
  | zero => rfl
  | succ k ih =>
    unfold cA
    rw [ih (fun i h1 h2 => h i h1 (by omega)), if_neg (h (k + 1) (by omega) (by omega))]
end PB
