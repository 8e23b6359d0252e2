/-! THE PURE PART, 21: the law's loop, the beginning -/
section PL
theorem LO.step {N : Nat} {fl : K_LH → Option (Int32 × K_LH)} {fm : K_Mo → Option (Int32 × K_Mo)} {U : K_Rv} (h : LO fl fm U) (k : K_La → Option Int32) (out : Nat → Int64) (pl : Nat → Int32) (th cr rf : Int32) (hk : ∀ (U' : K_Rv) (out' : Nat → Int64) (pl' : Nat → Int32) (th' cr' rf' : Int32), IR U' → k (U', (mkV U'.1 U'.2.1 U'.2.2.1 pl' th' cr' rf', out')) = some 1) :
    ((fl (U, out)).bind fun z3 => ((fm (mkV U.1 U.2.1 U.2.2.1 pl th cr rf)).bind fun z4 => ((f_Mo_thrown N z4.2).bind fun z5 => (if z5.1 = z3.1 then (if z3.1 = 0 then (if (lg_cmp (z3.2.2 (0 : Int32).toNatClampNeg) (z4.1).toInt64) = 0 then k (z3.2.1, (z5.2, z3.2.2)) else some (0 : Int32)) else k (z3.2.1, (z5.2, z3.2.2))) else some (0 : Int32))))) = some 1 := by
  obtain ⟨c, v, U', hU', hl, hm⟩ := h
  obtain ⟨out', hl1, hl2⟩ := hl out
  obtain ⟨pl', cr', rf', hm⟩ := hm pl th cr rf
  rw [hl1]
  simp only [Option.bind_some]
  rw [hm]
  simp only [Option.bind_some]
  unfold f_Mo_thrown
  simp only [Option.bind_some]
  rw [if_pos (show (mkV U'.1 U'.2.1 U'.2.2.1 pl' c cr' rf').2.2.2.2.2.2.2.1 = c from rfl)]
  by_cases h0 : c = 0
  · rw [if_pos h0, if_pos (by rw [show out' ((0 : Int32)).toNatClampNeg = v.toInt64 from hl2 h0]; exact lgc_self _)]
    exact hk U' out' pl' c cr' rf' hU'
  · rw [if_neg h0]
    exact hk U' out' pl' c cr' rf' hU'
set_option maxHeartbeats 8000000 in
theorem law_ok (N : Nat) (hN : 100000000 ≤ N) (xs : Nat → Int32) (L : Nat) (hL : L ≤ 2048) : ∀ (n k : Nat) (U : K_Rv) (out : Nat → Int64) (pl : Nat → Int32) (th cr rf : Int32), IR U → 4 * k ≤ L → L + 4 ≤ 4 * (k + n) → f_La_law_23 N xs L n (nI (4 * k)) (U, (mkV U.1 U.2.1 U.2.2.1 pl th cr rf, out)) = some 1 := by
  intro n
  induction n with
  | zero => intro k U out pl th cr rf _ h1 h2; omega
  | succ n ih =>
    intro k U out pl th cr rf hU h1 h2
    have hLs : ((Int32.ofNat L) - (4 : Int32)).toInt = (L : Int) - 4 := pk_sub_toInt (a := L) (b := 4) (by omega) (by omega)
    have hk4 : (nI (4 * k)).toInt = ((4 * k : Nat) : Int) := nI_toInt (by omega)
    rw [f_La_law_23]
    by_cases hstop : ((Int32.ofNat L) - (4 : Int32)) < nI (4 * k)
    · rw [if_pos hstop]
    · rw [if_neg hstop]
      rw [Int32.lt_iff_toInt_lt, hLs, hk4] at hstop
      have hx0 : xi (nI (4 * k)) L = true := nI_xi (by omega) (by omega)
      have e1 : nI (4 * k) + 1 = nI (4 * k + 1) := nI_1 _
      have e2 : nI (4 * k) + 2 = nI (4 * k + 2) := by rw [zl2, nI_add]
      have e3 : nI (4 * k) + 3 = nI (4 * k + 3) := by rw [zl3, nI_add]
      have e4 : nI (4 * k) + 4 = nI (4 * (k + 1)) := by rw [zl4, nI_add]; rfl
      have hx1 : xi (nI (4 * k) + 1) L = true := by rw [e1]; exact nI_xi (by omega) (by omega)
      have hx2 : xi (nI (4 * k) + 2) L = true := by rw [e2]; exact nI_xi (by omega) (by omega)
      have hx3 : xi (nI (4 * k) + 3) L = true := by rw [e3]; exact nI_xi (by omega) (by omega)
      have hk : ∀ (U' : K_Rv) (out' : Nat → Int64) (pl' : Nat → Int32) (th' cr' rf' : Int32), IR U' → (fun z => f_La_law_23 N xs L n (nI (4 * k) + 4) z) (U', (mkV U'.1 U'.2.1 U'.2.2.1 pl' th' cr' rf', out')) = some 1 := by
        intro U' out' pl' th' cr' rf' hU'
        show f_La_law_23 N xs L n (nI (4 * k) + 4) _ = some 1
        rw [e4]
        exact ih (k + 1) U' out' pl' th' cr' rf' hU' (by omega) (by omega)
      rw [if_pos hx0]
      by_cases h0 : ((xs (nI (4 * k)).toNatClampNeg) &&& (15 : Int32)) = (0 : Int32)
      · rw [if_pos h0]
        exact LO.step (op_begin N hN hU) (fun z => f_La_law_23 N xs L n (nI (4 * k) + 4) z) out pl th cr rf hk
      rw [if_neg h0]
      by_cases h1 : ((xs (nI (4 * k)).toNatClampNeg) &&& (15 : Int32)) = (1 : Int32)
      · rw [if_pos h1]
        simp only [if_pos hx1, if_pos hx2]
        exact LO.step (op_read N hN _ _ hU) (fun z => f_La_law_23 N xs L n (nI (4 * k) + 4) z) out pl th cr rf hk
      rw [if_neg h1]
      by_cases h2 : ((xs (nI (4 * k)).toNatClampNeg) &&& (15 : Int32)) = (2 : Int32)
      · rw [if_pos h2]
        simp only [if_pos hx1, if_pos hx2, if_pos hx3]
        exact LO.step (op_write N hN _ _ _ hU) (fun z => f_La_law_23 N xs L n (nI (4 * k) + 4) z) out pl th cr rf hk
      rw [if_neg h2]
      by_cases h3 : ((xs (nI (4 * k)).toNatClampNeg) &&& (15 : Int32)) = (3 : Int32)
      · rw [if_pos h3]
        simp only [if_pos hx1, if_pos hx2]
        exact LO.step (op_erase N hN _ _ hU) (fun z => f_La_law_23 N xs L n (nI (4 * k) + 4) z) out pl th cr rf hk
      rw [if_neg h3]
      by_cases h4 : ((xs (nI (4 * k)).toNatClampNeg) &&& (15 : Int32)) = (4 : Int32)
      · rw [if_pos h4]
        simp only [if_pos hx1]
        exact LO.step (op_commit N hN _ hU) (fun z => f_La_law_23 N xs L n (nI (4 * k) + 4) z) out pl th cr rf hk
      rw [if_neg h4]
      by_cases h5 : ((xs (nI (4 * k)).toNatClampNeg) &&& (15 : Int32)) = (5 : Int32)
      · rw [if_pos h5]
        simp only [if_pos hx1]
        exact LO.step (op_rollback N _ hU) (fun z => f_La_law_23 N xs L n (nI (4 * k) + 4) z) out pl th cr rf hk
      rw [if_neg h5]
      by_cases h6 : ((xs (nI (4 * k)).toNatClampNeg) &&& (15 : Int32)) = (6 : Int32)
      · rw [if_pos h6]
        obtain ⟨v, U', k1, k2, k3⟩ := op_sweep N hN hU
        obtain ⟨pl', th', cr', rf', k3⟩ := k3 pl th cr rf
        dsimp only
        rw [k2]
        simp only [Option.bind_some]
        rw [k3]
        simp only [Option.bind_some]
        rw [if_pos trivial]
        exact hk U' out pl' th' cr' rf' k1
      rw [if_neg h6]
      by_cases h7 : ((xs (nI (4 * k)).toNatClampNeg) &&& (15 : Int32)) = (7 : Int32)
      · rw [if_pos h7]
        obtain ⟨v, U', k1, k2, k3⟩ := op_flush N hN hU
        obtain ⟨pl', th', cr', rf', k3⟩ := k3 pl th cr rf
        dsimp only
        rw [k2]
        simp only [Option.bind_some]
        rw [k3]
        simp only [Option.bind_some]
        rw [if_pos trivial]
        exact hk U' out pl' th' cr' rf' k1
      rw [if_neg h7]
      by_cases h8 : ((xs (nI (4 * k)).toNatClampNeg) &&& (15 : Int32)) = (8 : Int32)
      · rw [if_pos h8]
        simp only [if_pos hx1]
        exact LO.step (op_fail N _ hU) (fun z => f_La_law_23 N xs L n (nI (4 * k) + 4) z) out pl th cr rf hk
      rw [if_neg h8]
      by_cases h9 : ((xs (nI (4 * k)).toNatClampNeg) &&& (15 : Int32)) = (9 : Int32)
      · rw [if_pos h9]
        obtain ⟨v, U', k1, k2, k3⟩ := op_crash N hN hU
        obtain ⟨pl', th', cr', rf', k3⟩ := k3 pl th cr rf
        dsimp only
        rw [k2]
        simp only [Option.bind_some]
        rw [k3]
        simp only [Option.bind_some]
        rw [if_pos trivial]
        exact hk U' out pl' th' cr' rf' k1
      rw [if_neg h9]
      by_cases h10 : ((xs (nI (4 * k)).toNatClampNeg) &&& (15 : Int32)) = (10 : Int32)
      · rw [if_pos h10]
        simp only [if_pos hx1]
        exact LO.step (op_image N hN _ hU) (fun z => f_La_law_23 N xs L n (nI (4 * k) + 4) z) out pl th cr rf hk
      rw [if_neg h10]
      by_cases h11 : ((xs (nI (4 * k)).toNatClampNeg) &&& (15 : Int32)) = (11 : Int32)
      · rw [if_pos h11]
        simp only [if_pos hx1]
        exact LO.step (op_state N _ hU) (fun z => f_La_law_23 N xs L n (nI (4 * k) + 4) z) out pl th cr rf hk
      rw [if_neg h11]
      by_cases h12 : ((xs (nI (4 * k)).toNatClampNeg) &&& (15 : Int32)) = (12 : Int32)
      · rw [if_pos h12]
        simp only [if_pos hx1, if_pos hx2, if_pos hx3]
        exact LO.step (op_version N hN _ _ _ hU) (fun z => f_La_law_23 N xs L n (nI (4 * k) + 4) z) out pl th cr rf hk
      rw [if_neg h12]
      by_cases h13 : ((xs (nI (4 * k)).toNatClampNeg) &&& (15 : Int32)) = (13 : Int32)
      · rw [if_pos h13]
        simp only [if_pos hx1]
        exact LO.step (op_page N _ hU) (fun z => f_La_law_23 N xs L n (nI (4 * k) + 4) z) out pl th cr rf hk
      rw [if_neg h13]
      by_cases h14 : ((xs (nI (4 * k)).toNatClampNeg) &&& (15 : Int32)) = (14 : Int32)
      · rw [if_pos h14]
        simp only [if_pos hx1]
        exact LO.step (op_count N hN _ hU) (fun z => f_La_law_23 N xs L n (nI (4 * k) + 4) z) out pl th cr rf hk
      rw [if_neg h14]
      exact hk U out pl th cr rf hU
theorem coinit (N : Nat) : ∀ (j k n : Nat) (o v l s : Nat → Int32), k + j = 15 → j < n → f_Co_init_38 N n (nI k) (o, (v, (l, s))) = some (o, (v, ((fun i => if k ≤ i ∧ i < 15 then -1 else l i), s))) := by
  intro j
  induction j with
  | zero =>
    intro k n o v l s hk hn
    obtain ⟨n, rfl⟩ : ∃ m, n = m + 1 := ⟨n - 1, by omega⟩
    rw [f_Co_init_38, if_pos (le15 (k := k) (by omega) (by omega))]
    have : (fun i => if k ≤ i ∧ i < 15 then -1 else l i) = l := by funext i; rw [if_neg (by omega)]
    rw [this]
  | succ j ih =>
    intro k n o v l s hk hn
    obtain ⟨n, rfl⟩ : ∃ m, n = m + 1 := ⟨n - 1, by omega⟩
    rw [f_Co_init_38, if_neg (nle15 (k := k) (by omega)), if_pos (nI_xi (by omega) (by omega)), nI_1, nI_clamp (by omega)]
    dsimp only
    rw [ih (k + 1) n _ _ _ _ (by omega) (by omega)]
    have : (fun i => if k + 1 ≤ i ∧ i < 15 then -1 else upd l k (-1) i) = (fun i => if k ≤ i ∧ i < 15 then -1 else l i) := by
      funext i
      unfold upd
      by_cases h : i = k
      · subst h; rw [if_neg (by omega), if_pos rfl, if_pos (by omega)]
      · rw [if_neg h]
        by_cases h2 : k ≤ i ∧ i < 15
        · rw [if_pos (by omega), if_pos h2]
        · rw [if_neg (by omega), if_neg h2]
    rw [this]
theorem moinit (N : Nat) (R : (Nat → Int32) × (Nat → Int32) × (Nat → Int32) × (Nat → Int64) × (Nat → Int32) × Int32 × Int32 × Int32 × Int32 × Int32 × Int32) : ∀ (j k n : Nat) (o v l s o' v' l' s' : Nat → Int32), k + j = 15 → j < n → f_Mo_init_110 N n (nI k) ((o, (v, (l, s))), ((o', (v', (l', s'))), R)) = some ((o, (v, ((fun i => if k ≤ i ∧ i < 15 then -1 else l i), s))), ((o', (v', ((fun i => if k ≤ i ∧ i < 15 then -1 else l' i), s'))), R)) := by
  intro j
  induction j with
  | zero =>
    intro k n o v l s o' v' l' s' hk hn
    obtain ⟨n, rfl⟩ : ∃ m, n = m + 1 := ⟨n - 1, by omega⟩
    rw [f_Mo_init_110, if_pos (le15 (k := k) (by omega) (by omega))]
    have : ∀ l : Nat → Int32, (fun i => if k ≤ i ∧ i < 15 then -1 else l i) = l := by intro l; funext i; rw [if_neg (by omega)]
    rw [this, this]
  | succ j ih =>
    intro k n o v l s o' v' l' s' hk hn
    obtain ⟨n, rfl⟩ : ∃ m, n = m + 1 := ⟨n - 1, by omega⟩
    have hx := nI_xi (i := k) (n := 15) (by omega) (by omega)
    rw [f_Mo_init_110, if_neg (nle15 (k := k) (by omega)), if_pos hx, if_pos hx, nI_1, nI_clamp (by omega)]
    dsimp only
    rw [ih (k + 1) n _ _ _ _ _ _ _ _ (by omega) (by omega)]
    have : ∀ l : Nat → Int32, (fun i => if k + 1 ≤ i ∧ i < 15 then -1 else upd l k (-1) i) = (fun i => if k ≤ i ∧ i < 15 then -1 else l i) := by
      intro l
      funext i
      unfold upd
      by_cases h : i = k
      · subst h; rw [if_neg (by omega), if_pos rfl, if_pos (by omega)]
      · rw [if_neg h]
        by_cases h2 : k ≤ i ∧ i < 15
        · rw [if_pos (by omega), if_pos h2]
        · rw [if_neg (by omega), if_neg h2]
    rw [this, this]
def C00 : K_Co := ((fun _ => 0), ((fun _ => 0), ((fun i => if 0 ≤ i ∧ i < 15 then -1 else 0), (fun _ => 0))))
def U00 : K_Rv := ((C00, (C00, ((fun _ => 0), ((0 : Int32), ((0 : Int32), ((0 : Int32), (0 : Int32))))))), ((fun _ => 0), ((fun _ => 0), (fun _ => 0))))
theorem ir00 : IR U00 := by
  have hBd : Bd C00 := by
    refine ⟨fun i _ => ⟨0, by omega, rfl⟩, fun i _ => Or.inr (by show (0 : Int32) ≤ 0; decide), fun i hi => Or.inl ?_, rfl, fun i j _ _ _ _ => rfl⟩
    show (if 0 ≤ i ∧ i < 15 then (-1 : Int32) else 0) = -1
    rw [if_pos ⟨by omega, hi⟩]
  have hb : ∀ i, bF C00 i = 0 := fun i => rfl
  refine ⟨⟨hBd, hBd, Mk.zero, fun q => Mk.zero, ⟨0, by omega, rfl⟩, ⟨fun _ => 0, fun _ => Nat.zero_lt_succ 6, fun p q _ _ he => ?_⟩, ?_, fun P _ => ⟨fun _ => False, ?_⟩, ⟨fun _ => False, fun _ _ => False, ⟨fun r _ hn => hn (hb r), fun i hi => hi.elim, fun i j hi _ _ _ => hi.elim⟩, fun _ _ h => h.elim, fun r _ hn => hn (hb r), fun _ _ h => h.elim, fun _ _ _ h => h.elim⟩, fun i _ _ => ⟨rfl, rfl⟩⟩, fun T _ j hj => ?_, fun T _ p hp => ?_⟩
  · have he : bz 0 p = true := he
    rw [bz_0] at he; cases he
  · show cA (fun _ => 0) 40 ≤ 4
    rw [cA_zero 40 (fun i _ _ => by decide)]; omega
  · refine ⟨fun r _ hn => hn ?_, fun i hi => hi.elim, fun i j hi _ _ _ => hi.elim⟩
    unfold mx; split <;> exact hb r
  · have hj : by64 0 j = true := hj
    rw [by_0] at hj; cases hj
  · have hp : bz 0 p = true := hp
    rw [bz_0] at hp; cases hp
theorem pure_all : xPure := by
  intro xs L hL
  refine ⟨100000000, U00, mkV U00.1 U00.2.1 U00.2.2.1 (fun _ => 0) 0 0 0, ?_, ?_, ?_⟩
  · generalize hN : (100000000 : Nat) = N
    have hc : f_Co_init N = some C00 := by
      unfold f_Co_init
      rw [← nI_0, coinit N 15 0 N _ _ _ _ rfl (by omega)]
      rfl
    unfold f_Rv_init f_St_init
    rw [hc]
    rfl
  · generalize hN : (100000000 : Nat) = N
    unfold f_Mo_init
    rw [← nI_0, moinit N _ 15 0 N _ _ _ _ _ _ _ _ rfl (by omega)]
    have e1 : (fun i => cv (C00.2.2.1 i)) = (fun i => if 0 ≤ i ∧ i < 15 then (-1 : Int32) else 0) := by
      funext i
      show cv (if 0 ≤ i ∧ i < 15 then (-1 : Int32) else 0) = _
      split <;> decide
    have e2 : dA 0 = fun _ => 0 := by
      funext i
      unfold dA
      rw [bz_0]; simp
    unfold mkV vC
    rw [show U00.1.1 = C00 from rfl, show U00.1.2.1 = C00 from rfl, e1, show U00.1.2.2.2.1 = 0 from rfl, e2]
    rfl
  · generalize hN : (100000000 : Nat) = N
    exact law_ok N (by omega) xs L hL 520 0 U00 (fun _ => 0) (fun _ => 0) 0 0 0 ir00 (by omega) (by omega)
theorem i_vc : Claimed_1_1 ∧ Claimed_1_2 := i_vc_open pure_all
end PL
